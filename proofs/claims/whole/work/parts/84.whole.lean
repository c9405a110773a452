/-! the law, from its entry -/
set_option maxHeartbeats 8000000 in
set_option maxRecDepth 100000 in
/-- YOUR PART: from the entry, for every script of at most 3584 ints, the law comes to its end with true -/
theorem whole_start {p : Program} {e : Env} {s : State} {m : MethodId} {below : List Frame} {meth : Method} {c : Code} (l : Launch) {b L : Nat} {xs : Nat → Int32} (hL : L ≤ 3584) (C0 : lw_At p s m meth c b L xs) : W p l e room_1 s m #[Value.ref b] below meth c s.heap [] 0 0 (lw_Z below #[Value.ref b] s) (entryFrame m ([Value.ref b] : List Value).toArray 4) := by
  obtain ⟨hx, hb, hr, hml, hown, hts, hX, hbl, hlocks, hgv⟩ := id C0
  have htsG : ∀ v ∈ GW, v.before #[Value.ref b] s = true := fun v hv => hts v (List.mem_filter.mp hv).1
  have hA : ∀ q : Nat, s.heap.size ≤ q → A0 s q := fun _ h => h
  obtain ⟨D, cy, hK⟩ := law_known htsG
  obtain ⟨aK, aV, hStr⟩ := law_str (A := A0 s) hts hgv (fun a h1 h2 => Nat.lt_irrefl _ (Nat.lt_of_lt_of_le h1 h2))
  have hN := law_NC hts
  have hS : va_S (A0 s) s.heap s.heap [] := va_S.rf
  have hP : va_P D vwCl [] s.heap := fun k q h => by simp at h
  have hD : va_D (A0 s) [] := ⟨fun i j p q h => by simp at h, fun k q h => by simp at h⟩
  have hl := lv_entry ([.ref b]) (n := 4) (Nat.le_of_ble_eq_true rfl)
  rw [lg_entry_eq]
  generalize (lg_sl ([.ref b]) ++ List.replicate (4 - (lg_sl ([.ref b])).length) Slot.unset).toArray = ls at hl ⊢
  have hl : lv_has ls 4 [(0, .ref b)] := hl
  refine va_new (ci := 11) (fs := [.null, .null, .null, .null, .null, .null, .null, .null, .null, .null, .null, .int 0, .int 0]) (C := RX11) (T := TX11) (N := 13) hx hb htsG (cls_in (ci := 11) (q := (RX11, TX11, 13)) rfl) tyX11 tyX11_ok hown (htsG _ (gw_at lkS_1021 rfl)) (htsG _ (gw_at lkS_1022 rfl)) (htsG _ (gw_at lkS_1001 rfl)) hK hP hD hS hA rfl dfI11 (Nat.le_of_ble_eq_true rfl) (Nat.le_of_ble_eq_true rfl) dL_0 (fun q0 H hP hD hS => ?_)
  have hP : va_P D vwCl [(q0, .inr (11, [.null, .null, .null, .null, .null, .null, .null, .null, .null, .null, .null, .int 0, .int 0]))] H := hP
  have hD : va_D (A0 s) [(q0, .inr (11, [.null, .null, .null, .null, .null, .null, .null, .null, .null, .null, .null, .int 0, .int 0]))] := hD
  have hq0 : A0 s q0 := hD.2 0 _ rfl
  refine lv_dup hx hb dL_3 rfl ?_
  have hFc : ∀ q, va_A [(q0, .inr (11, [.null, .null, .null, .null, .null, .null, .null, .null, .null, .null, .null, .int 0, .int 0]))] H.size q → A0 s q := va_free (wc := [(q0, .inr (11, [.null, .null, .null, .null, .null, .null, .null, .null, .null, .null, .null, .int 0, .int 0]))]) hD hS hA [0] rfl
  refine va_callv (va_runI (As := []) (rest := [.ref q0]) ⟨hx, hb, hml, hown, htsG⟩ (cI11 l D cy q0 H.size) (cwI 0 htsG gI11 rfl rfl rfl (htsG _ (gw_at lkS_1001 rfl)) (htsG _ (gw_at lkS_1023 rfl)) (htsG _ (gw_at lkS_1024 rfl)) rfl ⟨by decide +kernel, by decide +kernel, by decide +kernel⟩ ⟨Nat.le_of_ble_eq_true rfl, Nat.le_of_ble_eq_true rfl⟩) (PI_pre hP hD hK hN) rfl rfl hl.1 rfl (lv_room (Nat.le_of_ble_eq_true rfl)) dL_4 ⟨Nat.le_of_ble_eq_true rfl, Nat.le_of_ble_eq_true rfl⟩) hS (fun q _ h => hFc q h) hFc (fun _ t H1 locs ht hvm _ hB hz1 hk1 hS => ?_)
  obtain ⟨q1, q2, q3, q4, q5, q6, q7, q8, q9, q10, q11, q12, q13, q14, q15, q16, q17, q18, q19, q20, q21, q22, q23, q24, q25, q26, q27, q28, q29, q30, q31, q32, q33, q34, q35, q36, q37, q38, q39, q40, q41, q42, q43, q44, q45, q46, q47, q48, q49, q50, q51, q52, q53, q54, q55, hP1, hD1⟩ := hB
  rw [ht] at hP1
  obtain ⟨ad, had, e0, hPX, hok, hin⟩ := glueX cy q0 q1 q2 q3 q4 q5 q6 q7 q8 q9 q10 q11 q12 q13 q14 q15 q16 q17 q18 q19 q20 q21 q22 q23 q24 q25 q26 q27 q28 q29 q30 q31 q32 q33 q34 q35 q36 q37 q38 q39 q40 q41 q42 q43 q44 q45 q46 q47 q48 q49 q50 q51 q52 q53 q54 q55 aK aV hP1 hD1
  have hinA : ∀ q, inA ad wdX q → A0 s q := fun q h => hFc q (hin q h)
  rw [← e0]
  clear hP1 hD1 hP hD hin hk1 hz1 hFc hq0
  refine lv_astore_n (lv' := [(1, .ref (ad 0)), (0, .ref b)]) hx hb dL_7 rfl hl (by decide) rfl (fun ls hl => ?_)
  have hDX : va_D (A0 s) (wsOf ad cy wdX hX0) := (wsOf_D hok).weaken (fun k q _ h => hinA _ h)
  refine va_new (ci := 12) (fs := [.int 0, .int 0, .int 0, .null, .int 0, .int 0, .null, .null, .int 0, .int 0, .null, .null, .null, .null, .null, .int 0, .null, .null, .null, .null, .null, .null, .null, .null, .null, .null, .int 0, .null, .null, .null, .null, .int 0, .null, .int 0, .null, .null, .null, .int 0, .int 0, .null, .null, .null, .int 0, .int 0, .null, .null, .null, .null, .int 0, .null, .int 0, .int 0, .int 0, .int 0, .long 0, .int 0, .int 0]) (C := RX12) (T := TX12) (N := 57) hx hb htsG (cls_in (ci := 12) (q := (RX12, TX12, 57)) rfl) tyX12 tyX12_ok hown (htsG _ (gw_at lkS_4201 rfl)) (htsG _ (gw_at lkS_4202 rfl)) (htsG _ (gw_at lkS_1013 rfl)) hK hPX hDX hS hA rfl dfI12 (Nat.le_of_ble_eq_true rfl) (Nat.le_of_ble_eq_true rfl) dL_8 (fun r0 H2 hP2 hD2 hS => ?_)
  have hPX := P_left hP2
  have hP := P_right hP2
  have hD := D_right hD2
  have hne : ∀ o, o < 56 → ad o ≠ r0 := fun o ho => D_apart hD2 (wsOf_get (w := wdX) ho) (j := 0) rfl
  have hltX : ∀ q, inA ad wdX q → q < H2.size := by
    rintro q ⟨o, ho, rfl⟩
    exact va_at_lt (hPX o _ (wsOf_get ho))
  refine lv_dup hx hb dL_11 rfl ?_
  have hFc : ∀ q, va_A [(r0, .inr (12, [.int 0, .int 0, .int 0, .null, .int 0, .int 0, .null, .null, .int 0, .int 0, .null, .null, .null, .null, .null, .int 0, .null, .null, .null, .null, .null, .null, .null, .null, .null, .null, .int 0, .null, .null, .null, .null, .int 0, .null, .int 0, .null, .null, .null, .int 0, .int 0, .null, .null, .null, .int 0, .int 0, .null, .null, .null, .null, .int 0, .null, .int 0, .int 0, .int 0, .int 0, .long 0, .int 0, .int 0]))] H2.size q → A0 s q := va_free (wc := [(r0, .inr (12, [.int 0, .int 0, .int 0, .null, .int 0, .int 0, .null, .null, .int 0, .int 0, .null, .null, .null, .null, .null, .int 0, .null, .null, .null, .null, .null, .null, .null, .null, .null, .null, .int 0, .null, .null, .null, .null, .int 0, .null, .int 0, .null, .null, .null, .int 0, .int 0, .null, .null, .null, .int 0, .int 0, .null, .null, .null, .null, .int 0, .null, .int 0, .int 0, .int 0, .int 0, .long 0, .int 0, .int 0]))]) hD hS hA [0] rfl
  have hapX : ∀ q, inA ad wdX q → ¬ va_A [(r0, .inr (12, [.int 0, .int 0, .int 0, .null, .int 0, .int 0, .null, .null, .int 0, .int 0, .null, .null, .null, .null, .null, .int 0, .null, .null, .null, .null, .null, .null, .null, .null, .null, .null, .int 0, .null, .null, .null, .null, .int 0, .null, .int 0, .null, .null, .null, .int 0, .int 0, .null, .null, .null, .int 0, .int 0, .null, .null, .null, .null, .int 0, .null, .int 0, .int 0, .int 0, .int 0, .long 0, .int 0, .int 0]))] H2.size q := by
    rintro q hq (⟨k, e, hk⟩ | hk)
    · obtain ⟨o, ho, rfl⟩ := hq
      match k, hk with
      | 0, hk => exact hne o ho (congrArg Prod.fst (Option.some.inj hk)).symm
      | k + 1, hk => simp at hk
    · exact Nat.lt_irrefl _ (Nat.lt_of_lt_of_le (hltX q hq) hk)
  refine va_callv (va_runI (As := []) (rest := [.ref r0]) ⟨hx, hb, hml, hown, htsG⟩ (cI12 l D cy r0 H2.size) (cwI 0 htsG gI12 rfl rfl rfl (htsG _ (gw_at lkS_1013 rfl)) (htsG _ (gw_at lkS_4203 rfl)) (htsG _ (gw_at lkS_4204 rfl)) rfl ⟨by decide +kernel, by decide +kernel, by decide +kernel⟩ ⟨Nat.le_of_ble_eq_true rfl, Nat.le_of_ble_eq_true rfl⟩) (PI_pre hP hD hK hN) rfl rfl hl.1 rfl (lv_room (Nat.le_of_ble_eq_true rfl)) dL_12 ⟨Nat.le_of_ble_eq_true rfl, Nat.le_of_ble_eq_true rfl⟩) hS (fun q _ h => hFc q h) hFc (fun _ t2 H3 locs3 ht2 hvm2 _ hB hz3 hk3 hS => ?_)
  obtain ⟨r1, r2, r3, r4, r5, r6, r7, r8, r9, r10, r11, r12, r13, r14, r15, r16, r17, r18, r19, r20, r21, r22, r23, r24, r25, r26, r27, r28, r29, r30, r31, r32, r33, r34, hP1, hD1⟩ := hB
  rw [ht2] at hP1
  have hPX3 : va_P D vwCl (wsOf ad cy wdX hX0) H3 := kept_of hPX hk3 hapX
  obtain ⟨ad', had', e0', hPM, hok', hin'⟩ := glueM cy r0 r1 r2 r3 r4 r5 r6 r7 r8 r9 r10 r11 r12 r13 r14 r15 r16 r17 r18 r19 r20 r21 r22 r23 r24 r25 r26 r27 r28 r29 r30 r31 r32 r33 r34 aK aV hP1 hD1
  have hinA' : ∀ q, inA ad' wdM q → A0 s q := fun q h => hFc q (hin' q h)
  have hap : ∀ q, inA ad wdX q → ¬ inA ad' wdM q := fun q h1 h2 => hapX q h1 (hin' q h2)
  rw [← e0']
  refine lv_astore_n (lv' := [(2, .ref (ad' 0)), (1, .ref (ad 0)), (0, .ref b)]) hx hb dL_15 rfl hl (by decide) rfl (fun ls hl => ?_)
  refine lv_iconst (v := 0) hx hb dL_16 (by decide) ?_
  refine lv_istore_n (lv' := [(3, .int 0), (2, .ref (ad' 0)), (1, .ref (ad 0)), (0, .ref b)]) hx hb dL_17 rfl hl (by decide) rfl (fun ls hl => ?_)
  refine W.widen (k := 600000) (n := 7302250) (Nat.le_of_ble_eq_true rfl) (Nat.le_of_ble_eq_true rfl) ?_
  have hc : LCx s D cy ad ad' := ⟨hK, hStr ad had, hStr ad' had', hok, hok', hinA, hinA', hap⟩
  exact law_loop C0 hL hc (L + 1) 0 hX0 hM0 H3 locs3 ls (by omega) (by omega) inv0 hPX3 hPM hS (lv_sub hl [3, 2, 1, 0] rfl)
