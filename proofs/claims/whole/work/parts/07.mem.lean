theorem ExP_blind {ad : Nat → Nat} {A : Nat → Prop} {U : State} (h : ExP ad A U) (g : JFrame) (mk : MethodId) (a : Array Value) : ExP ad A (U.calling g mk a) :=
  ⟨fun q hq => va_Nw.same rfl (u := U) rfl (h.1 q hq), fun i q hq => vk_R.same (u := U) rfl (h.2.1 i q hq), vk_S.moved (u := U) (U := U.calling g mk a) (Vm.Alike.refl U.vm) h.2.2.1, va_Z.moved (u := U) (U := U.calling g mk a) (Vm.Alike.refl U.vm) h.2.2.2.1, va_Zq.moved (u := U) (U := U.calling g mk a) (Vm.Alike.refl U.vm) h.2.2.2.2⟩
theorem ExP_moved {ad : Nat → Nat} {A : Nat → Prop} {s U : State} {H : Heap} {locs : List Loc} (h : ExP ad A s) (hS : va_S A s.heap H locs) (hU : U.heap = H) (hW : s.WarmedH U.vm) : ExP ad A U := by
  subst hU
  exact ⟨fun q hq => va_Nw.warmM hW (h.1 q hq), fun i q hq => vk_R.warm hW (h.2.1 i q hq), vk_S.moved hW.alike (h.2.2.1.kept hS.2.1), va_Z.moved hW.alike (h.2.2.2.1.kept hS.2.1), va_Zq.moved hW.alike (h.2.2.2.2.kept hS.2.1)⟩
theorem tl_map {ad : Nat → Nat} (r : Option Value) (S : List Value) : (r.map (tv ad)).toList ++ S.map (tv ad) = (r.toList ++ S).map (tv ad) := by
  cases r <;> rfl
theorem shs_room {ad : Nat → Nat} {S : List Value} (h : shs S) : ((S.map (tv ad)).map fun v => v.category).sum ≤ 8 := by
  have hc : ∀ v : Value, (tv ad v).category ≤ 2 := fun v => by rcases lv_cat (tv ad v) with h | h <;> omega
  match S, h with
  | [], _ => simp
  | [x], _ => have := hc x; simp; omega
  | [x, y], _ => have := hc x; have := hc y; simp; omega
  | [x, y, z], _ => have := hc x; have := hc y; have := hc z; simp; omega
  | [x, y, z, u], _ => have := hc x; have := hc y; have := hc z; have := hc u; simp; omega
theorem gw_good : GoodIn GW GW := fun v hv => ⟨hv, good_of_word (List.mem_filter.mp hv).2⟩
theorem wsM_good {y : MtT} (hk : Mok y) : GoodIn GW (wsM y) := by
  intro v hv
  rcases List.mem_cons.mp hv with rfl | h
  · exact gw_good _ (List.mem_filter.mpr ⟨hk.2.1, rfl⟩)
  · exact gw_good v h
theorem off17 {o : Nat} (h : 1000 ≤ o ∧ o < 1017) : ∃ i, i < 17 ∧ o = 1000 + i := ⟨o - 1000, by omega, by omega⟩
theorem math_w : Cond.static Lib.Math.max.name ∈ GW ∧ Cond.initialized "java/lang/Math" ∈ GW ∧ Cond.code Lib.Math.max.name Lib.Math.max.code 2 (some .int) ∈ GW ∧ Cond.static Lib.Math.min.name ∈ GW ∧ Cond.code Lib.Math.min.name Lib.Math.min.code 2 (some .int) ∈ GW :=
  ⟨List.mem_filter.mpr ⟨by decide +kernel, rfl⟩, List.mem_filter.mpr ⟨by decide +kernel, rfl⟩, List.mem_filter.mpr ⟨by decide +kernel, rfl⟩, List.mem_filter.mpr ⟨by decide +kernel, rfl⟩, List.mem_filter.mpr ⟨by decide +kernel, rfl⟩⟩
section SND2
variable {l : Launch} {D : va_G} {ad : Nat → Nat} {cy : Nat → ClassId} {w : WdT} {d : Nat} {y : MtT} {Q : Option Value → HpT → Prop} {en : Nat} {is : List AIt} {a b pc len : Nat} {pl : Value ⊕ (MtT × Nat) ⊕ List (Int32 × Nat) ⊕ (Nat × Nat)}
theorem st_getfield {idx ci k kd : Nat} {q : vw_C} (hd : decode y.2.1 pc = .ok (.getfield idx, 3)) (hq : vwCl[ci]? = some q) (hk : k < q.2.2) (hkd : kd = kdT (q.2.1 k)) (ht : lk b = some (.fieldLink y.1.cls idx (q.2.1 k).1 (q.2.1 k).2.1 (q.2.1 k).2.2.1)) : StI l D ad cy w d y Q en is (.getfield idx, ci, k, .inr (.inr (.inr (kd, b)))) pc 3 := by
  intro ih L S h hw p e s m args below meth c H locs ls B hP hS hL
  obtain ⟨o, S, rfl, ⟨ho, hc⟩, hw2⟩ := pR1_inv hw
  clear hw
  subst hkd
  subst hc
  exact va_get (D := D) (ci := wOc w o) (C := q.1) (T := q.2.1) (N := q.2.2) B.1 B.2.1 (Ts := GW) B.2.2.2.2.2.1 (cls_in hq) B.2.2.2.2.1 B.2.2.2.2.2.2.2.1 hP o (wsOf_obj B.2.2.2.2.2.2.2.2.2.1 ho) hq k hk (B.2.2.2.2.2.1 _ (gw_at ht rfl)) (fun _ h => h) (ceO_get hq hk) hd (ih _ _ _ hw2 p e s m args below meth c H locs ls B hP hS hL)
theorem st_putfield {idx ci k kd : Nat} {q : vw_C} (hd : decode y.2.1 pc = .ok (.putfield idx, 3)) (hq : vwCl[ci]? = some q) (hk : k < q.2.2) (hkd : kd = kdT (q.2.1 k)) (ht : lk b = some (.fieldLink y.1.cls idx (q.2.1 k).1 (q.2.1 k).2.1 (q.2.1 k).2.2.1)) (hf : (q.2.1 k).2.2.2 = false) : StI l D ad cy w d y Q en is (.putfield idx, ci, k, .inr (.inr (.inr (kd, b)))) pc 3 := by
  intro ih L S h hw p e s m args below meth c H locs ls B hP hS hL
  obtain ⟨v, o, S, rfl, ⟨ho, hc⟩, hw2⟩ := pVR_inv hw
  clear hw
  subst hc
  obtain ⟨ty0, hty, hnm⟩ := cls_ty hq
  have hok := B.2.2.2.2.2.2.2.2.2
  have go : ∀ (ty : FieldType) (u : Value) (h' : HpT), parseFieldDescriptor (q.2.1 k).2.2.1 = some ty → narrow ty u = u → fits ty u = true → (wsOf ad cy w h).set o (ad o, .inr (wOc w o, (ceO ad w h o).set k u)) = wsOf ad cy w h' → wp w (CCe l D ad cy w d) (AT l D ad cy w d y Q) Q y.2.2.2.1 en is L S h' → W p l e (rmm d) s m args below meth c H locs 0 0 (MQ below (QQ D ad cy w Q) args s 0 0 (inA ad w)) (F0 m pc ls (u :: .ref (ad o) :: S.map (tv ad))) := by
    intro ty u h' hpar hn hfit hset hw'
    refine va_put (D := D) (ci := wOc w o) (C := q.1) (T := q.2.1) (N := q.2.2) B.1 B.2.1 (Ts := GW) B.2.2.2.2.2.1 (cls_in hq) ty0 hty hnm B.2.2.2.2.1 B.2.2.2.2.2.2.2.1 hP (wsOf_D hok) hS o (wsOf_obj hok.1 ho) hq k hk (B.2.2.2.2.2.1 _ (gw_at ht rfl)) (fun _ h => h) hf hpar hn hfit (by rw [ceO_len hq]; exact hk) hd (fun H1 locs1 hP1 _ hS1 => ?_)
    rw [hset] at hP1
    exact ih _ _ _ hw' p e s m args below meth c H1 locs1 ls B hP1 hS1 hL
  have hw := hw2
  clear hw2
  unfold pfv at hw
  split at hw
  · exact go .int _ _ (by rw [kdT0 hkd.symm]; exact prI) rfl rfl (ws_sI hok.1 ho hq hk (Or.inl hkd.symm)) hw
  · exact go .long _ _ (by rw [kdT1 hkd.symm]; exact prJ) rfl rfl (ws_sL hok.1 ho hq hk hkd.symm) hw
  · obtain ⟨cn, hcn⟩ := cls_ob hq hk hkd.symm
    exact go (.object cn) _ _ hcn rfl rfl (ws_sR hok.1 ho hq hk hkd.symm) hw
  · obtain ⟨hx, hw⟩ := hw
    refine go .boolean _ _ (by rw [kdT4 hkd.symm]; exact prZ) ?_ ?_ (ws_sI hok.1 ho hq hk (Or.inr hkd.symm)) hw
    · rcases hx with rfl | rfl <;> rfl
    · rcases hx with rfl | rfl <;> rfl
  · exact hw.elim
theorem st_iaload (hd : decode y.2.1 pc = .ok (.iaload, 1)) : StI l D ad cy w d y Q en is (.iaload, a, b, pl) pc 1 := by
  intro ih L S h hw p e s m args below meth c H locs ls B hP hS hL
  obtain ⟨i, q, S, rfl, ⟨h1, h2, h3, h4⟩, hw⟩ := pIR_inv hw
  exact va_iald B.1 B.2.1 B.2.2.2.2.2.2.2.1 hP q 0 (wsOf_arr h1 h2) (by rw [h3]; rfl) h4 hd (ih _ _ _ hw p e s m args below meth c H locs ls B hP hS hL)
theorem st_baload (hd : decode y.2.1 pc = .ok (.baload, 1)) : StI l D ad cy w d y Q en is (.baload, a, b, pl) pc 1 := by
  intro ih L S h hw p e s m args below meth c H locs ls B hP hS hL
  obtain ⟨i, q, S, rfl, ⟨h1, h2, h3, h4⟩, hw⟩ := pIR_inv hw
  exact va_zald B.1 B.2.1 B.2.2.2.2.2.2.2.1 hP q 1 (wsOf_arr h1 h2) (by rw [h3]; rfl) h4 hd (ih _ _ _ hw p e s m args below meth c H locs ls B hP hS hL)
theorem st_caload (hd : decode y.2.1 pc = .ok (.caload, 1)) : StI l D ad cy w d y Q en is (.caload, a, b, pl) pc 1 := by
  intro ih L S h hw p e s m args below meth c H locs ls B hP hS hL
  obtain ⟨i, q, S, rfl, ⟨h1, h2, h3, h4⟩, hw⟩ := pIR_inv hw
  exact va_cald B.1 B.2.1 B.2.2.2.2.2.2.2.1 hP q 2 (wsOf_arr h1 h2) (by rw [h3]; rfl) h4 hd (ih _ _ _ hw p e s m args below meth c H locs ls B hP hS hL)
theorem st_iastore (hd : decode y.2.1 pc = .ok (.iastore, 1)) : StI l D ad cy w d y Q en is (.iastore, a, b, pl) pc 1 := by
  intro ih L S h hw p e s m args below meth c H locs ls B hP hS hL
  obtain ⟨x, i, q, S, rfl, ⟨h1, h2, h3, h4⟩, hw⟩ := pIIR_inv hw
  refine va_iast B.1 B.2.1 B.2.2.2.2.2.2.2.1 hP (wsOf_D B.2.2.2.2.2.2.2.2.2) hS q 0 (wsOf_arr h1 h2) (by rw [h3]; rfl) h4 hd (fun H1 locs1 hP1 _ hS1 => ?_)
  rw [ws_sA h1 h2] at hP1
  exact ih _ _ _ hw p e s m args below meth c H1 locs1 ls B hP1 hS1 hL
theorem st_bastore (hd : decode y.2.1 pc = .ok (.bastore, 1)) : StI l D ad cy w d y Q en is (.bastore, a, b, pl) pc 1 := by
  intro ih L S h hw p e s m args below meth c H locs ls B hP hS hL
  obtain ⟨x, i, q, S, rfl, ⟨h1, h2, h3, h4⟩, hw⟩ := pIIR_inv hw
  refine va_zast B.1 B.2.1 B.2.2.2.2.2.2.2.1 hP (wsOf_D B.2.2.2.2.2.2.2.2.2) hS q 1 (wsOf_arr h1 h2) (by rw [h3]; rfl) h4 hd (fun H1 locs1 hP1 _ hS1 => ?_)
  rw [ws_sA h1 h2] at hP1
  exact ih _ _ _ hw p e s m args below meth c H1 locs1 ls B hP1 hS1 hL
theorem st_castore (hd : decode y.2.1 pc = .ok (.castore, 1)) : StI l D ad cy w d y Q en is (.castore, a, b, pl) pc 1 := by
  intro ih L S h hw p e s m args below meth c H locs ls B hP hS hL
  obtain ⟨x, i, q, S, rfl, ⟨h1, h2, h3, h4⟩, hw⟩ := pIIR_inv hw
  refine va_cast B.1 B.2.1 B.2.2.2.2.2.2.2.1 hP (wsOf_D B.2.2.2.2.2.2.2.2.2) hS q 2 (wsOf_arr h1 h2) (by rw [h3]; rfl) h4 hd (fun H1 locs1 hP1 _ hS1 => ?_)
  rw [ws_sA h1 h2] at hP1
  exact ih _ _ _ hw p e s m args below meth c H1 locs1 ls B hP1 hS1 hL
theorem st_arraylength (hd : decode y.2.1 pc = .ok (.arraylength, 1)) : StI l D ad cy w d y Q en is (.arraylength, a, b, pl) pc 1 := by
  intro ih L S h hw p e s m args below meth c H locs ls B hP hS hL
  obtain ⟨q, S, rfl, ⟨h1, h2, h3⟩, hw⟩ := pR1_inv hw
  exact va_alen B.1 B.2.1 B.2.2.2.2.2.2.2.1 hP q 0 (wsOf_arr h1 h2) (ty := .int) (by rw [h3]; rfl) rfl hd (ih _ _ _ hw p e s m args below meth c H locs ls B hP hS hL)
theorem st_ireturn (hd : decode y.2.1 pc = .ok (.ireturn, 1)) : StI l D ad cy w d y Q en is (.ireturn, a, b, pl) pc 1 := by
  intro ih L S h hw p e s m args below meth c H locs ls B hP hS hL
  obtain ⟨v, rfl, hr, hq⟩ := pOne_inv hw
  have hlk := B.2.2.2.2.2.2.1
  have fin : ∀ (x : Int32) (ty : FieldType), v = .int x → y.2.2.2.1 = some ty → narrow ty (.int x) = .int x → W p l e (rmm d) s m args below meth c H locs 0 0 (MQ below (QQ D ad cy w Q) args s 0 0 (inA ad w)) (F0 m pc ls ([v].map (tv ad))) := by
    intro x ty hv hty hn
    subst hv
    exact W.zret B.1 B.2.1 (by rw [B.2.2.1]; exact hty) hn (fun t ht _ => ⟨⟨some (.int x), h, rfl, hq, by rw [ht]; exact hP⟩, hS.F ht⟩) hS.2.2 hd hlk
  unfold rtc at hr
  split at hr
  · rename_i x heq
    exact fin _ .int rfl heq rfl
  · rename_i x heq
    exact fin _ .boolean rfl heq (by rcases hr with rfl | rfl <;> rfl)
  · rename_i x heq
    exact fin x .char rfl heq (by show Value.int (vp_nar .char x) = .int x; rw [hr])
  · exact hr.elim
theorem st_lreturn (hd : decode y.2.1 pc = .ok (.lreturn, 1)) : StI l D ad cy w d y Q en is (.lreturn, a, b, pl) pc 1 := by
  intro ih L S h hw p e s m args below meth c H locs ls B hP hS hL
  obtain ⟨v, rfl, hr, hq⟩ := pOne_inv hw
  have hlk := B.2.2.2.2.2.2.1
  unfold rtl at hr
  split at hr
  · rename_i x heq
    exact W.lret B.1 B.2.1 (by rw [B.2.2.1]; exact heq) (fun t ht _ => ⟨⟨some (.long _), h, rfl, hq, by rw [ht]; exact hP⟩, hS.F ht⟩) hS.2.2 hd hlk
  · exact hr.elim
theorem st_return (hd : decode y.2.1 pc = .ok (.return_, 1)) : StI l D ad cy w d y Q en is (.return_, a, b, pl) pc 1 := by
  intro ih L S h hw p e s m args below meth c H locs ls B hP hS hL
  obtain ⟨rfl, hr, hq⟩ := pNil_inv hw
  have hlk := B.2.2.2.2.2.2.1
  exact W.vret B.1 B.2.1 (by rw [B.2.2.1]; exact hr) (fun t ht _ => ⟨⟨none, h, rfl, hq, by rw [ht]; exact hP⟩, hS.F ht⟩) hS.2.2 hd hlk
/-- behind a call -/
theorem call_go {p : Program} {e : Env} {R : Room} {s : State} {m : MethodId} {args : Array Value} {below : List Frame} {meth : Method} {c : Code} {H : Heap} {locs : List Loc} {Qf : State → Prop} {ls : Array Slot} {st0 rest : List Value} {av : Array Value} {Q' : Option Value → HpT → Prop}
    (hr : va_Run p l e R s m args below meth c H locs 0 0 0 0 (F0 m pc ls st0) rest (QQ D ad cy w Q' av) (inA ad w)) (hS : va_S (inA ad w) s.heap H locs)
    (kk : ∀ (r : Option Value) (h' : HpT) (H1 : Heap) (locs1 : List Loc), Q' r h' → va_P D vwCl (wsOf ad cy w h') H1 → va_S (inA ad w) s.heap H1 locs1 → W p l e R s m args below meth c H1 locs1 0 0 Qf (F0 m (pc + 3) ls ((r.map (tv ad)).toList ++ rest))) : W p l e R s m args below meth c H locs 0 0 Qf (F0 m pc ls st0) := by
  intro T hT X
  obtain ⟨v, st₀, t, T', Lc, h0, X', hLc, e1, e2, ⟨⟨r, h', hv, hp, hb⟩, hz, hk⟩, st⟩ := hr T hT X
  cases hv
  rw [h0] at hz hk
  obtain ⟨t2, a1, b1⟩ := kk r h' T'.heap (locs ++ Lc) hp (by rw [e1]; exact hb) ⟨Nat.le_trans hS.1 (by rw [e1]; exact hz), fun q h1 h2 => by rw [e1, hk q (Nat.lt_of_lt_of_le h1 hS.1) h2]; exact hS.2.1 q h1 h2, fun q hq => by
      rcases List.mem_append.mp hq with h | h
      · exact hS.2.2 q h
      · exact hLc q h⟩ T' rfl X'
  exact ⟨t2, st t2 a1, b1⟩
theorem pre_ok {s : State} {H : Heap} {locs : List Loc} {h : HpT} {as : List Value} (hP : va_P D vwCl (wsOf ad cy w h) H) (hS : va_S (inA ad w) s.heap H locs) (hK : va_K D vwCl (tysC cy) s) (hE : ExP ad (inA ad w) s) (hA : adOk ad w) : PreS s H (va_Pc (as.map (tv ad)) (fun U => va_P D vwCl (wsOf ad cy w h) U.heap ∧ va_K D vwCl (tysC cy) U ∧ ExP ad (inA ad w) U ∧ adOk ad w)) (as.map (tv ad)) :=
  ⟨fun av U g mk q => by obtain ⟨q0, qP, qK, qE, qA⟩ := q; exact ⟨q0, qP, va_K.moved (u := U) (U := U.calling g mk av) (Vm.Alike.refl U.vm) qK, ExP_blind qE g mk av, qA⟩, fun U hU hW => ⟨rfl, by rw [hU]; exact hP, va_K.moved hW.alike hK, ExP_moved hE hS hU hW, hA⟩⟩
theorem cb_ok {R : Room} {s : State} {args : Array Value} {own : String} {idx k : Nat} {z : MtT} (hz : Mok z) (hts : ∀ v ∈ GW, v.before args s = true) (hl : (Cond.methodLink own idx z.1).before args s = true) (hR : R = rmm (k + 1)) : CallB R s args own idx z.1 z.2.1 z.2.2.1 z.2.2.2.1 (wsM z) (rmm k) 0 0 z.2.2.2.2.2 := by
  subst hR
  refine callB_of z.2.2.2.2.2 hts (wsM_good hz) rfl rfl rfl (hts _ (List.mem_filter.mpr ⟨hz.2.2.1, rfl⟩)) hl ⟨hz.2.2.2.1.1, hz.2.2.2.1.2, hz.2.2.2.2.1⟩ ⟨Nat.le_refl _, ?_⟩
  have := hz.1.2
  show 8 + (z.2.2.1 + 11) + 64 * (k + 1) ≤ 64 * (k + 1 + 1)
  omega
theorem st_invokevirtual {idx ci : Nat} {z : MtT} (hd : decode y.2.1 pc = .ok (.invokevirtual idx, 3)) (hs0 : z.2.2.2.2.1 = false ∧ a = npop z) (hc : if ci = 99 then z.1.cls = "java/lang/String" else (vwCl[ci]?).map (fun q => q.1) = some z.1.cls) (ht : lk b = some (.methodLink y.1.cls idx z.1)) : StI l D ad cy w d y Q en is (.invokevirtual idx, ci, a, .inr (.inl (z, b))) pc 3 := by
  obtain ⟨hs, rfl⟩ := hs0
  intro ih L S h hw p e s m args below meth c H locs ls B hP hS hL
  obtain ⟨as, S, hn, rfl, ⟨⟨hrc, hsh⟩, hC⟩⟩ := popn_inv _ _ _ _ hw
  rw [List.append_nil] at hrc hC
  clear hw
  cases d with
  | zero => exact hC.elim
  | succ k =>
  obtain ⟨hz, hM⟩ := hC
  obtain ⟨hx, hb, hr, hml, hown, hts, hlk, hK, hE, hA⟩ := id B
  have hnp : as.length = z.2.2.2.2.2 + 1 := by rw [hn, npop, hs]; rfl
  match as, hrc, hnp, hM with
  | .ref o :: as, hrc, hnp, hM =>
  have hrecv : ∃ cellB : Cell, H[ad o]? = some cellB ∧ cellB.vm.isStatics = false ∧ s.vm.findClass z.1.cls = some cellB.cls := by
    by_cases h99 : ci = 99
    · have hrc : 1000 ≤ o ∧ o < 1017 := by
        have h0 : if ci = 99 then 1000 ≤ o ∧ o < 1017 else o < w.1 ∧ wOc w o = ci := hrc
        rwa [if_pos h99] at h0
      rw [if_pos h99] at hc
      rw [hc]
      obtain ⟨i, hi, e9⟩ := off17 hrc
      rw [e9]
      exact vk_recv (i := i) hE.2.2.1 hi hS
    · have hrc : o < w.1 ∧ wOc w o = ci := by
        have h0 : if ci = 99 then 1000 ≤ o ∧ o < 1017 else o < w.1 ∧ wOc w o = ci := hrc
        rwa [if_neg h99] at h0
      rw [if_neg h99] at hc
      cases hq : vwCl[ci]? with
      | none => rw [hq] at hc; cases hc
      | some q =>
        rw [hq] at hc
        have e1 : q.1 = z.1.cls := Option.some.inj hc
        rw [← e1]
        exact va_recv hK hP hq (by rw [← hrc.2]; exact wsOf_obj hA.1 hrc.1)
  have hpre := pre_ok (as := .ref o :: as) hP hS hK hE hA
  have hsel := hz.2.2.2.2.2
  rw [hs] at hsel
  have hrun := va_runV (b := ad o) (As := as.map (tv ad)) (rest := S.map (tv ad)) (g := F0 m pc ls ((as.reverse ++ .ref o :: S).map (tv ad))) (locs := locs) (below := below) (e := e) (cells := 0) (slots := 0) (meth := meth) (S := ⟨hx, hb, hml, hown, hts⟩) hM
    (cw := ⟨cb_ok hz hts (hts _ (gw_at ht rfl)) rfl, hts _ (List.mem_filter.mpr ⟨hsel.1, rfl⟩), hts _ (List.mem_filter.mpr ⟨hsel.2, rfl⟩)⟩) (hp := ⟨hpre.1, hrecv, hpre.2⟩) rfl (by rw [List.length_map]; simpa using hnp) hL.2.1 (by simp [tv]) (lv_room (shs_room hsh)) hd ⟨Nat.le_refl _, Nat.le_refl _⟩
  have e2 : ((Value.ref o :: as).reverse ++ S).map (tv ad) = (as.reverse ++ .ref o :: S).map (tv ad) := by simp
  rw [e2]
  refine call_go hrun hS (fun r h' H1 locs1 hq hP1 hS1 => ?_)
  rw [tl_map]
  exact ih _ _ _ hq p e s m args below meth c H1 locs1 ls B hP1 hS1 hL
theorem st_invokestatic {idx ci : Nat} {z : MtT} (hd : decode y.2.1 pc = .ok (.invokestatic idx, 3)) (hs0 : z.2.2.2.2.1 = true ∧ a = npop z) (hc : if ci = 0 then lk b = some (.methodLink y.1.cls idx z.1) else (nestW[b]?).map (fun q => (q.1, q.2.1, q.2.2.1)) = some (y.1.cls, idx, z.1)) : StI l D ad cy w d y Q en is (.invokestatic idx, ci, a, .inr (.inl (z, b))) pc 3 := by
  obtain ⟨hs, rfl⟩ := hs0
  intro ih L S h hw p e s m args below meth c H locs ls B hP hS hL
  obtain ⟨as, S, hn, rfl, ⟨hsh, hC⟩⟩ := popn_inv _ _ _ _ hw
  rw [List.append_nil] at hC
  clear hw
  cases d with
  | zero => exact hC.elim
  | succ k =>
  obtain ⟨hz, hM⟩ := hC
  obtain ⟨hx, hb, hr, hml, hown, hts, hlk, hK, hE, hA⟩ := id B
  have hnp : as.length = z.2.2.2.2.2 := by rw [hn, npop, hs]; rfl
  have hpre := pre_ok (as := as) hP hS hK hE hA
  have hsel := hz.2.2.2.2.2
  rw [hs] at hsel
  have hrun : va_Run p l e (rmm (k + 1)) s m args below meth c H locs 0 0 0 0 (F0 m pc ls ((as.reverse ++ S).map (tv ad))) (S.map (tv ad)) (QQ D ad cy w (fun r h => wp w (CCe l D ad cy w (k + 1)) (AT l D ad cy w (k + 1) y Q) Q y.2.2.2.1 en is L (r.toList ++ S) h) (as.map (tv ad)).toArray) (inA ad w) := by
    by_cases h0 : ci = 0
    · rw [if_pos h0] at hc
      exact va_runS (S := ⟨hx, hb, hml, hown, hts⟩) hM (cw := ⟨cb_ok hz hts (hts _ (gw_at hc rfl)) rfl, hts _ (List.mem_filter.mpr ⟨hsel, rfl⟩)⟩) (hp := hpre) rfl (by rw [List.length_map]; exact hnp) hL.2.1 (by simp) (lv_room (shs_room hsh)) hd ⟨Nat.le_refl _, Nat.le_refl _⟩
    · rw [if_neg h0] at hc
      cases hq : nestW[b]? with
      | none => rw [hq] at hc; cases hc
      | some q =>
        rw [hq] at hc
        have e0 : (q.1, q.2.1, q.2.2.1) = (y.1.cls, idx, z.1) := Option.some.inj hc
        have e1 : q.1 = y.1.cls := congrArg Prod.fst e0
        have e2 : q.2.1 = idx := congrArg (fun t => t.2.1) e0
        have e3 : q.2.2.1 = z.1 := congrArg (fun t => t.2.2) e0
        have hN := hE.1 q (List.mem_of_getElem? hq)
        rw [e1, e2, e3] at hN
        have hm := hz.1.2
        exact va_runSN (S := ⟨hx, hb, hml, hown, hts⟩) hM (cw := ⟨va_cnB z.2.2.2.2.2 hts (wsM_good hz) rfl rfl rfl hN (hts _ (List.mem_filter.mpr ⟨hz.2.2.1, rfl⟩)) ⟨hz.2.2.2.1.1, hz.2.2.2.1.2, hz.2.2.2.2.1⟩ ⟨Nat.le_refl _, by show 8 + (z.2.2.1 + 11) + 64 * (k + 1) ≤ 64 * (k + 1 + 1); omega⟩, hts _ (List.mem_filter.mpr ⟨hsel, rfl⟩), trivial⟩) (hp := hpre) rfl (by rw [List.length_map]; exact hnp) hL.2.1 (by simp) (lv_room (shs_room hsh)) hd ⟨Nat.le_refl _, Nat.le_refl _⟩
  refine call_go hrun hS (fun r h' H1 locs1 hq hP1 hS1 => ?_)
  rw [tl_map]
  exact ih _ _ _ hq p e s m args below meth c H1 locs1 ls B hP1 hS1 hL
theorem st_max {idx : Nat} {v : Value} (hd : decode y.2.1 pc = .ok (.invokestatic idx, 3)) (ht : lk b = some (.methodLink y.1.cls idx Lib.Math.max.name)) : StI l D ad cy w d y Q en is (.invokestatic idx, 7, b, .inl v) pc 3 := by
  intro ih L S h hw p e s m args below meth c H locs ls B hP hS hL
  obtain ⟨u, v, S, rfl, hsh, hw⟩ := pI2_inv hw
  have h8 := shs_room (ad := ad) hsh
  exact va_mmax B.1 B.2.1 (by rw [B.2.2.2.1]; exact hL.2.1.symm) B.2.2.2.2.1 (B.2.2.2.2.2.1 _ (gw_at ht rfl)) (B.2.2.2.2.2.1 _ math_w.1) (B.2.2.2.2.2.1 _ math_w.2.1) (B.2.2.2.2.2.1 _ math_w.2.2.1) (by show 1 ≤ d + 1; omega) (by show _ ≤ 64 * (d + 1); omega) (Nat.le_refl _) (Nat.le_refl _) hd (ih _ _ _ hw p e s m args below meth c H locs ls B hP hS hL)
theorem st_min {idx : Nat} {v : Value} (hd : decode y.2.1 pc = .ok (.invokestatic idx, 3)) (ht : lk b = some (.methodLink y.1.cls idx Lib.Math.min.name)) : StI l D ad cy w d y Q en is (.invokestatic idx, 8, b, .inl v) pc 3 := by
  intro ih L S h hw p e s m args below meth c H locs ls B hP hS hL
  obtain ⟨u, v, S, rfl, hsh, hw⟩ := pI2_inv hw
  have h8 := shs_room (ad := ad) hsh
  exact va_mmin B.1 B.2.1 (by rw [B.2.2.2.1]; exact hL.2.1.symm) B.2.2.2.2.1 (B.2.2.2.2.2.1 _ (gw_at ht rfl)) (B.2.2.2.2.2.1 _ math_w.2.2.2.1) (B.2.2.2.2.2.1 _ math_w.2.1) (B.2.2.2.2.2.1 _ math_w.2.2.2.2) (by show 1 ≤ d + 1; omega) (by show _ ≤ 64 * (d + 1); omega) (Nat.le_refl _) (Nat.le_refl _) hd (ih _ _ _ hw p e s m args below meth c H locs ls B hP hS hL)
end SND2
