/-! the law's steps -/
abbrev A0 (s : State) : Nat → Prop := fun q => s.heap.size ≤ q
abbrev LWt (p : Program) (l : Launch) (e : Env) (s : State) (m : MethodId) (below : List Frame) (meth : Method) (c : Code) (b : Nat) (H : Heap) (locs : List Loc) (g : JFrame) : Prop := W p l e room_1 s m #[Value.ref b] below meth c H locs 600000 7302250 (lw_Z below #[Value.ref b] s) g
theorem ExP_narrow {ad : Nat → Nat} {A B : Nat → Prop} {U : State} (h : ExP ad A U) (hAB : ∀ q, B q → A q) : ExP ad B U := ⟨h.1, h.2.1, h.2.2.1.narrow hAB, h.2.2.2.1.narrow hAB, h.2.2.2.2.narrow hAB⟩
theorem va_at_lt {D : va_G} {cl : List vw_C} {q : Nat × va_E} {H : Heap} (h : va_at D cl q H) : q.1 < H.size := by
  obtain ⟨a, x⟩ := q
  cases x with
  | inl x =>
    have h : H[a]? = some (vp_cell x.1 x.2) := h
    exact (Array.getElem?_eq_some_iff.mp h).1
  | inr o =>
    obtain ⟨r, h1, cell, g1, -⟩ := h
    exact (Array.getElem?_eq_some_iff.mp g1).1
theorem and31 (x : Int32) : ∃ n, n < 32 ∧ x &&& 31 = nI n := by
  refine ⟨(x &&& 31).toBitVec.toNat, ?_, ?_⟩
  · rw [Int32.toBitVec_and, BitVec.toNat_and]
    have h : (31 : Int32).toBitVec.toNat = 31 := by decide
    rw [h]
    exact Nat.lt_of_le_of_lt Nat.and_le_right (by decide)
  · apply Int32.toBitVec_inj.mp
    show _ = (Int32.ofNat _).toBitVec
    rw [Int32.toBitVec_ofNat']
    apply BitVec.eq_of_toNat_eq
    rw [BitVec.toNat_ofNat, Nat.mod_eq_of_lt (BitVec.isLt _)]
def bz (x : Int32) : Int32 := if x = 0 then 0 else 1
theorem bz_or (x : Int32) : bz x = 0 ∨ bz x = 1 := by unfold bz; split; exact Or.inl rfl; exact Or.inr rfl
theorem Inv_mono {N : Nat} {x m : HpT} (h : Inv N x m) : Inv (N + 1) x m := by
  obtain ⟨hS, hP, hR, hB, ⟨t1, t2, t3, nw, ni, t4, t5, t6, t7, t8, t9, t10⟩, hZ, hU⟩ := h
  refine ⟨hS, hP, hR, hB, ⟨t1, t2, t3, nw, ni, t4, t5, t6, t7, t8, t9, fun i hi => ⟨(t10 i hi).1, ?_⟩⟩, hZ, hU⟩
  obtain ⟨n, h1, h2⟩ := (t10 i hi).2
  exact ⟨n, by omega, h2⟩
section LAWG
variable {p : Program} {l : Launch} {e : Env} {R : Room} {s : State} {m : MethodId} {args : Array Value} {below : List Frame} {meth : Method} {c : Code} {H : Heap} {locs : List Loc} {cells slots : Nat} {Qf : State → Prop} {pc : Nat} {ls : Array Slot} {D : va_G} {cy : Nat → ClassId} {A : Nat → Prop}
theorem law_go {w : WdT} {adz : Nat → Nat} {st0 rest : List Value} {av : Array Value} {Q' : Option Value → HpT → Prop} (hr : va_Run p l e R s m args below meth c H locs cells slots 0 0 (F0 m pc ls st0) rest (QQ D adz cy w Q' av) (inA adz w)) (hS : va_S A s.heap H locs) (hF : ∀ q, inA adz w q → A q)
    (kk : ∀ (r : Option Value) (h' : HpT) (H1 : Heap) (locs1 : List Loc), Q' r h' → va_P D vwCl (wsOf adz cy w h') H1 → va_S A s.heap H1 locs1 → (∀ q, q < H.size → ¬ inA adz w q → H1[q]? = H[q]?) → W p l e R s m args below meth c H1 locs1 cells slots Qf (F0 m (pc + 3) ls ((r.map (tv adz)).toList ++ rest))) : W p l e R s m args below meth c H locs cells slots Qf (F0 m pc ls st0) := by
  intro T hT X
  obtain ⟨v, st₀, t, T', Lc, h0, X', hLc, e1, e2, ⟨⟨r, h', hv, hp, hb⟩, hz, hk⟩, st⟩ := hr T hT X
  cases hv
  rw [h0] at hz hk
  obtain ⟨t2, a1, b1⟩ := kk r h' T'.heap (locs ++ Lc) hp (by rw [e1]; exact hb) ⟨Nat.le_trans hS.1 (by rw [e1]; exact hz), fun q h1 h2 => by rw [e1, hk q (Nat.lt_of_lt_of_le h1 hS.1) (fun z => h2 (hF q z))]; exact hS.2.1 q h1 h2, fun q hq => by
      rcases List.mem_append.mp hq with h | h
      · exact hS.2.2 q h
      · exact hF _ (hLc q h)⟩ (fun q h1 h2 => by rw [e1]; exact hk q h1 h2) T' rfl X'
  exact ⟨t2, st t2 a1, b1⟩
end LAWG
section LAW
variable {p : Program} {l : Launch} {e : Env} {s : State} {m : MethodId} {below : List Frame} {meth : Method} {c : Code} {b L : Nat} {xs : Nat → Int32} {D : va_G} {cy : Nat → ClassId} {ad ad' : Nat → Nat} {H : Heap} {locs : List Loc} {ls : Array Slot} {pc i : Nat} {hx hm : HpT} {rest : List Value}
theorem lw_arg (C0 : lw_At p s m meth c b L xs) (hL : L ≤ 3584) (hi : i + 7 ≤ L) {k : Nat} {n : Int} (hk : k < 7) (hv : Int32.ofInt n = nI k) (hS : va_S (A0 s) s.heap H locs) (l0 : ls[0]? = some (.val (.ref b))) (l3 : ls[3]? = some (.val (.int (nI i)))) (hd : decode code pc = .ok (.aload_n 0, 1) ∧ decode code (pc + 1) = .ok (.iload_n 3, 1) ∧ decode code (pc + 2) = .ok (.iconst n, 1) ∧ decode code (pc + 3) = .ok (.iadd, 1) ∧ decode code (pc + 4) = .ok (.iaload, 1)) (kk : LWt p l e s m below meth c b H locs (F0 m (pc + 5) ls (.int (xs (i + k)) :: rest))) : LWt p l e s m below meth c b H locs (F0 m pc ls rest) := by
  obtain ⟨hx, hb, hr, hml, hown, hts, hX, hbl, hlocks, hgv⟩ := C0
  obtain ⟨d0, d1, d2, d3, d4⟩ := hd
  have hbA : ¬ (A0 s) b := Nat.not_le.mpr hbl
  refine lv_aload_n hx hb d0 rfl l0 ?_
  refine lv_iload_n hx hb d1 rfl l3 ?_
  refine lv_iconst (v := nI k) hx hb d2 hv ?_
  refine lv_iadd hx hb d3 ?_
  rw [nI_add]
  refine va_sld hx hb hX hbl hbA hS (vp_in_nI (by omega) (by omega)) d4 ?_
  rw [nI_clamp (by omega)]
  exact kk
theorem lw_arg6 (C0 : lw_At p s m meth c b L xs) (hL : L ≤ 3584) (hi : i + 7 ≤ L) (hS : va_S (A0 s) s.heap H locs) (l0 : ls[0]? = some (.val (.ref b))) (l3 : ls[3]? = some (.val (.int (nI i)))) (hd : decode code pc = .ok (.aload_n 0, 1) ∧ decode code (pc + 1) = .ok (.iload_n 3, 1) ∧ decode code (pc + 2) = .ok (.bipush 6, 2) ∧ decode code (pc + 4) = .ok (.iadd, 1) ∧ decode code (pc + 5) = .ok (.iaload, 1)) (kk : LWt p l e s m below meth c b H locs (F0 m (pc + 6) ls (.int (xs (i + 6)) :: rest))) : LWt p l e s m below meth c b H locs (F0 m pc ls rest) := by
  obtain ⟨hx, hb, hr, hml, hown, hts, hX, hbl, hlocks, hgv⟩ := C0
  obtain ⟨d0, d1, d2, d3, d4⟩ := hd
  have hbA : ¬ (A0 s) b := Nat.not_le.mpr hbl
  refine lv_aload_n hx hb d0 rfl l0 ?_
  refine lv_iload_n hx hb d1 rfl l3 ?_
  refine lv_bipush (v := nI 6) hx hb d2 (by decide) ?_
  refine lv_iadd hx hb d3 ?_
  rw [nI_add]
  refine va_sld hx hb hX hbl hbA hS (vp_in_nI (by omega) (by omega)) d4 ?_
  rw [nI_clamp (by omega)]
  exact kk
theorem lw_bool (C0 : lw_At p s m meth c b L xs) {x : Int32} (hd : decode code pc = .ok (.ifCond .eq 7, 3) ∧ decode code (pc + 3) = .ok (.iconst 1, 1) ∧ decode code (pc + 4) = .ok (.goto 4, 3) ∧ decode code (pc + 7) = .ok (.iconst 0, 1)) (kk : LWt p l e s m below meth c b H locs (F0 m (pc + 8) ls (.int (bz x) :: rest))) : LWt p l e s m below meth c b H locs (F0 m pc ls (.int x :: rest)) := by
  obtain ⟨hx, hb, hr, hml, hown, hts, hX, hbl, hlocks, hgv⟩ := C0
  obtain ⟨d0, d1, d2, d3⟩ := hd
  refine lv_if_eq (tgt := pc + 7) hx hb d0 (by omega) (fun z => ?_) (fun z => ?_)
  · rw [show bz x = 0 by unfold bz; rw [if_pos z]] at kk
    refine lv_iconst (v := 0) hx hb d3 (by decide) ?_
    exact kk
  · rw [show bz x = 1 by unfold bz; rw [if_neg z]] at kk
    refine lv_iconst (v := 1) hx hb d1 (by decide) ?_
    refine lv_goto (tgt := pc + 8) hx hb d2 (by omega) ?_
    exact kk
theorem lawV {w : WdT} {adz : Nat → Nat} {z : MtT} {as : List Value} {h : HpT} {Q' : Option Value → HpT → Prop} {idx bb : Nat} {q : vw_C} (C0 : lw_At p s m meth c b L xs) (hlsz : ls.size = 4) (hK : va_K D vwCl (tysC cy) s) (hE : ExP adz (A0 s) s) (hA : adOk adz w) (hF : ∀ q, inA adz w q → A0 s q) (hw0 : 0 < w.1) (hq : vwCl[wOc w 0]? = some q) (hcl : q.1 = z.1.cls)
    (hM : OKe l D adz cy w 47 z (.ref 0 :: as) h Q') (hstat : z.2.2.2.2.1 = false) (hn : as.length = z.2.2.2.2.2) (hd : decode code pc = .ok (.invokevirtual idx, 3)) (hlk : lk bb = some (.methodLink R_law idx z.1)) (hsh : (rest.map fun v => v.category).sum ≤ 8) (hP : va_P D vwCl (wsOf adz cy w h) H) (hS : va_S (A0 s) s.heap H locs)
    (kk : ∀ (r : Option Value) (h' : HpT) (H1 : Heap) (locs1 : List Loc), Q' r h' → va_P D vwCl (wsOf adz cy w h') H1 → va_S (A0 s) s.heap H1 locs1 → (∀ q, q < H.size → ¬ inA adz w q → H1[q]? = H[q]?) → LWt p l e s m below meth c b H1 locs1 (F0 m (pc + 3) ls ((r.map (tv adz)).toList ++ rest))) : LWt p l e s m below meth c b H locs (F0 m pc ls ((as.map (tv adz)).reverse ++ .ref (adz 0) :: rest)) := by
  obtain ⟨hz, hM⟩ := hM
  obtain ⟨hx, hb, hr, hml, hown, hts, hX, hbl, hlocks, hgv⟩ := C0
  have htsG : ∀ v ∈ GW, v.before #[Value.ref b] s = true := fun v hv => hts v (List.mem_filter.mp hv).1
  have hrecv : ∃ cellB : Cell, H[adz 0]? = some cellB ∧ cellB.vm.isStatics = false ∧ s.vm.findClass z.1.cls = some cellB.cls := by
    rw [← hcl]
    exact va_recv hK hP hq (wsOf_obj hA.1 hw0)
  have hpre : PreS s H (va_Pc ((Value.ref 0 :: as).map (tv adz)) (fun U => va_P D vwCl (wsOf adz cy w h) U.heap ∧ va_K D vwCl (tysC cy) U ∧ ExP adz (inA adz w) U ∧ adOk adz w)) ((Value.ref 0 :: as).map (tv adz)) :=
    ⟨fun av U g mk q => by obtain ⟨q0, qP, qK, qE, qA⟩ := q; exact ⟨q0, qP, va_K.moved (u := U) (U := U.calling g mk av) (Vm.Alike.refl U.vm) qK, ExP_blind qE g mk av, qA⟩, fun U hU hW => ⟨rfl, by rw [hU]; exact hP, va_K.moved hW.alike hK, ExP_narrow (ExP_moved hE hS hU hW) hF, hA⟩⟩
  have hsel := hz.2.2.2.2.2
  rw [hstat] at hsel
  have hm45 := hz.1.2
  have hrun := va_runV (b := adz 0) (As := as.map (tv adz)) (rest := rest) (g := F0 m pc ls ((as.map (tv adz)).reverse ++ .ref (adz 0) :: rest)) (locs := locs) (below := below) (e := e) (cells := 600000) (slots := 7302250) (R := room_1) (meth := meth) (S := ⟨hx, hb, hml, hown, htsG⟩) hM
    (cw := ⟨callB_of z.2.2.2.2.2 htsG (wsM_good hz) rfl rfl rfl (htsG _ (List.mem_filter.mpr ⟨hz.2.2.1, rfl⟩)) (htsG _ (gw_at hlk rfl)) ⟨hz.2.2.2.1.1, hz.2.2.2.1.2, hz.2.2.2.2.1⟩ ⟨Nat.le_of_ble_eq_true rfl, by show 8 + (z.2.2.1 + 11) + 64 * (47 + 1) ≤ 84000; omega⟩, htsG _ (List.mem_filter.mpr ⟨hsel.1, rfl⟩), htsG _ (List.mem_filter.mpr ⟨hsel.2, rfl⟩)⟩) (hp := ⟨hpre.1, hrecv, hpre.2⟩) rfl (by rw [List.length_map]; exact hn) hlsz rfl (lv_room hsh) hd ⟨Nat.le_refl _, Nat.le_refl _⟩
  exact law_go hrun hS hF kk
/-- what stands in the law while it runs -/
def LCx (s : State) (D : va_G) (cy : Nat → ClassId) (ad ad' : Nat → Nat) : Prop := va_K D vwCl (tysC cy) s ∧ ExP ad (A0 s) s ∧ ExP ad' (A0 s) s ∧ adOk ad wdX ∧ adOk ad' wdM ∧ (∀ q, inA ad wdX q → A0 s q) ∧ (∀ q, inA ad' wdM q → A0 s q) ∧ ∀ q, inA ad wdX q → ¬ inA ad' wdM q
theorem kept_of {w : WdT} {adz : Nat → Nat} {h : HpT} {H1 : Heap} {B : Nat → Prop} (hP : va_P D vwCl (wsOf adz cy w h) H) (hk : ∀ q, q < H.size → ¬ B q → H1[q]? = H[q]?) (hB : ∀ q, inA adz w q → ¬ B q) : va_P D vwCl (wsOf adz cy w h) H1 := by
  refine hP.kept (fun k q hq => ?_)
  have hlt := va_at_lt (hP k q hq)
  refine hk q.1 hlt (hB _ ?_)
  by_cases hi : k < w.2.1
  · rw [wsOf_get hi] at hq
    cases hq
    exact ⟨k, hi, rfl⟩
  · rw [wsOf_none hi] at hq
    cases hq
theorem lawCase {z z' : MtT} {as : List Value} {N pX pM iX iM bX bM : Nat} {off : Int} (C0 : lw_At p s m meth c b L xs) (hc : LCx s D cy ad ad') (hl : lv_has ls 4 [(0, .ref b), (1, .ref (ad 0)), (2, .ref (ad' 0)), (3, .int (nI i))]) (hs : SIM (Inv N) l D ad ad' cy 47 z z' as hx hm) (tvs : as.map (tv ad) = as) (tvs' : as.map (tv ad') = as)
    (zc : z.1.cls = RX11 ∧ z.2.2.2.2.1 = false ∧ as.length = z.2.2.2.2.2) (zc' : z'.1.cls = RX12 ∧ z'.2.2.2.2.1 = false ∧ as.length = z'.2.2.2.2.2) (hPX : va_P D vwCl (wsOf ad cy wdX hx) H) (hPM : va_P D vwCl (wsOf ad' cy wdM hm) H) (hS : va_S (A0 s) s.heap H locs)
    (d0 : decode code pc = .ok (.aload_n 1, 1)) (push1 : ∀ (H : Heap) (locs : List Loc) (rest : List Value), va_S (A0 s) s.heap H locs → LWt p l e s m below meth c b H locs (F0 m pX ls (as.reverse ++ rest)) → LWt p l e s m below meth c b H locs (F0 m (pc + 1) ls rest)) (dX : decode code pX = .ok (.invokevirtual iX, 3)) (kX : lk bX = some (.methodLink R_law iX z.1))
    (d1 : decode code (pX + 3) = .ok (.aload_n 2, 1)) (push2 : ∀ (H : Heap) (locs : List Loc) (rest : List Value), va_S (A0 s) s.heap H locs → LWt p l e s m below meth c b H locs (F0 m pM ls (as.reverse ++ rest)) → LWt p l e s m below meth c b H locs (F0 m (pX + 4) ls rest)) (dM : decode code pM = .ok (.invokevirtual iM, 3)) (kM : lk bM = some (.methodLink R_law iM z'.1)) (d2 : decode code (pM + 3) = .ok (.if_icmp .eq off, 3)) (ht : ((pM + 3 : Nat) : Int) + off = ((950 : Nat) : Int))
    (nxt : ∀ (hx' hm' : HpT) (H : Heap) (locs : List Loc), Inv N hx' hm' → va_P D vwCl (wsOf ad cy wdX hx') H → va_P D vwCl (wsOf ad' cy wdM hm') H → va_S (A0 s) s.heap H locs → LWt p l e s m below meth c b H locs (F0 m 950 ls [])) : LWt p l e s m below meth c b H locs (F0 m pc ls []) := by
  obtain ⟨hK, hE, hE', hA, hA', hF, hF', hap⟩ := hc
  obtain ⟨v, A, B, oX, oM, jn⟩ := hs
  have hx := C0.1
  have hb := C0.2.1
  refine lv_aload_n hx hb d0 rfl (lv_at hl 1 rfl) ?_
  refine push1 H locs [.ref (ad 0)] hS ?_
  have e1 : as.reverse ++ [Value.ref (ad 0)] = (as.map (tv ad)).reverse ++ .ref (ad 0) :: [] := by rw [tvs]
  rw [e1]
  refine lawV (w := wdX) (q := (RX11, TX11, 13)) C0 hl.1 hK hE hA hF (by decide) rfl zc.1.symm oX zc.2.1 zc.2.2 dX kX (Nat.zero_le _) hPX hS (fun r h' H1 locs1 hq hP1 hS1 hk1 => ?_)
  obtain ⟨rfl, a'⟩ := hq
  have hPM1 : va_P D vwCl (wsOf ad' cy wdM hm) H1 := kept_of hPM hk1 (fun q z1 z2 => hap q z2 z1)
  refine lv_aload_n hx hb d1 rfl (lv_at hl 2 rfl) ?_
  refine push2 H1 locs1 [.ref (ad' 0), .int v] hS1 ?_
  have e2 : as.reverse ++ [Value.ref (ad' 0), .int v] = (as.map (tv ad')).reverse ++ .ref (ad' 0) :: [.int v] := by rw [tvs']
  rw [e2]
  refine lawV (w := wdM) (q := (RX12, TX12, 57)) C0 hl.1 hK hE' hA' hF' (by decide) rfl zc'.1.symm oM zc'.2.1 zc'.2.2 dM kM (Nat.le_of_ble_eq_true rfl) hPM1 hS1 (fun r2 h2 H2 locs2 hq2 hP2 hS2 hk2 => ?_)
  obtain ⟨rfl, b'⟩ := hq2
  have hPX2 : va_P D vwCl (wsOf ad cy wdX h') H2 := kept_of hP1 hk2 (fun q z1 z2 => hap q z1 z2)
  refine lv_icmp_eq (tgt := 950) hx hb d2 ht (fun _ => ?_) (fun z => absurd rfl z)
  exact nxt h' h2 H2 locs2 (jn h' h2 a' b') hPX2 hP2 hS2
end LAW
