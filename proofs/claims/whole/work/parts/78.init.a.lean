/-! the constructors -/
def nestC : List (String × Nat × MethodName × String) := [(RX11, 11, yX2_init, RX11), (RX11, 18, yX5_init, RX11), (RX11, 25, yX0_init, RX11), (RX4, 17, yX1_init, RX11), (RX11, 50, yX10_init, RX11), (RX11, 57, yX3_init, RX11), (RX11, 64, yX9_init, RX11), (RX11, 71, yX6_init, RX11)]
def NC (U : State) : Prop := ∀ q ∈ nestC, va_Nw (.methodLinkNest q.1 q.2.1 q.2.2.1 q.2.2.2) U
theorem NC_blind {U : State} (h : NC U) (g : JFrame) (mk : MethodId) (a : Array Value) : NC (U.calling g mk a) := fun q hq => va_Nw.same rfl (u := U) rfl (h q hq)
theorem NC_moved {s U : State} (h : NC s) (hW : s.WarmedH U.vm) : NC U := fun q hq => va_Nw.warmM hW (h q hq)
theorem ini_good {y : MethodName} {b : ByteArray} {ml : Nat} (h : Cond.code y b ml none ∈ lw_tbl) : GoodIn GW (.code y b ml none :: GW) := by
  intro v hv
  rcases List.mem_cons.mp hv with rfl | h2
  · exact gw_good _ (List.mem_filter.mpr ⟨h, rfl⟩)
  · exact gw_good v h2
/-- what a constructor begins with -/
def PI (D : va_G) (cy : Nat → ClassId) (sz : Nat) (w0 : va_W) (U : State) : Prop := U.heap.size = sz ∧ va_P D vwCl w0 U.heap ∧ va_K D vwCl (tysC cy) U ∧ va_D (fun _ => True) w0 ∧ NC U
theorem PI_pre {D : va_G} {cy : Nat → ClassId} {w0 : va_W} {s : State} {H : Heap} {A : Nat → Prop} {as : List Value} (hP : va_P D vwCl w0 H) (hD : va_D A w0) (hK : va_K D vwCl (tysC cy) s) (hN : NC s) : PreS s H (va_Pc as (PI D cy H.size w0)) as :=
  ⟨fun av U g mk q => by obtain ⟨q0, q1, qP, qK, qD, qN⟩ := q; exact ⟨q0, q1, qP, va_K.moved (u := U) (U := U.calling g mk av) (Vm.Alike.refl U.vm) qK, qD, NC_blind qN g mk av⟩, fun U hU hW => ⟨rfl, by rw [hU], by rw [hU]; exact hP, va_K.moved hW.alike hK, hD.weaken (fun _ _ _ _ => trivial), NC_moved hN hW⟩⟩
section CNEW
variable {p : Program} {l : Launch} {e : Env} {R : Room} {s : State} {m : MethodId} {args : Array Value} {below : List Frame} {meth : Method} {c : Code} {H : Heap} {locs : List Loc} {cells slots : Nat} {Q : State → Prop} {pc : Nat} {ls : Array Slot} {rest : List Value} {D : va_G} {A : Nat → Prop} {ws : va_W} {H0 : Heap} {cy : Nat → ClassId}
theorem cn_newa {cc : ByteArray} (hexec : p.tables.exec = Jvm.exec) (hb : c.code = cc) {atype : ArrayType} (harr : (Cond.arrayClass (newarray.typeOf atype)).before args s = true) {ty : FieldType} (hty : newarray.typeOf atype = ty) (hK : va_K D vwCl (tysC cy) s) (hP : va_P D vwCl ws H) (hD : va_D A ws) (hS : va_S A H0 H locs) (hA : ∀ q, H0.size ≤ q → A q) (t : Nat) (ht : (tysC cy)[t]? = some (cy t, ty)) (hra : ∀ cA, va_RA s cA ty → s.vm.findClass ("[" ++ ty.toString) = some cA)
    {n : Int32} {N' : Nat} (ha : ∀ cA : ClassId, vp_cell cA (N', .inl (fun _ => 0)) = arrV cA N' (fun _ => defaultValue ty)) (hn : ¬ n < 0) (hN : n.toNatClampNeg = N') (hbytes : N' * componentBytes ty ≤ 536870912) (hcells : cells + 1 ≤ R.cells) (hslots : slots + N' ≤ R.slots) (hdg : decode cc pc = .ok (.newarray atype, 2))
    (kk : ∀ (q : Nat) (H1 : Heap), va_P D vwCl (ws ++ [(q, .inl (cy t, N', .inl (fun _ => 0)))]) H1 → va_D A (ws ++ [(q, .inl (cy t, N', .inl (fun _ => 0)))]) → va_S A H0 H1 locs → W p l e R s m args below meth c H1 locs (cells + 1) (slots + N') Q (F0 m (pc + 2) ls (.ref q :: rest))) : W p l e R s m args below meth c H locs cells slots Q (F0 m pc ls (.int n :: rest)) := by
  refine va_newa hexec hb harr hty hK hP hD hS hA (a0 := (N', .inl (fun _ => 0))) ha hn hN hbytes hcells hslots hdg (fun q cA H1 hK1 hP1 hD1 hS1 => ?_)
  have h1 := hra _ (hK1.2 3 (cA, ty) rfl).2
  have h2 := hra _ (hK.2 t (cy t, ty) ht).2
  have e : cA = cy t := Option.some.inj (h1.symm.trans h2)
  subst e
  exact kk q H1 hP1 hD1 hS1
end CNEW
theorem lkI_1034 : lk 1034 = some (.methodLink RX2 3 Lib.objectInit) := by decide +kernel
theorem lkI_1027 : lk 1027 = some (.instanceMethod Lib.objectInit) := by decide +kernel
theorem lkI_1028 : lk 1028 = some (.code Lib.objectInit ⟨#[0xb1]⟩ 1 none) := by decide +kernel
theorem lkI_1062 : lk 1062 = some (.arrayClass .boolean) := by decide +kernel
theorem lkI_1038 : lk 1038 = some (.fieldLink RX2 9 "MockTrials$People" "there" "[Z") := by decide +kernel
theorem lkI_1046 : lk 1046 = some (.fieldLink RX2 15 "MockTrials$People" "kinRows" "[Z") := by decide +kernel
theorem lkI_1047 : lk 1047 = some (.fieldLink RX2 18 "MockTrials$People" "roomMany" "I") := by decide +kernel
theorem dI2_0 : decode cX2_init 0 = .ok (.aload_n 0, 1) := by decide +kernel
theorem dI2_1 : decode cX2_init 1 = .ok (.invokespecial 3, 3) := by decide +kernel
theorem dI2_4 : decode cX2_init 4 = .ok (.aload_n 0, 1) := by decide +kernel
theorem dI2_5 : decode cX2_init 5 = .ok (.bipush 14, 2) := by decide +kernel
theorem dI2_7 : decode cX2_init 7 = .ok (.newarray .boolean, 2) := by decide +kernel
theorem dI2_9 : decode cX2_init 9 = .ok (.putfield 9, 3) := by decide +kernel
theorem dI2_12 : decode cX2_init 12 = .ok (.aload_n 0, 1) := by decide +kernel
theorem dI2_13 : decode cX2_init 13 = .ok (.sipush 280, 3) := by decide +kernel
theorem dI2_16 : decode cX2_init 16 = .ok (.newarray .boolean, 2) := by decide +kernel
theorem dI2_18 : decode cX2_init 18 = .ok (.putfield 15, 3) := by decide +kernel
theorem dI2_21 : decode cX2_init 21 = .ok (.aload_n 0, 1) := by decide +kernel
theorem dI2_22 : decode cX2_init 22 = .ok (.bipush 7, 2) := by decide +kernel
theorem dI2_24 : decode cX2_init 24 = .ok (.putfield 18, 3) := by decide +kernel
theorem dI2_27 : decode cX2_init 27 = .ok (.return_, 1) := by decide +kernel
theorem dfI2 : ∀ j, j < 6 → defaultValue (tyX2 j) = vp_V [.int 0, .null, .int 0, .int 0, .null, .int 0] j := by
  intro j hj
  match j, hj with
  | 0, _ => rfl
  | 1, _ => rfl
  | 2, _ => rfl
  | 3, _ => rfl
  | 4, _ => rfl
  | 5, _ => rfl
  | k + 6, hj => exact absurd hj (by omega)
theorem gI2 : GoodIn GW (.code yX2_init cX2_init 1 none :: GW) := ini_good (lk_mem (b := 1033) (by decide +kernel))
set_option maxHeartbeats 4000000 in
set_option maxRecDepth 100000 in
theorem cI2 (l : Launch) (D : va_G) (cy : Nat → ClassId) (h0 sz : Nat) : Met l yX2_init (.code yX2_init cX2_init 1 none :: GW) ({ frames := 1, cells := 2, slots := 294, locals := 20 }) (va_Pc [.ref h0] (PI D cy sz [(h0, .inr (2, [.int 0, .null, .int 0, .int 0, .null, .int 0]))])) (va_Qv (fun _ : Unit => True) (fun _ t => ∃ q1 q2, va_P D vwCl [(h0, .inr (2, [.int 0, .ref q1, .int 0, .int 0, .ref q2, .int 7])), (q1, .inl (cy 1, 14, .inl (fun _ => 0))), (q2, .inl (cy 1, 280, .inl (fun _ => 0)))] t.heap ∧ va_D (va_A [(h0, .inr (2, [.int 0, .null, .int 0, .int 0, .null, .int 0]))] sz) [(h0, .inr (2, [.int 0, .ref q1, .int 0, .int 0, .ref q2, .int 7])), (q1, .inl (cy 1, 14, .inl (fun _ => 0))), (q2, .inl (cy 1, 280, .inl (fun _ => 0)))]) (va_A [(h0, .inr (2, [.int 0, .null, .int 0, .int 0, .null, .int 0]))] sz)) 2 294 (va_A [(h0, .inr (2, [.int 0, .null, .int 0, .int 0, .null, .int 0]))] sz) := by
  refine Met.ofW (cc := cX2_init) (maxL := 1) (ret := none) (by decide +kernel) rfl ?_
  intro p e s m args below meth c s₁ B hml hv
  obtain ⟨rfl, hsz, hP, hK, hD0, hN⟩ := hv
  have hx := B.exec
  have hb := B.bytes
  have hr := B.returns
  have hts0 := atoms_spec (ws := .code yX2_init cX2_init 1 none :: GW) B.pre
  have hts : ∀ v ∈ GW, v.before _ s = true := fun v hv => hts0 v (List.mem_cons_of_mem _ hv)
  have hown : s.vm.findClass RX2 = some m.cls := findClass_of_methodNamed B.named
  have hlocks := B.notSynchronized
  have hin : meth.name = "<init>" := (name_of_methodNamed B.named B.method).1
  subst hsz
  have hD := hD0.self (sz := s.heap.size)
  generalize hAe : va_A [(h0, .inr (2, [.int 0, .null, .int 0, .int 0, .null, .int 0]))] s.heap.size = A at hD ⊢
  have hA : ∀ q : Nat, s.heap.size ≤ q → A q := fun q h => by rw [← hAe]; exact Or.inr h
  have hS : va_S A s.heap s.heap [] := va_S.rf
  have hP : va_P D vwCl [(h0, .inr (2, [.int 0, .null, .int 0, .int 0, .null, .int 0]))] s.heap := hP
  have hl := lv_entry ([.ref h0]) (n := 1) (Nat.le_of_ble_eq_true rfl)
  rw [lg_entry_eq]
  generalize (lg_sl ([.ref h0]) ++ List.replicate (1 - (lg_sl ([.ref h0])).length) Slot.unset).toArray = ls at hl ⊢
  have hl : lv_has ls 1 [(0, .ref h0)] := hl
  refine lv_aload_n hx hb dI2_0 rfl (lv_at hl 0 rfl) ?_
  refine W.objInit hx hb hown (hts _ (gw_at lkI_1034 rfl)) (hts _ (gw_at lkI_1027 rfl)) (hts _ (gw_at lkI_1028 rfl)) rfl (by rw [hml]; exact hl.1) rfl dI2_1 (Nat.le_of_ble_eq_true rfl) (Nat.le_of_ble_eq_true rfl) ?_
  refine W.eq (g2 := F0 m 4 ls []) rfl ?_
  refine lv_aload_n hx hb dI2_4 rfl (lv_at hl 0 rfl) ?_
  refine lv_bipush (v := 14) hx hb dI2_5 (by decide) ?_
  refine cn_newa (N' := 14) (ty := .boolean) hx hb (hts _ (gw_at lkI_1062 rfl)) rfl hK hP hD hS hA 1 rfl (fun _ h => h) (fun _ => rfl) (by decide) (by decide) (by decide) (Nat.le_of_ble_eq_true rfl) (Nat.le_of_ble_eq_true rfl) dI2_7 (fun q1 H hP hD hS => ?_)
  have hP : va_P D vwCl [(h0, .inr (2, [.int 0, .null, .int 0, .int 0, .null, .int 0])), (q1, .inl (cy 1, 14, .inl (fun _ => 0)))] H := hP
  have hD : va_D A [(h0, .inr (2, [.int 0, .null, .int 0, .int 0, .null, .int 0])), (q1, .inl (cy 1, 14, .inl (fun _ => 0)))] := hD
  refine va_putF (D := D) (ci := 2) (v := .ref q1) (ty := tyX2 1) (C := RX2) (T := TX2) (N := 6) hx hb hts (cls_in (ci := 2) (q := (RX2, TX2, 6)) rfl) tyX2 tyX2_ok nmX2 hown hK hP hD hS 0 rfl rfl 1 (by decide) (hts _ (gw_at lkI_1038 rfl)) (fun _ h9 => h9) rfl hin rfl (tyX2_ok 1 (by decide)) rfl rfl (Nat.le_of_ble_eq_true rfl) dI2_9 (fun H locs hP hD hS => ?_)
  have hP : va_P D vwCl [(h0, .inr (2, [.int 0, .ref q1, .int 0, .int 0, .null, .int 0])), (q1, .inl (cy 1, 14, .inl (fun _ => 0)))] H := hP
  have hD : va_D A [(h0, .inr (2, [.int 0, .ref q1, .int 0, .int 0, .null, .int 0])), (q1, .inl (cy 1, 14, .inl (fun _ => 0)))] := hD
  refine lv_aload_n hx hb dI2_12 rfl (lv_at hl 0 rfl) ?_
  refine lv_sipush (v := 280) hx hb dI2_13 (by decide) ?_
  refine cn_newa (N' := 280) (ty := .boolean) hx hb (hts _ (gw_at lkI_1062 rfl)) rfl hK hP hD hS hA 1 rfl (fun _ h => h) (fun _ => rfl) (by decide) (by decide) (by decide) (Nat.le_of_ble_eq_true rfl) (Nat.le_of_ble_eq_true rfl) dI2_16 (fun q2 H hP hD hS => ?_)
  have hP : va_P D vwCl [(h0, .inr (2, [.int 0, .ref q1, .int 0, .int 0, .null, .int 0])), (q1, .inl (cy 1, 14, .inl (fun _ => 0))), (q2, .inl (cy 1, 280, .inl (fun _ => 0)))] H := hP
  have hD : va_D A [(h0, .inr (2, [.int 0, .ref q1, .int 0, .int 0, .null, .int 0])), (q1, .inl (cy 1, 14, .inl (fun _ => 0))), (q2, .inl (cy 1, 280, .inl (fun _ => 0)))] := hD
  refine va_putF (D := D) (ci := 2) (v := .ref q2) (ty := tyX2 4) (C := RX2) (T := TX2) (N := 6) hx hb hts (cls_in (ci := 2) (q := (RX2, TX2, 6)) rfl) tyX2 tyX2_ok nmX2 hown hK hP hD hS 0 rfl rfl 4 (by decide) (hts _ (gw_at lkI_1046 rfl)) (fun _ h9 => h9) rfl hin rfl (tyX2_ok 4 (by decide)) rfl rfl (Nat.le_of_ble_eq_true rfl) dI2_18 (fun H locs hP hD hS => ?_)
  have hP : va_P D vwCl [(h0, .inr (2, [.int 0, .ref q1, .int 0, .int 0, .ref q2, .int 0])), (q1, .inl (cy 1, 14, .inl (fun _ => 0))), (q2, .inl (cy 1, 280, .inl (fun _ => 0)))] H := hP
  have hD : va_D A [(h0, .inr (2, [.int 0, .ref q1, .int 0, .int 0, .ref q2, .int 0])), (q1, .inl (cy 1, 14, .inl (fun _ => 0))), (q2, .inl (cy 1, 280, .inl (fun _ => 0)))] := hD
  refine lv_aload_n hx hb dI2_21 rfl (lv_at hl 0 rfl) ?_
  refine lv_bipush (v := 7) hx hb dI2_22 (by decide) ?_
  refine va_put (D := D) (ci := 2) (v := .int 7) (ty := tyX2 5) (C := RX2) (T := TX2) (N := 6) hx hb hts (cls_in (ci := 2) (q := (RX2, TX2, 6)) rfl) tyX2 tyX2_ok nmX2 hown hK hP hD hS 0 rfl rfl 5 (by decide) (hts _ (gw_at lkI_1047 rfl)) (fun _ h9 => h9) rfl (tyX2_ok 5 (by decide)) rfl rfl (Nat.le_of_ble_eq_true rfl) dI2_24 (fun H locs hP hD hS => ?_)
  have hP : va_P D vwCl [(h0, .inr (2, [.int 0, .ref q1, .int 0, .int 0, .ref q2, .int 7])), (q1, .inl (cy 1, 14, .inl (fun _ => 0))), (q2, .inl (cy 1, 280, .inl (fun _ => 0)))] H := hP
  have hD : va_D A [(h0, .inr (2, [.int 0, .ref q1, .int 0, .int 0, .ref q2, .int 7])), (q1, .inl (cy 1, 14, .inl (fun _ => 0))), (q2, .inl (cy 1, 280, .inl (fun _ => 0)))] := hD
  refine W.widen (k := 2) (n := 294) (Nat.le_of_ble_eq_true rfl) (Nat.le_of_ble_eq_true rfl) ?_
  exact W.vret hx hb hr (fun t ht hW => ⟨⟨(), rfl, trivial, q1, q2, by rw [ht]; exact hP, hD⟩, hS.F ht⟩) hS.2.2 dI2_27
theorem lkI_1068 : lk 1068 = some (.methodLink RX5 3 Lib.objectInit) := by decide +kernel
theorem lkI_1113 : lk 1113 = some (.arrayClass .int) := by decide +kernel
theorem lkI_1072 : lk 1072 = some (.fieldLink RX5 9 "MockTrials$Rounds" "trialsOf" "[I") := by decide +kernel
theorem lkI_1074 : lk 1074 = some (.fieldLink RX5 15 "MockTrials$Rounds" "byeOf" "[I") := by decide +kernel
theorem lkI_1076 : lk 1076 = some (.fieldLink RX5 18 "MockTrials$Rounds" "accusing" "[I") := by decide +kernel
theorem lkI_1079 : lk 1079 = some (.fieldLink RX5 21 "MockTrials$Rounds" "defending" "[I") := by decide +kernel
theorem lkI_1082 : lk 1082 = some (.fieldLink RX5 24 "MockTrials$Rounds" "judgeAt" "[I") := by decide +kernel
theorem lkI_1084 : lk 1084 = some (.fieldLink RX5 27 "MockTrials$Rounds" "accused" "[I") := by decide +kernel
theorem lkI_1087 : lk 1087 = some (.fieldLink RX5 30 "MockTrials$Rounds" "byes" "[I") := by decide +kernel
theorem lkI_1090 : lk 1090 = some (.fieldLink RX5 33 "MockTrials$Rounds" "meetings" "[I") := by decide +kernel
theorem lkI_1091 : lk 1091 = some (.fieldLink RX5 36 "MockTrials$Rounds" "judgedRows" "[Z") := by decide +kernel
theorem dI5_0 : decode cX5_init 0 = .ok (.aload_n 0, 1) := by decide +kernel
theorem dI5_1 : decode cX5_init 1 = .ok (.invokespecial 3, 3) := by decide +kernel
theorem dI5_4 : decode cX5_init 4 = .ok (.aload_n 0, 1) := by decide +kernel
theorem dI5_5 : decode cX5_init 5 = .ok (.bipush 8, 2) := by decide +kernel
theorem dI5_7 : decode cX5_init 7 = .ok (.newarray .int, 2) := by decide +kernel
theorem dI5_9 : decode cX5_init 9 = .ok (.putfield 9, 3) := by decide +kernel
theorem dI5_12 : decode cX5_init 12 = .ok (.aload_n 0, 1) := by decide +kernel
theorem dI5_13 : decode cX5_init 13 = .ok (.bipush 8, 2) := by decide +kernel
theorem dI5_15 : decode cX5_init 15 = .ok (.newarray .int, 2) := by decide +kernel
theorem dI5_17 : decode cX5_init 17 = .ok (.putfield 15, 3) := by decide +kernel
theorem dI5_20 : decode cX5_init 20 = .ok (.aload_n 0, 1) := by decide +kernel
theorem dI5_21 : decode cX5_init 21 = .ok (.bipush 56, 2) := by decide +kernel
theorem dI5_23 : decode cX5_init 23 = .ok (.newarray .int, 2) := by decide +kernel
theorem dI5_25 : decode cX5_init 25 = .ok (.putfield 18, 3) := by decide +kernel
theorem dI5_28 : decode cX5_init 28 = .ok (.aload_n 0, 1) := by decide +kernel
theorem dI5_29 : decode cX5_init 29 = .ok (.bipush 56, 2) := by decide +kernel
theorem dI5_31 : decode cX5_init 31 = .ok (.newarray .int, 2) := by decide +kernel
theorem dI5_33 : decode cX5_init 33 = .ok (.putfield 21, 3) := by decide +kernel
theorem dI5_36 : decode cX5_init 36 = .ok (.aload_n 0, 1) := by decide +kernel
theorem dI5_37 : decode cX5_init 37 = .ok (.bipush 112, 2) := by decide +kernel
theorem dI5_39 : decode cX5_init 39 = .ok (.newarray .int, 2) := by decide +kernel
theorem dI5_41 : decode cX5_init 41 = .ok (.putfield 24, 3) := by decide +kernel
theorem dI5_44 : decode cX5_init 44 = .ok (.aload_n 0, 1) := by decide +kernel
theorem dI5_45 : decode cX5_init 45 = .ok (.bipush 14, 2) := by decide +kernel
theorem dI5_47 : decode cX5_init 47 = .ok (.newarray .int, 2) := by decide +kernel
theorem dI5_49 : decode cX5_init 49 = .ok (.putfield 27, 3) := by decide +kernel
theorem dI5_52 : decode cX5_init 52 = .ok (.aload_n 0, 1) := by decide +kernel
theorem dI5_53 : decode cX5_init 53 = .ok (.bipush 14, 2) := by decide +kernel
theorem dI5_55 : decode cX5_init 55 = .ok (.newarray .int, 2) := by decide +kernel
theorem dI5_57 : decode cX5_init 57 = .ok (.putfield 30, 3) := by decide +kernel
theorem dI5_60 : decode cX5_init 60 = .ok (.aload_n 0, 1) := by decide +kernel
theorem dI5_61 : decode cX5_init 61 = .ok (.sipush 196, 3) := by decide +kernel
theorem dI5_64 : decode cX5_init 64 = .ok (.newarray .int, 2) := by decide +kernel
theorem dI5_66 : decode cX5_init 66 = .ok (.putfield 33, 3) := by decide +kernel
theorem dI5_69 : decode cX5_init 69 = .ok (.aload_n 0, 1) := by decide +kernel
theorem dI5_70 : decode cX5_init 70 = .ok (.sipush 280, 3) := by decide +kernel
theorem dI5_73 : decode cX5_init 73 = .ok (.newarray .boolean, 2) := by decide +kernel
theorem dI5_75 : decode cX5_init 75 = .ok (.putfield 36, 3) := by decide +kernel
theorem dI5_78 : decode cX5_init 78 = .ok (.return_, 1) := by decide +kernel
theorem dfI5 : ∀ j, j < 10 → defaultValue (tyX5 j) = vp_V [.int 0, .null, .null, .null, .null, .null, .null, .null, .null, .null] j := by
  intro j hj
  match j, hj with
  | 0, _ => rfl
  | 1, _ => rfl
  | 2, _ => rfl
  | 3, _ => rfl
  | 4, _ => rfl
  | 5, _ => rfl
  | 6, _ => rfl
  | 7, _ => rfl
  | 8, _ => rfl
  | 9, _ => rfl
  | k + 10, hj => exact absurd hj (by omega)
theorem gI5 : GoodIn GW (.code yX5_init cX5_init 1 none :: GW) := ini_good (lk_mem (b := 1067) (by decide +kernel))
set_option maxHeartbeats 4000000 in
set_option maxRecDepth 100000 in
theorem cI5 (l : Launch) (D : va_G) (cy : Nat → ClassId) (h0 sz : Nat) : Met l yX5_init (.code yX5_init cX5_init 1 none :: GW) ({ frames := 1, cells := 9, slots := 744, locals := 20 }) (va_Pc [.ref h0] (PI D cy sz [(h0, .inr (5, [.int 0, .null, .null, .null, .null, .null, .null, .null, .null, .null]))])) (va_Qv (fun _ : Unit => True) (fun _ t => ∃ q1 q2 q3 q4 q5 q6 q7 q8 q9, va_P D vwCl [(h0, .inr (5, [.int 0, .ref q1, .ref q2, .ref q3, .ref q4, .ref q5, .ref q6, .ref q7, .ref q8, .ref q9])), (q1, .inl (cy 0, 8, .inl (fun _ => 0))), (q2, .inl (cy 0, 8, .inl (fun _ => 0))), (q3, .inl (cy 0, 56, .inl (fun _ => 0))), (q4, .inl (cy 0, 56, .inl (fun _ => 0))), (q5, .inl (cy 0, 112, .inl (fun _ => 0))), (q6, .inl (cy 0, 14, .inl (fun _ => 0))), (q7, .inl (cy 0, 14, .inl (fun _ => 0))), (q8, .inl (cy 0, 196, .inl (fun _ => 0))), (q9, .inl (cy 1, 280, .inl (fun _ => 0)))] t.heap ∧ va_D (va_A [(h0, .inr (5, [.int 0, .null, .null, .null, .null, .null, .null, .null, .null, .null]))] sz) [(h0, .inr (5, [.int 0, .ref q1, .ref q2, .ref q3, .ref q4, .ref q5, .ref q6, .ref q7, .ref q8, .ref q9])), (q1, .inl (cy 0, 8, .inl (fun _ => 0))), (q2, .inl (cy 0, 8, .inl (fun _ => 0))), (q3, .inl (cy 0, 56, .inl (fun _ => 0))), (q4, .inl (cy 0, 56, .inl (fun _ => 0))), (q5, .inl (cy 0, 112, .inl (fun _ => 0))), (q6, .inl (cy 0, 14, .inl (fun _ => 0))), (q7, .inl (cy 0, 14, .inl (fun _ => 0))), (q8, .inl (cy 0, 196, .inl (fun _ => 0))), (q9, .inl (cy 1, 280, .inl (fun _ => 0)))]) (va_A [(h0, .inr (5, [.int 0, .null, .null, .null, .null, .null, .null, .null, .null, .null]))] sz)) 9 744 (va_A [(h0, .inr (5, [.int 0, .null, .null, .null, .null, .null, .null, .null, .null, .null]))] sz) := by
  refine Met.ofW (cc := cX5_init) (maxL := 1) (ret := none) (by decide +kernel) rfl ?_
  intro p e s m args below meth c s₁ B hml hv
  obtain ⟨rfl, hsz, hP, hK, hD0, hN⟩ := hv
  have hx := B.exec
  have hb := B.bytes
  have hr := B.returns
  have hts0 := atoms_spec (ws := .code yX5_init cX5_init 1 none :: GW) B.pre
  have hts : ∀ v ∈ GW, v.before _ s = true := fun v hv => hts0 v (List.mem_cons_of_mem _ hv)
  have hown : s.vm.findClass RX5 = some m.cls := findClass_of_methodNamed B.named
  have hlocks := B.notSynchronized
  have hin : meth.name = "<init>" := (name_of_methodNamed B.named B.method).1
  subst hsz
  have hD := hD0.self (sz := s.heap.size)
  generalize hAe : va_A [(h0, .inr (5, [.int 0, .null, .null, .null, .null, .null, .null, .null, .null, .null]))] s.heap.size = A at hD ⊢
  have hA : ∀ q : Nat, s.heap.size ≤ q → A q := fun q h => by rw [← hAe]; exact Or.inr h
  have hS : va_S A s.heap s.heap [] := va_S.rf
  have hP : va_P D vwCl [(h0, .inr (5, [.int 0, .null, .null, .null, .null, .null, .null, .null, .null, .null]))] s.heap := hP
  have hl := lv_entry ([.ref h0]) (n := 1) (Nat.le_of_ble_eq_true rfl)
  rw [lg_entry_eq]
  generalize (lg_sl ([.ref h0]) ++ List.replicate (1 - (lg_sl ([.ref h0])).length) Slot.unset).toArray = ls at hl ⊢
  have hl : lv_has ls 1 [(0, .ref h0)] := hl
  refine lv_aload_n hx hb dI5_0 rfl (lv_at hl 0 rfl) ?_
  refine W.objInit hx hb hown (hts _ (gw_at lkI_1068 rfl)) (hts _ (gw_at lkI_1027 rfl)) (hts _ (gw_at lkI_1028 rfl)) rfl (by rw [hml]; exact hl.1) rfl dI5_1 (Nat.le_of_ble_eq_true rfl) (Nat.le_of_ble_eq_true rfl) ?_
  refine W.eq (g2 := F0 m 4 ls []) rfl ?_
  refine lv_aload_n hx hb dI5_4 rfl (lv_at hl 0 rfl) ?_
  refine lv_bipush (v := 8) hx hb dI5_5 (by decide) ?_
  refine cn_newa (N' := 8) (ty := .int) hx hb (hts _ (gw_at lkI_1113 rfl)) rfl hK hP hD hS hA 0 rfl (fun _ h => h) (fun _ => rfl) (by decide) (by decide) (by decide) (Nat.le_of_ble_eq_true rfl) (Nat.le_of_ble_eq_true rfl) dI5_7 (fun q1 H hP hD hS => ?_)
  have hP : va_P D vwCl [(h0, .inr (5, [.int 0, .null, .null, .null, .null, .null, .null, .null, .null, .null])), (q1, .inl (cy 0, 8, .inl (fun _ => 0)))] H := hP
  have hD : va_D A [(h0, .inr (5, [.int 0, .null, .null, .null, .null, .null, .null, .null, .null, .null])), (q1, .inl (cy 0, 8, .inl (fun _ => 0)))] := hD
  refine va_putF (D := D) (ci := 5) (v := .ref q1) (ty := tyX5 1) (C := RX5) (T := TX5) (N := 10) hx hb hts (cls_in (ci := 5) (q := (RX5, TX5, 10)) rfl) tyX5 tyX5_ok nmX5 hown hK hP hD hS 0 rfl rfl 1 (by decide) (hts _ (gw_at lkI_1072 rfl)) (fun _ h9 => h9) rfl hin rfl (tyX5_ok 1 (by decide)) rfl rfl (Nat.le_of_ble_eq_true rfl) dI5_9 (fun H locs hP hD hS => ?_)
  have hP : va_P D vwCl [(h0, .inr (5, [.int 0, .ref q1, .null, .null, .null, .null, .null, .null, .null, .null])), (q1, .inl (cy 0, 8, .inl (fun _ => 0)))] H := hP
  have hD : va_D A [(h0, .inr (5, [.int 0, .ref q1, .null, .null, .null, .null, .null, .null, .null, .null])), (q1, .inl (cy 0, 8, .inl (fun _ => 0)))] := hD
  refine lv_aload_n hx hb dI5_12 rfl (lv_at hl 0 rfl) ?_
  refine lv_bipush (v := 8) hx hb dI5_13 (by decide) ?_
  refine cn_newa (N' := 8) (ty := .int) hx hb (hts _ (gw_at lkI_1113 rfl)) rfl hK hP hD hS hA 0 rfl (fun _ h => h) (fun _ => rfl) (by decide) (by decide) (by decide) (Nat.le_of_ble_eq_true rfl) (Nat.le_of_ble_eq_true rfl) dI5_15 (fun q2 H hP hD hS => ?_)
  have hP : va_P D vwCl [(h0, .inr (5, [.int 0, .ref q1, .null, .null, .null, .null, .null, .null, .null, .null])), (q1, .inl (cy 0, 8, .inl (fun _ => 0))), (q2, .inl (cy 0, 8, .inl (fun _ => 0)))] H := hP
  have hD : va_D A [(h0, .inr (5, [.int 0, .ref q1, .null, .null, .null, .null, .null, .null, .null, .null])), (q1, .inl (cy 0, 8, .inl (fun _ => 0))), (q2, .inl (cy 0, 8, .inl (fun _ => 0)))] := hD
  refine va_putF (D := D) (ci := 5) (v := .ref q2) (ty := tyX5 2) (C := RX5) (T := TX5) (N := 10) hx hb hts (cls_in (ci := 5) (q := (RX5, TX5, 10)) rfl) tyX5 tyX5_ok nmX5 hown hK hP hD hS 0 rfl rfl 2 (by decide) (hts _ (gw_at lkI_1074 rfl)) (fun _ h9 => h9) rfl hin rfl (tyX5_ok 2 (by decide)) rfl rfl (Nat.le_of_ble_eq_true rfl) dI5_17 (fun H locs hP hD hS => ?_)
  have hP : va_P D vwCl [(h0, .inr (5, [.int 0, .ref q1, .ref q2, .null, .null, .null, .null, .null, .null, .null])), (q1, .inl (cy 0, 8, .inl (fun _ => 0))), (q2, .inl (cy 0, 8, .inl (fun _ => 0)))] H := hP
  have hD : va_D A [(h0, .inr (5, [.int 0, .ref q1, .ref q2, .null, .null, .null, .null, .null, .null, .null])), (q1, .inl (cy 0, 8, .inl (fun _ => 0))), (q2, .inl (cy 0, 8, .inl (fun _ => 0)))] := hD
  refine lv_aload_n hx hb dI5_20 rfl (lv_at hl 0 rfl) ?_
  refine lv_bipush (v := 56) hx hb dI5_21 (by decide) ?_
  refine cn_newa (N' := 56) (ty := .int) hx hb (hts _ (gw_at lkI_1113 rfl)) rfl hK hP hD hS hA 0 rfl (fun _ h => h) (fun _ => rfl) (by decide) (by decide) (by decide) (Nat.le_of_ble_eq_true rfl) (Nat.le_of_ble_eq_true rfl) dI5_23 (fun q3 H hP hD hS => ?_)
  have hP : va_P D vwCl [(h0, .inr (5, [.int 0, .ref q1, .ref q2, .null, .null, .null, .null, .null, .null, .null])), (q1, .inl (cy 0, 8, .inl (fun _ => 0))), (q2, .inl (cy 0, 8, .inl (fun _ => 0))), (q3, .inl (cy 0, 56, .inl (fun _ => 0)))] H := hP
  have hD : va_D A [(h0, .inr (5, [.int 0, .ref q1, .ref q2, .null, .null, .null, .null, .null, .null, .null])), (q1, .inl (cy 0, 8, .inl (fun _ => 0))), (q2, .inl (cy 0, 8, .inl (fun _ => 0))), (q3, .inl (cy 0, 56, .inl (fun _ => 0)))] := hD
  refine va_putF (D := D) (ci := 5) (v := .ref q3) (ty := tyX5 3) (C := RX5) (T := TX5) (N := 10) hx hb hts (cls_in (ci := 5) (q := (RX5, TX5, 10)) rfl) tyX5 tyX5_ok nmX5 hown hK hP hD hS 0 rfl rfl 3 (by decide) (hts _ (gw_at lkI_1076 rfl)) (fun _ h9 => h9) rfl hin rfl (tyX5_ok 3 (by decide)) rfl rfl (Nat.le_of_ble_eq_true rfl) dI5_25 (fun H locs hP hD hS => ?_)
  have hP : va_P D vwCl [(h0, .inr (5, [.int 0, .ref q1, .ref q2, .ref q3, .null, .null, .null, .null, .null, .null])), (q1, .inl (cy 0, 8, .inl (fun _ => 0))), (q2, .inl (cy 0, 8, .inl (fun _ => 0))), (q3, .inl (cy 0, 56, .inl (fun _ => 0)))] H := hP
  have hD : va_D A [(h0, .inr (5, [.int 0, .ref q1, .ref q2, .ref q3, .null, .null, .null, .null, .null, .null])), (q1, .inl (cy 0, 8, .inl (fun _ => 0))), (q2, .inl (cy 0, 8, .inl (fun _ => 0))), (q3, .inl (cy 0, 56, .inl (fun _ => 0)))] := hD
  refine lv_aload_n hx hb dI5_28 rfl (lv_at hl 0 rfl) ?_
  refine lv_bipush (v := 56) hx hb dI5_29 (by decide) ?_
  refine cn_newa (N' := 56) (ty := .int) hx hb (hts _ (gw_at lkI_1113 rfl)) rfl hK hP hD hS hA 0 rfl (fun _ h => h) (fun _ => rfl) (by decide) (by decide) (by decide) (Nat.le_of_ble_eq_true rfl) (Nat.le_of_ble_eq_true rfl) dI5_31 (fun q4 H hP hD hS => ?_)
  have hP : va_P D vwCl [(h0, .inr (5, [.int 0, .ref q1, .ref q2, .ref q3, .null, .null, .null, .null, .null, .null])), (q1, .inl (cy 0, 8, .inl (fun _ => 0))), (q2, .inl (cy 0, 8, .inl (fun _ => 0))), (q3, .inl (cy 0, 56, .inl (fun _ => 0))), (q4, .inl (cy 0, 56, .inl (fun _ => 0)))] H := hP
  have hD : va_D A [(h0, .inr (5, [.int 0, .ref q1, .ref q2, .ref q3, .null, .null, .null, .null, .null, .null])), (q1, .inl (cy 0, 8, .inl (fun _ => 0))), (q2, .inl (cy 0, 8, .inl (fun _ => 0))), (q3, .inl (cy 0, 56, .inl (fun _ => 0))), (q4, .inl (cy 0, 56, .inl (fun _ => 0)))] := hD
  refine va_putF (D := D) (ci := 5) (v := .ref q4) (ty := tyX5 4) (C := RX5) (T := TX5) (N := 10) hx hb hts (cls_in (ci := 5) (q := (RX5, TX5, 10)) rfl) tyX5 tyX5_ok nmX5 hown hK hP hD hS 0 rfl rfl 4 (by decide) (hts _ (gw_at lkI_1079 rfl)) (fun _ h9 => h9) rfl hin rfl (tyX5_ok 4 (by decide)) rfl rfl (Nat.le_of_ble_eq_true rfl) dI5_33 (fun H locs hP hD hS => ?_)
  have hP : va_P D vwCl [(h0, .inr (5, [.int 0, .ref q1, .ref q2, .ref q3, .ref q4, .null, .null, .null, .null, .null])), (q1, .inl (cy 0, 8, .inl (fun _ => 0))), (q2, .inl (cy 0, 8, .inl (fun _ => 0))), (q3, .inl (cy 0, 56, .inl (fun _ => 0))), (q4, .inl (cy 0, 56, .inl (fun _ => 0)))] H := hP
  have hD : va_D A [(h0, .inr (5, [.int 0, .ref q1, .ref q2, .ref q3, .ref q4, .null, .null, .null, .null, .null])), (q1, .inl (cy 0, 8, .inl (fun _ => 0))), (q2, .inl (cy 0, 8, .inl (fun _ => 0))), (q3, .inl (cy 0, 56, .inl (fun _ => 0))), (q4, .inl (cy 0, 56, .inl (fun _ => 0)))] := hD
  refine lv_aload_n hx hb dI5_36 rfl (lv_at hl 0 rfl) ?_
  refine lv_bipush (v := 112) hx hb dI5_37 (by decide) ?_
  refine cn_newa (N' := 112) (ty := .int) hx hb (hts _ (gw_at lkI_1113 rfl)) rfl hK hP hD hS hA 0 rfl (fun _ h => h) (fun _ => rfl) (by decide) (by decide) (by decide) (Nat.le_of_ble_eq_true rfl) (Nat.le_of_ble_eq_true rfl) dI5_39 (fun q5 H hP hD hS => ?_)
  have hP : va_P D vwCl [(h0, .inr (5, [.int 0, .ref q1, .ref q2, .ref q3, .ref q4, .null, .null, .null, .null, .null])), (q1, .inl (cy 0, 8, .inl (fun _ => 0))), (q2, .inl (cy 0, 8, .inl (fun _ => 0))), (q3, .inl (cy 0, 56, .inl (fun _ => 0))), (q4, .inl (cy 0, 56, .inl (fun _ => 0))), (q5, .inl (cy 0, 112, .inl (fun _ => 0)))] H := hP
  have hD : va_D A [(h0, .inr (5, [.int 0, .ref q1, .ref q2, .ref q3, .ref q4, .null, .null, .null, .null, .null])), (q1, .inl (cy 0, 8, .inl (fun _ => 0))), (q2, .inl (cy 0, 8, .inl (fun _ => 0))), (q3, .inl (cy 0, 56, .inl (fun _ => 0))), (q4, .inl (cy 0, 56, .inl (fun _ => 0))), (q5, .inl (cy 0, 112, .inl (fun _ => 0)))] := hD
  refine va_putF (D := D) (ci := 5) (v := .ref q5) (ty := tyX5 5) (C := RX5) (T := TX5) (N := 10) hx hb hts (cls_in (ci := 5) (q := (RX5, TX5, 10)) rfl) tyX5 tyX5_ok nmX5 hown hK hP hD hS 0 rfl rfl 5 (by decide) (hts _ (gw_at lkI_1082 rfl)) (fun _ h9 => h9) rfl hin rfl (tyX5_ok 5 (by decide)) rfl rfl (Nat.le_of_ble_eq_true rfl) dI5_41 (fun H locs hP hD hS => ?_)
  have hP : va_P D vwCl [(h0, .inr (5, [.int 0, .ref q1, .ref q2, .ref q3, .ref q4, .ref q5, .null, .null, .null, .null])), (q1, .inl (cy 0, 8, .inl (fun _ => 0))), (q2, .inl (cy 0, 8, .inl (fun _ => 0))), (q3, .inl (cy 0, 56, .inl (fun _ => 0))), (q4, .inl (cy 0, 56, .inl (fun _ => 0))), (q5, .inl (cy 0, 112, .inl (fun _ => 0)))] H := hP
  have hD : va_D A [(h0, .inr (5, [.int 0, .ref q1, .ref q2, .ref q3, .ref q4, .ref q5, .null, .null, .null, .null])), (q1, .inl (cy 0, 8, .inl (fun _ => 0))), (q2, .inl (cy 0, 8, .inl (fun _ => 0))), (q3, .inl (cy 0, 56, .inl (fun _ => 0))), (q4, .inl (cy 0, 56, .inl (fun _ => 0))), (q5, .inl (cy 0, 112, .inl (fun _ => 0)))] := hD
  refine lv_aload_n hx hb dI5_44 rfl (lv_at hl 0 rfl) ?_
  refine lv_bipush (v := 14) hx hb dI5_45 (by decide) ?_
  refine cn_newa (N' := 14) (ty := .int) hx hb (hts _ (gw_at lkI_1113 rfl)) rfl hK hP hD hS hA 0 rfl (fun _ h => h) (fun _ => rfl) (by decide) (by decide) (by decide) (Nat.le_of_ble_eq_true rfl) (Nat.le_of_ble_eq_true rfl) dI5_47 (fun q6 H hP hD hS => ?_)
  have hP : va_P D vwCl [(h0, .inr (5, [.int 0, .ref q1, .ref q2, .ref q3, .ref q4, .ref q5, .null, .null, .null, .null])), (q1, .inl (cy 0, 8, .inl (fun _ => 0))), (q2, .inl (cy 0, 8, .inl (fun _ => 0))), (q3, .inl (cy 0, 56, .inl (fun _ => 0))), (q4, .inl (cy 0, 56, .inl (fun _ => 0))), (q5, .inl (cy 0, 112, .inl (fun _ => 0))), (q6, .inl (cy 0, 14, .inl (fun _ => 0)))] H := hP
  have hD : va_D A [(h0, .inr (5, [.int 0, .ref q1, .ref q2, .ref q3, .ref q4, .ref q5, .null, .null, .null, .null])), (q1, .inl (cy 0, 8, .inl (fun _ => 0))), (q2, .inl (cy 0, 8, .inl (fun _ => 0))), (q3, .inl (cy 0, 56, .inl (fun _ => 0))), (q4, .inl (cy 0, 56, .inl (fun _ => 0))), (q5, .inl (cy 0, 112, .inl (fun _ => 0))), (q6, .inl (cy 0, 14, .inl (fun _ => 0)))] := hD
  refine va_putF (D := D) (ci := 5) (v := .ref q6) (ty := tyX5 6) (C := RX5) (T := TX5) (N := 10) hx hb hts (cls_in (ci := 5) (q := (RX5, TX5, 10)) rfl) tyX5 tyX5_ok nmX5 hown hK hP hD hS 0 rfl rfl 6 (by decide) (hts _ (gw_at lkI_1084 rfl)) (fun _ h9 => h9) rfl hin rfl (tyX5_ok 6 (by decide)) rfl rfl (Nat.le_of_ble_eq_true rfl) dI5_49 (fun H locs hP hD hS => ?_)
  have hP : va_P D vwCl [(h0, .inr (5, [.int 0, .ref q1, .ref q2, .ref q3, .ref q4, .ref q5, .ref q6, .null, .null, .null])), (q1, .inl (cy 0, 8, .inl (fun _ => 0))), (q2, .inl (cy 0, 8, .inl (fun _ => 0))), (q3, .inl (cy 0, 56, .inl (fun _ => 0))), (q4, .inl (cy 0, 56, .inl (fun _ => 0))), (q5, .inl (cy 0, 112, .inl (fun _ => 0))), (q6, .inl (cy 0, 14, .inl (fun _ => 0)))] H := hP
  have hD : va_D A [(h0, .inr (5, [.int 0, .ref q1, .ref q2, .ref q3, .ref q4, .ref q5, .ref q6, .null, .null, .null])), (q1, .inl (cy 0, 8, .inl (fun _ => 0))), (q2, .inl (cy 0, 8, .inl (fun _ => 0))), (q3, .inl (cy 0, 56, .inl (fun _ => 0))), (q4, .inl (cy 0, 56, .inl (fun _ => 0))), (q5, .inl (cy 0, 112, .inl (fun _ => 0))), (q6, .inl (cy 0, 14, .inl (fun _ => 0)))] := hD
  refine lv_aload_n hx hb dI5_52 rfl (lv_at hl 0 rfl) ?_
  refine lv_bipush (v := 14) hx hb dI5_53 (by decide) ?_
  refine cn_newa (N' := 14) (ty := .int) hx hb (hts _ (gw_at lkI_1113 rfl)) rfl hK hP hD hS hA 0 rfl (fun _ h => h) (fun _ => rfl) (by decide) (by decide) (by decide) (Nat.le_of_ble_eq_true rfl) (Nat.le_of_ble_eq_true rfl) dI5_55 (fun q7 H hP hD hS => ?_)
  have hP : va_P D vwCl [(h0, .inr (5, [.int 0, .ref q1, .ref q2, .ref q3, .ref q4, .ref q5, .ref q6, .null, .null, .null])), (q1, .inl (cy 0, 8, .inl (fun _ => 0))), (q2, .inl (cy 0, 8, .inl (fun _ => 0))), (q3, .inl (cy 0, 56, .inl (fun _ => 0))), (q4, .inl (cy 0, 56, .inl (fun _ => 0))), (q5, .inl (cy 0, 112, .inl (fun _ => 0))), (q6, .inl (cy 0, 14, .inl (fun _ => 0))), (q7, .inl (cy 0, 14, .inl (fun _ => 0)))] H := hP
  have hD : va_D A [(h0, .inr (5, [.int 0, .ref q1, .ref q2, .ref q3, .ref q4, .ref q5, .ref q6, .null, .null, .null])), (q1, .inl (cy 0, 8, .inl (fun _ => 0))), (q2, .inl (cy 0, 8, .inl (fun _ => 0))), (q3, .inl (cy 0, 56, .inl (fun _ => 0))), (q4, .inl (cy 0, 56, .inl (fun _ => 0))), (q5, .inl (cy 0, 112, .inl (fun _ => 0))), (q6, .inl (cy 0, 14, .inl (fun _ => 0))), (q7, .inl (cy 0, 14, .inl (fun _ => 0)))] := hD
  refine va_putF (D := D) (ci := 5) (v := .ref q7) (ty := tyX5 7) (C := RX5) (T := TX5) (N := 10) hx hb hts (cls_in (ci := 5) (q := (RX5, TX5, 10)) rfl) tyX5 tyX5_ok nmX5 hown hK hP hD hS 0 rfl rfl 7 (by decide) (hts _ (gw_at lkI_1087 rfl)) (fun _ h9 => h9) rfl hin rfl (tyX5_ok 7 (by decide)) rfl rfl (Nat.le_of_ble_eq_true rfl) dI5_57 (fun H locs hP hD hS => ?_)
  have hP : va_P D vwCl [(h0, .inr (5, [.int 0, .ref q1, .ref q2, .ref q3, .ref q4, .ref q5, .ref q6, .ref q7, .null, .null])), (q1, .inl (cy 0, 8, .inl (fun _ => 0))), (q2, .inl (cy 0, 8, .inl (fun _ => 0))), (q3, .inl (cy 0, 56, .inl (fun _ => 0))), (q4, .inl (cy 0, 56, .inl (fun _ => 0))), (q5, .inl (cy 0, 112, .inl (fun _ => 0))), (q6, .inl (cy 0, 14, .inl (fun _ => 0))), (q7, .inl (cy 0, 14, .inl (fun _ => 0)))] H := hP
  have hD : va_D A [(h0, .inr (5, [.int 0, .ref q1, .ref q2, .ref q3, .ref q4, .ref q5, .ref q6, .ref q7, .null, .null])), (q1, .inl (cy 0, 8, .inl (fun _ => 0))), (q2, .inl (cy 0, 8, .inl (fun _ => 0))), (q3, .inl (cy 0, 56, .inl (fun _ => 0))), (q4, .inl (cy 0, 56, .inl (fun _ => 0))), (q5, .inl (cy 0, 112, .inl (fun _ => 0))), (q6, .inl (cy 0, 14, .inl (fun _ => 0))), (q7, .inl (cy 0, 14, .inl (fun _ => 0)))] := hD
  refine lv_aload_n hx hb dI5_60 rfl (lv_at hl 0 rfl) ?_
  refine lv_sipush (v := 196) hx hb dI5_61 (by decide) ?_
  refine cn_newa (N' := 196) (ty := .int) hx hb (hts _ (gw_at lkI_1113 rfl)) rfl hK hP hD hS hA 0 rfl (fun _ h => h) (fun _ => rfl) (by decide) (by decide) (by decide) (Nat.le_of_ble_eq_true rfl) (Nat.le_of_ble_eq_true rfl) dI5_64 (fun q8 H hP hD hS => ?_)
  have hP : va_P D vwCl [(h0, .inr (5, [.int 0, .ref q1, .ref q2, .ref q3, .ref q4, .ref q5, .ref q6, .ref q7, .null, .null])), (q1, .inl (cy 0, 8, .inl (fun _ => 0))), (q2, .inl (cy 0, 8, .inl (fun _ => 0))), (q3, .inl (cy 0, 56, .inl (fun _ => 0))), (q4, .inl (cy 0, 56, .inl (fun _ => 0))), (q5, .inl (cy 0, 112, .inl (fun _ => 0))), (q6, .inl (cy 0, 14, .inl (fun _ => 0))), (q7, .inl (cy 0, 14, .inl (fun _ => 0))), (q8, .inl (cy 0, 196, .inl (fun _ => 0)))] H := hP
  have hD : va_D A [(h0, .inr (5, [.int 0, .ref q1, .ref q2, .ref q3, .ref q4, .ref q5, .ref q6, .ref q7, .null, .null])), (q1, .inl (cy 0, 8, .inl (fun _ => 0))), (q2, .inl (cy 0, 8, .inl (fun _ => 0))), (q3, .inl (cy 0, 56, .inl (fun _ => 0))), (q4, .inl (cy 0, 56, .inl (fun _ => 0))), (q5, .inl (cy 0, 112, .inl (fun _ => 0))), (q6, .inl (cy 0, 14, .inl (fun _ => 0))), (q7, .inl (cy 0, 14, .inl (fun _ => 0))), (q8, .inl (cy 0, 196, .inl (fun _ => 0)))] := hD
  refine va_putF (D := D) (ci := 5) (v := .ref q8) (ty := tyX5 8) (C := RX5) (T := TX5) (N := 10) hx hb hts (cls_in (ci := 5) (q := (RX5, TX5, 10)) rfl) tyX5 tyX5_ok nmX5 hown hK hP hD hS 0 rfl rfl 8 (by decide) (hts _ (gw_at lkI_1090 rfl)) (fun _ h9 => h9) rfl hin rfl (tyX5_ok 8 (by decide)) rfl rfl (Nat.le_of_ble_eq_true rfl) dI5_66 (fun H locs hP hD hS => ?_)
  have hP : va_P D vwCl [(h0, .inr (5, [.int 0, .ref q1, .ref q2, .ref q3, .ref q4, .ref q5, .ref q6, .ref q7, .ref q8, .null])), (q1, .inl (cy 0, 8, .inl (fun _ => 0))), (q2, .inl (cy 0, 8, .inl (fun _ => 0))), (q3, .inl (cy 0, 56, .inl (fun _ => 0))), (q4, .inl (cy 0, 56, .inl (fun _ => 0))), (q5, .inl (cy 0, 112, .inl (fun _ => 0))), (q6, .inl (cy 0, 14, .inl (fun _ => 0))), (q7, .inl (cy 0, 14, .inl (fun _ => 0))), (q8, .inl (cy 0, 196, .inl (fun _ => 0)))] H := hP
  have hD : va_D A [(h0, .inr (5, [.int 0, .ref q1, .ref q2, .ref q3, .ref q4, .ref q5, .ref q6, .ref q7, .ref q8, .null])), (q1, .inl (cy 0, 8, .inl (fun _ => 0))), (q2, .inl (cy 0, 8, .inl (fun _ => 0))), (q3, .inl (cy 0, 56, .inl (fun _ => 0))), (q4, .inl (cy 0, 56, .inl (fun _ => 0))), (q5, .inl (cy 0, 112, .inl (fun _ => 0))), (q6, .inl (cy 0, 14, .inl (fun _ => 0))), (q7, .inl (cy 0, 14, .inl (fun _ => 0))), (q8, .inl (cy 0, 196, .inl (fun _ => 0)))] := hD
  refine lv_aload_n hx hb dI5_69 rfl (lv_at hl 0 rfl) ?_
  refine lv_sipush (v := 280) hx hb dI5_70 (by decide) ?_
  refine cn_newa (N' := 280) (ty := .boolean) hx hb (hts _ (gw_at lkI_1062 rfl)) rfl hK hP hD hS hA 1 rfl (fun _ h => h) (fun _ => rfl) (by decide) (by decide) (by decide) (Nat.le_of_ble_eq_true rfl) (Nat.le_of_ble_eq_true rfl) dI5_73 (fun q9 H hP hD hS => ?_)
  have hP : va_P D vwCl [(h0, .inr (5, [.int 0, .ref q1, .ref q2, .ref q3, .ref q4, .ref q5, .ref q6, .ref q7, .ref q8, .null])), (q1, .inl (cy 0, 8, .inl (fun _ => 0))), (q2, .inl (cy 0, 8, .inl (fun _ => 0))), (q3, .inl (cy 0, 56, .inl (fun _ => 0))), (q4, .inl (cy 0, 56, .inl (fun _ => 0))), (q5, .inl (cy 0, 112, .inl (fun _ => 0))), (q6, .inl (cy 0, 14, .inl (fun _ => 0))), (q7, .inl (cy 0, 14, .inl (fun _ => 0))), (q8, .inl (cy 0, 196, .inl (fun _ => 0))), (q9, .inl (cy 1, 280, .inl (fun _ => 0)))] H := hP
  have hD : va_D A [(h0, .inr (5, [.int 0, .ref q1, .ref q2, .ref q3, .ref q4, .ref q5, .ref q6, .ref q7, .ref q8, .null])), (q1, .inl (cy 0, 8, .inl (fun _ => 0))), (q2, .inl (cy 0, 8, .inl (fun _ => 0))), (q3, .inl (cy 0, 56, .inl (fun _ => 0))), (q4, .inl (cy 0, 56, .inl (fun _ => 0))), (q5, .inl (cy 0, 112, .inl (fun _ => 0))), (q6, .inl (cy 0, 14, .inl (fun _ => 0))), (q7, .inl (cy 0, 14, .inl (fun _ => 0))), (q8, .inl (cy 0, 196, .inl (fun _ => 0))), (q9, .inl (cy 1, 280, .inl (fun _ => 0)))] := hD
  refine va_putF (D := D) (ci := 5) (v := .ref q9) (ty := tyX5 9) (C := RX5) (T := TX5) (N := 10) hx hb hts (cls_in (ci := 5) (q := (RX5, TX5, 10)) rfl) tyX5 tyX5_ok nmX5 hown hK hP hD hS 0 rfl rfl 9 (by decide) (hts _ (gw_at lkI_1091 rfl)) (fun _ h9 => h9) rfl hin rfl (tyX5_ok 9 (by decide)) rfl rfl (Nat.le_of_ble_eq_true rfl) dI5_75 (fun H locs hP hD hS => ?_)
  have hP : va_P D vwCl [(h0, .inr (5, [.int 0, .ref q1, .ref q2, .ref q3, .ref q4, .ref q5, .ref q6, .ref q7, .ref q8, .ref q9])), (q1, .inl (cy 0, 8, .inl (fun _ => 0))), (q2, .inl (cy 0, 8, .inl (fun _ => 0))), (q3, .inl (cy 0, 56, .inl (fun _ => 0))), (q4, .inl (cy 0, 56, .inl (fun _ => 0))), (q5, .inl (cy 0, 112, .inl (fun _ => 0))), (q6, .inl (cy 0, 14, .inl (fun _ => 0))), (q7, .inl (cy 0, 14, .inl (fun _ => 0))), (q8, .inl (cy 0, 196, .inl (fun _ => 0))), (q9, .inl (cy 1, 280, .inl (fun _ => 0)))] H := hP
  have hD : va_D A [(h0, .inr (5, [.int 0, .ref q1, .ref q2, .ref q3, .ref q4, .ref q5, .ref q6, .ref q7, .ref q8, .ref q9])), (q1, .inl (cy 0, 8, .inl (fun _ => 0))), (q2, .inl (cy 0, 8, .inl (fun _ => 0))), (q3, .inl (cy 0, 56, .inl (fun _ => 0))), (q4, .inl (cy 0, 56, .inl (fun _ => 0))), (q5, .inl (cy 0, 112, .inl (fun _ => 0))), (q6, .inl (cy 0, 14, .inl (fun _ => 0))), (q7, .inl (cy 0, 14, .inl (fun _ => 0))), (q8, .inl (cy 0, 196, .inl (fun _ => 0))), (q9, .inl (cy 1, 280, .inl (fun _ => 0)))] := hD
  refine W.widen (k := 9) (n := 744) (Nat.le_of_ble_eq_true rfl) (Nat.le_of_ble_eq_true rfl) ?_
  exact W.vret hx hb hr (fun t ht hW => ⟨⟨(), rfl, trivial, q1, q2, q3, q4, q5, q6, q7, q8, q9, by rw [ht]; exact hP, hD⟩, hS.F ht⟩) hS.2.2 dI5_78
theorem lkI_1119 : lk 1119 = some (.methodLink RX0 3 Lib.objectInit) := by decide +kernel
theorem lkI_1122 : lk 1122 = some (.fieldLink RX0 9 "MockTrials$Ballots" "seatOf" "[I") := by decide +kernel
theorem lkI_1123 : lk 1123 = some (.fieldLink RX0 15 "MockTrials$Ballots" "accusing" "[I") := by decide +kernel
theorem lkI_1126 : lk 1126 = some (.fieldLink RX0 18 "MockTrials$Ballots" "defending" "[I") := by decide +kernel
theorem lkI_1129 : lk 1129 = some (.fieldLink RX0 21 "MockTrials$Ballots" "hourOf" "[I") := by decide +kernel
theorem dI0_0 : decode cX0_init 0 = .ok (.aload_n 0, 1) := by decide +kernel
theorem dI0_1 : decode cX0_init 1 = .ok (.invokespecial 3, 3) := by decide +kernel
theorem dI0_4 : decode cX0_init 4 = .ok (.aload_n 0, 1) := by decide +kernel
theorem dI0_5 : decode cX0_init 5 = .ok (.sipush 400, 3) := by decide +kernel
theorem dI0_8 : decode cX0_init 8 = .ok (.newarray .int, 2) := by decide +kernel
theorem dI0_10 : decode cX0_init 10 = .ok (.putfield 9, 3) := by decide +kernel
theorem dI0_13 : decode cX0_init 13 = .ok (.aload_n 0, 1) := by decide +kernel
theorem dI0_14 : decode cX0_init 14 = .ok (.sipush 400, 3) := by decide +kernel
theorem dI0_17 : decode cX0_init 17 = .ok (.newarray .int, 2) := by decide +kernel
theorem dI0_19 : decode cX0_init 19 = .ok (.putfield 15, 3) := by decide +kernel
theorem dI0_22 : decode cX0_init 22 = .ok (.aload_n 0, 1) := by decide +kernel
theorem dI0_23 : decode cX0_init 23 = .ok (.sipush 400, 3) := by decide +kernel
theorem dI0_26 : decode cX0_init 26 = .ok (.newarray .int, 2) := by decide +kernel
theorem dI0_28 : decode cX0_init 28 = .ok (.putfield 18, 3) := by decide +kernel
theorem dI0_31 : decode cX0_init 31 = .ok (.aload_n 0, 1) := by decide +kernel
theorem dI0_32 : decode cX0_init 32 = .ok (.sipush 400, 3) := by decide +kernel
theorem dI0_35 : decode cX0_init 35 = .ok (.newarray .int, 2) := by decide +kernel
theorem dI0_37 : decode cX0_init 37 = .ok (.putfield 21, 3) := by decide +kernel
theorem dI0_40 : decode cX0_init 40 = .ok (.return_, 1) := by decide +kernel
theorem dfI0 : ∀ j, j < 5 → defaultValue (tyX0 j) = vp_V [.int 0, .null, .null, .null, .null] j := by
  intro j hj
  match j, hj with
  | 0, _ => rfl
  | 1, _ => rfl
  | 2, _ => rfl
  | 3, _ => rfl
  | 4, _ => rfl
  | k + 5, hj => exact absurd hj (by omega)
theorem gI0 : GoodIn GW (.code yX0_init cX0_init 1 none :: GW) := ini_good (lk_mem (b := 1118) (by decide +kernel))
set_option maxHeartbeats 4000000 in
set_option maxRecDepth 100000 in
theorem cI0 (l : Launch) (D : va_G) (cy : Nat → ClassId) (h0 sz : Nat) : Met l yX0_init (.code yX0_init cX0_init 1 none :: GW) ({ frames := 1, cells := 4, slots := 1600, locals := 20 }) (va_Pc [.ref h0] (PI D cy sz [(h0, .inr (0, [.int 0, .null, .null, .null, .null]))])) (va_Qv (fun _ : Unit => True) (fun _ t => ∃ q1 q2 q3 q4, va_P D vwCl [(h0, .inr (0, [.int 0, .ref q1, .ref q2, .ref q3, .ref q4])), (q1, .inl (cy 0, 400, .inl (fun _ => 0))), (q2, .inl (cy 0, 400, .inl (fun _ => 0))), (q3, .inl (cy 0, 400, .inl (fun _ => 0))), (q4, .inl (cy 0, 400, .inl (fun _ => 0)))] t.heap ∧ va_D (va_A [(h0, .inr (0, [.int 0, .null, .null, .null, .null]))] sz) [(h0, .inr (0, [.int 0, .ref q1, .ref q2, .ref q3, .ref q4])), (q1, .inl (cy 0, 400, .inl (fun _ => 0))), (q2, .inl (cy 0, 400, .inl (fun _ => 0))), (q3, .inl (cy 0, 400, .inl (fun _ => 0))), (q4, .inl (cy 0, 400, .inl (fun _ => 0)))]) (va_A [(h0, .inr (0, [.int 0, .null, .null, .null, .null]))] sz)) 4 1600 (va_A [(h0, .inr (0, [.int 0, .null, .null, .null, .null]))] sz) := by
  refine Met.ofW (cc := cX0_init) (maxL := 1) (ret := none) (by decide +kernel) rfl ?_
  intro p e s m args below meth c s₁ B hml hv
  obtain ⟨rfl, hsz, hP, hK, hD0, hN⟩ := hv
  have hx := B.exec
  have hb := B.bytes
  have hr := B.returns
  have hts0 := atoms_spec (ws := .code yX0_init cX0_init 1 none :: GW) B.pre
  have hts : ∀ v ∈ GW, v.before _ s = true := fun v hv => hts0 v (List.mem_cons_of_mem _ hv)
  have hown : s.vm.findClass RX0 = some m.cls := findClass_of_methodNamed B.named
  have hlocks := B.notSynchronized
  have hin : meth.name = "<init>" := (name_of_methodNamed B.named B.method).1
  subst hsz
  have hD := hD0.self (sz := s.heap.size)
  generalize hAe : va_A [(h0, .inr (0, [.int 0, .null, .null, .null, .null]))] s.heap.size = A at hD ⊢
  have hA : ∀ q : Nat, s.heap.size ≤ q → A q := fun q h => by rw [← hAe]; exact Or.inr h
  have hS : va_S A s.heap s.heap [] := va_S.rf
  have hP : va_P D vwCl [(h0, .inr (0, [.int 0, .null, .null, .null, .null]))] s.heap := hP
  have hl := lv_entry ([.ref h0]) (n := 1) (Nat.le_of_ble_eq_true rfl)
  rw [lg_entry_eq]
  generalize (lg_sl ([.ref h0]) ++ List.replicate (1 - (lg_sl ([.ref h0])).length) Slot.unset).toArray = ls at hl ⊢
  have hl : lv_has ls 1 [(0, .ref h0)] := hl
  refine lv_aload_n hx hb dI0_0 rfl (lv_at hl 0 rfl) ?_
  refine W.objInit hx hb hown (hts _ (gw_at lkI_1119 rfl)) (hts _ (gw_at lkI_1027 rfl)) (hts _ (gw_at lkI_1028 rfl)) rfl (by rw [hml]; exact hl.1) rfl dI0_1 (Nat.le_of_ble_eq_true rfl) (Nat.le_of_ble_eq_true rfl) ?_
  refine W.eq (g2 := F0 m 4 ls []) rfl ?_
  refine lv_aload_n hx hb dI0_4 rfl (lv_at hl 0 rfl) ?_
  refine lv_sipush (v := 400) hx hb dI0_5 (by decide) ?_
  refine cn_newa (N' := 400) (ty := .int) hx hb (hts _ (gw_at lkI_1113 rfl)) rfl hK hP hD hS hA 0 rfl (fun _ h => h) (fun _ => rfl) (by decide) (by decide) (by decide) (Nat.le_of_ble_eq_true rfl) (Nat.le_of_ble_eq_true rfl) dI0_8 (fun q1 H hP hD hS => ?_)
  have hP : va_P D vwCl [(h0, .inr (0, [.int 0, .null, .null, .null, .null])), (q1, .inl (cy 0, 400, .inl (fun _ => 0)))] H := hP
  have hD : va_D A [(h0, .inr (0, [.int 0, .null, .null, .null, .null])), (q1, .inl (cy 0, 400, .inl (fun _ => 0)))] := hD
  refine va_putF (D := D) (ci := 0) (v := .ref q1) (ty := tyX0 1) (C := RX0) (T := TX0) (N := 5) hx hb hts (cls_in (ci := 0) (q := (RX0, TX0, 5)) rfl) tyX0 tyX0_ok nmX0 hown hK hP hD hS 0 rfl rfl 1 (by decide) (hts _ (gw_at lkI_1122 rfl)) (fun _ h9 => h9) rfl hin rfl (tyX0_ok 1 (by decide)) rfl rfl (Nat.le_of_ble_eq_true rfl) dI0_10 (fun H locs hP hD hS => ?_)
  have hP : va_P D vwCl [(h0, .inr (0, [.int 0, .ref q1, .null, .null, .null])), (q1, .inl (cy 0, 400, .inl (fun _ => 0)))] H := hP
  have hD : va_D A [(h0, .inr (0, [.int 0, .ref q1, .null, .null, .null])), (q1, .inl (cy 0, 400, .inl (fun _ => 0)))] := hD
  refine lv_aload_n hx hb dI0_13 rfl (lv_at hl 0 rfl) ?_
  refine lv_sipush (v := 400) hx hb dI0_14 (by decide) ?_
  refine cn_newa (N' := 400) (ty := .int) hx hb (hts _ (gw_at lkI_1113 rfl)) rfl hK hP hD hS hA 0 rfl (fun _ h => h) (fun _ => rfl) (by decide) (by decide) (by decide) (Nat.le_of_ble_eq_true rfl) (Nat.le_of_ble_eq_true rfl) dI0_17 (fun q2 H hP hD hS => ?_)
  have hP : va_P D vwCl [(h0, .inr (0, [.int 0, .ref q1, .null, .null, .null])), (q1, .inl (cy 0, 400, .inl (fun _ => 0))), (q2, .inl (cy 0, 400, .inl (fun _ => 0)))] H := hP
  have hD : va_D A [(h0, .inr (0, [.int 0, .ref q1, .null, .null, .null])), (q1, .inl (cy 0, 400, .inl (fun _ => 0))), (q2, .inl (cy 0, 400, .inl (fun _ => 0)))] := hD
  refine va_putF (D := D) (ci := 0) (v := .ref q2) (ty := tyX0 2) (C := RX0) (T := TX0) (N := 5) hx hb hts (cls_in (ci := 0) (q := (RX0, TX0, 5)) rfl) tyX0 tyX0_ok nmX0 hown hK hP hD hS 0 rfl rfl 2 (by decide) (hts _ (gw_at lkI_1123 rfl)) (fun _ h9 => h9) rfl hin rfl (tyX0_ok 2 (by decide)) rfl rfl (Nat.le_of_ble_eq_true rfl) dI0_19 (fun H locs hP hD hS => ?_)
  have hP : va_P D vwCl [(h0, .inr (0, [.int 0, .ref q1, .ref q2, .null, .null])), (q1, .inl (cy 0, 400, .inl (fun _ => 0))), (q2, .inl (cy 0, 400, .inl (fun _ => 0)))] H := hP
  have hD : va_D A [(h0, .inr (0, [.int 0, .ref q1, .ref q2, .null, .null])), (q1, .inl (cy 0, 400, .inl (fun _ => 0))), (q2, .inl (cy 0, 400, .inl (fun _ => 0)))] := hD
  refine lv_aload_n hx hb dI0_22 rfl (lv_at hl 0 rfl) ?_
  refine lv_sipush (v := 400) hx hb dI0_23 (by decide) ?_
  refine cn_newa (N' := 400) (ty := .int) hx hb (hts _ (gw_at lkI_1113 rfl)) rfl hK hP hD hS hA 0 rfl (fun _ h => h) (fun _ => rfl) (by decide) (by decide) (by decide) (Nat.le_of_ble_eq_true rfl) (Nat.le_of_ble_eq_true rfl) dI0_26 (fun q3 H hP hD hS => ?_)
  have hP : va_P D vwCl [(h0, .inr (0, [.int 0, .ref q1, .ref q2, .null, .null])), (q1, .inl (cy 0, 400, .inl (fun _ => 0))), (q2, .inl (cy 0, 400, .inl (fun _ => 0))), (q3, .inl (cy 0, 400, .inl (fun _ => 0)))] H := hP
  have hD : va_D A [(h0, .inr (0, [.int 0, .ref q1, .ref q2, .null, .null])), (q1, .inl (cy 0, 400, .inl (fun _ => 0))), (q2, .inl (cy 0, 400, .inl (fun _ => 0))), (q3, .inl (cy 0, 400, .inl (fun _ => 0)))] := hD
  refine va_putF (D := D) (ci := 0) (v := .ref q3) (ty := tyX0 3) (C := RX0) (T := TX0) (N := 5) hx hb hts (cls_in (ci := 0) (q := (RX0, TX0, 5)) rfl) tyX0 tyX0_ok nmX0 hown hK hP hD hS 0 rfl rfl 3 (by decide) (hts _ (gw_at lkI_1126 rfl)) (fun _ h9 => h9) rfl hin rfl (tyX0_ok 3 (by decide)) rfl rfl (Nat.le_of_ble_eq_true rfl) dI0_28 (fun H locs hP hD hS => ?_)
  have hP : va_P D vwCl [(h0, .inr (0, [.int 0, .ref q1, .ref q2, .ref q3, .null])), (q1, .inl (cy 0, 400, .inl (fun _ => 0))), (q2, .inl (cy 0, 400, .inl (fun _ => 0))), (q3, .inl (cy 0, 400, .inl (fun _ => 0)))] H := hP
  have hD : va_D A [(h0, .inr (0, [.int 0, .ref q1, .ref q2, .ref q3, .null])), (q1, .inl (cy 0, 400, .inl (fun _ => 0))), (q2, .inl (cy 0, 400, .inl (fun _ => 0))), (q3, .inl (cy 0, 400, .inl (fun _ => 0)))] := hD
  refine lv_aload_n hx hb dI0_31 rfl (lv_at hl 0 rfl) ?_
  refine lv_sipush (v := 400) hx hb dI0_32 (by decide) ?_
  refine cn_newa (N' := 400) (ty := .int) hx hb (hts _ (gw_at lkI_1113 rfl)) rfl hK hP hD hS hA 0 rfl (fun _ h => h) (fun _ => rfl) (by decide) (by decide) (by decide) (Nat.le_of_ble_eq_true rfl) (Nat.le_of_ble_eq_true rfl) dI0_35 (fun q4 H hP hD hS => ?_)
  have hP : va_P D vwCl [(h0, .inr (0, [.int 0, .ref q1, .ref q2, .ref q3, .null])), (q1, .inl (cy 0, 400, .inl (fun _ => 0))), (q2, .inl (cy 0, 400, .inl (fun _ => 0))), (q3, .inl (cy 0, 400, .inl (fun _ => 0))), (q4, .inl (cy 0, 400, .inl (fun _ => 0)))] H := hP
  have hD : va_D A [(h0, .inr (0, [.int 0, .ref q1, .ref q2, .ref q3, .null])), (q1, .inl (cy 0, 400, .inl (fun _ => 0))), (q2, .inl (cy 0, 400, .inl (fun _ => 0))), (q3, .inl (cy 0, 400, .inl (fun _ => 0))), (q4, .inl (cy 0, 400, .inl (fun _ => 0)))] := hD
  refine va_putF (D := D) (ci := 0) (v := .ref q4) (ty := tyX0 4) (C := RX0) (T := TX0) (N := 5) hx hb hts (cls_in (ci := 0) (q := (RX0, TX0, 5)) rfl) tyX0 tyX0_ok nmX0 hown hK hP hD hS 0 rfl rfl 4 (by decide) (hts _ (gw_at lkI_1129 rfl)) (fun _ h9 => h9) rfl hin rfl (tyX0_ok 4 (by decide)) rfl rfl (Nat.le_of_ble_eq_true rfl) dI0_37 (fun H locs hP hD hS => ?_)
  have hP : va_P D vwCl [(h0, .inr (0, [.int 0, .ref q1, .ref q2, .ref q3, .ref q4])), (q1, .inl (cy 0, 400, .inl (fun _ => 0))), (q2, .inl (cy 0, 400, .inl (fun _ => 0))), (q3, .inl (cy 0, 400, .inl (fun _ => 0))), (q4, .inl (cy 0, 400, .inl (fun _ => 0)))] H := hP
  have hD : va_D A [(h0, .inr (0, [.int 0, .ref q1, .ref q2, .ref q3, .ref q4])), (q1, .inl (cy 0, 400, .inl (fun _ => 0))), (q2, .inl (cy 0, 400, .inl (fun _ => 0))), (q3, .inl (cy 0, 400, .inl (fun _ => 0))), (q4, .inl (cy 0, 400, .inl (fun _ => 0)))] := hD
  refine W.widen (k := 4) (n := 1600) (Nat.le_of_ble_eq_true rfl) (Nat.le_of_ble_eq_true rfl) ?_
  exact W.vret hx hb hr (fun t ht hW => ⟨⟨(), rfl, trivial, q1, q2, q3, q4, by rw [ht]; exact hP, hD⟩, hS.F ht⟩) hS.2.2 dI0_40
theorem lkI_1146 : lk 1146 = some (.methodLink RX8 3 Lib.objectInit) := by decide +kernel
theorem lkI_1147 : lk 1147 = some (.fieldLink RX8 9 "MockTrials$Standings" "wins" "[I") := by decide +kernel
theorem lkI_1150 : lk 1150 = some (.fieldLink RX8 15 "MockTrials$Standings" "halves" "[I") := by decide +kernel
theorem lkI_1152 : lk 1152 = some (.fieldLink RX8 18 "MockTrials$Standings" "metWins" "[I") := by decide +kernel
theorem lkI_1154 : lk 1154 = some (.fieldLink RX8 21 "MockTrials$Standings" "margins" "[I") := by decide +kernel
theorem lkI_1156 : lk 1156 = some (.fieldLink RX8 24 "MockTrials$Standings" "order" "[I") := by decide +kernel
theorem lkI_1161 : lk 1161 = some (.fieldLink RX8 27 "MockTrials$Standings" "countingAt" "[I") := by decide +kernel
theorem lkI_1162 : lk 1162 = some (.fieldLink RX8 30 "MockTrials$Standings" "least" "[I") := by decide +kernel
theorem lkI_1163 : lk 1163 = some (.fieldLink RX8 33 "MockTrials$Standings" "greatest" "[I") := by decide +kernel
theorem lkI_1164 : lk 1164 = some (.fieldLink RX8 36 "MockTrials$Standings" "people" "LMockTrials$People;") := by decide +kernel
theorem lkI_1165 : lk 1165 = some (.fieldLink RX8 40 "MockTrials$Standings" "rounds" "LMockTrials$Rounds;") := by decide +kernel
theorem lkI_1166 : lk 1166 = some (.fieldLink RX8 44 "MockTrials$Standings" "ballots" "LMockTrials$Ballots;") := by decide +kernel
theorem dI8_0 : decode cX8_init 0 = .ok (.aload_n 0, 1) := by decide +kernel
theorem dI8_1 : decode cX8_init 1 = .ok (.invokespecial 3, 3) := by decide +kernel
theorem dI8_4 : decode cX8_init 4 = .ok (.aload_n 0, 1) := by decide +kernel
theorem dI8_5 : decode cX8_init 5 = .ok (.bipush 14, 2) := by decide +kernel
theorem dI8_7 : decode cX8_init 7 = .ok (.newarray .int, 2) := by decide +kernel
theorem dI8_9 : decode cX8_init 9 = .ok (.putfield 9, 3) := by decide +kernel
theorem dI8_12 : decode cX8_init 12 = .ok (.aload_n 0, 1) := by decide +kernel
theorem dI8_13 : decode cX8_init 13 = .ok (.bipush 14, 2) := by decide +kernel
theorem dI8_15 : decode cX8_init 15 = .ok (.newarray .int, 2) := by decide +kernel
theorem dI8_17 : decode cX8_init 17 = .ok (.putfield 15, 3) := by decide +kernel
theorem dI8_20 : decode cX8_init 20 = .ok (.aload_n 0, 1) := by decide +kernel
theorem dI8_21 : decode cX8_init 21 = .ok (.bipush 14, 2) := by decide +kernel
theorem dI8_23 : decode cX8_init 23 = .ok (.newarray .int, 2) := by decide +kernel
theorem dI8_25 : decode cX8_init 25 = .ok (.putfield 18, 3) := by decide +kernel
theorem dI8_28 : decode cX8_init 28 = .ok (.aload_n 0, 1) := by decide +kernel
theorem dI8_29 : decode cX8_init 29 = .ok (.bipush 14, 2) := by decide +kernel
theorem dI8_31 : decode cX8_init 31 = .ok (.newarray .int, 2) := by decide +kernel
theorem dI8_33 : decode cX8_init 33 = .ok (.putfield 21, 3) := by decide +kernel
theorem dI8_36 : decode cX8_init 36 = .ok (.aload_n 0, 1) := by decide +kernel
theorem dI8_37 : decode cX8_init 37 = .ok (.bipush 14, 2) := by decide +kernel
theorem dI8_39 : decode cX8_init 39 = .ok (.newarray .int, 2) := by decide +kernel
theorem dI8_41 : decode cX8_init 41 = .ok (.putfield 24, 3) := by decide +kernel
theorem dI8_44 : decode cX8_init 44 = .ok (.aload_n 0, 1) := by decide +kernel
theorem dI8_45 : decode cX8_init 45 = .ok (.bipush 112, 2) := by decide +kernel
theorem dI8_47 : decode cX8_init 47 = .ok (.newarray .int, 2) := by decide +kernel
theorem dI8_49 : decode cX8_init 49 = .ok (.putfield 27, 3) := by decide +kernel
theorem dI8_52 : decode cX8_init 52 = .ok (.aload_n 0, 1) := by decide +kernel
theorem dI8_53 : decode cX8_init 53 = .ok (.bipush 20, 2) := by decide +kernel
theorem dI8_55 : decode cX8_init 55 = .ok (.newarray .int, 2) := by decide +kernel
theorem dI8_57 : decode cX8_init 57 = .ok (.putfield 30, 3) := by decide +kernel
theorem dI8_60 : decode cX8_init 60 = .ok (.aload_n 0, 1) := by decide +kernel
theorem dI8_61 : decode cX8_init 61 = .ok (.bipush 20, 2) := by decide +kernel
theorem dI8_63 : decode cX8_init 63 = .ok (.newarray .int, 2) := by decide +kernel
theorem dI8_65 : decode cX8_init 65 = .ok (.putfield 33, 3) := by decide +kernel
theorem dI8_68 : decode cX8_init 68 = .ok (.aload_n 0, 1) := by decide +kernel
theorem dI8_69 : decode cX8_init 69 = .ok (.aload_n 1, 1) := by decide +kernel
theorem dI8_70 : decode cX8_init 70 = .ok (.putfield 36, 3) := by decide +kernel
theorem dI8_73 : decode cX8_init 73 = .ok (.aload_n 0, 1) := by decide +kernel
theorem dI8_74 : decode cX8_init 74 = .ok (.aload_n 2, 1) := by decide +kernel
theorem dI8_75 : decode cX8_init 75 = .ok (.putfield 40, 3) := by decide +kernel
theorem dI8_78 : decode cX8_init 78 = .ok (.aload_n 0, 1) := by decide +kernel
theorem dI8_79 : decode cX8_init 79 = .ok (.aload_n 3, 1) := by decide +kernel
theorem dI8_80 : decode cX8_init 80 = .ok (.putfield 44, 3) := by decide +kernel
theorem dI8_83 : decode cX8_init 83 = .ok (.return_, 1) := by decide +kernel
theorem dfI8 : ∀ j, j < 12 → defaultValue (tyX8 j) = vp_V [.null, .null, .null, .null, .null, .int 0, .null, .null, .null, .null, .null, .null] j := by
  intro j hj
  match j, hj with
  | 0, _ => rfl
  | 1, _ => rfl
  | 2, _ => rfl
  | 3, _ => rfl
  | 4, _ => rfl
  | 5, _ => rfl
  | 6, _ => rfl
  | 7, _ => rfl
  | 8, _ => rfl
  | 9, _ => rfl
  | 10, _ => rfl
  | 11, _ => rfl
  | k + 12, hj => exact absurd hj (by omega)
theorem gI8 : GoodIn GW (.code yX8_init cX8_init 4 none :: GW) := ini_good (lk_mem (b := 1145) (by decide +kernel))
set_option maxHeartbeats 4000000 in
set_option maxRecDepth 100000 in
theorem cI8 (l : Launch) (D : va_G) (cy : Nat → ClassId) (h0 sz : Nat) (a1 : Nat) (a2 : Nat) (a3 : Nat) : Met l yX8_init (.code yX8_init cX8_init 4 none :: GW) ({ frames := 1, cells := 8, slots := 222, locals := 20 }) (va_Pc [.ref h0, .ref a1, .ref a2, .ref a3] (PI D cy sz [(h0, .inr (8, [.null, .null, .null, .null, .null, .int 0, .null, .null, .null, .null, .null, .null]))])) (va_Qv (fun _ : Unit => True) (fun _ t => ∃ q1 q2 q3 q4 q5 q6 q7 q8, va_P D vwCl [(h0, .inr (8, [.ref q1, .ref q2, .ref q3, .ref q4, .ref q5, .int 0, .ref q6, .ref q7, .ref q8, .ref a1, .ref a2, .ref a3])), (q1, .inl (cy 0, 14, .inl (fun _ => 0))), (q2, .inl (cy 0, 14, .inl (fun _ => 0))), (q3, .inl (cy 0, 14, .inl (fun _ => 0))), (q4, .inl (cy 0, 14, .inl (fun _ => 0))), (q5, .inl (cy 0, 14, .inl (fun _ => 0))), (q6, .inl (cy 0, 112, .inl (fun _ => 0))), (q7, .inl (cy 0, 20, .inl (fun _ => 0))), (q8, .inl (cy 0, 20, .inl (fun _ => 0)))] t.heap ∧ va_D (va_A [(h0, .inr (8, [.null, .null, .null, .null, .null, .int 0, .null, .null, .null, .null, .null, .null]))] sz) [(h0, .inr (8, [.ref q1, .ref q2, .ref q3, .ref q4, .ref q5, .int 0, .ref q6, .ref q7, .ref q8, .ref a1, .ref a2, .ref a3])), (q1, .inl (cy 0, 14, .inl (fun _ => 0))), (q2, .inl (cy 0, 14, .inl (fun _ => 0))), (q3, .inl (cy 0, 14, .inl (fun _ => 0))), (q4, .inl (cy 0, 14, .inl (fun _ => 0))), (q5, .inl (cy 0, 14, .inl (fun _ => 0))), (q6, .inl (cy 0, 112, .inl (fun _ => 0))), (q7, .inl (cy 0, 20, .inl (fun _ => 0))), (q8, .inl (cy 0, 20, .inl (fun _ => 0)))]) (va_A [(h0, .inr (8, [.null, .null, .null, .null, .null, .int 0, .null, .null, .null, .null, .null, .null]))] sz)) 8 222 (va_A [(h0, .inr (8, [.null, .null, .null, .null, .null, .int 0, .null, .null, .null, .null, .null, .null]))] sz) := by
  refine Met.ofW (cc := cX8_init) (maxL := 4) (ret := none) (by decide +kernel) rfl ?_
  intro p e s m args below meth c s₁ B hml hv
  obtain ⟨rfl, hsz, hP, hK, hD0, hN⟩ := hv
  have hx := B.exec
  have hb := B.bytes
  have hr := B.returns
  have hts0 := atoms_spec (ws := .code yX8_init cX8_init 4 none :: GW) B.pre
  have hts : ∀ v ∈ GW, v.before _ s = true := fun v hv => hts0 v (List.mem_cons_of_mem _ hv)
  have hown : s.vm.findClass RX8 = some m.cls := findClass_of_methodNamed B.named
  have hlocks := B.notSynchronized
  have hin : meth.name = "<init>" := (name_of_methodNamed B.named B.method).1
  subst hsz
  have hD := hD0.self (sz := s.heap.size)
  generalize hAe : va_A [(h0, .inr (8, [.null, .null, .null, .null, .null, .int 0, .null, .null, .null, .null, .null, .null]))] s.heap.size = A at hD ⊢
  have hA : ∀ q : Nat, s.heap.size ≤ q → A q := fun q h => by rw [← hAe]; exact Or.inr h
  have hS : va_S A s.heap s.heap [] := va_S.rf
  have hP : va_P D vwCl [(h0, .inr (8, [.null, .null, .null, .null, .null, .int 0, .null, .null, .null, .null, .null, .null]))] s.heap := hP
  have hl := lv_entry ([.ref h0, .ref a1, .ref a2, .ref a3]) (n := 4) (Nat.le_of_ble_eq_true rfl)
  rw [lg_entry_eq]
  generalize (lg_sl ([.ref h0, .ref a1, .ref a2, .ref a3]) ++ List.replicate (4 - (lg_sl ([.ref h0, .ref a1, .ref a2, .ref a3])).length) Slot.unset).toArray = ls at hl ⊢
  have hl : lv_has ls 4 [(0, .ref h0), (1, .ref a1), (2, .ref a2), (3, .ref a3)] := hl
  refine lv_aload_n hx hb dI8_0 rfl (lv_at hl 0 rfl) ?_
  refine W.objInit hx hb hown (hts _ (gw_at lkI_1146 rfl)) (hts _ (gw_at lkI_1027 rfl)) (hts _ (gw_at lkI_1028 rfl)) rfl (by rw [hml]; exact hl.1) rfl dI8_1 (Nat.le_of_ble_eq_true rfl) (Nat.le_of_ble_eq_true rfl) ?_
  refine W.eq (g2 := F0 m 4 ls []) rfl ?_
  refine lv_aload_n hx hb dI8_4 rfl (lv_at hl 0 rfl) ?_
  refine lv_bipush (v := 14) hx hb dI8_5 (by decide) ?_
  refine cn_newa (N' := 14) (ty := .int) hx hb (hts _ (gw_at lkI_1113 rfl)) rfl hK hP hD hS hA 0 rfl (fun _ h => h) (fun _ => rfl) (by decide) (by decide) (by decide) (Nat.le_of_ble_eq_true rfl) (Nat.le_of_ble_eq_true rfl) dI8_7 (fun q1 H hP hD hS => ?_)
  have hP : va_P D vwCl [(h0, .inr (8, [.null, .null, .null, .null, .null, .int 0, .null, .null, .null, .null, .null, .null])), (q1, .inl (cy 0, 14, .inl (fun _ => 0)))] H := hP
  have hD : va_D A [(h0, .inr (8, [.null, .null, .null, .null, .null, .int 0, .null, .null, .null, .null, .null, .null])), (q1, .inl (cy 0, 14, .inl (fun _ => 0)))] := hD
  refine va_putF (D := D) (ci := 8) (v := .ref q1) (ty := tyX8 0) (C := RX8) (T := TX8) (N := 12) hx hb hts (cls_in (ci := 8) (q := (RX8, TX8, 12)) rfl) tyX8 tyX8_ok nmX8 hown hK hP hD hS 0 rfl rfl 0 (by decide) (hts _ (gw_at lkI_1147 rfl)) (fun _ h9 => h9) rfl hin rfl (tyX8_ok 0 (by decide)) rfl rfl (Nat.le_of_ble_eq_true rfl) dI8_9 (fun H locs hP hD hS => ?_)
  have hP : va_P D vwCl [(h0, .inr (8, [.ref q1, .null, .null, .null, .null, .int 0, .null, .null, .null, .null, .null, .null])), (q1, .inl (cy 0, 14, .inl (fun _ => 0)))] H := hP
  have hD : va_D A [(h0, .inr (8, [.ref q1, .null, .null, .null, .null, .int 0, .null, .null, .null, .null, .null, .null])), (q1, .inl (cy 0, 14, .inl (fun _ => 0)))] := hD
  refine lv_aload_n hx hb dI8_12 rfl (lv_at hl 0 rfl) ?_
  refine lv_bipush (v := 14) hx hb dI8_13 (by decide) ?_
  refine cn_newa (N' := 14) (ty := .int) hx hb (hts _ (gw_at lkI_1113 rfl)) rfl hK hP hD hS hA 0 rfl (fun _ h => h) (fun _ => rfl) (by decide) (by decide) (by decide) (Nat.le_of_ble_eq_true rfl) (Nat.le_of_ble_eq_true rfl) dI8_15 (fun q2 H hP hD hS => ?_)
  have hP : va_P D vwCl [(h0, .inr (8, [.ref q1, .null, .null, .null, .null, .int 0, .null, .null, .null, .null, .null, .null])), (q1, .inl (cy 0, 14, .inl (fun _ => 0))), (q2, .inl (cy 0, 14, .inl (fun _ => 0)))] H := hP
  have hD : va_D A [(h0, .inr (8, [.ref q1, .null, .null, .null, .null, .int 0, .null, .null, .null, .null, .null, .null])), (q1, .inl (cy 0, 14, .inl (fun _ => 0))), (q2, .inl (cy 0, 14, .inl (fun _ => 0)))] := hD
  refine va_putF (D := D) (ci := 8) (v := .ref q2) (ty := tyX8 1) (C := RX8) (T := TX8) (N := 12) hx hb hts (cls_in (ci := 8) (q := (RX8, TX8, 12)) rfl) tyX8 tyX8_ok nmX8 hown hK hP hD hS 0 rfl rfl 1 (by decide) (hts _ (gw_at lkI_1150 rfl)) (fun _ h9 => h9) rfl hin rfl (tyX8_ok 1 (by decide)) rfl rfl (Nat.le_of_ble_eq_true rfl) dI8_17 (fun H locs hP hD hS => ?_)
  have hP : va_P D vwCl [(h0, .inr (8, [.ref q1, .ref q2, .null, .null, .null, .int 0, .null, .null, .null, .null, .null, .null])), (q1, .inl (cy 0, 14, .inl (fun _ => 0))), (q2, .inl (cy 0, 14, .inl (fun _ => 0)))] H := hP
  have hD : va_D A [(h0, .inr (8, [.ref q1, .ref q2, .null, .null, .null, .int 0, .null, .null, .null, .null, .null, .null])), (q1, .inl (cy 0, 14, .inl (fun _ => 0))), (q2, .inl (cy 0, 14, .inl (fun _ => 0)))] := hD
  refine lv_aload_n hx hb dI8_20 rfl (lv_at hl 0 rfl) ?_
  refine lv_bipush (v := 14) hx hb dI8_21 (by decide) ?_
  refine cn_newa (N' := 14) (ty := .int) hx hb (hts _ (gw_at lkI_1113 rfl)) rfl hK hP hD hS hA 0 rfl (fun _ h => h) (fun _ => rfl) (by decide) (by decide) (by decide) (Nat.le_of_ble_eq_true rfl) (Nat.le_of_ble_eq_true rfl) dI8_23 (fun q3 H hP hD hS => ?_)
  have hP : va_P D vwCl [(h0, .inr (8, [.ref q1, .ref q2, .null, .null, .null, .int 0, .null, .null, .null, .null, .null, .null])), (q1, .inl (cy 0, 14, .inl (fun _ => 0))), (q2, .inl (cy 0, 14, .inl (fun _ => 0))), (q3, .inl (cy 0, 14, .inl (fun _ => 0)))] H := hP
  have hD : va_D A [(h0, .inr (8, [.ref q1, .ref q2, .null, .null, .null, .int 0, .null, .null, .null, .null, .null, .null])), (q1, .inl (cy 0, 14, .inl (fun _ => 0))), (q2, .inl (cy 0, 14, .inl (fun _ => 0))), (q3, .inl (cy 0, 14, .inl (fun _ => 0)))] := hD
  refine va_putF (D := D) (ci := 8) (v := .ref q3) (ty := tyX8 2) (C := RX8) (T := TX8) (N := 12) hx hb hts (cls_in (ci := 8) (q := (RX8, TX8, 12)) rfl) tyX8 tyX8_ok nmX8 hown hK hP hD hS 0 rfl rfl 2 (by decide) (hts _ (gw_at lkI_1152 rfl)) (fun _ h9 => h9) rfl hin rfl (tyX8_ok 2 (by decide)) rfl rfl (Nat.le_of_ble_eq_true rfl) dI8_25 (fun H locs hP hD hS => ?_)
  have hP : va_P D vwCl [(h0, .inr (8, [.ref q1, .ref q2, .ref q3, .null, .null, .int 0, .null, .null, .null, .null, .null, .null])), (q1, .inl (cy 0, 14, .inl (fun _ => 0))), (q2, .inl (cy 0, 14, .inl (fun _ => 0))), (q3, .inl (cy 0, 14, .inl (fun _ => 0)))] H := hP
  have hD : va_D A [(h0, .inr (8, [.ref q1, .ref q2, .ref q3, .null, .null, .int 0, .null, .null, .null, .null, .null, .null])), (q1, .inl (cy 0, 14, .inl (fun _ => 0))), (q2, .inl (cy 0, 14, .inl (fun _ => 0))), (q3, .inl (cy 0, 14, .inl (fun _ => 0)))] := hD
  refine lv_aload_n hx hb dI8_28 rfl (lv_at hl 0 rfl) ?_
  refine lv_bipush (v := 14) hx hb dI8_29 (by decide) ?_
  refine cn_newa (N' := 14) (ty := .int) hx hb (hts _ (gw_at lkI_1113 rfl)) rfl hK hP hD hS hA 0 rfl (fun _ h => h) (fun _ => rfl) (by decide) (by decide) (by decide) (Nat.le_of_ble_eq_true rfl) (Nat.le_of_ble_eq_true rfl) dI8_31 (fun q4 H hP hD hS => ?_)
  have hP : va_P D vwCl [(h0, .inr (8, [.ref q1, .ref q2, .ref q3, .null, .null, .int 0, .null, .null, .null, .null, .null, .null])), (q1, .inl (cy 0, 14, .inl (fun _ => 0))), (q2, .inl (cy 0, 14, .inl (fun _ => 0))), (q3, .inl (cy 0, 14, .inl (fun _ => 0))), (q4, .inl (cy 0, 14, .inl (fun _ => 0)))] H := hP
  have hD : va_D A [(h0, .inr (8, [.ref q1, .ref q2, .ref q3, .null, .null, .int 0, .null, .null, .null, .null, .null, .null])), (q1, .inl (cy 0, 14, .inl (fun _ => 0))), (q2, .inl (cy 0, 14, .inl (fun _ => 0))), (q3, .inl (cy 0, 14, .inl (fun _ => 0))), (q4, .inl (cy 0, 14, .inl (fun _ => 0)))] := hD
  refine va_putF (D := D) (ci := 8) (v := .ref q4) (ty := tyX8 3) (C := RX8) (T := TX8) (N := 12) hx hb hts (cls_in (ci := 8) (q := (RX8, TX8, 12)) rfl) tyX8 tyX8_ok nmX8 hown hK hP hD hS 0 rfl rfl 3 (by decide) (hts _ (gw_at lkI_1154 rfl)) (fun _ h9 => h9) rfl hin rfl (tyX8_ok 3 (by decide)) rfl rfl (Nat.le_of_ble_eq_true rfl) dI8_33 (fun H locs hP hD hS => ?_)
  have hP : va_P D vwCl [(h0, .inr (8, [.ref q1, .ref q2, .ref q3, .ref q4, .null, .int 0, .null, .null, .null, .null, .null, .null])), (q1, .inl (cy 0, 14, .inl (fun _ => 0))), (q2, .inl (cy 0, 14, .inl (fun _ => 0))), (q3, .inl (cy 0, 14, .inl (fun _ => 0))), (q4, .inl (cy 0, 14, .inl (fun _ => 0)))] H := hP
  have hD : va_D A [(h0, .inr (8, [.ref q1, .ref q2, .ref q3, .ref q4, .null, .int 0, .null, .null, .null, .null, .null, .null])), (q1, .inl (cy 0, 14, .inl (fun _ => 0))), (q2, .inl (cy 0, 14, .inl (fun _ => 0))), (q3, .inl (cy 0, 14, .inl (fun _ => 0))), (q4, .inl (cy 0, 14, .inl (fun _ => 0)))] := hD
  refine lv_aload_n hx hb dI8_36 rfl (lv_at hl 0 rfl) ?_
  refine lv_bipush (v := 14) hx hb dI8_37 (by decide) ?_
  refine cn_newa (N' := 14) (ty := .int) hx hb (hts _ (gw_at lkI_1113 rfl)) rfl hK hP hD hS hA 0 rfl (fun _ h => h) (fun _ => rfl) (by decide) (by decide) (by decide) (Nat.le_of_ble_eq_true rfl) (Nat.le_of_ble_eq_true rfl) dI8_39 (fun q5 H hP hD hS => ?_)
  have hP : va_P D vwCl [(h0, .inr (8, [.ref q1, .ref q2, .ref q3, .ref q4, .null, .int 0, .null, .null, .null, .null, .null, .null])), (q1, .inl (cy 0, 14, .inl (fun _ => 0))), (q2, .inl (cy 0, 14, .inl (fun _ => 0))), (q3, .inl (cy 0, 14, .inl (fun _ => 0))), (q4, .inl (cy 0, 14, .inl (fun _ => 0))), (q5, .inl (cy 0, 14, .inl (fun _ => 0)))] H := hP
  have hD : va_D A [(h0, .inr (8, [.ref q1, .ref q2, .ref q3, .ref q4, .null, .int 0, .null, .null, .null, .null, .null, .null])), (q1, .inl (cy 0, 14, .inl (fun _ => 0))), (q2, .inl (cy 0, 14, .inl (fun _ => 0))), (q3, .inl (cy 0, 14, .inl (fun _ => 0))), (q4, .inl (cy 0, 14, .inl (fun _ => 0))), (q5, .inl (cy 0, 14, .inl (fun _ => 0)))] := hD
  refine va_putF (D := D) (ci := 8) (v := .ref q5) (ty := tyX8 4) (C := RX8) (T := TX8) (N := 12) hx hb hts (cls_in (ci := 8) (q := (RX8, TX8, 12)) rfl) tyX8 tyX8_ok nmX8 hown hK hP hD hS 0 rfl rfl 4 (by decide) (hts _ (gw_at lkI_1156 rfl)) (fun _ h9 => h9) rfl hin rfl (tyX8_ok 4 (by decide)) rfl rfl (Nat.le_of_ble_eq_true rfl) dI8_41 (fun H locs hP hD hS => ?_)
  have hP : va_P D vwCl [(h0, .inr (8, [.ref q1, .ref q2, .ref q3, .ref q4, .ref q5, .int 0, .null, .null, .null, .null, .null, .null])), (q1, .inl (cy 0, 14, .inl (fun _ => 0))), (q2, .inl (cy 0, 14, .inl (fun _ => 0))), (q3, .inl (cy 0, 14, .inl (fun _ => 0))), (q4, .inl (cy 0, 14, .inl (fun _ => 0))), (q5, .inl (cy 0, 14, .inl (fun _ => 0)))] H := hP
  have hD : va_D A [(h0, .inr (8, [.ref q1, .ref q2, .ref q3, .ref q4, .ref q5, .int 0, .null, .null, .null, .null, .null, .null])), (q1, .inl (cy 0, 14, .inl (fun _ => 0))), (q2, .inl (cy 0, 14, .inl (fun _ => 0))), (q3, .inl (cy 0, 14, .inl (fun _ => 0))), (q4, .inl (cy 0, 14, .inl (fun _ => 0))), (q5, .inl (cy 0, 14, .inl (fun _ => 0)))] := hD
  refine lv_aload_n hx hb dI8_44 rfl (lv_at hl 0 rfl) ?_
  refine lv_bipush (v := 112) hx hb dI8_45 (by decide) ?_
  refine cn_newa (N' := 112) (ty := .int) hx hb (hts _ (gw_at lkI_1113 rfl)) rfl hK hP hD hS hA 0 rfl (fun _ h => h) (fun _ => rfl) (by decide) (by decide) (by decide) (Nat.le_of_ble_eq_true rfl) (Nat.le_of_ble_eq_true rfl) dI8_47 (fun q6 H hP hD hS => ?_)
  have hP : va_P D vwCl [(h0, .inr (8, [.ref q1, .ref q2, .ref q3, .ref q4, .ref q5, .int 0, .null, .null, .null, .null, .null, .null])), (q1, .inl (cy 0, 14, .inl (fun _ => 0))), (q2, .inl (cy 0, 14, .inl (fun _ => 0))), (q3, .inl (cy 0, 14, .inl (fun _ => 0))), (q4, .inl (cy 0, 14, .inl (fun _ => 0))), (q5, .inl (cy 0, 14, .inl (fun _ => 0))), (q6, .inl (cy 0, 112, .inl (fun _ => 0)))] H := hP
  have hD : va_D A [(h0, .inr (8, [.ref q1, .ref q2, .ref q3, .ref q4, .ref q5, .int 0, .null, .null, .null, .null, .null, .null])), (q1, .inl (cy 0, 14, .inl (fun _ => 0))), (q2, .inl (cy 0, 14, .inl (fun _ => 0))), (q3, .inl (cy 0, 14, .inl (fun _ => 0))), (q4, .inl (cy 0, 14, .inl (fun _ => 0))), (q5, .inl (cy 0, 14, .inl (fun _ => 0))), (q6, .inl (cy 0, 112, .inl (fun _ => 0)))] := hD
  refine va_putF (D := D) (ci := 8) (v := .ref q6) (ty := tyX8 6) (C := RX8) (T := TX8) (N := 12) hx hb hts (cls_in (ci := 8) (q := (RX8, TX8, 12)) rfl) tyX8 tyX8_ok nmX8 hown hK hP hD hS 0 rfl rfl 6 (by decide) (hts _ (gw_at lkI_1161 rfl)) (fun _ h9 => h9) rfl hin rfl (tyX8_ok 6 (by decide)) rfl rfl (Nat.le_of_ble_eq_true rfl) dI8_49 (fun H locs hP hD hS => ?_)
  have hP : va_P D vwCl [(h0, .inr (8, [.ref q1, .ref q2, .ref q3, .ref q4, .ref q5, .int 0, .ref q6, .null, .null, .null, .null, .null])), (q1, .inl (cy 0, 14, .inl (fun _ => 0))), (q2, .inl (cy 0, 14, .inl (fun _ => 0))), (q3, .inl (cy 0, 14, .inl (fun _ => 0))), (q4, .inl (cy 0, 14, .inl (fun _ => 0))), (q5, .inl (cy 0, 14, .inl (fun _ => 0))), (q6, .inl (cy 0, 112, .inl (fun _ => 0)))] H := hP
  have hD : va_D A [(h0, .inr (8, [.ref q1, .ref q2, .ref q3, .ref q4, .ref q5, .int 0, .ref q6, .null, .null, .null, .null, .null])), (q1, .inl (cy 0, 14, .inl (fun _ => 0))), (q2, .inl (cy 0, 14, .inl (fun _ => 0))), (q3, .inl (cy 0, 14, .inl (fun _ => 0))), (q4, .inl (cy 0, 14, .inl (fun _ => 0))), (q5, .inl (cy 0, 14, .inl (fun _ => 0))), (q6, .inl (cy 0, 112, .inl (fun _ => 0)))] := hD
  refine lv_aload_n hx hb dI8_52 rfl (lv_at hl 0 rfl) ?_
  refine lv_bipush (v := 20) hx hb dI8_53 (by decide) ?_
  refine cn_newa (N' := 20) (ty := .int) hx hb (hts _ (gw_at lkI_1113 rfl)) rfl hK hP hD hS hA 0 rfl (fun _ h => h) (fun _ => rfl) (by decide) (by decide) (by decide) (Nat.le_of_ble_eq_true rfl) (Nat.le_of_ble_eq_true rfl) dI8_55 (fun q7 H hP hD hS => ?_)
  have hP : va_P D vwCl [(h0, .inr (8, [.ref q1, .ref q2, .ref q3, .ref q4, .ref q5, .int 0, .ref q6, .null, .null, .null, .null, .null])), (q1, .inl (cy 0, 14, .inl (fun _ => 0))), (q2, .inl (cy 0, 14, .inl (fun _ => 0))), (q3, .inl (cy 0, 14, .inl (fun _ => 0))), (q4, .inl (cy 0, 14, .inl (fun _ => 0))), (q5, .inl (cy 0, 14, .inl (fun _ => 0))), (q6, .inl (cy 0, 112, .inl (fun _ => 0))), (q7, .inl (cy 0, 20, .inl (fun _ => 0)))] H := hP
  have hD : va_D A [(h0, .inr (8, [.ref q1, .ref q2, .ref q3, .ref q4, .ref q5, .int 0, .ref q6, .null, .null, .null, .null, .null])), (q1, .inl (cy 0, 14, .inl (fun _ => 0))), (q2, .inl (cy 0, 14, .inl (fun _ => 0))), (q3, .inl (cy 0, 14, .inl (fun _ => 0))), (q4, .inl (cy 0, 14, .inl (fun _ => 0))), (q5, .inl (cy 0, 14, .inl (fun _ => 0))), (q6, .inl (cy 0, 112, .inl (fun _ => 0))), (q7, .inl (cy 0, 20, .inl (fun _ => 0)))] := hD
  refine va_putF (D := D) (ci := 8) (v := .ref q7) (ty := tyX8 7) (C := RX8) (T := TX8) (N := 12) hx hb hts (cls_in (ci := 8) (q := (RX8, TX8, 12)) rfl) tyX8 tyX8_ok nmX8 hown hK hP hD hS 0 rfl rfl 7 (by decide) (hts _ (gw_at lkI_1162 rfl)) (fun _ h9 => h9) rfl hin rfl (tyX8_ok 7 (by decide)) rfl rfl (Nat.le_of_ble_eq_true rfl) dI8_57 (fun H locs hP hD hS => ?_)
  have hP : va_P D vwCl [(h0, .inr (8, [.ref q1, .ref q2, .ref q3, .ref q4, .ref q5, .int 0, .ref q6, .ref q7, .null, .null, .null, .null])), (q1, .inl (cy 0, 14, .inl (fun _ => 0))), (q2, .inl (cy 0, 14, .inl (fun _ => 0))), (q3, .inl (cy 0, 14, .inl (fun _ => 0))), (q4, .inl (cy 0, 14, .inl (fun _ => 0))), (q5, .inl (cy 0, 14, .inl (fun _ => 0))), (q6, .inl (cy 0, 112, .inl (fun _ => 0))), (q7, .inl (cy 0, 20, .inl (fun _ => 0)))] H := hP
  have hD : va_D A [(h0, .inr (8, [.ref q1, .ref q2, .ref q3, .ref q4, .ref q5, .int 0, .ref q6, .ref q7, .null, .null, .null, .null])), (q1, .inl (cy 0, 14, .inl (fun _ => 0))), (q2, .inl (cy 0, 14, .inl (fun _ => 0))), (q3, .inl (cy 0, 14, .inl (fun _ => 0))), (q4, .inl (cy 0, 14, .inl (fun _ => 0))), (q5, .inl (cy 0, 14, .inl (fun _ => 0))), (q6, .inl (cy 0, 112, .inl (fun _ => 0))), (q7, .inl (cy 0, 20, .inl (fun _ => 0)))] := hD
  refine lv_aload_n hx hb dI8_60 rfl (lv_at hl 0 rfl) ?_
  refine lv_bipush (v := 20) hx hb dI8_61 (by decide) ?_
  refine cn_newa (N' := 20) (ty := .int) hx hb (hts _ (gw_at lkI_1113 rfl)) rfl hK hP hD hS hA 0 rfl (fun _ h => h) (fun _ => rfl) (by decide) (by decide) (by decide) (Nat.le_of_ble_eq_true rfl) (Nat.le_of_ble_eq_true rfl) dI8_63 (fun q8 H hP hD hS => ?_)
  have hP : va_P D vwCl [(h0, .inr (8, [.ref q1, .ref q2, .ref q3, .ref q4, .ref q5, .int 0, .ref q6, .ref q7, .null, .null, .null, .null])), (q1, .inl (cy 0, 14, .inl (fun _ => 0))), (q2, .inl (cy 0, 14, .inl (fun _ => 0))), (q3, .inl (cy 0, 14, .inl (fun _ => 0))), (q4, .inl (cy 0, 14, .inl (fun _ => 0))), (q5, .inl (cy 0, 14, .inl (fun _ => 0))), (q6, .inl (cy 0, 112, .inl (fun _ => 0))), (q7, .inl (cy 0, 20, .inl (fun _ => 0))), (q8, .inl (cy 0, 20, .inl (fun _ => 0)))] H := hP
  have hD : va_D A [(h0, .inr (8, [.ref q1, .ref q2, .ref q3, .ref q4, .ref q5, .int 0, .ref q6, .ref q7, .null, .null, .null, .null])), (q1, .inl (cy 0, 14, .inl (fun _ => 0))), (q2, .inl (cy 0, 14, .inl (fun _ => 0))), (q3, .inl (cy 0, 14, .inl (fun _ => 0))), (q4, .inl (cy 0, 14, .inl (fun _ => 0))), (q5, .inl (cy 0, 14, .inl (fun _ => 0))), (q6, .inl (cy 0, 112, .inl (fun _ => 0))), (q7, .inl (cy 0, 20, .inl (fun _ => 0))), (q8, .inl (cy 0, 20, .inl (fun _ => 0)))] := hD
  refine va_putF (D := D) (ci := 8) (v := .ref q8) (ty := tyX8 8) (C := RX8) (T := TX8) (N := 12) hx hb hts (cls_in (ci := 8) (q := (RX8, TX8, 12)) rfl) tyX8 tyX8_ok nmX8 hown hK hP hD hS 0 rfl rfl 8 (by decide) (hts _ (gw_at lkI_1163 rfl)) (fun _ h9 => h9) rfl hin rfl (tyX8_ok 8 (by decide)) rfl rfl (Nat.le_of_ble_eq_true rfl) dI8_65 (fun H locs hP hD hS => ?_)
  have hP : va_P D vwCl [(h0, .inr (8, [.ref q1, .ref q2, .ref q3, .ref q4, .ref q5, .int 0, .ref q6, .ref q7, .ref q8, .null, .null, .null])), (q1, .inl (cy 0, 14, .inl (fun _ => 0))), (q2, .inl (cy 0, 14, .inl (fun _ => 0))), (q3, .inl (cy 0, 14, .inl (fun _ => 0))), (q4, .inl (cy 0, 14, .inl (fun _ => 0))), (q5, .inl (cy 0, 14, .inl (fun _ => 0))), (q6, .inl (cy 0, 112, .inl (fun _ => 0))), (q7, .inl (cy 0, 20, .inl (fun _ => 0))), (q8, .inl (cy 0, 20, .inl (fun _ => 0)))] H := hP
  have hD : va_D A [(h0, .inr (8, [.ref q1, .ref q2, .ref q3, .ref q4, .ref q5, .int 0, .ref q6, .ref q7, .ref q8, .null, .null, .null])), (q1, .inl (cy 0, 14, .inl (fun _ => 0))), (q2, .inl (cy 0, 14, .inl (fun _ => 0))), (q3, .inl (cy 0, 14, .inl (fun _ => 0))), (q4, .inl (cy 0, 14, .inl (fun _ => 0))), (q5, .inl (cy 0, 14, .inl (fun _ => 0))), (q6, .inl (cy 0, 112, .inl (fun _ => 0))), (q7, .inl (cy 0, 20, .inl (fun _ => 0))), (q8, .inl (cy 0, 20, .inl (fun _ => 0)))] := hD
  refine lv_aload_n hx hb dI8_68 rfl (lv_at hl 0 rfl) ?_
  refine lv_aload_n hx hb dI8_69 rfl (lv_at hl 1 rfl) ?_
  refine va_putF (D := D) (ci := 8) (v := .ref a1) (ty := tyX8 9) (C := RX8) (T := TX8) (N := 12) hx hb hts (cls_in (ci := 8) (q := (RX8, TX8, 12)) rfl) tyX8 tyX8_ok nmX8 hown hK hP hD hS 0 rfl rfl 9 (by decide) (hts _ (gw_at lkI_1164 rfl)) (fun _ h9 => h9) rfl hin rfl (tyX8_ok 9 (by decide)) rfl rfl (Nat.le_of_ble_eq_true rfl) dI8_70 (fun H locs hP hD hS => ?_)
  have hP : va_P D vwCl [(h0, .inr (8, [.ref q1, .ref q2, .ref q3, .ref q4, .ref q5, .int 0, .ref q6, .ref q7, .ref q8, .ref a1, .null, .null])), (q1, .inl (cy 0, 14, .inl (fun _ => 0))), (q2, .inl (cy 0, 14, .inl (fun _ => 0))), (q3, .inl (cy 0, 14, .inl (fun _ => 0))), (q4, .inl (cy 0, 14, .inl (fun _ => 0))), (q5, .inl (cy 0, 14, .inl (fun _ => 0))), (q6, .inl (cy 0, 112, .inl (fun _ => 0))), (q7, .inl (cy 0, 20, .inl (fun _ => 0))), (q8, .inl (cy 0, 20, .inl (fun _ => 0)))] H := hP
  have hD : va_D A [(h0, .inr (8, [.ref q1, .ref q2, .ref q3, .ref q4, .ref q5, .int 0, .ref q6, .ref q7, .ref q8, .ref a1, .null, .null])), (q1, .inl (cy 0, 14, .inl (fun _ => 0))), (q2, .inl (cy 0, 14, .inl (fun _ => 0))), (q3, .inl (cy 0, 14, .inl (fun _ => 0))), (q4, .inl (cy 0, 14, .inl (fun _ => 0))), (q5, .inl (cy 0, 14, .inl (fun _ => 0))), (q6, .inl (cy 0, 112, .inl (fun _ => 0))), (q7, .inl (cy 0, 20, .inl (fun _ => 0))), (q8, .inl (cy 0, 20, .inl (fun _ => 0)))] := hD
  refine lv_aload_n hx hb dI8_73 rfl (lv_at hl 0 rfl) ?_
  refine lv_aload_n hx hb dI8_74 rfl (lv_at hl 2 rfl) ?_
  refine va_putF (D := D) (ci := 8) (v := .ref a2) (ty := tyX8 10) (C := RX8) (T := TX8) (N := 12) hx hb hts (cls_in (ci := 8) (q := (RX8, TX8, 12)) rfl) tyX8 tyX8_ok nmX8 hown hK hP hD hS 0 rfl rfl 10 (by decide) (hts _ (gw_at lkI_1165 rfl)) (fun _ h9 => h9) rfl hin rfl (tyX8_ok 10 (by decide)) rfl rfl (Nat.le_of_ble_eq_true rfl) dI8_75 (fun H locs hP hD hS => ?_)
  have hP : va_P D vwCl [(h0, .inr (8, [.ref q1, .ref q2, .ref q3, .ref q4, .ref q5, .int 0, .ref q6, .ref q7, .ref q8, .ref a1, .ref a2, .null])), (q1, .inl (cy 0, 14, .inl (fun _ => 0))), (q2, .inl (cy 0, 14, .inl (fun _ => 0))), (q3, .inl (cy 0, 14, .inl (fun _ => 0))), (q4, .inl (cy 0, 14, .inl (fun _ => 0))), (q5, .inl (cy 0, 14, .inl (fun _ => 0))), (q6, .inl (cy 0, 112, .inl (fun _ => 0))), (q7, .inl (cy 0, 20, .inl (fun _ => 0))), (q8, .inl (cy 0, 20, .inl (fun _ => 0)))] H := hP
  have hD : va_D A [(h0, .inr (8, [.ref q1, .ref q2, .ref q3, .ref q4, .ref q5, .int 0, .ref q6, .ref q7, .ref q8, .ref a1, .ref a2, .null])), (q1, .inl (cy 0, 14, .inl (fun _ => 0))), (q2, .inl (cy 0, 14, .inl (fun _ => 0))), (q3, .inl (cy 0, 14, .inl (fun _ => 0))), (q4, .inl (cy 0, 14, .inl (fun _ => 0))), (q5, .inl (cy 0, 14, .inl (fun _ => 0))), (q6, .inl (cy 0, 112, .inl (fun _ => 0))), (q7, .inl (cy 0, 20, .inl (fun _ => 0))), (q8, .inl (cy 0, 20, .inl (fun _ => 0)))] := hD
  refine lv_aload_n hx hb dI8_78 rfl (lv_at hl 0 rfl) ?_
  refine lv_aload_n hx hb dI8_79 rfl (lv_at hl 3 rfl) ?_
  refine va_putF (D := D) (ci := 8) (v := .ref a3) (ty := tyX8 11) (C := RX8) (T := TX8) (N := 12) hx hb hts (cls_in (ci := 8) (q := (RX8, TX8, 12)) rfl) tyX8 tyX8_ok nmX8 hown hK hP hD hS 0 rfl rfl 11 (by decide) (hts _ (gw_at lkI_1166 rfl)) (fun _ h9 => h9) rfl hin rfl (tyX8_ok 11 (by decide)) rfl rfl (Nat.le_of_ble_eq_true rfl) dI8_80 (fun H locs hP hD hS => ?_)
  have hP : va_P D vwCl [(h0, .inr (8, [.ref q1, .ref q2, .ref q3, .ref q4, .ref q5, .int 0, .ref q6, .ref q7, .ref q8, .ref a1, .ref a2, .ref a3])), (q1, .inl (cy 0, 14, .inl (fun _ => 0))), (q2, .inl (cy 0, 14, .inl (fun _ => 0))), (q3, .inl (cy 0, 14, .inl (fun _ => 0))), (q4, .inl (cy 0, 14, .inl (fun _ => 0))), (q5, .inl (cy 0, 14, .inl (fun _ => 0))), (q6, .inl (cy 0, 112, .inl (fun _ => 0))), (q7, .inl (cy 0, 20, .inl (fun _ => 0))), (q8, .inl (cy 0, 20, .inl (fun _ => 0)))] H := hP
  have hD : va_D A [(h0, .inr (8, [.ref q1, .ref q2, .ref q3, .ref q4, .ref q5, .int 0, .ref q6, .ref q7, .ref q8, .ref a1, .ref a2, .ref a3])), (q1, .inl (cy 0, 14, .inl (fun _ => 0))), (q2, .inl (cy 0, 14, .inl (fun _ => 0))), (q3, .inl (cy 0, 14, .inl (fun _ => 0))), (q4, .inl (cy 0, 14, .inl (fun _ => 0))), (q5, .inl (cy 0, 14, .inl (fun _ => 0))), (q6, .inl (cy 0, 112, .inl (fun _ => 0))), (q7, .inl (cy 0, 20, .inl (fun _ => 0))), (q8, .inl (cy 0, 20, .inl (fun _ => 0)))] := hD
  refine W.widen (k := 8) (n := 222) (Nat.le_of_ble_eq_true rfl) (Nat.le_of_ble_eq_true rfl) ?_
  exact W.vret hx hb hr (fun t ht hW => ⟨⟨(), rfl, trivial, q1, q2, q3, q4, q5, q6, q7, q8, by rw [ht]; exact hP, hD⟩, hS.F ht⟩) hS.2.2 dI8_83
