theorem lkI_1203 : lk 1203 = some (.methodLink RX1 3 Lib.objectInit) := by decide +kernel
theorem lkI_1204 : lk 1204 = some (.fieldLink RX1 9 "MockTrials$Pairing" "ahead" "[I") := by decide +kernel
theorem lkI_1206 : lk 1206 = some (.fieldLink RX1 15 "MockTrials$Pairing" "behind" "[I") := by decide +kernel
theorem lkI_1208 : lk 1208 = some (.fieldLink RX1 18 "MockTrials$Pairing" "weights" "[I") := by decide +kernel
theorem lkI_1209 : lk 1209 = some (.fieldLink RX1 21 "MockTrials$Pairing" "leastOf" "[I") := by decide +kernel
theorem dI1_0 : decode cX1_init 0 = .ok (.aload_n 0, 1) := by decide +kernel
theorem dI1_1 : decode cX1_init 1 = .ok (.invokespecial 3, 3) := by decide +kernel
theorem dI1_4 : decode cX1_init 4 = .ok (.aload_n 0, 1) := by decide +kernel
theorem dI1_5 : decode cX1_init 5 = .ok (.bipush 7, 2) := by decide +kernel
theorem dI1_7 : decode cX1_init 7 = .ok (.newarray .int, 2) := by decide +kernel
theorem dI1_9 : decode cX1_init 9 = .ok (.putfield 9, 3) := by decide +kernel
theorem dI1_12 : decode cX1_init 12 = .ok (.aload_n 0, 1) := by decide +kernel
theorem dI1_13 : decode cX1_init 13 = .ok (.bipush 7, 2) := by decide +kernel
theorem dI1_15 : decode cX1_init 15 = .ok (.newarray .int, 2) := by decide +kernel
theorem dI1_17 : decode cX1_init 17 = .ok (.putfield 15, 3) := by decide +kernel
theorem dI1_20 : decode cX1_init 20 = .ok (.aload_n 0, 1) := by decide +kernel
theorem dI1_21 : decode cX1_init 21 = .ok (.sipush 196, 3) := by decide +kernel
theorem dI1_24 : decode cX1_init 24 = .ok (.newarray .int, 2) := by decide +kernel
theorem dI1_26 : decode cX1_init 26 = .ok (.putfield 18, 3) := by decide +kernel
theorem dI1_29 : decode cX1_init 29 = .ok (.aload_n 0, 1) := by decide +kernel
theorem dI1_30 : decode cX1_init 30 = .ok (.sipush 16384, 3) := by decide +kernel
theorem dI1_33 : decode cX1_init 33 = .ok (.newarray .int, 2) := by decide +kernel
theorem dI1_35 : decode cX1_init 35 = .ok (.putfield 21, 3) := by decide +kernel
theorem dI1_38 : decode cX1_init 38 = .ok (.return_, 1) := by decide +kernel
theorem dfI1 : ∀ j, j < 4 → defaultValue (tyX1 j) = vp_V [.null, .null, .null, .null] j := by
  intro j hj
  match j, hj with
  | 0, _ => rfl
  | 1, _ => rfl
  | 2, _ => rfl
  | 3, _ => rfl
  | k + 4, hj => exact absurd hj (by omega)
theorem gI1 : GoodIn GW (.code yX1_init cX1_init 1 none :: GW) := ini_good (lk_mem (b := 1202) (by decide +kernel))
set_option maxHeartbeats 4000000 in
set_option maxRecDepth 100000 in
theorem cI1 (l : Launch) (D : va_G) (cy : Nat → ClassId) (h0 sz : Nat) : Met l yX1_init (.code yX1_init cX1_init 1 none :: GW) ({ frames := 1, cells := 4, slots := 16594, locals := 20 }) (va_Pc [.ref h0] (PI D cy sz [(h0, .inr (1, [.null, .null, .null, .null]))])) (va_Qv (fun _ : Unit => True) (fun _ t => ∃ q1 q2 q3 q4, va_P D vwCl [(h0, .inr (1, [.ref q1, .ref q2, .ref q3, .ref q4])), (q1, .inl (cy 0, 7, .inl (fun _ => 0))), (q2, .inl (cy 0, 7, .inl (fun _ => 0))), (q3, .inl (cy 0, 196, .inl (fun _ => 0))), (q4, .inl (cy 0, 16384, .inl (fun _ => 0)))] t.heap ∧ va_D (va_A [(h0, .inr (1, [.null, .null, .null, .null]))] sz) [(h0, .inr (1, [.ref q1, .ref q2, .ref q3, .ref q4])), (q1, .inl (cy 0, 7, .inl (fun _ => 0))), (q2, .inl (cy 0, 7, .inl (fun _ => 0))), (q3, .inl (cy 0, 196, .inl (fun _ => 0))), (q4, .inl (cy 0, 16384, .inl (fun _ => 0)))]) (va_A [(h0, .inr (1, [.null, .null, .null, .null]))] sz)) 4 16594 (va_A [(h0, .inr (1, [.null, .null, .null, .null]))] sz) := by
  refine Met.ofW (cc := cX1_init) (maxL := 1) (ret := none) (by decide +kernel) rfl ?_
  intro p e s m args below meth c s₁ B hml hv
  obtain ⟨rfl, hsz, hP, hK, hD0, hN⟩ := hv
  have hx := B.exec
  have hb := B.bytes
  have hr := B.returns
  have hts0 := atoms_spec (ws := .code yX1_init cX1_init 1 none :: GW) B.pre
  have hts : ∀ v ∈ GW, v.before _ s = true := fun v hv => hts0 v (List.mem_cons_of_mem _ hv)
  have hown : s.vm.findClass RX1 = some m.cls := findClass_of_methodNamed B.named
  have hlocks := B.notSynchronized
  have hin : meth.name = "<init>" := (name_of_methodNamed B.named B.method).1
  subst hsz
  have hD := hD0.self (sz := s.heap.size)
  generalize hAe : va_A [(h0, .inr (1, [.null, .null, .null, .null]))] s.heap.size = A at hD ⊢
  have hA : ∀ q : Nat, s.heap.size ≤ q → A q := fun q h => by rw [← hAe]; exact Or.inr h
  have hS : va_S A s.heap s.heap [] := va_S.rf
  have hP : va_P D vwCl [(h0, .inr (1, [.null, .null, .null, .null]))] s.heap := hP
  have hl := lv_entry ([.ref h0]) (n := 1) (Nat.le_of_ble_eq_true rfl)
  rw [lg_entry_eq]
  generalize (lg_sl ([.ref h0]) ++ List.replicate (1 - (lg_sl ([.ref h0])).length) Slot.unset).toArray = ls at hl ⊢
  have hl : lv_has ls 1 [(0, .ref h0)] := hl
  refine lv_aload_n hx hb dI1_0 rfl (lv_at hl 0 rfl) ?_
  refine W.objInit hx hb hown (hts _ (gw_at lkI_1203 rfl)) (hts _ (gw_at lkI_1027 rfl)) (hts _ (gw_at lkI_1028 rfl)) rfl (by rw [hml]; exact hl.1) rfl dI1_1 (Nat.le_of_ble_eq_true rfl) (Nat.le_of_ble_eq_true rfl) ?_
  refine W.eq (g2 := F0 m 4 ls []) rfl ?_
  refine lv_aload_n hx hb dI1_4 rfl (lv_at hl 0 rfl) ?_
  refine lv_bipush (v := 7) hx hb dI1_5 (by decide) ?_
  refine cn_newa (N' := 7) (ty := .int) hx hb (hts _ (gw_at lkI_1113 rfl)) rfl hK hP hD hS hA 0 rfl (fun _ h => h) (fun _ => rfl) (by decide) (by decide) (by decide) (Nat.le_of_ble_eq_true rfl) (Nat.le_of_ble_eq_true rfl) dI1_7 (fun q1 H hP hD hS => ?_)
  have hP : va_P D vwCl [(h0, .inr (1, [.null, .null, .null, .null])), (q1, .inl (cy 0, 7, .inl (fun _ => 0)))] H := hP
  have hD : va_D A [(h0, .inr (1, [.null, .null, .null, .null])), (q1, .inl (cy 0, 7, .inl (fun _ => 0)))] := hD
  refine va_putF (D := D) (ci := 1) (v := .ref q1) (ty := tyX1 0) (C := RX1) (T := TX1) (N := 4) hx hb hts (cls_in (ci := 1) (q := (RX1, TX1, 4)) rfl) tyX1 tyX1_ok nmX1 hown hK hP hD hS 0 rfl rfl 0 (by decide) (hts _ (gw_at lkI_1204 rfl)) (fun _ h9 => h9) rfl hin rfl (tyX1_ok 0 (by decide)) rfl rfl (Nat.le_of_ble_eq_true rfl) dI1_9 (fun H locs hP hD hS => ?_)
  have hP : va_P D vwCl [(h0, .inr (1, [.ref q1, .null, .null, .null])), (q1, .inl (cy 0, 7, .inl (fun _ => 0)))] H := hP
  have hD : va_D A [(h0, .inr (1, [.ref q1, .null, .null, .null])), (q1, .inl (cy 0, 7, .inl (fun _ => 0)))] := hD
  refine lv_aload_n hx hb dI1_12 rfl (lv_at hl 0 rfl) ?_
  refine lv_bipush (v := 7) hx hb dI1_13 (by decide) ?_
  refine cn_newa (N' := 7) (ty := .int) hx hb (hts _ (gw_at lkI_1113 rfl)) rfl hK hP hD hS hA 0 rfl (fun _ h => h) (fun _ => rfl) (by decide) (by decide) (by decide) (Nat.le_of_ble_eq_true rfl) (Nat.le_of_ble_eq_true rfl) dI1_15 (fun q2 H hP hD hS => ?_)
  have hP : va_P D vwCl [(h0, .inr (1, [.ref q1, .null, .null, .null])), (q1, .inl (cy 0, 7, .inl (fun _ => 0))), (q2, .inl (cy 0, 7, .inl (fun _ => 0)))] H := hP
  have hD : va_D A [(h0, .inr (1, [.ref q1, .null, .null, .null])), (q1, .inl (cy 0, 7, .inl (fun _ => 0))), (q2, .inl (cy 0, 7, .inl (fun _ => 0)))] := hD
  refine va_putF (D := D) (ci := 1) (v := .ref q2) (ty := tyX1 1) (C := RX1) (T := TX1) (N := 4) hx hb hts (cls_in (ci := 1) (q := (RX1, TX1, 4)) rfl) tyX1 tyX1_ok nmX1 hown hK hP hD hS 0 rfl rfl 1 (by decide) (hts _ (gw_at lkI_1206 rfl)) (fun _ h9 => h9) rfl hin rfl (tyX1_ok 1 (by decide)) rfl rfl (Nat.le_of_ble_eq_true rfl) dI1_17 (fun H locs hP hD hS => ?_)
  have hP : va_P D vwCl [(h0, .inr (1, [.ref q1, .ref q2, .null, .null])), (q1, .inl (cy 0, 7, .inl (fun _ => 0))), (q2, .inl (cy 0, 7, .inl (fun _ => 0)))] H := hP
  have hD : va_D A [(h0, .inr (1, [.ref q1, .ref q2, .null, .null])), (q1, .inl (cy 0, 7, .inl (fun _ => 0))), (q2, .inl (cy 0, 7, .inl (fun _ => 0)))] := hD
  refine lv_aload_n hx hb dI1_20 rfl (lv_at hl 0 rfl) ?_
  refine lv_sipush (v := 196) hx hb dI1_21 (by decide) ?_
  refine cn_newa (N' := 196) (ty := .int) hx hb (hts _ (gw_at lkI_1113 rfl)) rfl hK hP hD hS hA 0 rfl (fun _ h => h) (fun _ => rfl) (by decide) (by decide) (by decide) (Nat.le_of_ble_eq_true rfl) (Nat.le_of_ble_eq_true rfl) dI1_24 (fun q3 H hP hD hS => ?_)
  have hP : va_P D vwCl [(h0, .inr (1, [.ref q1, .ref q2, .null, .null])), (q1, .inl (cy 0, 7, .inl (fun _ => 0))), (q2, .inl (cy 0, 7, .inl (fun _ => 0))), (q3, .inl (cy 0, 196, .inl (fun _ => 0)))] H := hP
  have hD : va_D A [(h0, .inr (1, [.ref q1, .ref q2, .null, .null])), (q1, .inl (cy 0, 7, .inl (fun _ => 0))), (q2, .inl (cy 0, 7, .inl (fun _ => 0))), (q3, .inl (cy 0, 196, .inl (fun _ => 0)))] := hD
  refine va_putF (D := D) (ci := 1) (v := .ref q3) (ty := tyX1 2) (C := RX1) (T := TX1) (N := 4) hx hb hts (cls_in (ci := 1) (q := (RX1, TX1, 4)) rfl) tyX1 tyX1_ok nmX1 hown hK hP hD hS 0 rfl rfl 2 (by decide) (hts _ (gw_at lkI_1208 rfl)) (fun _ h9 => h9) rfl hin rfl (tyX1_ok 2 (by decide)) rfl rfl (Nat.le_of_ble_eq_true rfl) dI1_26 (fun H locs hP hD hS => ?_)
  have hP : va_P D vwCl [(h0, .inr (1, [.ref q1, .ref q2, .ref q3, .null])), (q1, .inl (cy 0, 7, .inl (fun _ => 0))), (q2, .inl (cy 0, 7, .inl (fun _ => 0))), (q3, .inl (cy 0, 196, .inl (fun _ => 0)))] H := hP
  have hD : va_D A [(h0, .inr (1, [.ref q1, .ref q2, .ref q3, .null])), (q1, .inl (cy 0, 7, .inl (fun _ => 0))), (q2, .inl (cy 0, 7, .inl (fun _ => 0))), (q3, .inl (cy 0, 196, .inl (fun _ => 0)))] := hD
  refine lv_aload_n hx hb dI1_29 rfl (lv_at hl 0 rfl) ?_
  refine lv_sipush (v := 16384) hx hb dI1_30 (by decide) ?_
  refine cn_newa (N' := 16384) (ty := .int) hx hb (hts _ (gw_at lkI_1113 rfl)) rfl hK hP hD hS hA 0 rfl (fun _ h => h) (fun _ => rfl) (by decide) (by decide) (by decide) (Nat.le_of_ble_eq_true rfl) (Nat.le_of_ble_eq_true rfl) dI1_33 (fun q4 H hP hD hS => ?_)
  have hP : va_P D vwCl [(h0, .inr (1, [.ref q1, .ref q2, .ref q3, .null])), (q1, .inl (cy 0, 7, .inl (fun _ => 0))), (q2, .inl (cy 0, 7, .inl (fun _ => 0))), (q3, .inl (cy 0, 196, .inl (fun _ => 0))), (q4, .inl (cy 0, 16384, .inl (fun _ => 0)))] H := hP
  have hD : va_D A [(h0, .inr (1, [.ref q1, .ref q2, .ref q3, .null])), (q1, .inl (cy 0, 7, .inl (fun _ => 0))), (q2, .inl (cy 0, 7, .inl (fun _ => 0))), (q3, .inl (cy 0, 196, .inl (fun _ => 0))), (q4, .inl (cy 0, 16384, .inl (fun _ => 0)))] := hD
  refine va_putF (D := D) (ci := 1) (v := .ref q4) (ty := tyX1 3) (C := RX1) (T := TX1) (N := 4) hx hb hts (cls_in (ci := 1) (q := (RX1, TX1, 4)) rfl) tyX1 tyX1_ok nmX1 hown hK hP hD hS 0 rfl rfl 3 (by decide) (hts _ (gw_at lkI_1209 rfl)) (fun _ h9 => h9) rfl hin rfl (tyX1_ok 3 (by decide)) rfl rfl (Nat.le_of_ble_eq_true rfl) dI1_35 (fun H locs hP hD hS => ?_)
  have hP : va_P D vwCl [(h0, .inr (1, [.ref q1, .ref q2, .ref q3, .ref q4])), (q1, .inl (cy 0, 7, .inl (fun _ => 0))), (q2, .inl (cy 0, 7, .inl (fun _ => 0))), (q3, .inl (cy 0, 196, .inl (fun _ => 0))), (q4, .inl (cy 0, 16384, .inl (fun _ => 0)))] H := hP
  have hD : va_D A [(h0, .inr (1, [.ref q1, .ref q2, .ref q3, .ref q4])), (q1, .inl (cy 0, 7, .inl (fun _ => 0))), (q2, .inl (cy 0, 7, .inl (fun _ => 0))), (q3, .inl (cy 0, 196, .inl (fun _ => 0))), (q4, .inl (cy 0, 16384, .inl (fun _ => 0)))] := hD
  refine W.widen (k := 4) (n := 16594) (Nat.le_of_ble_eq_true rfl) (Nat.le_of_ble_eq_true rfl) ?_
  exact W.vret hx hb hr (fun t ht hW => ⟨⟨(), rfl, trivial, q1, q2, q3, q4, by rw [ht]; exact hP, hD⟩, hS.F ht⟩) hS.2.2 dI1_38
theorem lkI_1197 : lk 1197 = some (.methodLink RX4 3 Lib.objectInit) := by decide +kernel
theorem lkI_1219 : lk 1219 = some (.fieldLink RX4 9 "MockTrials$RoundMaker" "line" "[I") := by decide +kernel
theorem lkI_1198 : lk 1198 = some (.classLink RX4 15 RX1) := by decide +kernel
theorem lkI_1199 : lk 1199 = some (.instantiable RX1 4) := by decide +kernel
theorem lkI_1007 : lk 1007 = some (.initialized RX1) := by decide +kernel
theorem lkI_1201 : lk 1201 = some (.instanceMethod yX1_init) := by decide +kernel
theorem lkI_1221 : lk 1221 = some (.fieldLink RX4 18 "MockTrials$RoundMaker" "pairing" "LMockTrials$Pairing;") := by decide +kernel
theorem lkI_1222 : lk 1222 = some (.fieldLink RX4 22 "MockTrials$RoundMaker" "people" "LMockTrials$People;") := by decide +kernel
theorem lkI_1223 : lk 1223 = some (.fieldLink RX4 26 "MockTrials$RoundMaker" "rounds" "LMockTrials$Rounds;") := by decide +kernel
theorem lkI_1224 : lk 1224 = some (.fieldLink RX4 30 "MockTrials$RoundMaker" "standings" "LMockTrials$Standings;") := by decide +kernel
theorem dI4_0 : decode cX4_init 0 = .ok (.aload_n 0, 1) := by decide +kernel
theorem dI4_1 : decode cX4_init 1 = .ok (.invokespecial 3, 3) := by decide +kernel
theorem dI4_4 : decode cX4_init 4 = .ok (.aload_n 0, 1) := by decide +kernel
theorem dI4_5 : decode cX4_init 5 = .ok (.bipush 14, 2) := by decide +kernel
theorem dI4_7 : decode cX4_init 7 = .ok (.newarray .int, 2) := by decide +kernel
theorem dI4_9 : decode cX4_init 9 = .ok (.putfield 9, 3) := by decide +kernel
theorem dI4_12 : decode cX4_init 12 = .ok (.aload_n 0, 1) := by decide +kernel
theorem dI4_13 : decode cX4_init 13 = .ok (.new 15, 3) := by decide +kernel
theorem dI4_16 : decode cX4_init 16 = .ok (.dup, 1) := by decide +kernel
theorem dI4_17 : decode cX4_init 17 = .ok (.invokespecial 17, 3) := by decide +kernel
theorem dI4_20 : decode cX4_init 20 = .ok (.putfield 18, 3) := by decide +kernel
theorem dI4_23 : decode cX4_init 23 = .ok (.aload_n 0, 1) := by decide +kernel
theorem dI4_24 : decode cX4_init 24 = .ok (.aload_n 1, 1) := by decide +kernel
theorem dI4_25 : decode cX4_init 25 = .ok (.putfield 22, 3) := by decide +kernel
theorem dI4_28 : decode cX4_init 28 = .ok (.aload_n 0, 1) := by decide +kernel
theorem dI4_29 : decode cX4_init 29 = .ok (.aload_n 2, 1) := by decide +kernel
theorem dI4_30 : decode cX4_init 30 = .ok (.putfield 26, 3) := by decide +kernel
theorem dI4_33 : decode cX4_init 33 = .ok (.aload_n 0, 1) := by decide +kernel
theorem dI4_34 : decode cX4_init 34 = .ok (.aload_n 3, 1) := by decide +kernel
theorem dI4_35 : decode cX4_init 35 = .ok (.putfield 30, 3) := by decide +kernel
theorem dI4_38 : decode cX4_init 38 = .ok (.return_, 1) := by decide +kernel
theorem dfI4 : ∀ j, j < 6 → defaultValue (tyX4 j) = vp_V [.null, .int 0, .null, .null, .null, .null] j := by
  intro j hj
  match j, hj with
  | 0, _ => rfl
  | 1, _ => rfl
  | 2, _ => rfl
  | 3, _ => rfl
  | 4, _ => rfl
  | 5, _ => rfl
  | k + 6, hj => exact absurd hj (by omega)
theorem gI4 : GoodIn GW (.code yX4_init cX4_init 4 none :: GW) := ini_good (lk_mem (b := 1196) (by decide +kernel))
set_option maxHeartbeats 4000000 in
set_option maxRecDepth 100000 in
theorem cI4 (l : Launch) (D : va_G) (cy : Nat → ClassId) (h0 sz : Nat) (a1 : Nat) (a2 : Nat) (a3 : Nat) : Met l yX4_init (.code yX4_init cX4_init 4 none :: GW) ({ frames := 2, cells := 6, slots := 16612, locals := 40 }) (va_Pc [.ref h0, .ref a1, .ref a2, .ref a3] (PI D cy sz [(h0, .inr (4, [.null, .int 0, .null, .null, .null, .null]))])) (va_Qv (fun _ : Unit => True) (fun _ t => ∃ q1 q2 q3 q4 q5 q6, va_P D vwCl [(h0, .inr (4, [.ref q1, .int 0, .ref q2, .ref a1, .ref a2, .ref a3])), (q1, .inl (cy 0, 14, .inl (fun _ => 0))), (q2, .inr (1, [.ref q3, .ref q4, .ref q5, .ref q6])), (q3, .inl (cy 0, 7, .inl (fun _ => 0))), (q4, .inl (cy 0, 7, .inl (fun _ => 0))), (q5, .inl (cy 0, 196, .inl (fun _ => 0))), (q6, .inl (cy 0, 16384, .inl (fun _ => 0)))] t.heap ∧ va_D (va_A [(h0, .inr (4, [.null, .int 0, .null, .null, .null, .null]))] sz) [(h0, .inr (4, [.ref q1, .int 0, .ref q2, .ref a1, .ref a2, .ref a3])), (q1, .inl (cy 0, 14, .inl (fun _ => 0))), (q2, .inr (1, [.ref q3, .ref q4, .ref q5, .ref q6])), (q3, .inl (cy 0, 7, .inl (fun _ => 0))), (q4, .inl (cy 0, 7, .inl (fun _ => 0))), (q5, .inl (cy 0, 196, .inl (fun _ => 0))), (q6, .inl (cy 0, 16384, .inl (fun _ => 0)))]) (va_A [(h0, .inr (4, [.null, .int 0, .null, .null, .null, .null]))] sz)) 6 16612 (va_A [(h0, .inr (4, [.null, .int 0, .null, .null, .null, .null]))] sz) := by
  refine Met.ofW (cc := cX4_init) (maxL := 4) (ret := none) (by decide +kernel) rfl ?_
  intro p e s m args below meth c s₁ B hml hv
  obtain ⟨rfl, hsz, hP, hK, hD0, hN⟩ := hv
  have hx := B.exec
  have hb := B.bytes
  have hr := B.returns
  have hts0 := atoms_spec (ws := .code yX4_init cX4_init 4 none :: GW) B.pre
  have hts : ∀ v ∈ GW, v.before _ s = true := fun v hv => hts0 v (List.mem_cons_of_mem _ hv)
  have hown : s.vm.findClass RX4 = some m.cls := findClass_of_methodNamed B.named
  have hlocks := B.notSynchronized
  have hin : meth.name = "<init>" := (name_of_methodNamed B.named B.method).1
  subst hsz
  have hD := hD0.self (sz := s.heap.size)
  generalize hAe : va_A [(h0, .inr (4, [.null, .int 0, .null, .null, .null, .null]))] s.heap.size = A at hD ⊢
  have hA : ∀ q : Nat, s.heap.size ≤ q → A q := fun q h => by rw [← hAe]; exact Or.inr h
  have hS : va_S A s.heap s.heap [] := va_S.rf
  have hP : va_P D vwCl [(h0, .inr (4, [.null, .int 0, .null, .null, .null, .null]))] s.heap := hP
  have hl := lv_entry ([.ref h0, .ref a1, .ref a2, .ref a3]) (n := 4) (Nat.le_of_ble_eq_true rfl)
  rw [lg_entry_eq]
  generalize (lg_sl ([.ref h0, .ref a1, .ref a2, .ref a3]) ++ List.replicate (4 - (lg_sl ([.ref h0, .ref a1, .ref a2, .ref a3])).length) Slot.unset).toArray = ls at hl ⊢
  have hl : lv_has ls 4 [(0, .ref h0), (1, .ref a1), (2, .ref a2), (3, .ref a3)] := hl
  refine lv_aload_n hx hb dI4_0 rfl (lv_at hl 0 rfl) ?_
  refine W.objInit hx hb hown (hts _ (gw_at lkI_1197 rfl)) (hts _ (gw_at lkI_1027 rfl)) (hts _ (gw_at lkI_1028 rfl)) rfl (by rw [hml]; exact hl.1) rfl dI4_1 (Nat.le_of_ble_eq_true rfl) (Nat.le_of_ble_eq_true rfl) ?_
  refine W.eq (g2 := F0 m 4 ls []) rfl ?_
  refine lv_aload_n hx hb dI4_4 rfl (lv_at hl 0 rfl) ?_
  refine lv_bipush (v := 14) hx hb dI4_5 (by decide) ?_
  refine cn_newa (N' := 14) (ty := .int) hx hb (hts _ (gw_at lkI_1113 rfl)) rfl hK hP hD hS hA 0 rfl (fun _ h => h) (fun _ => rfl) (by decide) (by decide) (by decide) (Nat.le_of_ble_eq_true rfl) (Nat.le_of_ble_eq_true rfl) dI4_7 (fun q1 H hP hD hS => ?_)
  have hP : va_P D vwCl [(h0, .inr (4, [.null, .int 0, .null, .null, .null, .null])), (q1, .inl (cy 0, 14, .inl (fun _ => 0)))] H := hP
  have hD : va_D A [(h0, .inr (4, [.null, .int 0, .null, .null, .null, .null])), (q1, .inl (cy 0, 14, .inl (fun _ => 0)))] := hD
  refine va_putF (D := D) (ci := 4) (v := .ref q1) (ty := tyX4 0) (C := RX4) (T := TX4) (N := 6) hx hb hts (cls_in (ci := 4) (q := (RX4, TX4, 6)) rfl) tyX4 tyX4_ok nmX4 hown hK hP hD hS 0 rfl rfl 0 (by decide) (hts _ (gw_at lkI_1219 rfl)) (fun _ h9 => h9) rfl hin rfl (tyX4_ok 0 (by decide)) rfl rfl (Nat.le_of_ble_eq_true rfl) dI4_9 (fun H locs hP hD hS => ?_)
  have hP : va_P D vwCl [(h0, .inr (4, [.ref q1, .int 0, .null, .null, .null, .null])), (q1, .inl (cy 0, 14, .inl (fun _ => 0)))] H := hP
  have hD : va_D A [(h0, .inr (4, [.ref q1, .int 0, .null, .null, .null, .null])), (q1, .inl (cy 0, 14, .inl (fun _ => 0)))] := hD
  refine lv_aload_n hx hb dI4_12 rfl (lv_at hl 0 rfl) ?_
  refine va_new (ci := 1) (fs := [.null, .null, .null, .null]) (C := RX1) (T := TX1) (N := 4) hx hb hts (cls_in (ci := 1) (q := (RX1, TX1, 4)) rfl) tyX1 tyX1_ok hown (hts _ (gw_at lkI_1198 rfl)) (hts _ (gw_at lkI_1199 rfl)) (hts _ (gw_at lkI_1007 rfl)) hK hP hD hS hA rfl dfI1 (Nat.le_of_ble_eq_true rfl) (Nat.le_of_ble_eq_true rfl) dI4_13 (fun q2 H hP hD hS => ?_)
  have hP : va_P D vwCl [(h0, .inr (4, [.ref q1, .int 0, .null, .null, .null, .null])), (q1, .inl (cy 0, 14, .inl (fun _ => 0))), (q2, .inr (1, [.null, .null, .null, .null]))] H := hP
  have hD : va_D A [(h0, .inr (4, [.ref q1, .int 0, .null, .null, .null, .null])), (q1, .inl (cy 0, 14, .inl (fun _ => 0))), (q2, .inr (1, [.null, .null, .null, .null]))] := hD
  refine lv_dup hx hb dI4_16 rfl ?_
  have hPc := hP.sub (ws' := [(q2, .inr (1, [.null, .null, .null, .null]))]) [2] rfl
  have hDc := hD.sub (ws' := [(q2, .inr (1, [.null, .null, .null, .null]))]) [2] (by decide) rfl
  have hFc := va_free (wc := [(q2, .inr (1, [.null, .null, .null, .null]))]) hD hS hA [2] rfl
  refine va_callv (va_runIN (As := []) (rest := [.ref q2, .ref h0]) ⟨hx, hb, hml, hown, hts⟩ (cI1 l D cy q2 H.size) ⟨va_cnB 0 hts gI1 rfl rfl rfl (hN _ (List.mem_of_getElem? (i := 3) rfl)) (hts _ (gw_at lkI_1007 rfl)) ⟨by decide +kernel, by decide +kernel, by decide +kernel⟩ ⟨Nat.le_of_ble_eq_true rfl, Nat.le_of_ble_eq_true rfl⟩, rfl, (hts _ (gw_at lkI_1201 rfl))⟩ (PI_pre hPc hDc hK hN) rfl rfl hl.1 rfl (lv_room (Nat.le_of_ble_eq_true rfl)) dI4_17 ⟨Nat.le_of_ble_eq_true rfl, Nat.le_of_ble_eq_true rfl⟩) hS (fun q _ h => hFc q h) hFc (fun _ t H1 locs ht hvm _ hB hz1 hk1 hS => ?_)
  obtain ⟨q3, q4, q5, q6, hP1, hD1⟩ := hB
  rw [ht] at hP1
  obtain ⟨hP, hD⟩ := va_join (wr := [(h0, .inr (4, [.ref q1, .int 0, .null, .null, .null, .null])), (q1, .inl (cy 0, 14, .inl (fun _ => 0)))]) (w1 := [(q2, .inr (1, [.ref q3, .ref q4, .ref q5, .ref q6])), (q3, .inl (cy 0, 7, .inl (fun _ => 0))), (q4, .inl (cy 0, 7, .inl (fun _ => 0))), (q5, .inl (cy 0, 196, .inl (fun _ => 0))), (q6, .inl (cy 0, 16384, .inl (fun _ => 0)))]) hP hD [2] [0, 1] rfl rfl (by decide) (by decide) hk1 hFc hP1 hD1
  generalize H1 = H at hP hS ⊢
  have hP : va_P D vwCl [(h0, .inr (4, [.ref q1, .int 0, .null, .null, .null, .null])), (q1, .inl (cy 0, 14, .inl (fun _ => 0))), (q2, .inr (1, [.ref q3, .ref q4, .ref q5, .ref q6])), (q3, .inl (cy 0, 7, .inl (fun _ => 0))), (q4, .inl (cy 0, 7, .inl (fun _ => 0))), (q5, .inl (cy 0, 196, .inl (fun _ => 0))), (q6, .inl (cy 0, 16384, .inl (fun _ => 0)))] H := hP
  have hD : va_D A [(h0, .inr (4, [.ref q1, .int 0, .null, .null, .null, .null])), (q1, .inl (cy 0, 14, .inl (fun _ => 0))), (q2, .inr (1, [.ref q3, .ref q4, .ref q5, .ref q6])), (q3, .inl (cy 0, 7, .inl (fun _ => 0))), (q4, .inl (cy 0, 7, .inl (fun _ => 0))), (q5, .inl (cy 0, 196, .inl (fun _ => 0))), (q6, .inl (cy 0, 16384, .inl (fun _ => 0)))] := hD
  refine va_putF (D := D) (ci := 4) (v := .ref q2) (ty := tyX4 2) (C := RX4) (T := TX4) (N := 6) hx hb hts (cls_in (ci := 4) (q := (RX4, TX4, 6)) rfl) tyX4 tyX4_ok nmX4 hown hK hP hD hS 0 rfl rfl 2 (by decide) (hts _ (gw_at lkI_1221 rfl)) (fun _ h9 => h9) rfl hin rfl (tyX4_ok 2 (by decide)) rfl rfl (Nat.le_of_ble_eq_true rfl) dI4_20 (fun H locs hP hD hS => ?_)
  have hP : va_P D vwCl [(h0, .inr (4, [.ref q1, .int 0, .ref q2, .null, .null, .null])), (q1, .inl (cy 0, 14, .inl (fun _ => 0))), (q2, .inr (1, [.ref q3, .ref q4, .ref q5, .ref q6])), (q3, .inl (cy 0, 7, .inl (fun _ => 0))), (q4, .inl (cy 0, 7, .inl (fun _ => 0))), (q5, .inl (cy 0, 196, .inl (fun _ => 0))), (q6, .inl (cy 0, 16384, .inl (fun _ => 0)))] H := hP
  have hD : va_D A [(h0, .inr (4, [.ref q1, .int 0, .ref q2, .null, .null, .null])), (q1, .inl (cy 0, 14, .inl (fun _ => 0))), (q2, .inr (1, [.ref q3, .ref q4, .ref q5, .ref q6])), (q3, .inl (cy 0, 7, .inl (fun _ => 0))), (q4, .inl (cy 0, 7, .inl (fun _ => 0))), (q5, .inl (cy 0, 196, .inl (fun _ => 0))), (q6, .inl (cy 0, 16384, .inl (fun _ => 0)))] := hD
  refine lv_aload_n hx hb dI4_23 rfl (lv_at hl 0 rfl) ?_
  refine lv_aload_n hx hb dI4_24 rfl (lv_at hl 1 rfl) ?_
  refine va_putF (D := D) (ci := 4) (v := .ref a1) (ty := tyX4 3) (C := RX4) (T := TX4) (N := 6) hx hb hts (cls_in (ci := 4) (q := (RX4, TX4, 6)) rfl) tyX4 tyX4_ok nmX4 hown hK hP hD hS 0 rfl rfl 3 (by decide) (hts _ (gw_at lkI_1222 rfl)) (fun _ h9 => h9) rfl hin rfl (tyX4_ok 3 (by decide)) rfl rfl (Nat.le_of_ble_eq_true rfl) dI4_25 (fun H locs hP hD hS => ?_)
  have hP : va_P D vwCl [(h0, .inr (4, [.ref q1, .int 0, .ref q2, .ref a1, .null, .null])), (q1, .inl (cy 0, 14, .inl (fun _ => 0))), (q2, .inr (1, [.ref q3, .ref q4, .ref q5, .ref q6])), (q3, .inl (cy 0, 7, .inl (fun _ => 0))), (q4, .inl (cy 0, 7, .inl (fun _ => 0))), (q5, .inl (cy 0, 196, .inl (fun _ => 0))), (q6, .inl (cy 0, 16384, .inl (fun _ => 0)))] H := hP
  have hD : va_D A [(h0, .inr (4, [.ref q1, .int 0, .ref q2, .ref a1, .null, .null])), (q1, .inl (cy 0, 14, .inl (fun _ => 0))), (q2, .inr (1, [.ref q3, .ref q4, .ref q5, .ref q6])), (q3, .inl (cy 0, 7, .inl (fun _ => 0))), (q4, .inl (cy 0, 7, .inl (fun _ => 0))), (q5, .inl (cy 0, 196, .inl (fun _ => 0))), (q6, .inl (cy 0, 16384, .inl (fun _ => 0)))] := hD
  refine lv_aload_n hx hb dI4_28 rfl (lv_at hl 0 rfl) ?_
  refine lv_aload_n hx hb dI4_29 rfl (lv_at hl 2 rfl) ?_
  refine va_putF (D := D) (ci := 4) (v := .ref a2) (ty := tyX4 4) (C := RX4) (T := TX4) (N := 6) hx hb hts (cls_in (ci := 4) (q := (RX4, TX4, 6)) rfl) tyX4 tyX4_ok nmX4 hown hK hP hD hS 0 rfl rfl 4 (by decide) (hts _ (gw_at lkI_1223 rfl)) (fun _ h9 => h9) rfl hin rfl (tyX4_ok 4 (by decide)) rfl rfl (Nat.le_of_ble_eq_true rfl) dI4_30 (fun H locs hP hD hS => ?_)
  have hP : va_P D vwCl [(h0, .inr (4, [.ref q1, .int 0, .ref q2, .ref a1, .ref a2, .null])), (q1, .inl (cy 0, 14, .inl (fun _ => 0))), (q2, .inr (1, [.ref q3, .ref q4, .ref q5, .ref q6])), (q3, .inl (cy 0, 7, .inl (fun _ => 0))), (q4, .inl (cy 0, 7, .inl (fun _ => 0))), (q5, .inl (cy 0, 196, .inl (fun _ => 0))), (q6, .inl (cy 0, 16384, .inl (fun _ => 0)))] H := hP
  have hD : va_D A [(h0, .inr (4, [.ref q1, .int 0, .ref q2, .ref a1, .ref a2, .null])), (q1, .inl (cy 0, 14, .inl (fun _ => 0))), (q2, .inr (1, [.ref q3, .ref q4, .ref q5, .ref q6])), (q3, .inl (cy 0, 7, .inl (fun _ => 0))), (q4, .inl (cy 0, 7, .inl (fun _ => 0))), (q5, .inl (cy 0, 196, .inl (fun _ => 0))), (q6, .inl (cy 0, 16384, .inl (fun _ => 0)))] := hD
  refine lv_aload_n hx hb dI4_33 rfl (lv_at hl 0 rfl) ?_
  refine lv_aload_n hx hb dI4_34 rfl (lv_at hl 3 rfl) ?_
  refine va_putF (D := D) (ci := 4) (v := .ref a3) (ty := tyX4 5) (C := RX4) (T := TX4) (N := 6) hx hb hts (cls_in (ci := 4) (q := (RX4, TX4, 6)) rfl) tyX4 tyX4_ok nmX4 hown hK hP hD hS 0 rfl rfl 5 (by decide) (hts _ (gw_at lkI_1224 rfl)) (fun _ h9 => h9) rfl hin rfl (tyX4_ok 5 (by decide)) rfl rfl (Nat.le_of_ble_eq_true rfl) dI4_35 (fun H locs hP hD hS => ?_)
  have hP : va_P D vwCl [(h0, .inr (4, [.ref q1, .int 0, .ref q2, .ref a1, .ref a2, .ref a3])), (q1, .inl (cy 0, 14, .inl (fun _ => 0))), (q2, .inr (1, [.ref q3, .ref q4, .ref q5, .ref q6])), (q3, .inl (cy 0, 7, .inl (fun _ => 0))), (q4, .inl (cy 0, 7, .inl (fun _ => 0))), (q5, .inl (cy 0, 196, .inl (fun _ => 0))), (q6, .inl (cy 0, 16384, .inl (fun _ => 0)))] H := hP
  have hD : va_D A [(h0, .inr (4, [.ref q1, .int 0, .ref q2, .ref a1, .ref a2, .ref a3])), (q1, .inl (cy 0, 14, .inl (fun _ => 0))), (q2, .inr (1, [.ref q3, .ref q4, .ref q5, .ref q6])), (q3, .inl (cy 0, 7, .inl (fun _ => 0))), (q4, .inl (cy 0, 7, .inl (fun _ => 0))), (q5, .inl (cy 0, 196, .inl (fun _ => 0))), (q6, .inl (cy 0, 16384, .inl (fun _ => 0)))] := hD
  refine W.widen (k := 6) (n := 16612) (Nat.le_of_ble_eq_true rfl) (Nat.le_of_ble_eq_true rfl) ?_
  exact W.vret hx hb hr (fun t ht hW => ⟨⟨(), rfl, trivial, q1, q2, q3, q4, q5, q6, by rw [ht]; exact hP, hD⟩, hS.F ht⟩) hS.2.2 dI4_38
theorem lkI_2003 : lk 2003 = some (.methodLink RX10 3 Lib.objectInit) := by decide +kernel
theorem lkI_2006 : lk 2006 = some (.fieldLink RX10 9 "MockTrials$Testimony" "stated" "[I") := by decide +kernel
theorem lkI_2010 : lk 2010 = some (.fieldLink RX10 15 "MockTrials$Testimony" "reasons" "[I") := by decide +kernel
theorem lkI_2011 : lk 2011 = some (.fieldLink RX10 18 "MockTrials$Testimony" "follows" "[I") := by decide +kernel
theorem lkI_2014 : lk 2014 = some (.fieldLink RX10 21 "MockTrials$Testimony" "askedRows" "[I") := by decide +kernel
theorem dI10_0 : decode cX10_init 0 = .ok (.aload_n 0, 1) := by decide +kernel
theorem dI10_1 : decode cX10_init 1 = .ok (.invokespecial 3, 3) := by decide +kernel
theorem dI10_4 : decode cX10_init 4 = .ok (.aload_n 0, 1) := by decide +kernel
theorem dI10_5 : decode cX10_init 5 = .ok (.bipush 10, 2) := by decide +kernel
theorem dI10_7 : decode cX10_init 7 = .ok (.newarray .int, 2) := by decide +kernel
theorem dI10_9 : decode cX10_init 9 = .ok (.putfield 9, 3) := by decide +kernel
theorem dI10_12 : decode cX10_init 12 = .ok (.aload_n 0, 1) := by decide +kernel
theorem dI10_13 : decode cX10_init 13 = .ok (.bipush 40, 2) := by decide +kernel
theorem dI10_15 : decode cX10_init 15 = .ok (.newarray .int, 2) := by decide +kernel
theorem dI10_17 : decode cX10_init 17 = .ok (.putfield 15, 3) := by decide +kernel
theorem dI10_20 : decode cX10_init 20 = .ok (.aload_n 0, 1) := by decide +kernel
theorem dI10_21 : decode cX10_init 21 = .ok (.bipush 40, 2) := by decide +kernel
theorem dI10_23 : decode cX10_init 23 = .ok (.newarray .int, 2) := by decide +kernel
theorem dI10_25 : decode cX10_init 25 = .ok (.putfield 18, 3) := by decide +kernel
theorem dI10_28 : decode cX10_init 28 = .ok (.aload_n 0, 1) := by decide +kernel
theorem dI10_29 : decode cX10_init 29 = .ok (.sipush 320, 3) := by decide +kernel
theorem dI10_32 : decode cX10_init 32 = .ok (.newarray .int, 2) := by decide +kernel
theorem dI10_34 : decode cX10_init 34 = .ok (.putfield 21, 3) := by decide +kernel
theorem dI10_37 : decode cX10_init 37 = .ok (.return_, 1) := by decide +kernel
theorem dfI10 : ∀ j, j < 7 → defaultValue (tyX10 j) = vp_V [.int 0, .null, .int 0, .null, .null, .int 0, .null] j := by
  intro j hj
  match j, hj with
  | 0, _ => rfl
  | 1, _ => rfl
  | 2, _ => rfl
  | 3, _ => rfl
  | 4, _ => rfl
  | 5, _ => rfl
  | 6, _ => rfl
  | k + 7, hj => exact absurd hj (by omega)
theorem gI10 : GoodIn GW (.code yX10_init cX10_init 1 none :: GW) := ini_good (lk_mem (b := 2002) (by decide +kernel))
set_option maxHeartbeats 4000000 in
set_option maxRecDepth 100000 in
theorem cI10 (l : Launch) (D : va_G) (cy : Nat → ClassId) (h0 sz : Nat) : Met l yX10_init (.code yX10_init cX10_init 1 none :: GW) ({ frames := 1, cells := 4, slots := 410, locals := 20 }) (va_Pc [.ref h0] (PI D cy sz [(h0, .inr (10, [.int 0, .null, .int 0, .null, .null, .int 0, .null]))])) (va_Qv (fun _ : Unit => True) (fun _ t => ∃ q1 q2 q3 q4, va_P D vwCl [(h0, .inr (10, [.int 0, .ref q1, .int 0, .ref q2, .ref q3, .int 0, .ref q4])), (q1, .inl (cy 0, 10, .inl (fun _ => 0))), (q2, .inl (cy 0, 40, .inl (fun _ => 0))), (q3, .inl (cy 0, 40, .inl (fun _ => 0))), (q4, .inl (cy 0, 320, .inl (fun _ => 0)))] t.heap ∧ va_D (va_A [(h0, .inr (10, [.int 0, .null, .int 0, .null, .null, .int 0, .null]))] sz) [(h0, .inr (10, [.int 0, .ref q1, .int 0, .ref q2, .ref q3, .int 0, .ref q4])), (q1, .inl (cy 0, 10, .inl (fun _ => 0))), (q2, .inl (cy 0, 40, .inl (fun _ => 0))), (q3, .inl (cy 0, 40, .inl (fun _ => 0))), (q4, .inl (cy 0, 320, .inl (fun _ => 0)))]) (va_A [(h0, .inr (10, [.int 0, .null, .int 0, .null, .null, .int 0, .null]))] sz)) 4 410 (va_A [(h0, .inr (10, [.int 0, .null, .int 0, .null, .null, .int 0, .null]))] sz) := by
  refine Met.ofW (cc := cX10_init) (maxL := 1) (ret := none) (by decide +kernel) rfl ?_
  intro p e s m args below meth c s₁ B hml hv
  obtain ⟨rfl, hsz, hP, hK, hD0, hN⟩ := hv
  have hx := B.exec
  have hb := B.bytes
  have hr := B.returns
  have hts0 := atoms_spec (ws := .code yX10_init cX10_init 1 none :: GW) B.pre
  have hts : ∀ v ∈ GW, v.before _ s = true := fun v hv => hts0 v (List.mem_cons_of_mem _ hv)
  have hown : s.vm.findClass RX10 = some m.cls := findClass_of_methodNamed B.named
  have hlocks := B.notSynchronized
  have hin : meth.name = "<init>" := (name_of_methodNamed B.named B.method).1
  subst hsz
  have hD := hD0.self (sz := s.heap.size)
  generalize hAe : va_A [(h0, .inr (10, [.int 0, .null, .int 0, .null, .null, .int 0, .null]))] s.heap.size = A at hD ⊢
  have hA : ∀ q : Nat, s.heap.size ≤ q → A q := fun q h => by rw [← hAe]; exact Or.inr h
  have hS : va_S A s.heap s.heap [] := va_S.rf
  have hP : va_P D vwCl [(h0, .inr (10, [.int 0, .null, .int 0, .null, .null, .int 0, .null]))] s.heap := hP
  have hl := lv_entry ([.ref h0]) (n := 1) (Nat.le_of_ble_eq_true rfl)
  rw [lg_entry_eq]
  generalize (lg_sl ([.ref h0]) ++ List.replicate (1 - (lg_sl ([.ref h0])).length) Slot.unset).toArray = ls at hl ⊢
  have hl : lv_has ls 1 [(0, .ref h0)] := hl
  refine lv_aload_n hx hb dI10_0 rfl (lv_at hl 0 rfl) ?_
  refine W.objInit hx hb hown (hts _ (gw_at lkI_2003 rfl)) (hts _ (gw_at lkI_1027 rfl)) (hts _ (gw_at lkI_1028 rfl)) rfl (by rw [hml]; exact hl.1) rfl dI10_1 (Nat.le_of_ble_eq_true rfl) (Nat.le_of_ble_eq_true rfl) ?_
  refine W.eq (g2 := F0 m 4 ls []) rfl ?_
  refine lv_aload_n hx hb dI10_4 rfl (lv_at hl 0 rfl) ?_
  refine lv_bipush (v := 10) hx hb dI10_5 (by decide) ?_
  refine cn_newa (N' := 10) (ty := .int) hx hb (hts _ (gw_at lkI_1113 rfl)) rfl hK hP hD hS hA 0 rfl (fun _ h => h) (fun _ => rfl) (by decide) (by decide) (by decide) (Nat.le_of_ble_eq_true rfl) (Nat.le_of_ble_eq_true rfl) dI10_7 (fun q1 H hP hD hS => ?_)
  have hP : va_P D vwCl [(h0, .inr (10, [.int 0, .null, .int 0, .null, .null, .int 0, .null])), (q1, .inl (cy 0, 10, .inl (fun _ => 0)))] H := hP
  have hD : va_D A [(h0, .inr (10, [.int 0, .null, .int 0, .null, .null, .int 0, .null])), (q1, .inl (cy 0, 10, .inl (fun _ => 0)))] := hD
  refine va_putF (D := D) (ci := 10) (v := .ref q1) (ty := tyX10 1) (C := RX10) (T := TX10) (N := 7) hx hb hts (cls_in (ci := 10) (q := (RX10, TX10, 7)) rfl) tyX10 tyX10_ok nmX10 hown hK hP hD hS 0 rfl rfl 1 (by decide) (hts _ (gw_at lkI_2006 rfl)) (fun _ h9 => h9) rfl hin rfl (tyX10_ok 1 (by decide)) rfl rfl (Nat.le_of_ble_eq_true rfl) dI10_9 (fun H locs hP hD hS => ?_)
  have hP : va_P D vwCl [(h0, .inr (10, [.int 0, .ref q1, .int 0, .null, .null, .int 0, .null])), (q1, .inl (cy 0, 10, .inl (fun _ => 0)))] H := hP
  have hD : va_D A [(h0, .inr (10, [.int 0, .ref q1, .int 0, .null, .null, .int 0, .null])), (q1, .inl (cy 0, 10, .inl (fun _ => 0)))] := hD
  refine lv_aload_n hx hb dI10_12 rfl (lv_at hl 0 rfl) ?_
  refine lv_bipush (v := 40) hx hb dI10_13 (by decide) ?_
  refine cn_newa (N' := 40) (ty := .int) hx hb (hts _ (gw_at lkI_1113 rfl)) rfl hK hP hD hS hA 0 rfl (fun _ h => h) (fun _ => rfl) (by decide) (by decide) (by decide) (Nat.le_of_ble_eq_true rfl) (Nat.le_of_ble_eq_true rfl) dI10_15 (fun q2 H hP hD hS => ?_)
  have hP : va_P D vwCl [(h0, .inr (10, [.int 0, .ref q1, .int 0, .null, .null, .int 0, .null])), (q1, .inl (cy 0, 10, .inl (fun _ => 0))), (q2, .inl (cy 0, 40, .inl (fun _ => 0)))] H := hP
  have hD : va_D A [(h0, .inr (10, [.int 0, .ref q1, .int 0, .null, .null, .int 0, .null])), (q1, .inl (cy 0, 10, .inl (fun _ => 0))), (q2, .inl (cy 0, 40, .inl (fun _ => 0)))] := hD
  refine va_putF (D := D) (ci := 10) (v := .ref q2) (ty := tyX10 3) (C := RX10) (T := TX10) (N := 7) hx hb hts (cls_in (ci := 10) (q := (RX10, TX10, 7)) rfl) tyX10 tyX10_ok nmX10 hown hK hP hD hS 0 rfl rfl 3 (by decide) (hts _ (gw_at lkI_2010 rfl)) (fun _ h9 => h9) rfl hin rfl (tyX10_ok 3 (by decide)) rfl rfl (Nat.le_of_ble_eq_true rfl) dI10_17 (fun H locs hP hD hS => ?_)
  have hP : va_P D vwCl [(h0, .inr (10, [.int 0, .ref q1, .int 0, .ref q2, .null, .int 0, .null])), (q1, .inl (cy 0, 10, .inl (fun _ => 0))), (q2, .inl (cy 0, 40, .inl (fun _ => 0)))] H := hP
  have hD : va_D A [(h0, .inr (10, [.int 0, .ref q1, .int 0, .ref q2, .null, .int 0, .null])), (q1, .inl (cy 0, 10, .inl (fun _ => 0))), (q2, .inl (cy 0, 40, .inl (fun _ => 0)))] := hD
  refine lv_aload_n hx hb dI10_20 rfl (lv_at hl 0 rfl) ?_
  refine lv_bipush (v := 40) hx hb dI10_21 (by decide) ?_
  refine cn_newa (N' := 40) (ty := .int) hx hb (hts _ (gw_at lkI_1113 rfl)) rfl hK hP hD hS hA 0 rfl (fun _ h => h) (fun _ => rfl) (by decide) (by decide) (by decide) (Nat.le_of_ble_eq_true rfl) (Nat.le_of_ble_eq_true rfl) dI10_23 (fun q3 H hP hD hS => ?_)
  have hP : va_P D vwCl [(h0, .inr (10, [.int 0, .ref q1, .int 0, .ref q2, .null, .int 0, .null])), (q1, .inl (cy 0, 10, .inl (fun _ => 0))), (q2, .inl (cy 0, 40, .inl (fun _ => 0))), (q3, .inl (cy 0, 40, .inl (fun _ => 0)))] H := hP
  have hD : va_D A [(h0, .inr (10, [.int 0, .ref q1, .int 0, .ref q2, .null, .int 0, .null])), (q1, .inl (cy 0, 10, .inl (fun _ => 0))), (q2, .inl (cy 0, 40, .inl (fun _ => 0))), (q3, .inl (cy 0, 40, .inl (fun _ => 0)))] := hD
  refine va_putF (D := D) (ci := 10) (v := .ref q3) (ty := tyX10 4) (C := RX10) (T := TX10) (N := 7) hx hb hts (cls_in (ci := 10) (q := (RX10, TX10, 7)) rfl) tyX10 tyX10_ok nmX10 hown hK hP hD hS 0 rfl rfl 4 (by decide) (hts _ (gw_at lkI_2011 rfl)) (fun _ h9 => h9) rfl hin rfl (tyX10_ok 4 (by decide)) rfl rfl (Nat.le_of_ble_eq_true rfl) dI10_25 (fun H locs hP hD hS => ?_)
  have hP : va_P D vwCl [(h0, .inr (10, [.int 0, .ref q1, .int 0, .ref q2, .ref q3, .int 0, .null])), (q1, .inl (cy 0, 10, .inl (fun _ => 0))), (q2, .inl (cy 0, 40, .inl (fun _ => 0))), (q3, .inl (cy 0, 40, .inl (fun _ => 0)))] H := hP
  have hD : va_D A [(h0, .inr (10, [.int 0, .ref q1, .int 0, .ref q2, .ref q3, .int 0, .null])), (q1, .inl (cy 0, 10, .inl (fun _ => 0))), (q2, .inl (cy 0, 40, .inl (fun _ => 0))), (q3, .inl (cy 0, 40, .inl (fun _ => 0)))] := hD
  refine lv_aload_n hx hb dI10_28 rfl (lv_at hl 0 rfl) ?_
  refine lv_sipush (v := 320) hx hb dI10_29 (by decide) ?_
  refine cn_newa (N' := 320) (ty := .int) hx hb (hts _ (gw_at lkI_1113 rfl)) rfl hK hP hD hS hA 0 rfl (fun _ h => h) (fun _ => rfl) (by decide) (by decide) (by decide) (Nat.le_of_ble_eq_true rfl) (Nat.le_of_ble_eq_true rfl) dI10_32 (fun q4 H hP hD hS => ?_)
  have hP : va_P D vwCl [(h0, .inr (10, [.int 0, .ref q1, .int 0, .ref q2, .ref q3, .int 0, .null])), (q1, .inl (cy 0, 10, .inl (fun _ => 0))), (q2, .inl (cy 0, 40, .inl (fun _ => 0))), (q3, .inl (cy 0, 40, .inl (fun _ => 0))), (q4, .inl (cy 0, 320, .inl (fun _ => 0)))] H := hP
  have hD : va_D A [(h0, .inr (10, [.int 0, .ref q1, .int 0, .ref q2, .ref q3, .int 0, .null])), (q1, .inl (cy 0, 10, .inl (fun _ => 0))), (q2, .inl (cy 0, 40, .inl (fun _ => 0))), (q3, .inl (cy 0, 40, .inl (fun _ => 0))), (q4, .inl (cy 0, 320, .inl (fun _ => 0)))] := hD
  refine va_putF (D := D) (ci := 10) (v := .ref q4) (ty := tyX10 6) (C := RX10) (T := TX10) (N := 7) hx hb hts (cls_in (ci := 10) (q := (RX10, TX10, 7)) rfl) tyX10 tyX10_ok nmX10 hown hK hP hD hS 0 rfl rfl 6 (by decide) (hts _ (gw_at lkI_2014 rfl)) (fun _ h9 => h9) rfl hin rfl (tyX10_ok 6 (by decide)) rfl rfl (Nat.le_of_ble_eq_true rfl) dI10_34 (fun H locs hP hD hS => ?_)
  have hP : va_P D vwCl [(h0, .inr (10, [.int 0, .ref q1, .int 0, .ref q2, .ref q3, .int 0, .ref q4])), (q1, .inl (cy 0, 10, .inl (fun _ => 0))), (q2, .inl (cy 0, 40, .inl (fun _ => 0))), (q3, .inl (cy 0, 40, .inl (fun _ => 0))), (q4, .inl (cy 0, 320, .inl (fun _ => 0)))] H := hP
  have hD : va_D A [(h0, .inr (10, [.int 0, .ref q1, .int 0, .ref q2, .ref q3, .int 0, .ref q4])), (q1, .inl (cy 0, 10, .inl (fun _ => 0))), (q2, .inl (cy 0, 40, .inl (fun _ => 0))), (q3, .inl (cy 0, 40, .inl (fun _ => 0))), (q4, .inl (cy 0, 320, .inl (fun _ => 0)))] := hD
  refine W.widen (k := 4) (n := 410) (Nat.le_of_ble_eq_true rfl) (Nat.le_of_ble_eq_true rfl) ?_
  exact W.vret hx hb hr (fun t ht hW => ⟨⟨(), rfl, trivial, q1, q2, q3, q4, by rw [ht]; exact hP, hD⟩, hS.F ht⟩) hS.2.2 dI10_37
theorem lkI_2035 : lk 2035 = some (.methodLink RX3 1 Lib.objectInit) := by decide +kernel
theorem dI3_0 : decode cX3_init 0 = .ok (.aload_n 0, 1) := by decide +kernel
theorem dI3_1 : decode cX3_init 1 = .ok (.invokespecial 1, 3) := by decide +kernel
theorem dI3_4 : decode cX3_init 4 = .ok (.return_, 1) := by decide +kernel
theorem dfI3 : ∀ j, j < 5 → defaultValue (tyX3 j) = vp_V [.int 0, .int 0, .int 0, .int 0, .int 0] j := by
  intro j hj
  match j, hj with
  | 0, _ => rfl
  | 1, _ => rfl
  | 2, _ => rfl
  | 3, _ => rfl
  | 4, _ => rfl
  | k + 5, hj => exact absurd hj (by omega)
theorem gI3 : GoodIn GW (.code yX3_init cX3_init 1 none :: GW) := ini_good (lk_mem (b := 2034) (by decide +kernel))
set_option maxHeartbeats 4000000 in
set_option maxRecDepth 100000 in
theorem cI3 (l : Launch) (D : va_G) (cy : Nat → ClassId) (h0 sz : Nat) : Met l yX3_init (.code yX3_init cX3_init 1 none :: GW) ({ frames := 1, cells := 0, slots := 0, locals := 20 }) (va_Pc [.ref h0] (PI D cy sz [(h0, .inr (3, [.int 0, .int 0, .int 0, .int 0, .int 0]))])) (va_Qv (fun _ : Unit => True) (fun _ t => va_P D vwCl [(h0, .inr (3, [.int 0, .int 0, .int 0, .int 0, .int 0]))] t.heap ∧ va_D (va_A [(h0, .inr (3, [.int 0, .int 0, .int 0, .int 0, .int 0]))] sz) [(h0, .inr (3, [.int 0, .int 0, .int 0, .int 0, .int 0]))]) (va_A [(h0, .inr (3, [.int 0, .int 0, .int 0, .int 0, .int 0]))] sz)) 0 0 (va_A [(h0, .inr (3, [.int 0, .int 0, .int 0, .int 0, .int 0]))] sz) := by
  refine Met.ofW (cc := cX3_init) (maxL := 1) (ret := none) (by decide +kernel) rfl ?_
  intro p e s m args below meth c s₁ B hml hv
  obtain ⟨rfl, hsz, hP, hK, hD0, hN⟩ := hv
  have hx := B.exec
  have hb := B.bytes
  have hr := B.returns
  have hts0 := atoms_spec (ws := .code yX3_init cX3_init 1 none :: GW) B.pre
  have hts : ∀ v ∈ GW, v.before _ s = true := fun v hv => hts0 v (List.mem_cons_of_mem _ hv)
  have hown : s.vm.findClass RX3 = some m.cls := findClass_of_methodNamed B.named
  have hlocks := B.notSynchronized
  have hin : meth.name = "<init>" := (name_of_methodNamed B.named B.method).1
  subst hsz
  have hD := hD0.self (sz := s.heap.size)
  generalize hAe : va_A [(h0, .inr (3, [.int 0, .int 0, .int 0, .int 0, .int 0]))] s.heap.size = A at hD ⊢
  have hA : ∀ q : Nat, s.heap.size ≤ q → A q := fun q h => by rw [← hAe]; exact Or.inr h
  have hS : va_S A s.heap s.heap [] := va_S.rf
  have hP : va_P D vwCl [(h0, .inr (3, [.int 0, .int 0, .int 0, .int 0, .int 0]))] s.heap := hP
  have hl := lv_entry ([.ref h0]) (n := 1) (Nat.le_of_ble_eq_true rfl)
  rw [lg_entry_eq]
  generalize (lg_sl ([.ref h0]) ++ List.replicate (1 - (lg_sl ([.ref h0])).length) Slot.unset).toArray = ls at hl ⊢
  have hl : lv_has ls 1 [(0, .ref h0)] := hl
  refine lv_aload_n hx hb dI3_0 rfl (lv_at hl 0 rfl) ?_
  refine W.objInit hx hb hown (hts _ (gw_at lkI_2035 rfl)) (hts _ (gw_at lkI_1027 rfl)) (hts _ (gw_at lkI_1028 rfl)) rfl (by rw [hml]; exact hl.1) rfl dI3_1 (Nat.le_of_ble_eq_true rfl) (Nat.le_of_ble_eq_true rfl) ?_
  refine W.eq (g2 := F0 m 4 ls []) rfl ?_
  refine W.widen (k := 0) (n := 0) (Nat.le_of_ble_eq_true rfl) (Nat.le_of_ble_eq_true rfl) ?_
  exact W.vret hx hb hr (fun t ht hW => ⟨⟨(), rfl, trivial, by rw [ht]; exact hP, hD⟩, hS.F ht⟩) hS.2.2 dI3_4
theorem lkI_2062 : lk 2062 = some (.methodLink RX9 3 Lib.objectInit) := by decide +kernel
theorem lkI_2072 : lk 2072 = some (.arrayClass .char) := by decide +kernel
theorem lkI_2066 : lk 2066 = some (.fieldLink RX9 9 "MockTrials$Tape" "bytes" "[C") := by decide +kernel
theorem dI9_0 : decode cX9_init 0 = .ok (.aload_n 0, 1) := by decide +kernel
theorem dI9_1 : decode cX9_init 1 = .ok (.invokespecial 3, 3) := by decide +kernel
theorem dI9_4 : decode cX9_init 4 = .ok (.aload_n 0, 1) := by decide +kernel
theorem dI9_5 : decode cX9_init 5 = .ok (.sipush 400, 3) := by decide +kernel
theorem dI9_8 : decode cX9_init 8 = .ok (.newarray .char, 2) := by decide +kernel
theorem dI9_10 : decode cX9_init 10 = .ok (.putfield 9, 3) := by decide +kernel
theorem dI9_13 : decode cX9_init 13 = .ok (.return_, 1) := by decide +kernel
theorem dfI9 : ∀ j, j < 2 → defaultValue (tyX9 j) = vp_V [.int 0, .null] j := by
  intro j hj
  match j, hj with
  | 0, _ => rfl
  | 1, _ => rfl
  | k + 2, hj => exact absurd hj (by omega)
theorem gI9 : GoodIn GW (.code yX9_init cX9_init 1 none :: GW) := ini_good (lk_mem (b := 2061) (by decide +kernel))
set_option maxHeartbeats 4000000 in
set_option maxRecDepth 100000 in
theorem cI9 (l : Launch) (D : va_G) (cy : Nat → ClassId) (h0 sz : Nat) : Met l yX9_init (.code yX9_init cX9_init 1 none :: GW) ({ frames := 1, cells := 1, slots := 400, locals := 20 }) (va_Pc [.ref h0] (PI D cy sz [(h0, .inr (9, [.int 0, .null]))])) (va_Qv (fun _ : Unit => True) (fun _ t => ∃ q1, va_P D vwCl [(h0, .inr (9, [.int 0, .ref q1])), (q1, .inl (cy 2, 400, .inl (fun _ => 0)))] t.heap ∧ va_D (va_A [(h0, .inr (9, [.int 0, .null]))] sz) [(h0, .inr (9, [.int 0, .ref q1])), (q1, .inl (cy 2, 400, .inl (fun _ => 0)))]) (va_A [(h0, .inr (9, [.int 0, .null]))] sz)) 1 400 (va_A [(h0, .inr (9, [.int 0, .null]))] sz) := by
  refine Met.ofW (cc := cX9_init) (maxL := 1) (ret := none) (by decide +kernel) rfl ?_
  intro p e s m args below meth c s₁ B hml hv
  obtain ⟨rfl, hsz, hP, hK, hD0, hN⟩ := hv
  have hx := B.exec
  have hb := B.bytes
  have hr := B.returns
  have hts0 := atoms_spec (ws := .code yX9_init cX9_init 1 none :: GW) B.pre
  have hts : ∀ v ∈ GW, v.before _ s = true := fun v hv => hts0 v (List.mem_cons_of_mem _ hv)
  have hown : s.vm.findClass RX9 = some m.cls := findClass_of_methodNamed B.named
  have hlocks := B.notSynchronized
  have hin : meth.name = "<init>" := (name_of_methodNamed B.named B.method).1
  subst hsz
  have hD := hD0.self (sz := s.heap.size)
  generalize hAe : va_A [(h0, .inr (9, [.int 0, .null]))] s.heap.size = A at hD ⊢
  have hA : ∀ q : Nat, s.heap.size ≤ q → A q := fun q h => by rw [← hAe]; exact Or.inr h
  have hS : va_S A s.heap s.heap [] := va_S.rf
  have hP : va_P D vwCl [(h0, .inr (9, [.int 0, .null]))] s.heap := hP
  have hl := lv_entry ([.ref h0]) (n := 1) (Nat.le_of_ble_eq_true rfl)
  rw [lg_entry_eq]
  generalize (lg_sl ([.ref h0]) ++ List.replicate (1 - (lg_sl ([.ref h0])).length) Slot.unset).toArray = ls at hl ⊢
  have hl : lv_has ls 1 [(0, .ref h0)] := hl
  refine lv_aload_n hx hb dI9_0 rfl (lv_at hl 0 rfl) ?_
  refine W.objInit hx hb hown (hts _ (gw_at lkI_2062 rfl)) (hts _ (gw_at lkI_1027 rfl)) (hts _ (gw_at lkI_1028 rfl)) rfl (by rw [hml]; exact hl.1) rfl dI9_1 (Nat.le_of_ble_eq_true rfl) (Nat.le_of_ble_eq_true rfl) ?_
  refine W.eq (g2 := F0 m 4 ls []) rfl ?_
  refine lv_aload_n hx hb dI9_4 rfl (lv_at hl 0 rfl) ?_
  refine lv_sipush (v := 400) hx hb dI9_5 (by decide) ?_
  refine cn_newa (N' := 400) (ty := .char) hx hb (hts _ (gw_at lkI_2072 rfl)) rfl hK hP hD hS hA 2 rfl (fun _ h => h) (fun _ => rfl) (by decide) (by decide) (by decide) (Nat.le_of_ble_eq_true rfl) (Nat.le_of_ble_eq_true rfl) dI9_8 (fun q1 H hP hD hS => ?_)
  have hP : va_P D vwCl [(h0, .inr (9, [.int 0, .null])), (q1, .inl (cy 2, 400, .inl (fun _ => 0)))] H := hP
  have hD : va_D A [(h0, .inr (9, [.int 0, .null])), (q1, .inl (cy 2, 400, .inl (fun _ => 0)))] := hD
  refine va_putF (D := D) (ci := 9) (v := .ref q1) (ty := tyX9 1) (C := RX9) (T := TX9) (N := 2) hx hb hts (cls_in (ci := 9) (q := (RX9, TX9, 2)) rfl) tyX9 tyX9_ok nmX9 hown hK hP hD hS 0 rfl rfl 1 (by decide) (hts _ (gw_at lkI_2066 rfl)) (fun _ h9 => h9) rfl hin rfl (tyX9_ok 1 (by decide)) rfl rfl (Nat.le_of_ble_eq_true rfl) dI9_10 (fun H locs hP hD hS => ?_)
  have hP : va_P D vwCl [(h0, .inr (9, [.int 0, .ref q1])), (q1, .inl (cy 2, 400, .inl (fun _ => 0)))] H := hP
  have hD : va_D A [(h0, .inr (9, [.int 0, .ref q1])), (q1, .inl (cy 2, 400, .inl (fun _ => 0)))] := hD
  refine W.widen (k := 1) (n := 400) (Nat.le_of_ble_eq_true rfl) (Nat.le_of_ble_eq_true rfl) ?_
  exact W.vret hx hb hr (fun t ht hW => ⟨⟨(), rfl, trivial, q1, by rw [ht]; exact hP, hD⟩, hS.F ht⟩) hS.2.2 dI9_13
theorem lkI_2078 : lk 2078 = some (.methodLink RX6 3 Lib.objectInit) := by decide +kernel
theorem lkI_2081 : lk 2081 = some (.fieldLink RX6 9 "MockTrials$RuleBook" "kindOf" "[I") := by decide +kernel
theorem lkI_2082 : lk 2082 = some (.fieldLink RX6 15 "MockTrials$RuleBook" "startOf" "[I") := by decide +kernel
theorem lkI_2083 : lk 2083 = some (.fieldLink RX6 18 "MockTrials$RuleBook" "stopOf" "[I") := by decide +kernel
theorem lkI_2084 : lk 2084 = some (.fieldLink RX6 21 "MockTrials$RuleBook" "codes" "[I") := by decide +kernel
theorem lkI_2086 : lk 2086 = some (.fieldLink RX6 24 "MockTrials$RuleBook" "waiting" "[Z") := by decide +kernel
theorem dI6_0 : decode cX6_init 0 = .ok (.aload_n 0, 1) := by decide +kernel
theorem dI6_1 : decode cX6_init 1 = .ok (.invokespecial 3, 3) := by decide +kernel
theorem dI6_4 : decode cX6_init 4 = .ok (.aload_n 0, 1) := by decide +kernel
theorem dI6_5 : decode cX6_init 5 = .ok (.bipush 20, 2) := by decide +kernel
theorem dI6_7 : decode cX6_init 7 = .ok (.newarray .int, 2) := by decide +kernel
theorem dI6_9 : decode cX6_init 9 = .ok (.putfield 9, 3) := by decide +kernel
theorem dI6_12 : decode cX6_init 12 = .ok (.aload_n 0, 1) := by decide +kernel
theorem dI6_13 : decode cX6_init 13 = .ok (.bipush 20, 2) := by decide +kernel
theorem dI6_15 : decode cX6_init 15 = .ok (.newarray .int, 2) := by decide +kernel
theorem dI6_17 : decode cX6_init 17 = .ok (.putfield 15, 3) := by decide +kernel
theorem dI6_20 : decode cX6_init 20 = .ok (.aload_n 0, 1) := by decide +kernel
theorem dI6_21 : decode cX6_init 21 = .ok (.bipush 20, 2) := by decide +kernel
theorem dI6_23 : decode cX6_init 23 = .ok (.newarray .int, 2) := by decide +kernel
theorem dI6_25 : decode cX6_init 25 = .ok (.putfield 18, 3) := by decide +kernel
theorem dI6_28 : decode cX6_init 28 = .ok (.aload_n 0, 1) := by decide +kernel
theorem dI6_29 : decode cX6_init 29 = .ok (.sipush 400, 3) := by decide +kernel
theorem dI6_32 : decode cX6_init 32 = .ok (.newarray .int, 2) := by decide +kernel
theorem dI6_34 : decode cX6_init 34 = .ok (.putfield 21, 3) := by decide +kernel
theorem dI6_37 : decode cX6_init 37 = .ok (.aload_n 0, 1) := by decide +kernel
theorem dI6_38 : decode cX6_init 38 = .ok (.bipush 32, 2) := by decide +kernel
theorem dI6_40 : decode cX6_init 40 = .ok (.newarray .boolean, 2) := by decide +kernel
theorem dI6_42 : decode cX6_init 42 = .ok (.putfield 24, 3) := by decide +kernel
theorem dI6_45 : decode cX6_init 45 = .ok (.return_, 1) := by decide +kernel
theorem dfI6 : ∀ j, j < 8 → defaultValue (tyX6 j) = vp_V [.int 0, .null, .null, .null, .null, .int 0, .null, .int 0] j := by
  intro j hj
  match j, hj with
  | 0, _ => rfl
  | 1, _ => rfl
  | 2, _ => rfl
  | 3, _ => rfl
  | 4, _ => rfl
  | 5, _ => rfl
  | 6, _ => rfl
  | 7, _ => rfl
  | k + 8, hj => exact absurd hj (by omega)
theorem gI6 : GoodIn GW (.code yX6_init cX6_init 1 none :: GW) := ini_good (lk_mem (b := 2077) (by decide +kernel))
set_option maxHeartbeats 4000000 in
set_option maxRecDepth 100000 in
theorem cI6 (l : Launch) (D : va_G) (cy : Nat → ClassId) (h0 sz : Nat) : Met l yX6_init (.code yX6_init cX6_init 1 none :: GW) ({ frames := 1, cells := 5, slots := 492, locals := 20 }) (va_Pc [.ref h0] (PI D cy sz [(h0, .inr (6, [.int 0, .null, .null, .null, .null, .int 0, .null, .int 0]))])) (va_Qv (fun _ : Unit => True) (fun _ t => ∃ q1 q2 q3 q4 q5, va_P D vwCl [(h0, .inr (6, [.int 0, .ref q1, .ref q2, .ref q3, .ref q4, .int 0, .ref q5, .int 0])), (q1, .inl (cy 0, 20, .inl (fun _ => 0))), (q2, .inl (cy 0, 20, .inl (fun _ => 0))), (q3, .inl (cy 0, 20, .inl (fun _ => 0))), (q4, .inl (cy 0, 400, .inl (fun _ => 0))), (q5, .inl (cy 1, 32, .inl (fun _ => 0)))] t.heap ∧ va_D (va_A [(h0, .inr (6, [.int 0, .null, .null, .null, .null, .int 0, .null, .int 0]))] sz) [(h0, .inr (6, [.int 0, .ref q1, .ref q2, .ref q3, .ref q4, .int 0, .ref q5, .int 0])), (q1, .inl (cy 0, 20, .inl (fun _ => 0))), (q2, .inl (cy 0, 20, .inl (fun _ => 0))), (q3, .inl (cy 0, 20, .inl (fun _ => 0))), (q4, .inl (cy 0, 400, .inl (fun _ => 0))), (q5, .inl (cy 1, 32, .inl (fun _ => 0)))]) (va_A [(h0, .inr (6, [.int 0, .null, .null, .null, .null, .int 0, .null, .int 0]))] sz)) 5 492 (va_A [(h0, .inr (6, [.int 0, .null, .null, .null, .null, .int 0, .null, .int 0]))] sz) := by
  refine Met.ofW (cc := cX6_init) (maxL := 1) (ret := none) (by decide +kernel) rfl ?_
  intro p e s m args below meth c s₁ B hml hv
  obtain ⟨rfl, hsz, hP, hK, hD0, hN⟩ := hv
  have hx := B.exec
  have hb := B.bytes
  have hr := B.returns
  have hts0 := atoms_spec (ws := .code yX6_init cX6_init 1 none :: GW) B.pre
  have hts : ∀ v ∈ GW, v.before _ s = true := fun v hv => hts0 v (List.mem_cons_of_mem _ hv)
  have hown : s.vm.findClass RX6 = some m.cls := findClass_of_methodNamed B.named
  have hlocks := B.notSynchronized
  have hin : meth.name = "<init>" := (name_of_methodNamed B.named B.method).1
  subst hsz
  have hD := hD0.self (sz := s.heap.size)
  generalize hAe : va_A [(h0, .inr (6, [.int 0, .null, .null, .null, .null, .int 0, .null, .int 0]))] s.heap.size = A at hD ⊢
  have hA : ∀ q : Nat, s.heap.size ≤ q → A q := fun q h => by rw [← hAe]; exact Or.inr h
  have hS : va_S A s.heap s.heap [] := va_S.rf
  have hP : va_P D vwCl [(h0, .inr (6, [.int 0, .null, .null, .null, .null, .int 0, .null, .int 0]))] s.heap := hP
  have hl := lv_entry ([.ref h0]) (n := 1) (Nat.le_of_ble_eq_true rfl)
  rw [lg_entry_eq]
  generalize (lg_sl ([.ref h0]) ++ List.replicate (1 - (lg_sl ([.ref h0])).length) Slot.unset).toArray = ls at hl ⊢
  have hl : lv_has ls 1 [(0, .ref h0)] := hl
  refine lv_aload_n hx hb dI6_0 rfl (lv_at hl 0 rfl) ?_
  refine W.objInit hx hb hown (hts _ (gw_at lkI_2078 rfl)) (hts _ (gw_at lkI_1027 rfl)) (hts _ (gw_at lkI_1028 rfl)) rfl (by rw [hml]; exact hl.1) rfl dI6_1 (Nat.le_of_ble_eq_true rfl) (Nat.le_of_ble_eq_true rfl) ?_
  refine W.eq (g2 := F0 m 4 ls []) rfl ?_
  refine lv_aload_n hx hb dI6_4 rfl (lv_at hl 0 rfl) ?_
  refine lv_bipush (v := 20) hx hb dI6_5 (by decide) ?_
  refine cn_newa (N' := 20) (ty := .int) hx hb (hts _ (gw_at lkI_1113 rfl)) rfl hK hP hD hS hA 0 rfl (fun _ h => h) (fun _ => rfl) (by decide) (by decide) (by decide) (Nat.le_of_ble_eq_true rfl) (Nat.le_of_ble_eq_true rfl) dI6_7 (fun q1 H hP hD hS => ?_)
  have hP : va_P D vwCl [(h0, .inr (6, [.int 0, .null, .null, .null, .null, .int 0, .null, .int 0])), (q1, .inl (cy 0, 20, .inl (fun _ => 0)))] H := hP
  have hD : va_D A [(h0, .inr (6, [.int 0, .null, .null, .null, .null, .int 0, .null, .int 0])), (q1, .inl (cy 0, 20, .inl (fun _ => 0)))] := hD
  refine va_putF (D := D) (ci := 6) (v := .ref q1) (ty := tyX6 1) (C := RX6) (T := TX6) (N := 8) hx hb hts (cls_in (ci := 6) (q := (RX6, TX6, 8)) rfl) tyX6 tyX6_ok nmX6 hown hK hP hD hS 0 rfl rfl 1 (by decide) (hts _ (gw_at lkI_2081 rfl)) (fun _ h9 => h9) rfl hin rfl (tyX6_ok 1 (by decide)) rfl rfl (Nat.le_of_ble_eq_true rfl) dI6_9 (fun H locs hP hD hS => ?_)
  have hP : va_P D vwCl [(h0, .inr (6, [.int 0, .ref q1, .null, .null, .null, .int 0, .null, .int 0])), (q1, .inl (cy 0, 20, .inl (fun _ => 0)))] H := hP
  have hD : va_D A [(h0, .inr (6, [.int 0, .ref q1, .null, .null, .null, .int 0, .null, .int 0])), (q1, .inl (cy 0, 20, .inl (fun _ => 0)))] := hD
  refine lv_aload_n hx hb dI6_12 rfl (lv_at hl 0 rfl) ?_
  refine lv_bipush (v := 20) hx hb dI6_13 (by decide) ?_
  refine cn_newa (N' := 20) (ty := .int) hx hb (hts _ (gw_at lkI_1113 rfl)) rfl hK hP hD hS hA 0 rfl (fun _ h => h) (fun _ => rfl) (by decide) (by decide) (by decide) (Nat.le_of_ble_eq_true rfl) (Nat.le_of_ble_eq_true rfl) dI6_15 (fun q2 H hP hD hS => ?_)
  have hP : va_P D vwCl [(h0, .inr (6, [.int 0, .ref q1, .null, .null, .null, .int 0, .null, .int 0])), (q1, .inl (cy 0, 20, .inl (fun _ => 0))), (q2, .inl (cy 0, 20, .inl (fun _ => 0)))] H := hP
  have hD : va_D A [(h0, .inr (6, [.int 0, .ref q1, .null, .null, .null, .int 0, .null, .int 0])), (q1, .inl (cy 0, 20, .inl (fun _ => 0))), (q2, .inl (cy 0, 20, .inl (fun _ => 0)))] := hD
  refine va_putF (D := D) (ci := 6) (v := .ref q2) (ty := tyX6 2) (C := RX6) (T := TX6) (N := 8) hx hb hts (cls_in (ci := 6) (q := (RX6, TX6, 8)) rfl) tyX6 tyX6_ok nmX6 hown hK hP hD hS 0 rfl rfl 2 (by decide) (hts _ (gw_at lkI_2082 rfl)) (fun _ h9 => h9) rfl hin rfl (tyX6_ok 2 (by decide)) rfl rfl (Nat.le_of_ble_eq_true rfl) dI6_17 (fun H locs hP hD hS => ?_)
  have hP : va_P D vwCl [(h0, .inr (6, [.int 0, .ref q1, .ref q2, .null, .null, .int 0, .null, .int 0])), (q1, .inl (cy 0, 20, .inl (fun _ => 0))), (q2, .inl (cy 0, 20, .inl (fun _ => 0)))] H := hP
  have hD : va_D A [(h0, .inr (6, [.int 0, .ref q1, .ref q2, .null, .null, .int 0, .null, .int 0])), (q1, .inl (cy 0, 20, .inl (fun _ => 0))), (q2, .inl (cy 0, 20, .inl (fun _ => 0)))] := hD
  refine lv_aload_n hx hb dI6_20 rfl (lv_at hl 0 rfl) ?_
  refine lv_bipush (v := 20) hx hb dI6_21 (by decide) ?_
  refine cn_newa (N' := 20) (ty := .int) hx hb (hts _ (gw_at lkI_1113 rfl)) rfl hK hP hD hS hA 0 rfl (fun _ h => h) (fun _ => rfl) (by decide) (by decide) (by decide) (Nat.le_of_ble_eq_true rfl) (Nat.le_of_ble_eq_true rfl) dI6_23 (fun q3 H hP hD hS => ?_)
  have hP : va_P D vwCl [(h0, .inr (6, [.int 0, .ref q1, .ref q2, .null, .null, .int 0, .null, .int 0])), (q1, .inl (cy 0, 20, .inl (fun _ => 0))), (q2, .inl (cy 0, 20, .inl (fun _ => 0))), (q3, .inl (cy 0, 20, .inl (fun _ => 0)))] H := hP
  have hD : va_D A [(h0, .inr (6, [.int 0, .ref q1, .ref q2, .null, .null, .int 0, .null, .int 0])), (q1, .inl (cy 0, 20, .inl (fun _ => 0))), (q2, .inl (cy 0, 20, .inl (fun _ => 0))), (q3, .inl (cy 0, 20, .inl (fun _ => 0)))] := hD
  refine va_putF (D := D) (ci := 6) (v := .ref q3) (ty := tyX6 3) (C := RX6) (T := TX6) (N := 8) hx hb hts (cls_in (ci := 6) (q := (RX6, TX6, 8)) rfl) tyX6 tyX6_ok nmX6 hown hK hP hD hS 0 rfl rfl 3 (by decide) (hts _ (gw_at lkI_2083 rfl)) (fun _ h9 => h9) rfl hin rfl (tyX6_ok 3 (by decide)) rfl rfl (Nat.le_of_ble_eq_true rfl) dI6_25 (fun H locs hP hD hS => ?_)
  have hP : va_P D vwCl [(h0, .inr (6, [.int 0, .ref q1, .ref q2, .ref q3, .null, .int 0, .null, .int 0])), (q1, .inl (cy 0, 20, .inl (fun _ => 0))), (q2, .inl (cy 0, 20, .inl (fun _ => 0))), (q3, .inl (cy 0, 20, .inl (fun _ => 0)))] H := hP
  have hD : va_D A [(h0, .inr (6, [.int 0, .ref q1, .ref q2, .ref q3, .null, .int 0, .null, .int 0])), (q1, .inl (cy 0, 20, .inl (fun _ => 0))), (q2, .inl (cy 0, 20, .inl (fun _ => 0))), (q3, .inl (cy 0, 20, .inl (fun _ => 0)))] := hD
  refine lv_aload_n hx hb dI6_28 rfl (lv_at hl 0 rfl) ?_
  refine lv_sipush (v := 400) hx hb dI6_29 (by decide) ?_
  refine cn_newa (N' := 400) (ty := .int) hx hb (hts _ (gw_at lkI_1113 rfl)) rfl hK hP hD hS hA 0 rfl (fun _ h => h) (fun _ => rfl) (by decide) (by decide) (by decide) (Nat.le_of_ble_eq_true rfl) (Nat.le_of_ble_eq_true rfl) dI6_32 (fun q4 H hP hD hS => ?_)
  have hP : va_P D vwCl [(h0, .inr (6, [.int 0, .ref q1, .ref q2, .ref q3, .null, .int 0, .null, .int 0])), (q1, .inl (cy 0, 20, .inl (fun _ => 0))), (q2, .inl (cy 0, 20, .inl (fun _ => 0))), (q3, .inl (cy 0, 20, .inl (fun _ => 0))), (q4, .inl (cy 0, 400, .inl (fun _ => 0)))] H := hP
  have hD : va_D A [(h0, .inr (6, [.int 0, .ref q1, .ref q2, .ref q3, .null, .int 0, .null, .int 0])), (q1, .inl (cy 0, 20, .inl (fun _ => 0))), (q2, .inl (cy 0, 20, .inl (fun _ => 0))), (q3, .inl (cy 0, 20, .inl (fun _ => 0))), (q4, .inl (cy 0, 400, .inl (fun _ => 0)))] := hD
  refine va_putF (D := D) (ci := 6) (v := .ref q4) (ty := tyX6 4) (C := RX6) (T := TX6) (N := 8) hx hb hts (cls_in (ci := 6) (q := (RX6, TX6, 8)) rfl) tyX6 tyX6_ok nmX6 hown hK hP hD hS 0 rfl rfl 4 (by decide) (hts _ (gw_at lkI_2084 rfl)) (fun _ h9 => h9) rfl hin rfl (tyX6_ok 4 (by decide)) rfl rfl (Nat.le_of_ble_eq_true rfl) dI6_34 (fun H locs hP hD hS => ?_)
  have hP : va_P D vwCl [(h0, .inr (6, [.int 0, .ref q1, .ref q2, .ref q3, .ref q4, .int 0, .null, .int 0])), (q1, .inl (cy 0, 20, .inl (fun _ => 0))), (q2, .inl (cy 0, 20, .inl (fun _ => 0))), (q3, .inl (cy 0, 20, .inl (fun _ => 0))), (q4, .inl (cy 0, 400, .inl (fun _ => 0)))] H := hP
  have hD : va_D A [(h0, .inr (6, [.int 0, .ref q1, .ref q2, .ref q3, .ref q4, .int 0, .null, .int 0])), (q1, .inl (cy 0, 20, .inl (fun _ => 0))), (q2, .inl (cy 0, 20, .inl (fun _ => 0))), (q3, .inl (cy 0, 20, .inl (fun _ => 0))), (q4, .inl (cy 0, 400, .inl (fun _ => 0)))] := hD
  refine lv_aload_n hx hb dI6_37 rfl (lv_at hl 0 rfl) ?_
  refine lv_bipush (v := 32) hx hb dI6_38 (by decide) ?_
  refine cn_newa (N' := 32) (ty := .boolean) hx hb (hts _ (gw_at lkI_1062 rfl)) rfl hK hP hD hS hA 1 rfl (fun _ h => h) (fun _ => rfl) (by decide) (by decide) (by decide) (Nat.le_of_ble_eq_true rfl) (Nat.le_of_ble_eq_true rfl) dI6_40 (fun q5 H hP hD hS => ?_)
  have hP : va_P D vwCl [(h0, .inr (6, [.int 0, .ref q1, .ref q2, .ref q3, .ref q4, .int 0, .null, .int 0])), (q1, .inl (cy 0, 20, .inl (fun _ => 0))), (q2, .inl (cy 0, 20, .inl (fun _ => 0))), (q3, .inl (cy 0, 20, .inl (fun _ => 0))), (q4, .inl (cy 0, 400, .inl (fun _ => 0))), (q5, .inl (cy 1, 32, .inl (fun _ => 0)))] H := hP
  have hD : va_D A [(h0, .inr (6, [.int 0, .ref q1, .ref q2, .ref q3, .ref q4, .int 0, .null, .int 0])), (q1, .inl (cy 0, 20, .inl (fun _ => 0))), (q2, .inl (cy 0, 20, .inl (fun _ => 0))), (q3, .inl (cy 0, 20, .inl (fun _ => 0))), (q4, .inl (cy 0, 400, .inl (fun _ => 0))), (q5, .inl (cy 1, 32, .inl (fun _ => 0)))] := hD
  refine va_putF (D := D) (ci := 6) (v := .ref q5) (ty := tyX6 6) (C := RX6) (T := TX6) (N := 8) hx hb hts (cls_in (ci := 6) (q := (RX6, TX6, 8)) rfl) tyX6 tyX6_ok nmX6 hown hK hP hD hS 0 rfl rfl 6 (by decide) (hts _ (gw_at lkI_2086 rfl)) (fun _ h9 => h9) rfl hin rfl (tyX6_ok 6 (by decide)) rfl rfl (Nat.le_of_ble_eq_true rfl) dI6_42 (fun H locs hP hD hS => ?_)
  have hP : va_P D vwCl [(h0, .inr (6, [.int 0, .ref q1, .ref q2, .ref q3, .ref q4, .int 0, .ref q5, .int 0])), (q1, .inl (cy 0, 20, .inl (fun _ => 0))), (q2, .inl (cy 0, 20, .inl (fun _ => 0))), (q3, .inl (cy 0, 20, .inl (fun _ => 0))), (q4, .inl (cy 0, 400, .inl (fun _ => 0))), (q5, .inl (cy 1, 32, .inl (fun _ => 0)))] H := hP
  have hD : va_D A [(h0, .inr (6, [.int 0, .ref q1, .ref q2, .ref q3, .ref q4, .int 0, .ref q5, .int 0])), (q1, .inl (cy 0, 20, .inl (fun _ => 0))), (q2, .inl (cy 0, 20, .inl (fun _ => 0))), (q3, .inl (cy 0, 20, .inl (fun _ => 0))), (q4, .inl (cy 0, 400, .inl (fun _ => 0))), (q5, .inl (cy 1, 32, .inl (fun _ => 0)))] := hD
  refine W.widen (k := 5) (n := 492) (Nat.le_of_ble_eq_true rfl) (Nat.le_of_ble_eq_true rfl) ?_
  exact W.vret hx hb hr (fun t ht hW => ⟨⟨(), rfl, trivial, q1, q2, q3, q4, q5, by rw [ht]; exact hP, hD⟩, hS.F ht⟩) hS.2.2 dI6_45
theorem lkI_2110 : lk 2110 = some (.methodLink RX7 3 Lib.objectInit) := by decide +kernel
theorem lkI_2114 : lk 2114 = some (.fieldLink RX7 9 "MockTrials$RuleReader" "tape" "LMockTrials$Tape;") := by decide +kernel
theorem lkI_2115 : lk 2115 = some (.fieldLink RX7 15 "MockTrials$RuleReader" "into" "LMockTrials$RuleBook;") := by decide +kernel
theorem dI7_0 : decode cX7_init 0 = .ok (.aload_n 0, 1) := by decide +kernel
theorem dI7_1 : decode cX7_init 1 = .ok (.invokespecial 3, 3) := by decide +kernel
theorem dI7_4 : decode cX7_init 4 = .ok (.aload_n 0, 1) := by decide +kernel
theorem dI7_5 : decode cX7_init 5 = .ok (.aload_n 1, 1) := by decide +kernel
theorem dI7_6 : decode cX7_init 6 = .ok (.putfield 9, 3) := by decide +kernel
theorem dI7_9 : decode cX7_init 9 = .ok (.aload_n 0, 1) := by decide +kernel
theorem dI7_10 : decode cX7_init 10 = .ok (.aload_n 2, 1) := by decide +kernel
theorem dI7_11 : decode cX7_init 11 = .ok (.putfield 15, 3) := by decide +kernel
theorem dI7_14 : decode cX7_init 14 = .ok (.return_, 1) := by decide +kernel
theorem dfI7 : ∀ j, j < 4 → defaultValue (tyX7 j) = vp_V [.int 0, .int 0, .null, .null] j := by
  intro j hj
  match j, hj with
  | 0, _ => rfl
  | 1, _ => rfl
  | 2, _ => rfl
  | 3, _ => rfl
  | k + 4, hj => exact absurd hj (by omega)
theorem gI7 : GoodIn GW (.code yX7_init cX7_init 3 none :: GW) := ini_good (lk_mem (b := 2109) (by decide +kernel))
set_option maxHeartbeats 4000000 in
set_option maxRecDepth 100000 in
theorem cI7 (l : Launch) (D : va_G) (cy : Nat → ClassId) (h0 sz : Nat) (a1 : Nat) (a2 : Nat) : Met l yX7_init (.code yX7_init cX7_init 3 none :: GW) ({ frames := 1, cells := 0, slots := 0, locals := 20 }) (va_Pc [.ref h0, .ref a1, .ref a2] (PI D cy sz [(h0, .inr (7, [.int 0, .int 0, .null, .null]))])) (va_Qv (fun _ : Unit => True) (fun _ t => va_P D vwCl [(h0, .inr (7, [.int 0, .int 0, .ref a1, .ref a2]))] t.heap ∧ va_D (va_A [(h0, .inr (7, [.int 0, .int 0, .null, .null]))] sz) [(h0, .inr (7, [.int 0, .int 0, .ref a1, .ref a2]))]) (va_A [(h0, .inr (7, [.int 0, .int 0, .null, .null]))] sz)) 0 0 (va_A [(h0, .inr (7, [.int 0, .int 0, .null, .null]))] sz) := by
  refine Met.ofW (cc := cX7_init) (maxL := 3) (ret := none) (by decide +kernel) rfl ?_
  intro p e s m args below meth c s₁ B hml hv
  obtain ⟨rfl, hsz, hP, hK, hD0, hN⟩ := hv
  have hx := B.exec
  have hb := B.bytes
  have hr := B.returns
  have hts0 := atoms_spec (ws := .code yX7_init cX7_init 3 none :: GW) B.pre
  have hts : ∀ v ∈ GW, v.before _ s = true := fun v hv => hts0 v (List.mem_cons_of_mem _ hv)
  have hown : s.vm.findClass RX7 = some m.cls := findClass_of_methodNamed B.named
  have hlocks := B.notSynchronized
  have hin : meth.name = "<init>" := (name_of_methodNamed B.named B.method).1
  subst hsz
  have hD := hD0.self (sz := s.heap.size)
  generalize hAe : va_A [(h0, .inr (7, [.int 0, .int 0, .null, .null]))] s.heap.size = A at hD ⊢
  have hA : ∀ q : Nat, s.heap.size ≤ q → A q := fun q h => by rw [← hAe]; exact Or.inr h
  have hS : va_S A s.heap s.heap [] := va_S.rf
  have hP : va_P D vwCl [(h0, .inr (7, [.int 0, .int 0, .null, .null]))] s.heap := hP
  have hl := lv_entry ([.ref h0, .ref a1, .ref a2]) (n := 3) (Nat.le_of_ble_eq_true rfl)
  rw [lg_entry_eq]
  generalize (lg_sl ([.ref h0, .ref a1, .ref a2]) ++ List.replicate (3 - (lg_sl ([.ref h0, .ref a1, .ref a2])).length) Slot.unset).toArray = ls at hl ⊢
  have hl : lv_has ls 3 [(0, .ref h0), (1, .ref a1), (2, .ref a2)] := hl
  refine lv_aload_n hx hb dI7_0 rfl (lv_at hl 0 rfl) ?_
  refine W.objInit hx hb hown (hts _ (gw_at lkI_2110 rfl)) (hts _ (gw_at lkI_1027 rfl)) (hts _ (gw_at lkI_1028 rfl)) rfl (by rw [hml]; exact hl.1) rfl dI7_1 (Nat.le_of_ble_eq_true rfl) (Nat.le_of_ble_eq_true rfl) ?_
  refine W.eq (g2 := F0 m 4 ls []) rfl ?_
  refine lv_aload_n hx hb dI7_4 rfl (lv_at hl 0 rfl) ?_
  refine lv_aload_n hx hb dI7_5 rfl (lv_at hl 1 rfl) ?_
  refine va_putF (D := D) (ci := 7) (v := .ref a1) (ty := tyX7 2) (C := RX7) (T := TX7) (N := 4) hx hb hts (cls_in (ci := 7) (q := (RX7, TX7, 4)) rfl) tyX7 tyX7_ok nmX7 hown hK hP hD hS 0 rfl rfl 2 (by decide) (hts _ (gw_at lkI_2114 rfl)) (fun _ h9 => h9) rfl hin rfl (tyX7_ok 2 (by decide)) rfl rfl (Nat.le_of_ble_eq_true rfl) dI7_6 (fun H locs hP hD hS => ?_)
  have hP : va_P D vwCl [(h0, .inr (7, [.int 0, .int 0, .ref a1, .null]))] H := hP
  have hD : va_D A [(h0, .inr (7, [.int 0, .int 0, .ref a1, .null]))] := hD
  refine lv_aload_n hx hb dI7_9 rfl (lv_at hl 0 rfl) ?_
  refine lv_aload_n hx hb dI7_10 rfl (lv_at hl 2 rfl) ?_
  refine va_put (D := D) (ci := 7) (v := .ref a2) (ty := tyX7 3) (C := RX7) (T := TX7) (N := 4) hx hb hts (cls_in (ci := 7) (q := (RX7, TX7, 4)) rfl) tyX7 tyX7_ok nmX7 hown hK hP hD hS 0 rfl rfl 3 (by decide) (hts _ (gw_at lkI_2115 rfl)) (fun _ h9 => h9) rfl (tyX7_ok 3 (by decide)) rfl rfl (Nat.le_of_ble_eq_true rfl) dI7_11 (fun H locs hP hD hS => ?_)
  have hP : va_P D vwCl [(h0, .inr (7, [.int 0, .int 0, .ref a1, .ref a2]))] H := hP
  have hD : va_D A [(h0, .inr (7, [.int 0, .int 0, .ref a1, .ref a2]))] := hD
  refine W.widen (k := 0) (n := 0) (Nat.le_of_ble_eq_true rfl) (Nat.le_of_ble_eq_true rfl) ?_
  exact W.vret hx hb hr (fun t ht hW => ⟨⟨(), rfl, trivial, by rw [ht]; exact hP, hD⟩, hS.F ht⟩) hS.2.2 dI7_14
