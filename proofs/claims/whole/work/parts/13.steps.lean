/-! rows by which a stretch of code is run in the head -/
section STP
variable {x y : Int32} {u v : Int64} {o q n ci kd : Nat} {a b : Value} {L S acc : List Value} {h : HpT} {w : WdT}
theorem ldI_0 {k : Int32 → Prop} : ldI (.int x :: L) 0 k = k x := id rfl
theorem ldI_s {k : Int32 → Prop} : ldI (a :: L) (n + 1) k = ldI L n k := id rfl
theorem ldL_0 {k : Int64 → Prop} : ldL (.long u :: L) 0 k = k u := id rfl
theorem ldL_s {k : Int64 → Prop} : ldL (a :: L) (n + 1) k = ldL L n k := id rfl
theorem ldR_0 {k : Nat → Prop} : ldR (.ref o :: L) 0 k = k o := id rfl
theorem ldR_s {k : Nat → Prop} : ldR (a :: L) (n + 1) k = ldR L n k := id rfl
theorem pI1_c {k : Int32 → List Value → Prop} : pI1 (.int x :: S) k = k x S := id rfl
theorem pI2_c {k : Int32 → Int32 → List Value → Prop} : pI2 (.int y :: .int x :: S) k = k x y S := id rfl
theorem pL1_c {k : Int64 → List Value → Prop} : pL1 (.long u :: S) k = k u S := id rfl
theorem pL2_c {k : Int64 → Int64 → List Value → Prop} : pL2 (.long v :: .long u :: S) k = k u v S := id rfl
theorem pR1_c {k : Nat → List Value → Prop} : pR1 (.ref o :: S) k = k o S := id rfl
theorem pIR_c {k : Int32 → Nat → List Value → Prop} : pIR (.int x :: .ref o :: S) k = k x o S := id rfl
theorem pIIR_c {k : Int32 → Int32 → Nat → List Value → Prop} : pIIR (.int y :: .int x :: .ref o :: S) k = k y x o S := id rfl
theorem pVR_c {k : Value → Nat → List Value → Prop} : pVR (a :: .ref o :: S) k = k a o S := id rfl
theorem pV1_c {k : Value → List Value → Prop} : pV1 (a :: S) k = k a S := id rfl
theorem pV2_c {k : Value → Value → List Value → Prop} : pV2 (a :: b :: S) k = k a b S := id rfl
theorem pOne_c {k : Value → Prop} : pOne [a] k = k a := id rfl
theorem pNil_c {k : Prop} : pNil [] k = k := id rfl
theorem popn_0 {k : List Value → List Value → Prop} : popn 0 acc S k = k acc S := id rfl
theorem popn_s {k : List Value → List Value → Prop} : popn (n + 1) acc (a :: S) k = popn n (a :: acc) S k := id rfl
theorem pfv_0 {K : HpT → Prop} : pfv h o q K 0 (.int x) = K (sI h o q x) := id rfl
theorem pfv_1 {K : HpT → Prop} : pfv h o q K 1 (.long u) = K (sL h o q u) := id rfl
theorem pfv_2 {K : HpT → Prop} : pfv h o q K 2 (.ref n) = K (sR h o q n) := id rfl
theorem pfv_4 {K : HpT → Prop} : pfv h o q K 4 (.int x) = ((x = 0 ∨ x = 1) ∧ K (sI h o q x)) := id rfl
theorem gfv_0 : gfv w h o q 0 = .int (hI h o q) := id rfl
theorem gfv_1 : gfv w h o q 1 = .long (hL h o q) := id rfl
theorem gfv_2 : gfv w h o q 2 = .ref (hR h o q) := id rfl
theorem gfv_3 : gfv w h o q 3 = .ref (wFr w o q) := id rfl
theorem gfv_4 : gfv w h o q 4 = .int (hI h o q) := id rfl
theorem wX_1 : (wdX : WdT).1 = 13 := id rfl
theorem wX_2 : (wdX : WdT).2.1 = 56 := id rfl
theorem wX_oc : wOc wdX o = ocX o := id rfl
theorem wX_ln : wLn wdX o = lnX o := id rfl
theorem wX_ty : wTy wdX o = tyX o := id rfl
theorem wX_fr : wFr wdX o q = frX o q := id rfl
theorem wM_1 : (wdM : WdT).1 = 1 := id rfl
theorem wM_2 : (wdM : WdT).2.1 = 35 := id rfl
theorem wM_oc : wOc wdM o = ocM o := id rfl
theorem wM_ln : wLn wdM o = lnM o := id rfl
theorem wM_ty : wTy wdM o = tyM o := id rfl
theorem wM_fr : wFr wdM o q = frM o q := id rfl
end STP
-- rows of wp
theorem wp_nil {w : WdT} {C : MtT → List Value → HpT → (Option Value → HpT → Prop) → Prop} {K : Nat → List Value → List Value → HpT → Prop} {Rt : Option Value → HpT → Prop} {rt : Option FieldType} {en : Nat} {is : List AIt} {L S : List Value} {h : HpT} : wp w C K Rt rt en [] L S h = K en L S h := id rfl
theorem wp_iconst {w : WdT} {C : MtT → List Value → HpT → (Option Value → HpT → Prop) → Prop} {K : Nat → List Value → List Value → HpT → Prop} {Rt : Option Value → HpT → Prop} {rt : Option FieldType} {en : Nat} {is : List AIt} {L S : List Value} {h : HpT} {j1 : Int} {a9 : Nat} {b9 : Nat} {v : Value} : wp w C K Rt rt en ((.iconst j1, a9, b9, .inl v) :: is) L S h = (wp w C K Rt rt en is L (v :: S) h) := id rfl
theorem wp_bipush {w : WdT} {C : MtT → List Value → HpT → (Option Value → HpT → Prop) → Prop} {K : Nat → List Value → List Value → HpT → Prop} {Rt : Option Value → HpT → Prop} {rt : Option FieldType} {en : Nat} {is : List AIt} {L S : List Value} {h : HpT} {j1 : Int} {a9 : Nat} {b9 : Nat} {v : Value} : wp w C K Rt rt en ((.bipush j1, a9, b9, .inl v) :: is) L S h = (wp w C K Rt rt en is L (v :: S) h) := id rfl
theorem wp_sipush {w : WdT} {C : MtT → List Value → HpT → (Option Value → HpT → Prop) → Prop} {K : Nat → List Value → List Value → HpT → Prop} {Rt : Option Value → HpT → Prop} {rt : Option FieldType} {en : Nat} {is : List AIt} {L S : List Value} {h : HpT} {j1 : Int} {a9 : Nat} {b9 : Nat} {v : Value} : wp w C K Rt rt en ((.sipush j1, a9, b9, .inl v) :: is) L S h = (wp w C K Rt rt en is L (v :: S) h) := id rfl
theorem wp_lconst {w : WdT} {C : MtT → List Value → HpT → (Option Value → HpT → Prop) → Prop} {K : Nat → List Value → List Value → HpT → Prop} {Rt : Option Value → HpT → Prop} {rt : Option FieldType} {en : Nat} {is : List AIt} {L S : List Value} {h : HpT} {j1 : Fin 2} {a9 : Nat} {b9 : Nat} {v : Value} : wp w C K Rt rt en ((.lconst j1, a9, b9, .inl v) :: is) L S h = (wp w C K Rt rt en is L (v :: S) h) := id rfl
theorem wp_ldc {w : WdT} {C : MtT → List Value → HpT → (Option Value → HpT → Prop) → Prop} {K : Nat → List Value → List Value → HpT → Prop} {Rt : Option Value → HpT → Prop} {rt : Option FieldType} {en : Nat} {is : List AIt} {L S : List Value} {h : HpT} {j1 : Nat} {a9 : Nat} {b9 : Nat} {v : Value} : wp w C K Rt rt en ((.ldc j1, a9, b9, .inl v) :: is) L S h = (wp w C K Rt rt en is L (v :: S) h) := id rfl
theorem wp_ldc_w {w : WdT} {C : MtT → List Value → HpT → (Option Value → HpT → Prop) → Prop} {K : Nat → List Value → List Value → HpT → Prop} {Rt : Option Value → HpT → Prop} {rt : Option FieldType} {en : Nat} {is : List AIt} {L S : List Value} {h : HpT} {j1 : Nat} {a9 : Nat} {b9 : Nat} {v : Value} : wp w C K Rt rt en ((.ldc_w j1, a9, b9, .inl v) :: is) L S h = (wp w C K Rt rt en is L (v :: S) h) := id rfl
theorem wp_ldc2_w {w : WdT} {C : MtT → List Value → HpT → (Option Value → HpT → Prop) → Prop} {K : Nat → List Value → List Value → HpT → Prop} {Rt : Option Value → HpT → Prop} {rt : Option FieldType} {en : Nat} {is : List AIt} {L S : List Value} {h : HpT} {j1 : Nat} {a9 : Nat} {b9 : Nat} {v : Value} : wp w C K Rt rt en ((.ldc2_w j1, a9, b9, .inl v) :: is) L S h = (wp w C K Rt rt en is L (v :: S) h) := id rfl
theorem wp_iload {w : WdT} {C : MtT → List Value → HpT → (Option Value → HpT → Prop) → Prop} {K : Nat → List Value → List Value → HpT → Prop} {Rt : Option Value → HpT → Prop} {rt : Option FieldType} {en : Nat} {is : List AIt} {L S : List Value} {h : HpT} {j1 : Nat} {i : Nat} {b9 : Nat} {p9 : Value ⊕ (MtT × Nat) ⊕ List (Int32 × Nat) ⊕ (Nat × Nat)} : wp w C K Rt rt en ((.iload j1, i, b9, p9) :: is) L S h = (ldI L i (fun x => wp w C K Rt rt en is L (.int x :: S) h)) := id rfl
theorem wp_iload_n {w : WdT} {C : MtT → List Value → HpT → (Option Value → HpT → Prop) → Prop} {K : Nat → List Value → List Value → HpT → Prop} {Rt : Option Value → HpT → Prop} {rt : Option FieldType} {en : Nat} {is : List AIt} {L S : List Value} {h : HpT} {j1 : Fin 4} {i : Nat} {b9 : Nat} {p9 : Value ⊕ (MtT × Nat) ⊕ List (Int32 × Nat) ⊕ (Nat × Nat)} : wp w C K Rt rt en ((.iload_n j1, i, b9, p9) :: is) L S h = (ldI L i (fun x => wp w C K Rt rt en is L (.int x :: S) h)) := id rfl
theorem wp_aload {w : WdT} {C : MtT → List Value → HpT → (Option Value → HpT → Prop) → Prop} {K : Nat → List Value → List Value → HpT → Prop} {Rt : Option Value → HpT → Prop} {rt : Option FieldType} {en : Nat} {is : List AIt} {L S : List Value} {h : HpT} {j1 : Nat} {i : Nat} {b9 : Nat} {p9 : Value ⊕ (MtT × Nat) ⊕ List (Int32 × Nat) ⊕ (Nat × Nat)} : wp w C K Rt rt en ((.aload j1, i, b9, p9) :: is) L S h = (ldR L i (fun x => wp w C K Rt rt en is L (.ref x :: S) h)) := id rfl
theorem wp_aload_n {w : WdT} {C : MtT → List Value → HpT → (Option Value → HpT → Prop) → Prop} {K : Nat → List Value → List Value → HpT → Prop} {Rt : Option Value → HpT → Prop} {rt : Option FieldType} {en : Nat} {is : List AIt} {L S : List Value} {h : HpT} {j1 : Fin 4} {i : Nat} {b9 : Nat} {p9 : Value ⊕ (MtT × Nat) ⊕ List (Int32 × Nat) ⊕ (Nat × Nat)} : wp w C K Rt rt en ((.aload_n j1, i, b9, p9) :: is) L S h = (ldR L i (fun x => wp w C K Rt rt en is L (.ref x :: S) h)) := id rfl
theorem wp_lload {w : WdT} {C : MtT → List Value → HpT → (Option Value → HpT → Prop) → Prop} {K : Nat → List Value → List Value → HpT → Prop} {Rt : Option Value → HpT → Prop} {rt : Option FieldType} {en : Nat} {is : List AIt} {L S : List Value} {h : HpT} {j1 : Nat} {i : Nat} {b9 : Nat} {p9 : Value ⊕ (MtT × Nat) ⊕ List (Int32 × Nat) ⊕ (Nat × Nat)} : wp w C K Rt rt en ((.lload j1, i, b9, p9) :: is) L S h = (ldL L i (fun x => wp w C K Rt rt en is L (.long x :: S) h)) := id rfl
theorem wp_lload_n {w : WdT} {C : MtT → List Value → HpT → (Option Value → HpT → Prop) → Prop} {K : Nat → List Value → List Value → HpT → Prop} {Rt : Option Value → HpT → Prop} {rt : Option FieldType} {en : Nat} {is : List AIt} {L S : List Value} {h : HpT} {j1 : Fin 4} {i : Nat} {b9 : Nat} {p9 : Value ⊕ (MtT × Nat) ⊕ List (Int32 × Nat) ⊕ (Nat × Nat)} : wp w C K Rt rt en ((.lload_n j1, i, b9, p9) :: is) L S h = (ldL L i (fun x => wp w C K Rt rt en is L (.long x :: S) h)) := id rfl
theorem wp_istore {w : WdT} {C : MtT → List Value → HpT → (Option Value → HpT → Prop) → Prop} {K : Nat → List Value → List Value → HpT → Prop} {Rt : Option Value → HpT → Prop} {rt : Option FieldType} {en : Nat} {is : List AIt} {L S : List Value} {h : HpT} {j1 : Nat} {i : Nat} {b9 : Nat} {p9 : Value ⊕ (MtT × Nat) ⊕ List (Int32 × Nat) ⊕ (Nat × Nat)} : wp w C K Rt rt en ((.istore j1, i, b9, p9) :: is) L S h = (pI1 S (fun x S => okst L i ∧ wp w C K Rt rt en is (setn L i (.int x)) S h)) := id rfl
theorem wp_istore_n {w : WdT} {C : MtT → List Value → HpT → (Option Value → HpT → Prop) → Prop} {K : Nat → List Value → List Value → HpT → Prop} {Rt : Option Value → HpT → Prop} {rt : Option FieldType} {en : Nat} {is : List AIt} {L S : List Value} {h : HpT} {j1 : Fin 4} {i : Nat} {b9 : Nat} {p9 : Value ⊕ (MtT × Nat) ⊕ List (Int32 × Nat) ⊕ (Nat × Nat)} : wp w C K Rt rt en ((.istore_n j1, i, b9, p9) :: is) L S h = (pI1 S (fun x S => okst L i ∧ wp w C K Rt rt en is (setn L i (.int x)) S h)) := id rfl
theorem wp_astore {w : WdT} {C : MtT → List Value → HpT → (Option Value → HpT → Prop) → Prop} {K : Nat → List Value → List Value → HpT → Prop} {Rt : Option Value → HpT → Prop} {rt : Option FieldType} {en : Nat} {is : List AIt} {L S : List Value} {h : HpT} {j1 : Nat} {i : Nat} {b9 : Nat} {p9 : Value ⊕ (MtT × Nat) ⊕ List (Int32 × Nat) ⊕ (Nat × Nat)} : wp w C K Rt rt en ((.astore j1, i, b9, p9) :: is) L S h = (pR1 S (fun x S => okst L i ∧ wp w C K Rt rt en is (setn L i (.ref x)) S h)) := id rfl
theorem wp_astore_n {w : WdT} {C : MtT → List Value → HpT → (Option Value → HpT → Prop) → Prop} {K : Nat → List Value → List Value → HpT → Prop} {Rt : Option Value → HpT → Prop} {rt : Option FieldType} {en : Nat} {is : List AIt} {L S : List Value} {h : HpT} {j1 : Fin 4} {i : Nat} {b9 : Nat} {p9 : Value ⊕ (MtT × Nat) ⊕ List (Int32 × Nat) ⊕ (Nat × Nat)} : wp w C K Rt rt en ((.astore_n j1, i, b9, p9) :: is) L S h = (pR1 S (fun x S => okst L i ∧ wp w C K Rt rt en is (setn L i (.ref x)) S h)) := id rfl
theorem wp_lstore {w : WdT} {C : MtT → List Value → HpT → (Option Value → HpT → Prop) → Prop} {K : Nat → List Value → List Value → HpT → Prop} {Rt : Option Value → HpT → Prop} {rt : Option FieldType} {en : Nat} {is : List AIt} {L S : List Value} {h : HpT} {j1 : Nat} {i : Nat} {b9 : Nat} {p9 : Value ⊕ (MtT × Nat) ⊕ List (Int32 × Nat) ⊕ (Nat × Nat)} : wp w C K Rt rt en ((.lstore j1, i, b9, p9) :: is) L S h = (pL1 S (fun x S => okst L i ∧ wp w C K Rt rt en is (setn (setn L i (.long x)) (i + 1) .null) S h)) := id rfl
theorem wp_lstore_n {w : WdT} {C : MtT → List Value → HpT → (Option Value → HpT → Prop) → Prop} {K : Nat → List Value → List Value → HpT → Prop} {Rt : Option Value → HpT → Prop} {rt : Option FieldType} {en : Nat} {is : List AIt} {L S : List Value} {h : HpT} {j1 : Fin 4} {i : Nat} {b9 : Nat} {p9 : Value ⊕ (MtT × Nat) ⊕ List (Int32 × Nat) ⊕ (Nat × Nat)} : wp w C K Rt rt en ((.lstore_n j1, i, b9, p9) :: is) L S h = (pL1 S (fun x S => okst L i ∧ wp w C K Rt rt en is (setn (setn L i (.long x)) (i + 1) .null) S h)) := id rfl
theorem wp_iinc {w : WdT} {C : MtT → List Value → HpT → (Option Value → HpT → Prop) → Prop} {K : Nat → List Value → List Value → HpT → Prop} {Rt : Option Value → HpT → Prop} {rt : Option FieldType} {en : Nat} {is : List AIt} {L S : List Value} {h : HpT} {j1 : Nat} {j2 : Int} {i : Nat} {b9 : Nat} {n : Int32} : wp w C K Rt rt en ((.iinc j1 j2, i, b9, .inl (.int n)) :: is) L S h = (okst L i ∧ ldI L i (fun x => wp w C K Rt rt en is (setn L i (.int (x + n))) S h)) := id rfl
theorem wp_iadd {w : WdT} {C : MtT → List Value → HpT → (Option Value → HpT → Prop) → Prop} {K : Nat → List Value → List Value → HpT → Prop} {Rt : Option Value → HpT → Prop} {rt : Option FieldType} {en : Nat} {is : List AIt} {L S : List Value} {h : HpT} {a9 : Nat} {b9 : Nat} {p9 : Value ⊕ (MtT × Nat) ⊕ List (Int32 × Nat) ⊕ (Nat × Nat)} : wp w C K Rt rt en ((.iadd, a9, b9, p9) :: is) L S h = (pI2 S (fun x y S => wp w C K Rt rt en is L (.int (x + y) :: S) h)) := id rfl
theorem wp_isub {w : WdT} {C : MtT → List Value → HpT → (Option Value → HpT → Prop) → Prop} {K : Nat → List Value → List Value → HpT → Prop} {Rt : Option Value → HpT → Prop} {rt : Option FieldType} {en : Nat} {is : List AIt} {L S : List Value} {h : HpT} {a9 : Nat} {b9 : Nat} {p9 : Value ⊕ (MtT × Nat) ⊕ List (Int32 × Nat) ⊕ (Nat × Nat)} : wp w C K Rt rt en ((.isub, a9, b9, p9) :: is) L S h = (pI2 S (fun x y S => wp w C K Rt rt en is L (.int (x - y) :: S) h)) := id rfl
theorem wp_imul {w : WdT} {C : MtT → List Value → HpT → (Option Value → HpT → Prop) → Prop} {K : Nat → List Value → List Value → HpT → Prop} {Rt : Option Value → HpT → Prop} {rt : Option FieldType} {en : Nat} {is : List AIt} {L S : List Value} {h : HpT} {a9 : Nat} {b9 : Nat} {p9 : Value ⊕ (MtT × Nat) ⊕ List (Int32 × Nat) ⊕ (Nat × Nat)} : wp w C K Rt rt en ((.imul, a9, b9, p9) :: is) L S h = (pI2 S (fun x y S => wp w C K Rt rt en is L (.int (x * y) :: S) h)) := id rfl
theorem wp_iand {w : WdT} {C : MtT → List Value → HpT → (Option Value → HpT → Prop) → Prop} {K : Nat → List Value → List Value → HpT → Prop} {Rt : Option Value → HpT → Prop} {rt : Option FieldType} {en : Nat} {is : List AIt} {L S : List Value} {h : HpT} {a9 : Nat} {b9 : Nat} {p9 : Value ⊕ (MtT × Nat) ⊕ List (Int32 × Nat) ⊕ (Nat × Nat)} : wp w C K Rt rt en ((.iand, a9, b9, p9) :: is) L S h = (pI2 S (fun x y S => wp w C K Rt rt en is L (.int (x &&& y) :: S) h)) := id rfl
theorem wp_ior {w : WdT} {C : MtT → List Value → HpT → (Option Value → HpT → Prop) → Prop} {K : Nat → List Value → List Value → HpT → Prop} {Rt : Option Value → HpT → Prop} {rt : Option FieldType} {en : Nat} {is : List AIt} {L S : List Value} {h : HpT} {a9 : Nat} {b9 : Nat} {p9 : Value ⊕ (MtT × Nat) ⊕ List (Int32 × Nat) ⊕ (Nat × Nat)} : wp w C K Rt rt en ((.ior, a9, b9, p9) :: is) L S h = (pI2 S (fun x y S => wp w C K Rt rt en is L (.int (x ||| y) :: S) h)) := id rfl
theorem wp_ixor {w : WdT} {C : MtT → List Value → HpT → (Option Value → HpT → Prop) → Prop} {K : Nat → List Value → List Value → HpT → Prop} {Rt : Option Value → HpT → Prop} {rt : Option FieldType} {en : Nat} {is : List AIt} {L S : List Value} {h : HpT} {a9 : Nat} {b9 : Nat} {p9 : Value ⊕ (MtT × Nat) ⊕ List (Int32 × Nat) ⊕ (Nat × Nat)} : wp w C K Rt rt en ((.ixor, a9, b9, p9) :: is) L S h = (pI2 S (fun x y S => wp w C K Rt rt en is L (.int (x ^^^ y) :: S) h)) := id rfl
theorem wp_ishl {w : WdT} {C : MtT → List Value → HpT → (Option Value → HpT → Prop) → Prop} {K : Nat → List Value → List Value → HpT → Prop} {Rt : Option Value → HpT → Prop} {rt : Option FieldType} {en : Nat} {is : List AIt} {L S : List Value} {h : HpT} {a9 : Nat} {b9 : Nat} {p9 : Value ⊕ (MtT × Nat) ⊕ List (Int32 × Nat) ⊕ (Nat × Nat)} : wp w C K Rt rt en ((.ishl, a9, b9, p9) :: is) L S h = (pI2 S (fun x y S => wp w C K Rt rt en is L (.int (x <<< (y &&& 31)) :: S) h)) := id rfl
theorem wp_ishr {w : WdT} {C : MtT → List Value → HpT → (Option Value → HpT → Prop) → Prop} {K : Nat → List Value → List Value → HpT → Prop} {Rt : Option Value → HpT → Prop} {rt : Option FieldType} {en : Nat} {is : List AIt} {L S : List Value} {h : HpT} {a9 : Nat} {b9 : Nat} {p9 : Value ⊕ (MtT × Nat) ⊕ List (Int32 × Nat) ⊕ (Nat × Nat)} : wp w C K Rt rt en ((.ishr, a9, b9, p9) :: is) L S h = (pI2 S (fun x y S => wp w C K Rt rt en is L (.int (x >>> (y &&& 31)) :: S) h)) := id rfl
theorem wp_iushr {w : WdT} {C : MtT → List Value → HpT → (Option Value → HpT → Prop) → Prop} {K : Nat → List Value → List Value → HpT → Prop} {Rt : Option Value → HpT → Prop} {rt : Option FieldType} {en : Nat} {is : List AIt} {L S : List Value} {h : HpT} {a9 : Nat} {b9 : Nat} {p9 : Value ⊕ (MtT × Nat) ⊕ List (Int32 × Nat) ⊕ (Nat × Nat)} : wp w C K Rt rt en ((.iushr, a9, b9, p9) :: is) L S h = (pI2 S (fun x y S => wp w C K Rt rt en is L (.int (ush x y) :: S) h)) := id rfl
theorem wp_idiv {w : WdT} {C : MtT → List Value → HpT → (Option Value → HpT → Prop) → Prop} {K : Nat → List Value → List Value → HpT → Prop} {Rt : Option Value → HpT → Prop} {rt : Option FieldType} {en : Nat} {is : List AIt} {L S : List Value} {h : HpT} {a9 : Nat} {b9 : Nat} {p9 : Value ⊕ (MtT × Nat) ⊕ List (Int32 × Nat) ⊕ (Nat × Nat)} : wp w C K Rt rt en ((.idiv, a9, b9, p9) :: is) L S h = (pI2 S (fun x y S => (¬ y = 0) ∧ wp w C K Rt rt en is L (.int (x / y) :: S) h)) := id rfl
theorem wp_irem {w : WdT} {C : MtT → List Value → HpT → (Option Value → HpT → Prop) → Prop} {K : Nat → List Value → List Value → HpT → Prop} {Rt : Option Value → HpT → Prop} {rt : Option FieldType} {en : Nat} {is : List AIt} {L S : List Value} {h : HpT} {a9 : Nat} {b9 : Nat} {p9 : Value ⊕ (MtT × Nat) ⊕ List (Int32 × Nat) ⊕ (Nat × Nat)} : wp w C K Rt rt en ((.irem, a9, b9, p9) :: is) L S h = (pI2 S (fun x y S => (¬ y = 0) ∧ wp w C K Rt rt en is L (.int (x - x / y * y) :: S) h)) := id rfl
theorem wp_ineg {w : WdT} {C : MtT → List Value → HpT → (Option Value → HpT → Prop) → Prop} {K : Nat → List Value → List Value → HpT → Prop} {Rt : Option Value → HpT → Prop} {rt : Option FieldType} {en : Nat} {is : List AIt} {L S : List Value} {h : HpT} {a9 : Nat} {b9 : Nat} {p9 : Value ⊕ (MtT × Nat) ⊕ List (Int32 × Nat) ⊕ (Nat × Nat)} : wp w C K Rt rt en ((.ineg, a9, b9, p9) :: is) L S h = (pI1 S (fun x S => wp w C K Rt rt en is L (.int (-x) :: S) h)) := id rfl
theorem wp_i2l {w : WdT} {C : MtT → List Value → HpT → (Option Value → HpT → Prop) → Prop} {K : Nat → List Value → List Value → HpT → Prop} {Rt : Option Value → HpT → Prop} {rt : Option FieldType} {en : Nat} {is : List AIt} {L S : List Value} {h : HpT} {a9 : Nat} {b9 : Nat} {p9 : Value ⊕ (MtT × Nat) ⊕ List (Int32 × Nat) ⊕ (Nat × Nat)} : wp w C K Rt rt en ((.i2l, a9, b9, p9) :: is) L S h = (pI1 S (fun x S => wp w C K Rt rt en is L (.long x.toInt64 :: S) h)) := id rfl
theorem wp_l2i {w : WdT} {C : MtT → List Value → HpT → (Option Value → HpT → Prop) → Prop} {K : Nat → List Value → List Value → HpT → Prop} {Rt : Option Value → HpT → Prop} {rt : Option FieldType} {en : Nat} {is : List AIt} {L S : List Value} {h : HpT} {a9 : Nat} {b9 : Nat} {p9 : Value ⊕ (MtT × Nat) ⊕ List (Int32 × Nat) ⊕ (Nat × Nat)} : wp w C K Rt rt en ((.l2i, a9, b9, p9) :: is) L S h = (pL1 S (fun x S => wp w C K Rt rt en is L (.int x.toInt32 :: S) h)) := id rfl
theorem wp_i2c {w : WdT} {C : MtT → List Value → HpT → (Option Value → HpT → Prop) → Prop} {K : Nat → List Value → List Value → HpT → Prop} {Rt : Option Value → HpT → Prop} {rt : Option FieldType} {en : Nat} {is : List AIt} {L S : List Value} {h : HpT} {a9 : Nat} {b9 : Nat} {p9 : Value ⊕ (MtT × Nat) ⊕ List (Int32 × Nat) ⊕ (Nat × Nat)} : wp w C K Rt rt en ((.i2c, a9, b9, p9) :: is) L S h = (pI1 S (fun x S => wp w C K Rt rt en is L (.int (toC x) :: S) h)) := id rfl
theorem wp_ladd {w : WdT} {C : MtT → List Value → HpT → (Option Value → HpT → Prop) → Prop} {K : Nat → List Value → List Value → HpT → Prop} {Rt : Option Value → HpT → Prop} {rt : Option FieldType} {en : Nat} {is : List AIt} {L S : List Value} {h : HpT} {a9 : Nat} {b9 : Nat} {p9 : Value ⊕ (MtT × Nat) ⊕ List (Int32 × Nat) ⊕ (Nat × Nat)} : wp w C K Rt rt en ((.ladd, a9, b9, p9) :: is) L S h = (pL2 S (fun x y S => wp w C K Rt rt en is L (.long (x + y) :: S) h)) := id rfl
theorem wp_lsub {w : WdT} {C : MtT → List Value → HpT → (Option Value → HpT → Prop) → Prop} {K : Nat → List Value → List Value → HpT → Prop} {Rt : Option Value → HpT → Prop} {rt : Option FieldType} {en : Nat} {is : List AIt} {L S : List Value} {h : HpT} {a9 : Nat} {b9 : Nat} {p9 : Value ⊕ (MtT × Nat) ⊕ List (Int32 × Nat) ⊕ (Nat × Nat)} : wp w C K Rt rt en ((.lsub, a9, b9, p9) :: is) L S h = (pL2 S (fun x y S => wp w C K Rt rt en is L (.long (x - y) :: S) h)) := id rfl
theorem wp_lmul {w : WdT} {C : MtT → List Value → HpT → (Option Value → HpT → Prop) → Prop} {K : Nat → List Value → List Value → HpT → Prop} {Rt : Option Value → HpT → Prop} {rt : Option FieldType} {en : Nat} {is : List AIt} {L S : List Value} {h : HpT} {a9 : Nat} {b9 : Nat} {p9 : Value ⊕ (MtT × Nat) ⊕ List (Int32 × Nat) ⊕ (Nat × Nat)} : wp w C K Rt rt en ((.lmul, a9, b9, p9) :: is) L S h = (pL2 S (fun x y S => wp w C K Rt rt en is L (.long (x * y) :: S) h)) := id rfl
theorem wp_lcmp {w : WdT} {C : MtT → List Value → HpT → (Option Value → HpT → Prop) → Prop} {K : Nat → List Value → List Value → HpT → Prop} {Rt : Option Value → HpT → Prop} {rt : Option FieldType} {en : Nat} {is : List AIt} {L S : List Value} {h : HpT} {a9 : Nat} {b9 : Nat} {p9 : Value ⊕ (MtT × Nat) ⊕ List (Int32 × Nat) ⊕ (Nat × Nat)} : wp w C K Rt rt en ((.lcmp, a9, b9, p9) :: is) L S h = (pL2 S (fun x y S => wp w C K Rt rt en is L (.int (lg_cmp x y) :: S) h)) := id rfl
theorem wp_dup {w : WdT} {C : MtT → List Value → HpT → (Option Value → HpT → Prop) → Prop} {K : Nat → List Value → List Value → HpT → Prop} {Rt : Option Value → HpT → Prop} {rt : Option FieldType} {en : Nat} {is : List AIt} {L S : List Value} {h : HpT} {a9 : Nat} {b9 : Nat} {p9 : Value ⊕ (MtT × Nat) ⊕ List (Int32 × Nat) ⊕ (Nat × Nat)} : wp w C K Rt rt en ((.dup, a9, b9, p9) :: is) L S h = (pV1 S (fun v S => c1 v ∧ wp w C K Rt rt en is L (v :: v :: S) h)) := id rfl
theorem wp_dup2 {w : WdT} {C : MtT → List Value → HpT → (Option Value → HpT → Prop) → Prop} {K : Nat → List Value → List Value → HpT → Prop} {Rt : Option Value → HpT → Prop} {rt : Option FieldType} {en : Nat} {is : List AIt} {L S : List Value} {h : HpT} {a9 : Nat} {b9 : Nat} {p9 : Value ⊕ (MtT × Nat) ⊕ List (Int32 × Nat) ⊕ (Nat × Nat)} : wp w C K Rt rt en ((.dup2, a9, b9, p9) :: is) L S h = (pV2 S (fun v u S => (c1 v ∧ c1 u) ∧ wp w C K Rt rt en is L (v :: u :: v :: u :: S) h)) := id rfl
theorem wp_if_eq {w : WdT} {C : MtT → List Value → HpT → (Option Value → HpT → Prop) → Prop} {K : Nat → List Value → List Value → HpT → Prop} {Rt : Option Value → HpT → Prop} {rt : Option FieldType} {en : Nat} {is : List AIt} {L S : List Value} {h : HpT} {j1 : Int} {a : Nat} {b9 : Nat} {p9 : Value ⊕ (MtT × Nat) ⊕ List (Int32 × Nat) ⊕ (Nat × Nat)} : wp w C K Rt rt en ((.ifCond .eq j1, a, b9, p9) :: is) L S h = (pI1 S (fun x S => (x = 0 → K a L S h) ∧ (¬ x = 0 → wp w C K Rt rt en is L S h))) := id rfl
theorem wp_icmp_eq {w : WdT} {C : MtT → List Value → HpT → (Option Value → HpT → Prop) → Prop} {K : Nat → List Value → List Value → HpT → Prop} {Rt : Option Value → HpT → Prop} {rt : Option FieldType} {en : Nat} {is : List AIt} {L S : List Value} {h : HpT} {j1 : Int} {a : Nat} {b9 : Nat} {p9 : Value ⊕ (MtT × Nat) ⊕ List (Int32 × Nat) ⊕ (Nat × Nat)} : wp w C K Rt rt en ((.if_icmp .eq j1, a, b9, p9) :: is) L S h = (pI2 S (fun x y S => (x = y → K a L S h) ∧ (¬ x = y → wp w C K Rt rt en is L S h))) := id rfl
theorem wp_if_ne {w : WdT} {C : MtT → List Value → HpT → (Option Value → HpT → Prop) → Prop} {K : Nat → List Value → List Value → HpT → Prop} {Rt : Option Value → HpT → Prop} {rt : Option FieldType} {en : Nat} {is : List AIt} {L S : List Value} {h : HpT} {j1 : Int} {a : Nat} {b9 : Nat} {p9 : Value ⊕ (MtT × Nat) ⊕ List (Int32 × Nat) ⊕ (Nat × Nat)} : wp w C K Rt rt en ((.ifCond .ne j1, a, b9, p9) :: is) L S h = (pI1 S (fun x S => (¬ x = 0 → K a L S h) ∧ (x = 0 → wp w C K Rt rt en is L S h))) := id rfl
theorem wp_icmp_ne {w : WdT} {C : MtT → List Value → HpT → (Option Value → HpT → Prop) → Prop} {K : Nat → List Value → List Value → HpT → Prop} {Rt : Option Value → HpT → Prop} {rt : Option FieldType} {en : Nat} {is : List AIt} {L S : List Value} {h : HpT} {j1 : Int} {a : Nat} {b9 : Nat} {p9 : Value ⊕ (MtT × Nat) ⊕ List (Int32 × Nat) ⊕ (Nat × Nat)} : wp w C K Rt rt en ((.if_icmp .ne j1, a, b9, p9) :: is) L S h = (pI2 S (fun x y S => (¬ x = y → K a L S h) ∧ (x = y → wp w C K Rt rt en is L S h))) := id rfl
theorem wp_if_lt {w : WdT} {C : MtT → List Value → HpT → (Option Value → HpT → Prop) → Prop} {K : Nat → List Value → List Value → HpT → Prop} {Rt : Option Value → HpT → Prop} {rt : Option FieldType} {en : Nat} {is : List AIt} {L S : List Value} {h : HpT} {j1 : Int} {a : Nat} {b9 : Nat} {p9 : Value ⊕ (MtT × Nat) ⊕ List (Int32 × Nat) ⊕ (Nat × Nat)} : wp w C K Rt rt en ((.ifCond .lt j1, a, b9, p9) :: is) L S h = (pI1 S (fun x S => (x < 0 → K a L S h) ∧ (¬ x < 0 → wp w C K Rt rt en is L S h))) := id rfl
theorem wp_icmp_lt {w : WdT} {C : MtT → List Value → HpT → (Option Value → HpT → Prop) → Prop} {K : Nat → List Value → List Value → HpT → Prop} {Rt : Option Value → HpT → Prop} {rt : Option FieldType} {en : Nat} {is : List AIt} {L S : List Value} {h : HpT} {j1 : Int} {a : Nat} {b9 : Nat} {p9 : Value ⊕ (MtT × Nat) ⊕ List (Int32 × Nat) ⊕ (Nat × Nat)} : wp w C K Rt rt en ((.if_icmp .lt j1, a, b9, p9) :: is) L S h = (pI2 S (fun x y S => (x < y → K a L S h) ∧ (¬ x < y → wp w C K Rt rt en is L S h))) := id rfl
theorem wp_if_ge {w : WdT} {C : MtT → List Value → HpT → (Option Value → HpT → Prop) → Prop} {K : Nat → List Value → List Value → HpT → Prop} {Rt : Option Value → HpT → Prop} {rt : Option FieldType} {en : Nat} {is : List AIt} {L S : List Value} {h : HpT} {j1 : Int} {a : Nat} {b9 : Nat} {p9 : Value ⊕ (MtT × Nat) ⊕ List (Int32 × Nat) ⊕ (Nat × Nat)} : wp w C K Rt rt en ((.ifCond .ge j1, a, b9, p9) :: is) L S h = (pI1 S (fun x S => (0 ≤ x → K a L S h) ∧ (¬ 0 ≤ x → wp w C K Rt rt en is L S h))) := id rfl
theorem wp_icmp_ge {w : WdT} {C : MtT → List Value → HpT → (Option Value → HpT → Prop) → Prop} {K : Nat → List Value → List Value → HpT → Prop} {Rt : Option Value → HpT → Prop} {rt : Option FieldType} {en : Nat} {is : List AIt} {L S : List Value} {h : HpT} {j1 : Int} {a : Nat} {b9 : Nat} {p9 : Value ⊕ (MtT × Nat) ⊕ List (Int32 × Nat) ⊕ (Nat × Nat)} : wp w C K Rt rt en ((.if_icmp .ge j1, a, b9, p9) :: is) L S h = (pI2 S (fun x y S => (y ≤ x → K a L S h) ∧ (¬ y ≤ x → wp w C K Rt rt en is L S h))) := id rfl
theorem wp_if_gt {w : WdT} {C : MtT → List Value → HpT → (Option Value → HpT → Prop) → Prop} {K : Nat → List Value → List Value → HpT → Prop} {Rt : Option Value → HpT → Prop} {rt : Option FieldType} {en : Nat} {is : List AIt} {L S : List Value} {h : HpT} {j1 : Int} {a : Nat} {b9 : Nat} {p9 : Value ⊕ (MtT × Nat) ⊕ List (Int32 × Nat) ⊕ (Nat × Nat)} : wp w C K Rt rt en ((.ifCond .gt j1, a, b9, p9) :: is) L S h = (pI1 S (fun x S => (0 < x → K a L S h) ∧ (¬ 0 < x → wp w C K Rt rt en is L S h))) := id rfl
theorem wp_icmp_gt {w : WdT} {C : MtT → List Value → HpT → (Option Value → HpT → Prop) → Prop} {K : Nat → List Value → List Value → HpT → Prop} {Rt : Option Value → HpT → Prop} {rt : Option FieldType} {en : Nat} {is : List AIt} {L S : List Value} {h : HpT} {j1 : Int} {a : Nat} {b9 : Nat} {p9 : Value ⊕ (MtT × Nat) ⊕ List (Int32 × Nat) ⊕ (Nat × Nat)} : wp w C K Rt rt en ((.if_icmp .gt j1, a, b9, p9) :: is) L S h = (pI2 S (fun x y S => (y < x → K a L S h) ∧ (¬ y < x → wp w C K Rt rt en is L S h))) := id rfl
theorem wp_if_le {w : WdT} {C : MtT → List Value → HpT → (Option Value → HpT → Prop) → Prop} {K : Nat → List Value → List Value → HpT → Prop} {Rt : Option Value → HpT → Prop} {rt : Option FieldType} {en : Nat} {is : List AIt} {L S : List Value} {h : HpT} {j1 : Int} {a : Nat} {b9 : Nat} {p9 : Value ⊕ (MtT × Nat) ⊕ List (Int32 × Nat) ⊕ (Nat × Nat)} : wp w C K Rt rt en ((.ifCond .le j1, a, b9, p9) :: is) L S h = (pI1 S (fun x S => (x ≤ 0 → K a L S h) ∧ (¬ x ≤ 0 → wp w C K Rt rt en is L S h))) := id rfl
theorem wp_icmp_le {w : WdT} {C : MtT → List Value → HpT → (Option Value → HpT → Prop) → Prop} {K : Nat → List Value → List Value → HpT → Prop} {Rt : Option Value → HpT → Prop} {rt : Option FieldType} {en : Nat} {is : List AIt} {L S : List Value} {h : HpT} {j1 : Int} {a : Nat} {b9 : Nat} {p9 : Value ⊕ (MtT × Nat) ⊕ List (Int32 × Nat) ⊕ (Nat × Nat)} : wp w C K Rt rt en ((.if_icmp .le j1, a, b9, p9) :: is) L S h = (pI2 S (fun x y S => (x ≤ y → K a L S h) ∧ (¬ x ≤ y → wp w C K Rt rt en is L S h))) := id rfl
theorem wp_goto {w : WdT} {C : MtT → List Value → HpT → (Option Value → HpT → Prop) → Prop} {K : Nat → List Value → List Value → HpT → Prop} {Rt : Option Value → HpT → Prop} {rt : Option FieldType} {en : Nat} {is : List AIt} {L S : List Value} {h : HpT} {j1 : Int} {a : Nat} {b9 : Nat} {p9 : Value ⊕ (MtT × Nat) ⊕ List (Int32 × Nat) ⊕ (Nat × Nat)} : wp w C K Rt rt en ((.goto j1, a, b9, p9) :: is) L S h = (K a L S h) := id rfl
theorem wp_tableswitch {w : WdT} {C : MtT → List Value → HpT → (Option Value → HpT → Prop) → Prop} {K : Nat → List Value → List Value → HpT → Prop} {Rt : Option Value → HpT → Prop} {rt : Option FieldType} {en : Nat} {is : List AIt} {L S : List Value} {h : HpT} {j1 : Int} {j2 : Int} {j3 : Int} {j4 : Array Int} {a : Nat} {b9 : Nat} {sw : List (Int32 × Nat)} : wp w C K Rt rt en ((.tableswitch j1 j2 j3 j4, a, b9, .inr (.inr (.inl sw))) :: is) L S h = (pI1 S (fun x S => swp (fun t => K t L S h) x (K a L S h) sw)) := id rfl
theorem wp_lookupswitch {w : WdT} {C : MtT → List Value → HpT → (Option Value → HpT → Prop) → Prop} {K : Nat → List Value → List Value → HpT → Prop} {Rt : Option Value → HpT → Prop} {rt : Option FieldType} {en : Nat} {is : List AIt} {L S : List Value} {h : HpT} {j1 : Int} {j2 : Array (Int × Int)} {a : Nat} {b9 : Nat} {sw : List (Int32 × Nat)} : wp w C K Rt rt en ((.lookupswitch j1 j2, a, b9, .inr (.inr (.inl sw))) :: is) L S h = (pI1 S (fun x S => swp (fun t => K t L S h) x (K a L S h) sw)) := id rfl
theorem wp_ireturn {w : WdT} {C : MtT → List Value → HpT → (Option Value → HpT → Prop) → Prop} {K : Nat → List Value → List Value → HpT → Prop} {Rt : Option Value → HpT → Prop} {rt : Option FieldType} {en : Nat} {is : List AIt} {L S : List Value} {h : HpT} {a9 : Nat} {b9 : Nat} {p9 : Value ⊕ (MtT × Nat) ⊕ List (Int32 × Nat) ⊕ (Nat × Nat)} : wp w C K Rt rt en ((.ireturn, a9, b9, p9) :: is) L S h = (pOne S (fun v => rtc rt v ∧ Rt (some v) h)) := id rfl
theorem wp_lreturn {w : WdT} {C : MtT → List Value → HpT → (Option Value → HpT → Prop) → Prop} {K : Nat → List Value → List Value → HpT → Prop} {Rt : Option Value → HpT → Prop} {rt : Option FieldType} {en : Nat} {is : List AIt} {L S : List Value} {h : HpT} {a9 : Nat} {b9 : Nat} {p9 : Value ⊕ (MtT × Nat) ⊕ List (Int32 × Nat) ⊕ (Nat × Nat)} : wp w C K Rt rt en ((.lreturn, a9, b9, p9) :: is) L S h = (pOne S (fun v => rtl rt v ∧ Rt (some v) h)) := id rfl
theorem wp_return_ {w : WdT} {C : MtT → List Value → HpT → (Option Value → HpT → Prop) → Prop} {K : Nat → List Value → List Value → HpT → Prop} {Rt : Option Value → HpT → Prop} {rt : Option FieldType} {en : Nat} {is : List AIt} {L S : List Value} {h : HpT} {a9 : Nat} {b9 : Nat} {p9 : Value ⊕ (MtT × Nat) ⊕ List (Int32 × Nat) ⊕ (Nat × Nat)} : wp w C K Rt rt en ((.return_, a9, b9, p9) :: is) L S h = (pNil S (rt = none ∧ Rt none h)) := id rfl
theorem wp_getfield {w : WdT} {C : MtT → List Value → HpT → (Option Value → HpT → Prop) → Prop} {K : Nat → List Value → List Value → HpT → Prop} {Rt : Option Value → HpT → Prop} {rt : Option FieldType} {en : Nat} {is : List AIt} {L S : List Value} {h : HpT} {j1 : Nat} {ci : Nat} {k : Nat} {kd : Nat} {b8 : Nat} : wp w C K Rt rt en ((.getfield j1, ci, k, .inr (.inr (.inr (kd, b8)))) :: is) L S h = (pR1 S (fun o S => (o < w.1 ∧ wOc w o = ci) ∧ wp w C K Rt rt en is L (gfv w h o k kd :: S) h)) := id rfl
theorem wp_putfield {w : WdT} {C : MtT → List Value → HpT → (Option Value → HpT → Prop) → Prop} {K : Nat → List Value → List Value → HpT → Prop} {Rt : Option Value → HpT → Prop} {rt : Option FieldType} {en : Nat} {is : List AIt} {L S : List Value} {h : HpT} {j1 : Nat} {ci : Nat} {k : Nat} {kd : Nat} {b8 : Nat} : wp w C K Rt rt en ((.putfield j1, ci, k, .inr (.inr (.inr (kd, b8)))) :: is) L S h = (pVR S (fun v o S => (o < w.1 ∧ wOc w o = ci) ∧ pfv h o k (fun h' => wp w C K Rt rt en is L S h') kd v)) := id rfl
theorem wp_iaload {w : WdT} {C : MtT → List Value → HpT → (Option Value → HpT → Prop) → Prop} {K : Nat → List Value → List Value → HpT → Prop} {Rt : Option Value → HpT → Prop} {rt : Option FieldType} {en : Nat} {is : List AIt} {L S : List Value} {h : HpT} {a9 : Nat} {b9 : Nat} {p9 : Value ⊕ (MtT × Nat) ⊕ List (Int32 × Nat) ⊕ (Nat × Nat)} : wp w C K Rt rt en ((.iaload, a9, b9, p9) :: is) L S h = (pIR S (fun i a S => (w.1 ≤ a ∧ a < w.2.1 ∧ wTy w a = 0 ∧ vp_in i (wLn w a)) ∧ wp w C K Rt rt en is L (.int (hA h a i.toNatClampNeg) :: S) h)) := id rfl
theorem wp_baload {w : WdT} {C : MtT → List Value → HpT → (Option Value → HpT → Prop) → Prop} {K : Nat → List Value → List Value → HpT → Prop} {Rt : Option Value → HpT → Prop} {rt : Option FieldType} {en : Nat} {is : List AIt} {L S : List Value} {h : HpT} {a9 : Nat} {b9 : Nat} {p9 : Value ⊕ (MtT × Nat) ⊕ List (Int32 × Nat) ⊕ (Nat × Nat)} : wp w C K Rt rt en ((.baload, a9, b9, p9) :: is) L S h = (pIR S (fun i a S => (w.1 ≤ a ∧ a < w.2.1 ∧ wTy w a = 1 ∧ vp_in i (wLn w a)) ∧ wp w C K Rt rt en is L (.int (hA h a i.toNatClampNeg) :: S) h)) := id rfl
theorem wp_caload {w : WdT} {C : MtT → List Value → HpT → (Option Value → HpT → Prop) → Prop} {K : Nat → List Value → List Value → HpT → Prop} {Rt : Option Value → HpT → Prop} {rt : Option FieldType} {en : Nat} {is : List AIt} {L S : List Value} {h : HpT} {a9 : Nat} {b9 : Nat} {p9 : Value ⊕ (MtT × Nat) ⊕ List (Int32 × Nat) ⊕ (Nat × Nat)} : wp w C K Rt rt en ((.caload, a9, b9, p9) :: is) L S h = (pIR S (fun i a S => (w.1 ≤ a ∧ a < w.2.1 ∧ wTy w a = 2 ∧ vp_in i (wLn w a)) ∧ wp w C K Rt rt en is L (.int (hA h a i.toNatClampNeg) :: S) h)) := id rfl
theorem wp_iastore {w : WdT} {C : MtT → List Value → HpT → (Option Value → HpT → Prop) → Prop} {K : Nat → List Value → List Value → HpT → Prop} {Rt : Option Value → HpT → Prop} {rt : Option FieldType} {en : Nat} {is : List AIt} {L S : List Value} {h : HpT} {a9 : Nat} {b9 : Nat} {p9 : Value ⊕ (MtT × Nat) ⊕ List (Int32 × Nat) ⊕ (Nat × Nat)} : wp w C K Rt rt en ((.iastore, a9, b9, p9) :: is) L S h = (pIIR S (fun x i a S => (w.1 ≤ a ∧ a < w.2.1 ∧ wTy w a = 0 ∧ vp_in i (wLn w a)) ∧ wp w C K Rt rt en is L S (sA h a i.toNatClampNeg x))) := id rfl
theorem wp_bastore {w : WdT} {C : MtT → List Value → HpT → (Option Value → HpT → Prop) → Prop} {K : Nat → List Value → List Value → HpT → Prop} {Rt : Option Value → HpT → Prop} {rt : Option FieldType} {en : Nat} {is : List AIt} {L S : List Value} {h : HpT} {a9 : Nat} {b9 : Nat} {p9 : Value ⊕ (MtT × Nat) ⊕ List (Int32 × Nat) ⊕ (Nat × Nat)} : wp w C K Rt rt en ((.bastore, a9, b9, p9) :: is) L S h = (pIIR S (fun x i a S => (w.1 ≤ a ∧ a < w.2.1 ∧ wTy w a = 1 ∧ vp_in i (wLn w a)) ∧ wp w C K Rt rt en is L S (sA h a i.toNatClampNeg (vp_nar .boolean x)))) := id rfl
theorem wp_castore {w : WdT} {C : MtT → List Value → HpT → (Option Value → HpT → Prop) → Prop} {K : Nat → List Value → List Value → HpT → Prop} {Rt : Option Value → HpT → Prop} {rt : Option FieldType} {en : Nat} {is : List AIt} {L S : List Value} {h : HpT} {a9 : Nat} {b9 : Nat} {p9 : Value ⊕ (MtT × Nat) ⊕ List (Int32 × Nat) ⊕ (Nat × Nat)} : wp w C K Rt rt en ((.castore, a9, b9, p9) :: is) L S h = (pIIR S (fun x i a S => (w.1 ≤ a ∧ a < w.2.1 ∧ wTy w a = 2 ∧ vp_in i (wLn w a)) ∧ wp w C K Rt rt en is L S (sA h a i.toNatClampNeg (vp_nar .char x)))) := id rfl
theorem wp_arraylength {w : WdT} {C : MtT → List Value → HpT → (Option Value → HpT → Prop) → Prop} {K : Nat → List Value → List Value → HpT → Prop} {Rt : Option Value → HpT → Prop} {rt : Option FieldType} {en : Nat} {is : List AIt} {L S : List Value} {h : HpT} {a9 : Nat} {b9 : Nat} {p9 : Value ⊕ (MtT × Nat) ⊕ List (Int32 × Nat) ⊕ (Nat × Nat)} : wp w C K Rt rt en ((.arraylength, a9, b9, p9) :: is) L S h = (pR1 S (fun a S => (w.1 ≤ a ∧ a < w.2.1 ∧ wTy w a = 0) ∧ wp w C K Rt rt en is L (.int (nI (wLn w a)) :: S) h)) := id rfl
theorem wp_invokevirtual {w : WdT} {C : MtT → List Value → HpT → (Option Value → HpT → Prop) → Prop} {K : Nat → List Value → List Value → HpT → Prop} {Rt : Option Value → HpT → Prop} {rt : Option FieldType} {en : Nat} {is : List AIt} {L S : List Value} {h : HpT} {j1 : Nat} {ci : Nat} {n : Nat} {m : MtT} {b8 : Nat} : wp w C K Rt rt en ((.invokevirtual j1, ci, n, .inr (.inl (m, b8))) :: is) L S h = (popn n [] S (fun as S => (rcv w ci as ∧ shs S) ∧ C m as h (fun r h => wp w C K Rt rt en is L (r.toList ++ S) h))) := id rfl
theorem wp_invokestatic {w : WdT} {C : MtT → List Value → HpT → (Option Value → HpT → Prop) → Prop} {K : Nat → List Value → List Value → HpT → Prop} {Rt : Option Value → HpT → Prop} {rt : Option FieldType} {en : Nat} {is : List AIt} {L S : List Value} {h : HpT} {j1 : Nat} {a9 : Nat} {n : Nat} {m : MtT} {b8 : Nat} : wp w C K Rt rt en ((.invokestatic j1, a9, n, .inr (.inl (m, b8))) :: is) L S h = (popn n [] S (fun as S => shs S ∧ C m as h (fun r h => wp w C K Rt rt en is L (r.toList ++ S) h))) := id rfl
theorem wp_invokestatic_1 {w : WdT} {C : MtT → List Value → HpT → (Option Value → HpT → Prop) → Prop} {K : Nat → List Value → List Value → HpT → Prop} {Rt : Option Value → HpT → Prop} {rt : Option FieldType} {en : Nat} {is : List AIt} {L S : List Value} {h : HpT} {j1 : Nat} {b9 : Nat} {v : Value} : wp w C K Rt rt en ((.invokestatic j1, 7, b9, .inl v) :: is) L S h = (pI2 S (fun x y S => shs S ∧ wp w C K Rt rt en is L (.int (mxI x y) :: S) h)) := id rfl
theorem wp_invokestatic_2 {w : WdT} {C : MtT → List Value → HpT → (Option Value → HpT → Prop) → Prop} {K : Nat → List Value → List Value → HpT → Prop} {Rt : Option Value → HpT → Prop} {rt : Option FieldType} {en : Nat} {is : List AIt} {L S : List Value} {h : HpT} {j1 : Nat} {b9 : Nat} {v : Value} : wp w C K Rt rt en ((.invokestatic j1, 8, b9, .inl v) :: is) L S h = (pI2 S (fun x y S => shs S ∧ wp w C K Rt rt en is L (.int (mnI x y) :: S) h)) := id rfl
theorem ocX_0 : ocX 0 = 11 := id rfl
theorem ocX_1 : ocX 1 = 2 := id rfl
theorem ocX_2 : ocX 2 = 5 := id rfl
theorem ocX_3 : ocX 3 = 0 := id rfl
theorem ocX_4 : ocX 4 = 8 := id rfl
theorem ocX_5 : ocX 5 = 4 := id rfl
theorem ocX_6 : ocX 6 = 1 := id rfl
theorem ocX_7 : ocX 7 = 10 := id rfl
theorem ocX_8 : ocX 8 = 3 := id rfl
theorem ocX_9 : ocX 9 = 9 := id rfl
theorem ocX_10 : ocX 10 = 7 := id rfl
theorem ocX_11 : ocX 11 = 6 := id rfl
theorem ocX_12 : ocX 12 = 6 := id rfl
theorem lnX_13 : lnX 13 = 14 := id rfl
theorem lnX_14 : lnX 14 = 280 := id rfl
theorem lnX_15 : lnX 15 = 8 := id rfl
theorem lnX_16 : lnX 16 = 8 := id rfl
theorem lnX_17 : lnX 17 = 56 := id rfl
theorem lnX_18 : lnX 18 = 56 := id rfl
theorem lnX_19 : lnX 19 = 112 := id rfl
theorem lnX_20 : lnX 20 = 14 := id rfl
theorem lnX_21 : lnX 21 = 14 := id rfl
theorem lnX_22 : lnX 22 = 196 := id rfl
theorem lnX_23 : lnX 23 = 280 := id rfl
theorem lnX_24 : lnX 24 = 400 := id rfl
theorem lnX_25 : lnX 25 = 400 := id rfl
theorem lnX_26 : lnX 26 = 400 := id rfl
theorem lnX_27 : lnX 27 = 400 := id rfl
theorem lnX_28 : lnX 28 = 14 := id rfl
theorem lnX_29 : lnX 29 = 14 := id rfl
theorem lnX_30 : lnX 30 = 14 := id rfl
theorem lnX_31 : lnX 31 = 14 := id rfl
theorem lnX_32 : lnX 32 = 14 := id rfl
theorem lnX_33 : lnX 33 = 112 := id rfl
theorem lnX_34 : lnX 34 = 20 := id rfl
theorem lnX_35 : lnX 35 = 20 := id rfl
theorem lnX_36 : lnX 36 = 14 := id rfl
theorem lnX_37 : lnX 37 = 7 := id rfl
theorem lnX_38 : lnX 38 = 7 := id rfl
theorem lnX_39 : lnX 39 = 196 := id rfl
theorem lnX_40 : lnX 40 = 16384 := id rfl
theorem lnX_41 : lnX 41 = 10 := id rfl
theorem lnX_42 : lnX 42 = 40 := id rfl
theorem lnX_43 : lnX 43 = 40 := id rfl
theorem lnX_44 : lnX 44 = 320 := id rfl
theorem lnX_45 : lnX 45 = 400 := id rfl
theorem lnX_46 : lnX 46 = 20 := id rfl
theorem lnX_47 : lnX 47 = 20 := id rfl
theorem lnX_48 : lnX 48 = 20 := id rfl
theorem lnX_49 : lnX 49 = 400 := id rfl
theorem lnX_50 : lnX 50 = 32 := id rfl
theorem lnX_51 : lnX 51 = 20 := id rfl
theorem lnX_52 : lnX 52 = 20 := id rfl
theorem lnX_53 : lnX 53 = 20 := id rfl
theorem lnX_54 : lnX 54 = 400 := id rfl
theorem lnX_55 : lnX 55 = 32 := id rfl
theorem tyX_13 : tyX 13 = 1 := id rfl
theorem tyX_14 : tyX 14 = 1 := id rfl
theorem tyX_15 : tyX 15 = 0 := id rfl
theorem tyX_16 : tyX 16 = 0 := id rfl
theorem tyX_17 : tyX 17 = 0 := id rfl
theorem tyX_18 : tyX 18 = 0 := id rfl
theorem tyX_19 : tyX 19 = 0 := id rfl
theorem tyX_20 : tyX 20 = 0 := id rfl
theorem tyX_21 : tyX 21 = 0 := id rfl
theorem tyX_22 : tyX 22 = 0 := id rfl
theorem tyX_23 : tyX 23 = 1 := id rfl
theorem tyX_24 : tyX 24 = 0 := id rfl
theorem tyX_25 : tyX 25 = 0 := id rfl
theorem tyX_26 : tyX 26 = 0 := id rfl
theorem tyX_27 : tyX 27 = 0 := id rfl
theorem tyX_28 : tyX 28 = 0 := id rfl
theorem tyX_29 : tyX 29 = 0 := id rfl
theorem tyX_30 : tyX 30 = 0 := id rfl
theorem tyX_31 : tyX 31 = 0 := id rfl
theorem tyX_32 : tyX 32 = 0 := id rfl
theorem tyX_33 : tyX 33 = 0 := id rfl
theorem tyX_34 : tyX 34 = 0 := id rfl
theorem tyX_35 : tyX 35 = 0 := id rfl
theorem tyX_36 : tyX 36 = 0 := id rfl
theorem tyX_37 : tyX 37 = 0 := id rfl
theorem tyX_38 : tyX 38 = 0 := id rfl
theorem tyX_39 : tyX 39 = 0 := id rfl
theorem tyX_40 : tyX 40 = 0 := id rfl
theorem tyX_41 : tyX 41 = 0 := id rfl
theorem tyX_42 : tyX 42 = 0 := id rfl
theorem tyX_43 : tyX 43 = 0 := id rfl
theorem tyX_44 : tyX 44 = 0 := id rfl
theorem tyX_45 : tyX 45 = 2 := id rfl
theorem tyX_46 : tyX 46 = 0 := id rfl
theorem tyX_47 : tyX 47 = 0 := id rfl
theorem tyX_48 : tyX 48 = 0 := id rfl
theorem tyX_49 : tyX 49 = 0 := id rfl
theorem tyX_50 : tyX 50 = 1 := id rfl
theorem tyX_51 : tyX 51 = 0 := id rfl
theorem tyX_52 : tyX 52 = 0 := id rfl
theorem tyX_53 : tyX 53 = 0 := id rfl
theorem tyX_54 : tyX 54 = 0 := id rfl
theorem tyX_55 : tyX 55 = 1 := id rfl
theorem frX_0_0 : frX 0 0 = 1 := id rfl
theorem frX_0_1 : frX 0 1 = 2 := id rfl
theorem frX_0_2 : frX 0 2 = 3 := id rfl
theorem frX_0_3 : frX 0 3 = 4 := id rfl
theorem frX_0_4 : frX 0 4 = 5 := id rfl
theorem frX_0_5 : frX 0 5 = 7 := id rfl
theorem frX_0_6 : frX 0 6 = 8 := id rfl
theorem frX_0_7 : frX 0 7 = 9 := id rfl
theorem frX_0_8 : frX 0 8 = 10 := id rfl
theorem frX_1_1 : frX 1 1 = 13 := id rfl
theorem frX_1_4 : frX 1 4 = 14 := id rfl
theorem frX_2_1 : frX 2 1 = 15 := id rfl
theorem frX_2_2 : frX 2 2 = 16 := id rfl
theorem frX_2_3 : frX 2 3 = 17 := id rfl
theorem frX_2_4 : frX 2 4 = 18 := id rfl
theorem frX_2_5 : frX 2 5 = 19 := id rfl
theorem frX_2_6 : frX 2 6 = 20 := id rfl
theorem frX_2_7 : frX 2 7 = 21 := id rfl
theorem frX_2_8 : frX 2 8 = 22 := id rfl
theorem frX_2_9 : frX 2 9 = 23 := id rfl
theorem frX_3_1 : frX 3 1 = 24 := id rfl
theorem frX_3_2 : frX 3 2 = 25 := id rfl
theorem frX_3_3 : frX 3 3 = 26 := id rfl
theorem frX_3_4 : frX 3 4 = 27 := id rfl
theorem frX_4_0 : frX 4 0 = 28 := id rfl
theorem frX_4_1 : frX 4 1 = 29 := id rfl
theorem frX_4_2 : frX 4 2 = 30 := id rfl
theorem frX_4_3 : frX 4 3 = 31 := id rfl
theorem frX_4_4 : frX 4 4 = 32 := id rfl
theorem frX_4_6 : frX 4 6 = 33 := id rfl
theorem frX_4_7 : frX 4 7 = 34 := id rfl
theorem frX_4_8 : frX 4 8 = 35 := id rfl
theorem frX_4_9 : frX 4 9 = 1 := id rfl
theorem frX_4_10 : frX 4 10 = 2 := id rfl
theorem frX_4_11 : frX 4 11 = 3 := id rfl
theorem frX_5_0 : frX 5 0 = 36 := id rfl
theorem frX_5_2 : frX 5 2 = 6 := id rfl
theorem frX_5_3 : frX 5 3 = 1 := id rfl
theorem frX_5_4 : frX 5 4 = 2 := id rfl
theorem frX_5_5 : frX 5 5 = 4 := id rfl
theorem frX_6_0 : frX 6 0 = 37 := id rfl
theorem frX_6_1 : frX 6 1 = 38 := id rfl
theorem frX_6_2 : frX 6 2 = 39 := id rfl
theorem frX_6_3 : frX 6 3 = 40 := id rfl
theorem frX_7_1 : frX 7 1 = 41 := id rfl
theorem frX_7_3 : frX 7 3 = 42 := id rfl
theorem frX_7_4 : frX 7 4 = 43 := id rfl
theorem frX_7_6 : frX 7 6 = 44 := id rfl
theorem frX_9_1 : frX 9 1 = 45 := id rfl
theorem frX_10_2 : frX 10 2 = 9 := id rfl
theorem frX_11_1 : frX 11 1 = 46 := id rfl
theorem frX_11_2 : frX 11 2 = 47 := id rfl
theorem frX_11_3 : frX 11 3 = 48 := id rfl
theorem frX_11_4 : frX 11 4 = 49 := id rfl
theorem frX_11_6 : frX 11 6 = 50 := id rfl
theorem frX_12_1 : frX 12 1 = 51 := id rfl
theorem frX_12_2 : frX 12 2 = 52 := id rfl
theorem frX_12_3 : frX 12 3 = 53 := id rfl
theorem frX_12_4 : frX 12 4 = 54 := id rfl
theorem frX_12_6 : frX 12 6 = 55 := id rfl
theorem ocM_0 : ocM 0 = 12 := id rfl
theorem lnM_1 : lnM 1 = 14 := id rfl
theorem lnM_2 : lnM 2 = 60 := id rfl
theorem lnM_3 : lnM 3 = 60 := id rfl
theorem lnM_4 : lnM 4 = 8 := id rfl
theorem lnM_5 : lnM 5 = 8 := id rfl
theorem lnM_6 : lnM 6 = 56 := id rfl
theorem lnM_7 : lnM 7 = 56 := id rfl
theorem lnM_8 : lnM 8 = 112 := id rfl
theorem lnM_9 : lnM 9 = 400 := id rfl
theorem lnM_10 : lnM 10 = 400 := id rfl
theorem lnM_11 : lnM 11 = 400 := id rfl
theorem lnM_12 : lnM 12 = 400 := id rfl
theorem lnM_13 : lnM 13 = 400 := id rfl
theorem lnM_14 : lnM 14 = 14 := id rfl
theorem lnM_15 : lnM 15 = 14 := id rfl
theorem lnM_16 : lnM 16 = 14 := id rfl
theorem lnM_17 : lnM 17 = 14 := id rfl
theorem lnM_18 : lnM 18 = 14 := id rfl
theorem lnM_19 : lnM 19 = 16384 := id rfl
theorem lnM_20 : lnM 20 = 14 := id rfl
theorem lnM_21 : lnM 21 = 196 := id rfl
theorem lnM_22 : lnM 22 = 20 := id rfl
theorem lnM_23 : lnM 23 = 10 := id rfl
theorem lnM_24 : lnM 24 = 40 := id rfl
theorem lnM_25 : lnM 25 = 40 := id rfl
theorem lnM_26 : lnM 26 = 320 := id rfl
theorem lnM_27 : lnM 27 = 20 := id rfl
theorem lnM_28 : lnM 28 = 21 := id rfl
theorem lnM_29 : lnM 29 = 400 := id rfl
theorem lnM_30 : lnM 30 = 20 := id rfl
theorem lnM_31 : lnM 31 = 21 := id rfl
theorem lnM_32 : lnM 32 = 400 := id rfl
theorem lnM_33 : lnM 33 = 400 := id rfl
theorem lnM_34 : lnM 34 = 400 := id rfl
theorem tyM_1 : tyM 1 = 1 := id rfl
theorem tyM_2 : tyM 2 = 0 := id rfl
theorem tyM_3 : tyM 3 = 0 := id rfl
theorem tyM_4 : tyM 4 = 0 := id rfl
theorem tyM_5 : tyM 5 = 0 := id rfl
theorem tyM_6 : tyM 6 = 0 := id rfl
theorem tyM_7 : tyM 7 = 0 := id rfl
theorem tyM_8 : tyM 8 = 0 := id rfl
theorem tyM_9 : tyM 9 = 0 := id rfl
theorem tyM_10 : tyM 10 = 0 := id rfl
theorem tyM_11 : tyM 11 = 0 := id rfl
theorem tyM_12 : tyM 12 = 0 := id rfl
theorem tyM_13 : tyM 13 = 0 := id rfl
theorem tyM_14 : tyM 14 = 0 := id rfl
theorem tyM_15 : tyM 15 = 0 := id rfl
theorem tyM_16 : tyM 16 = 0 := id rfl
theorem tyM_17 : tyM 17 = 0 := id rfl
theorem tyM_18 : tyM 18 = 0 := id rfl
theorem tyM_19 : tyM 19 = 0 := id rfl
theorem tyM_20 : tyM 20 = 0 := id rfl
theorem tyM_21 : tyM 21 = 0 := id rfl
theorem tyM_22 : tyM 22 = 1 := id rfl
theorem tyM_23 : tyM 23 = 0 := id rfl
theorem tyM_24 : tyM 24 = 0 := id rfl
theorem tyM_25 : tyM 25 = 0 := id rfl
theorem tyM_26 : tyM 26 = 0 := id rfl
theorem tyM_27 : tyM 27 = 0 := id rfl
theorem tyM_28 : tyM 28 = 0 := id rfl
theorem tyM_29 : tyM 29 = 0 := id rfl
theorem tyM_30 : tyM 30 = 0 := id rfl
theorem tyM_31 : tyM 31 = 0 := id rfl
theorem tyM_32 : tyM 32 = 0 := id rfl
theorem tyM_33 : tyM 33 = 0 := id rfl
theorem tyM_34 : tyM 34 = 0 := id rfl
theorem frM_0_3 : frM 0 3 = 1 := id rfl
theorem frM_0_6 : frM 0 6 = 2 := id rfl
theorem frM_0_7 : frM 0 7 = 3 := id rfl
theorem frM_0_10 : frM 0 10 = 4 := id rfl
theorem frM_0_11 : frM 0 11 = 5 := id rfl
theorem frM_0_12 : frM 0 12 = 6 := id rfl
theorem frM_0_13 : frM 0 13 = 7 := id rfl
theorem frM_0_14 : frM 0 14 = 8 := id rfl
theorem frM_0_16 : frM 0 16 = 9 := id rfl
theorem frM_0_17 : frM 0 17 = 10 := id rfl
theorem frM_0_18 : frM 0 18 = 11 := id rfl
theorem frM_0_19 : frM 0 19 = 12 := id rfl
theorem frM_0_20 : frM 0 20 = 13 := id rfl
theorem frM_0_21 : frM 0 21 = 14 := id rfl
theorem frM_0_22 : frM 0 22 = 15 := id rfl
theorem frM_0_23 : frM 0 23 = 16 := id rfl
theorem frM_0_24 : frM 0 24 = 17 := id rfl
theorem frM_0_25 : frM 0 25 = 18 := id rfl
theorem frM_0_27 : frM 0 27 = 19 := id rfl
theorem frM_0_28 : frM 0 28 = 20 := id rfl
theorem frM_0_29 : frM 0 29 = 21 := id rfl
theorem frM_0_30 : frM 0 30 = 22 := id rfl
theorem frM_0_32 : frM 0 32 = 23 := id rfl
theorem frM_0_34 : frM 0 34 = 24 := id rfl
theorem frM_0_35 : frM 0 35 = 25 := id rfl
theorem frM_0_36 : frM 0 36 = 26 := id rfl
theorem frM_0_39 : frM 0 39 = 27 := id rfl
theorem frM_0_40 : frM 0 40 = 28 := id rfl
theorem frM_0_41 : frM 0 41 = 29 := id rfl
theorem frM_0_44 : frM 0 44 = 30 := id rfl
theorem frM_0_45 : frM 0 45 = 31 := id rfl
theorem frM_0_46 : frM 0 46 = 32 := id rfl
theorem frM_0_47 : frM 0 47 = 33 := id rfl
theorem frM_0_49 : frM 0 49 = 34 := id rfl
theorem toL_n : (none : Option Value).toList = [] := id rfl
theorem toL_s {a : Value} : (some a).toList = [a] := id rfl
theorem rtc_I {x : Int32} : rtc (some .int) (.int x) = True := id rfl
theorem rtc_Z {x : Int32} : rtc (some .boolean) (.int x) = (x = 0 ∨ x = 1) := id rfl
theorem rtc_C {x : Int32} : rtc (some .char) (.int x) = (vp_nar .char x = x) := id rfl
theorem rtl_L {x : Int64} : rtl (some .long) (.long x) = True := id rfl
theorem cc_s {l : Launch} {D : va_G} {ad : Nat → Nat} {cy : Nat → ClassId} {w : WdT} {d : Nat} {y : MtT} {as : List Value} {h : HpT} {Q : Option Value → HpT → Prop} : CCe l D ad cy w (d + 1) y as h Q = OKe l D ad cy w d y as h Q := id rfl
theorem rcv_c {w : WdT} {ci o : Nat} {as : List Value} : rcv w ci (.ref o :: as) = (if ci = 99 then 1000 ≤ o ∧ o < 1017 else o < w.1 ∧ wOc w o = ci) := id rfl
theorem sw_n {K : Nat → Prop} {x : Int32} {d : Prop} : swp K x d [] = d := id rfl
theorem sw_c {K : Nat → Prop} {x c : Int32} {t : Nat} {d : Prop} {r : List (Int32 × Nat)} : swp K x d ((c, t) :: r) = ((x = c → K t) ∧ (¬ x = c → swp K x d r)) := id rfl
theorem c1_i {x : Int32} : c1 (.int x) = True := id rfl
theorem c1_r {x : Nat} : c1 (.ref x) = True := id rfl
theorem shs_0 : shs [] = True := id rfl
theorem shs_1 {a : Value} : shs [a] = True := id rfl
theorem shs_2 {a b : Value} : shs [a, b] = True := id rfl
theorem shs_3 {a b c : Value} : shs [a, b, c] = True := id rfl
theorem shs_4 {a b c e : Value} : shs [a, b, c, e] = True := id rfl
theorem setn_0 {a v : Value} {L : List Value} : setn (a :: L) 0 v = v :: L := id rfl
theorem setn_s {a v : Value} {L : List Value} {n : Nat} : setn (a :: L) (n + 1) v = a :: setn L n v := id rfl
theorem okst_0 {L : List Value} : okst L 0 = True := by cases L with | nil => rfl | cons a L => cases a <;> rfl
theorem okst_i {x : Int32} {L : List Value} : okst (.int x :: L) 1 = True := id rfl
theorem okst_r {x : Nat} {L : List Value} : okst (.ref x :: L) 1 = True := id rfl
theorem okst_u {L : List Value} : okst (.null :: L) 1 = True := id rfl
theorem okst_s {a : Value} {L : List Value} {n : Nat} : okst (a :: L) (n + 2) = okst L (n + 1) := by cases a <;> rfl
theorem padl_0 {L : List Value} : padl 0 L = L := id rfl
theorem padl_n {n : Nat} : padl (n + 1) [] = .null :: padl n [] := id rfl
theorem padl_c {n : Nat} {a : Value} {L : List Value} : padl (n + 1) (a :: L) = a :: padl n L := id rfl
theorem xpl_n : xpl [] = [] := id rfl
theorem xpl_i {x : Int32} {L : List Value} : xpl (.int x :: L) = .int x :: xpl L := id rfl
theorem xpl_r {x : Nat} {L : List Value} : xpl (.ref x :: L) = .ref x :: xpl L := id rfl
theorem xpl_l {x : Int64} {L : List Value} : xpl (.long x :: L) = .long x :: .null :: xpl L := id rfl
theorem le_nlt {a b : Int32} : (a ≤ b) = (¬ b < a) := propext Int32.not_lt.symm
