/-! each instruction of the small machine is one of the kit's rows -/
/-- what must hold of an instruction beside its decoding -/
def sd (y : MtT) (pc len : Nat) : AIt → Bool
  | (.iconst n, _, _, .inl v) => len == 1 && decide (v = .int (Int32.ofInt n))
  | (.bipush n, _, _, .inl v) => len == 2 && decide (v = .int (Int8.ofInt n).toInt32)
  | (.sipush n, _, _, .inl v) => len == 3 && decide (v = .int (Int16.ofInt n).toInt32)
  | (.lconst n, _, _, .inl v) => len == 1 && decide (v = .long (Int64.ofNat n.val))
  | (.ldc k, _, b, .inl (.int x)) => len == 2 && decide (lk b = some (.constant y.1.cls k x))
  | (.ldc k, _, _, .inl (.ref q)) => len == 2 && (decide (1000 ≤ q) && decide ((strW[q - 1000]?).map (fun z => (z.1, z.2.1)) = some (y.1.cls, k)))
  | (.ldc_w k, _, b, .inl (.int x)) => len == 3 && decide (lk b = some (.constant y.1.cls k x))
  | (.ldc2_w k, _, b, .inl (.long x)) => len == 3 && decide (lk b = some (.constantLong y.1.cls k x))
  | (.iload j, i, _, _) => len == 2 && j == i
  | (.aload j, i, _, _) => len == 2 && j == i
  | (.lload j, i, _, _) => len == 2 && j == i
  | (.iload_n j, i, _, _) => len == 1 && j.val == i
  | (.aload_n j, i, _, _) => len == 1 && j.val == i
  | (.lload_n j, i, _, _) => len == 1 && j.val == i
  | (.istore j, i, _, _) => len == 2 && (j == i && decide (i < y.2.2.1))
  | (.astore j, i, _, _) => len == 2 && (j == i && decide (i < y.2.2.1))
  | (.lstore j, i, _, _) => len == 2 && (j == i && decide (i + 1 < y.2.2.1))
  | (.istore_n j, i, _, _) => len == 1 && (j.val == i && decide (i < y.2.2.1))
  | (.astore_n j, i, _, _) => len == 1 && (j.val == i && decide (i < y.2.2.1))
  | (.lstore_n j, i, _, _) => len == 1 && (j.val == i && decide (i + 1 < y.2.2.1))
  | (.iinc j n, i, _, .inl (.int v)) => len == 3 && (j == i && (decide (i < y.2.2.1) && decide (v = Int32.ofInt n)))
  | (.iadd, _, _, _) => len == 1
  | (.isub, _, _, _) => len == 1
  | (.imul, _, _, _) => len == 1
  | (.iand, _, _, _) => len == 1
  | (.ior, _, _, _) => len == 1
  | (.ixor, _, _, _) => len == 1
  | (.ishl, _, _, _) => len == 1
  | (.ishr, _, _, _) => len == 1
  | (.iushr, _, _, _) => len == 1
  | (.idiv, _, _, _) => len == 1
  | (.irem, _, _, _) => len == 1
  | (.ineg, _, _, _) => len == 1
  | (.i2l, _, _, _) => len == 1
  | (.l2i, _, _, _) => len == 1
  | (.i2c, _, _, _) => len == 1
  | (.ladd, _, _, _) => len == 1
  | (.lsub, _, _, _) => len == 1
  | (.lmul, _, _, _) => len == 1
  | (.lcmp, _, _, _) => len == 1
  | (.dup, _, _, _) => len == 1
  | (.dup2, _, _, _) => len == 1
  | (.ifCond _ off, a, _, _) => len == 3 && decide ((pc : Int) + off = (a : Int))
  | (.if_icmp _ off, a, _, _) => len == 3 && decide ((pc : Int) + off = (a : Int))
  | (.goto off, a, _, _) => len == 3 && decide ((pc : Int) + off = (a : Int))
  | (.tableswitch dflt lo hi offs, a, _, .inr (.inr (.inl sw))) => decide ((pc : Int) + dflt = (a : Int)) && (decide (sw.map (fun q => (q.1.toInt, (q.2 : Int))) = offs.toList.mapIdx (fun j o => (lo + (j : Int), (pc : Int) + o))) && decide (hi + 1 = lo + (offs.toList.length : Int)))
  | (.lookupswitch dflt ps, a, _, .inr (.inr (.inl sw))) => decide ((pc : Int) + dflt = (a : Int)) && (decide (sw.map (fun q => (q.1.toInt, (q.2 : Int))) = ps.toList.map (fun q => (q.1, (pc : Int) + q.2))) && (ps.toList.zip (ps.toList.drop 1)).all (fun (a, next) => a.1 < next.1))
  | (.ireturn, _, _, _) => len == 1
  | (.lreturn, _, _, _) => len == 1
  | (.return_, _, _, _) => len == 1
  | (.getfield idx, ci, k, .inr (.inr (.inr (kd, b)))) => len == 3 && (match vwCl[ci]? with
      | some q => decide (k < q.2.2) && (decide (kd = kdT (q.2.1 k)) && decide (lk b = some (.fieldLink y.1.cls idx (q.2.1 k).1 (q.2.1 k).2.1 (q.2.1 k).2.2.1)))
      | none => false)
  | (.putfield idx, ci, k, .inr (.inr (.inr (kd, b)))) => len == 3 && (match vwCl[ci]? with
      | some q => decide (k < q.2.2) && (decide (kd = kdT (q.2.1 k)) && (decide (lk b = some (.fieldLink y.1.cls idx (q.2.1 k).1 (q.2.1 k).2.1 (q.2.1 k).2.2.1)) && decide ((q.2.1 k).2.2.2 = false)))
      | none => false)
  | (.iaload, _, _, _) => len == 1
  | (.baload, _, _, _) => len == 1
  | (.caload, _, _, _) => len == 1
  | (.iastore, _, _, _) => len == 1
  | (.bastore, _, _, _) => len == 1
  | (.castore, _, _, _) => len == 1
  | (.arraylength, _, _, _) => len == 1
  | (.invokevirtual idx, ci, n, .inr (.inl (m, b))) => len == 3 && (decide (m.2.2.2.2.1 = false ∧ n = npop m) && ((if ci = 99 then decide (m.1.cls = "java/lang/String") else decide ((vwCl[ci]?).map (fun q => q.1) = some m.1.cls)) && decide (lk b = some (.methodLink y.1.cls idx m.1))))
  | (.invokestatic idx, ci, n, .inr (.inl (m, b))) => len == 3 && (decide (m.2.2.2.2.1 = true ∧ n = npop m) && (if ci = 0 then decide (lk b = some (.methodLink y.1.cls idx m.1)) else decide ((nestW[b]?).map (fun q => (q.1, q.2.1, q.2.2.1)) = some (y.1.cls, idx, m.1))))
  | (.invokestatic idx, 7, b, .inl _) => len == 3 && decide (lk b = some (.methodLink y.1.cls idx Lib.Math.max.name))
  | (.invokestatic idx, 8, b, .inl _) => len == 3 && decide (lk b = some (.methodLink y.1.cls idx Lib.Math.min.name))
  | _ => false
def chk (y : MtT) : Nat → List AIt → Nat → Bool
  | pc, [], en => pc == en
  | pc, i :: is, en => match decode y.2.1 pc with
    | .ok (ins, len) => decide (ins = i.1) && (sd y pc len i && chk y (pc + len) is en)
    | _ => false
def StI (l : Launch) (D : va_G) (ad : Nat → Nat) (cy : Nat → ClassId) (w : WdT) (d : Nat) (y : MtT) (Q : Option Value → HpT → Prop) (en : Nat) (is : List AIt) (i : AIt) (pc len : Nat) : Prop :=
  (∀ L S h, wp w (CCe l D ad cy w d) (AT l D ad cy w d y Q) Q y.2.2.2.1 en is L S h → AT l D ad cy w d y Q (pc + len) L S h) → ∀ L S h, wp w (CCe l D ad cy w d) (AT l D ad cy w d y Q) Q y.2.2.2.1 en (i :: is) L S h → AT l D ad cy w d y Q pc L S h
section SND
variable {l : Launch} {D : va_G} {ad : Nat → Nat} {cy : Nat → ClassId} {w : WdT} {d : Nat} {y : MtT} {Q : Option Value → HpT → Prop} {en : Nat} {is : List AIt} {a b pc len : Nat} {pl : Value ⊕ (MtT × Nat) ⊕ List (Int32 × Nat) ⊕ (Nat × Nat)}
theorem gw_at {w : Cond} {b : Nat} (h : lk b = some w) (hg : goodWord w = true) : w ∈ GW := List.mem_filter.mpr ⟨lk_mem h, hg⟩
-- rows that are alike
theorem st_iadd (hd : decode y.2.1 pc = .ok (.iadd, 1)) : StI l D ad cy w d y Q en is (.iadd, a, b, pl) pc 1 := by
  intro ih L S h hw p e s m args below meth c H locs ls B hP hS hL
  obtain ⟨u, v, S, rfl, hw⟩ := pI2_inv hw
  exact lv_iadd B.1 B.2.1 hd (ih _ _ _ hw p e s m args below meth c H locs ls B hP hS hL)
theorem st_isub (hd : decode y.2.1 pc = .ok (.isub, 1)) : StI l D ad cy w d y Q en is (.isub, a, b, pl) pc 1 := by
  intro ih L S h hw p e s m args below meth c H locs ls B hP hS hL
  obtain ⟨u, v, S, rfl, hw⟩ := pI2_inv hw
  exact lv_isub B.1 B.2.1 hd (ih _ _ _ hw p e s m args below meth c H locs ls B hP hS hL)
theorem st_imul (hd : decode y.2.1 pc = .ok (.imul, 1)) : StI l D ad cy w d y Q en is (.imul, a, b, pl) pc 1 := by
  intro ih L S h hw p e s m args below meth c H locs ls B hP hS hL
  obtain ⟨u, v, S, rfl, hw⟩ := pI2_inv hw
  exact lv_imul B.1 B.2.1 hd (ih _ _ _ hw p e s m args below meth c H locs ls B hP hS hL)
theorem st_iand (hd : decode y.2.1 pc = .ok (.iand, 1)) : StI l D ad cy w d y Q en is (.iand, a, b, pl) pc 1 := by
  intro ih L S h hw p e s m args below meth c H locs ls B hP hS hL
  obtain ⟨u, v, S, rfl, hw⟩ := pI2_inv hw
  exact lv_iand B.1 B.2.1 hd (ih _ _ _ hw p e s m args below meth c H locs ls B hP hS hL)
theorem st_ior (hd : decode y.2.1 pc = .ok (.ior, 1)) : StI l D ad cy w d y Q en is (.ior, a, b, pl) pc 1 := by
  intro ih L S h hw p e s m args below meth c H locs ls B hP hS hL
  obtain ⟨u, v, S, rfl, hw⟩ := pI2_inv hw
  exact lv_ior B.1 B.2.1 hd (ih _ _ _ hw p e s m args below meth c H locs ls B hP hS hL)
theorem st_ixor (hd : decode y.2.1 pc = .ok (.ixor, 1)) : StI l D ad cy w d y Q en is (.ixor, a, b, pl) pc 1 := by
  intro ih L S h hw p e s m args below meth c H locs ls B hP hS hL
  obtain ⟨u, v, S, rfl, hw⟩ := pI2_inv hw
  exact lv_ixor B.1 B.2.1 hd (ih _ _ _ hw p e s m args below meth c H locs ls B hP hS hL)
theorem st_ishl (hd : decode y.2.1 pc = .ok (.ishl, 1)) : StI l D ad cy w d y Q en is (.ishl, a, b, pl) pc 1 := by
  intro ih L S h hw p e s m args below meth c H locs ls B hP hS hL
  obtain ⟨u, v, S, rfl, hw⟩ := pI2_inv hw
  exact lv_ishl B.1 B.2.1 hd (ih _ _ _ hw p e s m args below meth c H locs ls B hP hS hL)
theorem st_ishr (hd : decode y.2.1 pc = .ok (.ishr, 1)) : StI l D ad cy w d y Q en is (.ishr, a, b, pl) pc 1 := by
  intro ih L S h hw p e s m args below meth c H locs ls B hP hS hL
  obtain ⟨u, v, S, rfl, hw⟩ := pI2_inv hw
  exact lv_ishr B.1 B.2.1 hd (ih _ _ _ hw p e s m args below meth c H locs ls B hP hS hL)
theorem st_ladd (hd : decode y.2.1 pc = .ok (.ladd, 1)) : StI l D ad cy w d y Q en is (.ladd, a, b, pl) pc 1 := by
  intro ih L S h hw p e s m args below meth c H locs ls B hP hS hL
  obtain ⟨u, v, S, rfl, hw⟩ := pL2_inv hw
  exact lv_ladd B.1 B.2.1 hd (ih _ _ _ hw p e s m args below meth c H locs ls B hP hS hL)
theorem st_lsub (hd : decode y.2.1 pc = .ok (.lsub, 1)) : StI l D ad cy w d y Q en is (.lsub, a, b, pl) pc 1 := by
  intro ih L S h hw p e s m args below meth c H locs ls B hP hS hL
  obtain ⟨u, v, S, rfl, hw⟩ := pL2_inv hw
  exact lv_lsub B.1 B.2.1 hd (ih _ _ _ hw p e s m args below meth c H locs ls B hP hS hL)
theorem st_lmul (hd : decode y.2.1 pc = .ok (.lmul, 1)) : StI l D ad cy w d y Q en is (.lmul, a, b, pl) pc 1 := by
  intro ih L S h hw p e s m args below meth c H locs ls B hP hS hL
  obtain ⟨u, v, S, rfl, hw⟩ := pL2_inv hw
  exact lv_lmul B.1 B.2.1 hd (ih _ _ _ hw p e s m args below meth c H locs ls B hP hS hL)
theorem st_idiv (hd : decode y.2.1 pc = .ok (.idiv, 1)) : StI l D ad cy w d y Q en is (.idiv, a, b, pl) pc 1 := by
  intro ih L S h hw p e s m args below meth c H locs ls B hP hS hL
  obtain ⟨u, v, S, rfl, hn, hw⟩ := pI2_inv hw
  exact lv_idiv B.1 B.2.1 hd hn (ih _ _ _ hw p e s m args below meth c H locs ls B hP hS hL)
theorem st_irem (hd : decode y.2.1 pc = .ok (.irem, 1)) : StI l D ad cy w d y Q en is (.irem, a, b, pl) pc 1 := by
  intro ih L S h hw p e s m args below meth c H locs ls B hP hS hL
  obtain ⟨u, v, S, rfl, hn, hw⟩ := pI2_inv hw
  exact lv_irem B.1 B.2.1 hd hn (ih _ _ _ hw p e s m args below meth c H locs ls B hP hS hL)
theorem st_iushr (hd : decode y.2.1 pc = .ok (.iushr, 1)) : StI l D ad cy w d y Q en is (.iushr, a, b, pl) pc 1 := by
  intro ih L S h hw p e s m args below meth c H locs ls B hP hS hL
  obtain ⟨u, v, S, rfl, hw⟩ := pI2_inv hw
  exact lv_iushr B.1 B.2.1 hd rfl (ih _ _ _ hw p e s m args below meth c H locs ls B hP hS hL)
theorem st_lcmp (hd : decode y.2.1 pc = .ok (.lcmp, 1)) : StI l D ad cy w d y Q en is (.lcmp, a, b, pl) pc 1 := by
  intro ih L S h hw p e s m args below meth c H locs ls B hP hS hL
  obtain ⟨u, v, S, rfl, hw⟩ := pL2_inv hw
  exact W.lcmp B.1 B.2.1 hd (ih _ _ _ hw p e s m args below meth c H locs ls B hP hS hL)
theorem st_ineg (hd : decode y.2.1 pc = .ok (.ineg, 1)) : StI l D ad cy w d y Q en is (.ineg, a, b, pl) pc 1 := by
  intro ih L S h hw p e s m args below meth c H locs ls B hP hS hL
  obtain ⟨u, S, rfl, hw⟩ := pI1_inv hw
  exact lv_ineg B.1 B.2.1 hd (ih _ _ _ hw p e s m args below meth c H locs ls B hP hS hL)
theorem st_i2l (hd : decode y.2.1 pc = .ok (.i2l, 1)) : StI l D ad cy w d y Q en is (.i2l, a, b, pl) pc 1 := by
  intro ih L S h hw p e s m args below meth c H locs ls B hP hS hL
  obtain ⟨u, S, rfl, hw⟩ := pI1_inv hw
  exact lv_i2l B.1 B.2.1 hd rfl (ih _ _ _ hw p e s m args below meth c H locs ls B hP hS hL)
theorem st_l2i (hd : decode y.2.1 pc = .ok (.l2i, 1)) : StI l D ad cy w d y Q en is (.l2i, a, b, pl) pc 1 := by
  intro ih L S h hw p e s m args below meth c H locs ls B hP hS hL
  obtain ⟨u, S, rfl, hw⟩ := pL1_inv hw
  exact lv_l2i B.1 B.2.1 hd rfl (ih _ _ _ hw p e s m args below meth c H locs ls B hP hS hL)
theorem st_i2c (hd : decode y.2.1 pc = .ok (.i2c, 1)) : StI l D ad cy w d y Q en is (.i2c, a, b, pl) pc 1 := by
  intro ih L S h hw p e s m args below meth c H locs ls B hP hS hL
  obtain ⟨u, S, rfl, hw⟩ := pI1_inv hw
  exact lv_i2c B.1 B.2.1 hd rfl (ih _ _ _ hw p e s m args below meth c H locs ls B hP hS hL)
theorem st_iconst {n : Int} {v : Value} (hd : decode y.2.1 pc = .ok (.iconst n, 1)) (hv : v = .int (Int32.ofInt n)) : StI l D ad cy w d y Q en is (.iconst n, a, b, .inl v) pc 1 := by
  intro ih L S h hw p e s m args below meth c H locs ls B hP hS hL
  subst hv
  exact lv_iconst B.1 B.2.1 hd rfl (ih _ _ _ hw p e s m args below meth c H locs ls B hP hS hL)
theorem st_bipush {n : Int} {v : Value} (hd : decode y.2.1 pc = .ok (.bipush n, 2)) (hv : v = .int (Int8.ofInt n).toInt32) : StI l D ad cy w d y Q en is (.bipush n, a, b, .inl v) pc 2 := by
  intro ih L S h hw p e s m args below meth c H locs ls B hP hS hL
  subst hv
  exact lv_bipush B.1 B.2.1 hd rfl (ih _ _ _ hw p e s m args below meth c H locs ls B hP hS hL)
theorem st_sipush {n : Int} {v : Value} (hd : decode y.2.1 pc = .ok (.sipush n, 3)) (hv : v = .int (Int16.ofInt n).toInt32) : StI l D ad cy w d y Q en is (.sipush n, a, b, .inl v) pc 3 := by
  intro ih L S h hw p e s m args below meth c H locs ls B hP hS hL
  subst hv
  exact lv_sipush B.1 B.2.1 hd rfl (ih _ _ _ hw p e s m args below meth c H locs ls B hP hS hL)
theorem st_lconst {n : Fin 2} {v : Value} (hd : decode y.2.1 pc = .ok (.lconst n, 1)) (hv : v = .long (Int64.ofNat n.val)) : StI l D ad cy w d y Q en is (.lconst n, a, b, .inl v) pc 1 := by
  intro ih L S h hw p e s m args below meth c H locs ls B hP hS hL
  subst hv
  exact lv_lconst B.1 B.2.1 hd rfl (ih _ _ _ hw p e s m args below meth c H locs ls B hP hS hL)
theorem st_ldc {k : Nat} {x : Int32} (hd : decode y.2.1 pc = .ok (.ldc k, 2)) (ht : lk b = some (.constant y.1.cls k x)) : StI l D ad cy w d y Q en is (.ldc k, a, b, .inl (.int x)) pc 2 := by
  intro ih L S h hw p e s m args below meth c H locs ls B hP hS hL
  exact lv_ldc B.1 B.2.1 B.2.2.2.2.1 (B.2.2.2.2.2.1 _ (gw_at ht rfl)) hd (ih _ _ _ hw p e s m args below meth c H locs ls B hP hS hL)
theorem st_ldc_w {k : Nat} {x : Int32} (hd : decode y.2.1 pc = .ok (.ldc_w k, 3)) (ht : lk b = some (.constant y.1.cls k x)) : StI l D ad cy w d y Q en is (.ldc_w k, a, b, .inl (.int x)) pc 3 := by
  intro ih L S h hw p e s m args below meth c H locs ls B hP hS hL
  exact lv_ldcw B.1 B.2.1 B.2.2.2.2.1 (B.2.2.2.2.2.1 _ (gw_at ht rfl)) hd (ih _ _ _ hw p e s m args below meth c H locs ls B hP hS hL)
theorem st_ldc2_w {k : Nat} {x : Int64} (hd : decode y.2.1 pc = .ok (.ldc2_w k, 3)) (ht : lk b = some (.constantLong y.1.cls k x)) : StI l D ad cy w d y Q en is (.ldc2_w k, a, b, .inl (.long x)) pc 3 := by
  intro ih L S h hw p e s m args below meth c H locs ls B hP hS hL
  exact lv_ldc2 B.1 B.2.1 B.2.2.2.2.1 (B.2.2.2.2.2.1 _ (gw_at ht rfl)) hd (ih _ _ _ hw p e s m args below meth c H locs ls B hP hS hL)
theorem st_ldcS {k q : Nat} (hd : decode y.2.1 pc = .ok (.ldc k, 2)) (hq : 1000 ≤ q) (ht : (strW[q - 1000]?).map (fun z => (z.1, z.2.1)) = some (y.1.cls, k)) : StI l D ad cy w d y Q en is (.ldc k, a, b, .inl (.ref q)) pc 2 := by
  intro ih L S h hw p e s m args below meth c H locs ls B hP hS hL
  cases hz : strW[q - 1000]? with
  | none => rw [hz] at ht; cases ht
  | some z =>
    rw [hz] at ht
    have e9 : (z.1, z.2.1) = (y.1.cls, k) := Option.some.inj ht
    have e1 : z.1 = y.1.cls := congrArg Prod.fst e9
    have e2 : z.2.1 = k := congrArg Prod.snd e9
    have hR := B.2.2.2.2.2.2.2.2.1.2.1 (q - 1000) z hz
    rw [show 1000 + (q - 1000) = q by omega, e1, e2] at hR
    exact va_ldcS B.1 B.2.1 B.2.2.2.2.1 hR hd (ih _ _ _ hw p e s m args below meth c H locs ls B hP hS hL)
theorem st_iload {i : Nat} (hd : decode y.2.1 pc = .ok (.iload i, 2)) : StI l D ad cy w d y Q en is (.iload i, i, b, pl) pc 2 := by
  intro ih L S h hw p e s m args below meth c H locs ls B hP hS hL
  obtain ⟨x, e9, hw⟩ := ldI_inv hw
  exact lv_iload B.1 B.2.1 hd (hL.2.2.2 i _ (nth_get L i _ e9 (by intro z; cases z)) (by intro z; cases z)) (ih _ _ _ hw p e s m args below meth c H locs ls B hP hS hL)
theorem st_iload_n {k : Fin 4} {i : Nat} (hd : decode y.2.1 pc = .ok (.iload_n k, 1)) (hi : k.val = i) : StI l D ad cy w d y Q en is (.iload_n k, i, b, pl) pc 1 := by
  intro ih L S h hw p e s m args below meth c H locs ls B hP hS hL
  obtain ⟨x, e9, hw⟩ := ldI_inv hw
  exact lv_iload_n B.1 B.2.1 hd hi (hL.2.2.2 i _ (nth_get L i _ e9 (by intro z; cases z)) (by intro z; cases z)) (ih _ _ _ hw p e s m args below meth c H locs ls B hP hS hL)
theorem st_aload {i : Nat} (hd : decode y.2.1 pc = .ok (.aload i, 2)) : StI l D ad cy w d y Q en is (.aload i, i, b, pl) pc 2 := by
  intro ih L S h hw p e s m args below meth c H locs ls B hP hS hL
  obtain ⟨x, e9, hw⟩ := ldR_inv hw
  exact lv_aload B.1 B.2.1 hd (hL.2.2.2 i _ (nth_get L i _ e9 (by intro z; cases z)) (by intro z; cases z)) (ih _ _ _ hw p e s m args below meth c H locs ls B hP hS hL)
theorem st_aload_n {k : Fin 4} {i : Nat} (hd : decode y.2.1 pc = .ok (.aload_n k, 1)) (hi : k.val = i) : StI l D ad cy w d y Q en is (.aload_n k, i, b, pl) pc 1 := by
  intro ih L S h hw p e s m args below meth c H locs ls B hP hS hL
  obtain ⟨x, e9, hw⟩ := ldR_inv hw
  exact lv_aload_n B.1 B.2.1 hd hi (hL.2.2.2 i _ (nth_get L i _ e9 (by intro z; cases z)) (by intro z; cases z)) (ih _ _ _ hw p e s m args below meth c H locs ls B hP hS hL)
theorem st_lload {i : Nat} (hd : decode y.2.1 pc = .ok (.lload i, 2)) : StI l D ad cy w d y Q en is (.lload i, i, b, pl) pc 2 := by
  intro ih L S h hw p e s m args below meth c H locs ls B hP hS hL
  obtain ⟨x, e9, hw⟩ := ldL_inv hw
  exact lv_lload B.1 B.2.1 hd (hL.2.2.2 i _ (nth_get L i _ e9 (by intro z; cases z)) (by intro z; cases z)) (ih _ _ _ hw p e s m args below meth c H locs ls B hP hS hL)
theorem st_lload_n {k : Fin 4} {i : Nat} (hd : decode y.2.1 pc = .ok (.lload_n k, 1)) (hi : k.val = i) : StI l D ad cy w d y Q en is (.lload_n k, i, b, pl) pc 1 := by
  intro ih L S h hw p e s m args below meth c H locs ls B hP hS hL
  obtain ⟨x, e9, hw⟩ := ldL_inv hw
  exact lv_lload_n B.1 B.2.1 hd hi (hL.2.2.2 i _ (nth_get L i _ e9 (by intro z; cases z)) (by intro z; cases z)) (ih _ _ _ hw p e s m args below meth c H locs ls B hP hS hL)
theorem st_istore {i : Nat} (hd : decode y.2.1 pc = .ok (.istore i, 2)) (hi : i < y.2.2.1) : StI l D ad cy w d y Q en is (.istore i, i, b, pl) pc 2 := by
  intro ih L S h hw p e s m args below meth c H locs ls B hP hS hL
  obtain ⟨x, S, rfl, ho, hw⟩ := pI1_inv hw
  exact lv_istore B.1 B.2.1 hd (Lr_has hL) hi rfl (fun ls' hl' => ih _ _ _ hw p e s m args below meth c H locs ls' B hP hS (Lr_st1 (v := .int x) hL hi ho hl'))
theorem st_istore_n {k : Fin 4} {i : Nat} (hd : decode y.2.1 pc = .ok (.istore_n k, 1)) (he : k.val = i) (hi : i < y.2.2.1) : StI l D ad cy w d y Q en is (.istore_n k, i, b, pl) pc 1 := by
  intro ih L S h hw p e s m args below meth c H locs ls B hP hS hL
  obtain ⟨x, S, rfl, ho, hw⟩ := pI1_inv hw
  exact lv_istore_n B.1 B.2.1 hd he (Lr_has hL) hi rfl (fun ls' hl' => ih _ _ _ hw p e s m args below meth c H locs ls' B hP hS (Lr_st1 (v := .int x) hL hi ho hl'))
theorem st_astore {i : Nat} (hd : decode y.2.1 pc = .ok (.astore i, 2)) (hi : i < y.2.2.1) : StI l D ad cy w d y Q en is (.astore i, i, b, pl) pc 2 := by
  intro ih L S h hw p e s m args below meth c H locs ls B hP hS hL
  obtain ⟨x, S, rfl, ho, hw⟩ := pR1_inv hw
  exact lv_astore B.1 B.2.1 hd (Lr_has hL) hi rfl (fun ls' hl' => ih _ _ _ hw p e s m args below meth c H locs ls' B hP hS (Lr_st1 (v := .ref x) hL hi ho hl'))
theorem st_astore_n {k : Fin 4} {i : Nat} (hd : decode y.2.1 pc = .ok (.astore_n k, 1)) (he : k.val = i) (hi : i < y.2.2.1) : StI l D ad cy w d y Q en is (.astore_n k, i, b, pl) pc 1 := by
  intro ih L S h hw p e s m args below meth c H locs ls B hP hS hL
  obtain ⟨x, S, rfl, ho, hw⟩ := pR1_inv hw
  exact lv_astore_n B.1 B.2.1 hd he (Lr_has hL) hi rfl (fun ls' hl' => ih _ _ _ hw p e s m args below meth c H locs ls' B hP hS (Lr_st1 (v := .ref x) hL hi ho hl'))
theorem st_lstore {i : Nat} (hd : decode y.2.1 pc = .ok (.lstore i, 2)) (hi : i + 1 < y.2.2.1) : StI l D ad cy w d y Q en is (.lstore i, i, b, pl) pc 2 := by
  intro ih L S h hw p e s m args below meth c H locs ls B hP hS hL
  obtain ⟨x, S, rfl, ho, hw⟩ := pL1_inv hw
  exact lv_lstore B.1 B.2.1 hd (Lr_has hL) hi rfl (fun ls' hl' => ih _ _ _ hw p e s m args below meth c H locs ls' B hP hS (Lr_st2 (v := .long x) hL hi ho hl'))
theorem st_lstore_n {k : Fin 4} {i : Nat} (hd : decode y.2.1 pc = .ok (.lstore_n k, 1)) (he : k.val = i) (hi : i + 1 < y.2.2.1) : StI l D ad cy w d y Q en is (.lstore_n k, i, b, pl) pc 1 := by
  intro ih L S h hw p e s m args below meth c H locs ls B hP hS hL
  obtain ⟨x, S, rfl, ho, hw⟩ := pL1_inv hw
  exact lv_lstore_n B.1 B.2.1 hd he (Lr_has hL) hi rfl (fun ls' hl' => ih _ _ _ hw p e s m args below meth c H locs ls' B hP hS (Lr_st2 (v := .long x) hL hi ho hl'))
theorem st_iinc {i : Nat} {n : Int} {v : Int32} (hd : decode y.2.1 pc = .ok (.iinc i n, 3)) (hi : i < y.2.2.1) (hv : v = Int32.ofInt n) : StI l D ad cy w d y Q en is (.iinc i n, i, b, .inl (.int v)) pc 3 := by
  intro ih L S h hw p e s m args below meth c H locs ls B hP hS hL
  subst hv
  obtain ⟨ho, hw⟩ := hw
  obtain ⟨x, e9, hw⟩ := ldI_inv hw
  have hg := Lr_mem (ad := ad) (nth_get L i _ e9 (by intro z; cases z)) (by intro z; cases z)
  obtain ⟨k, hk⟩ := List.getElem?_of_mem hg
  exact lv_iinc (k := k) (x := x) B.1 B.2.1 hd (Lr_has hL) hk rfl hi rfl (fun ls' hl' => ih _ _ _ hw p e s m args below meth c H locs ls' B hP hS (Lr_st1 (v := .int (x + Int32.ofInt n)) hL hi ho hl'))
theorem st_dup (hd : decode y.2.1 pc = .ok (.dup, 1)) : StI l D ad cy w d y Q en is (.dup, a, b, pl) pc 1 := by
  intro ih L S h hw p e s m args below meth c H locs ls B hP hS hL
  obtain ⟨v, S, rfl, hc, hw⟩ := pV1_inv hw
  exact lv_dup B.1 B.2.1 hd (by rw [tv_cat]; cases v <;> first | rfl | exact hc.elim) (ih _ _ _ hw p e s m args below meth c H locs ls B hP hS hL)
theorem st_dup2 (hd : decode y.2.1 pc = .ok (.dup2, 1)) : StI l D ad cy w d y Q en is (.dup2, a, b, pl) pc 1 := by
  intro ih L S h hw p e s m args below meth c H locs ls B hP hS hL
  obtain ⟨v, u, S, rfl, ⟨hc, hc'⟩, hw⟩ := pV2_inv hw
  exact lv_dup2_11 B.1 B.2.1 hd (by rw [tv_cat]; cases v <;> first | rfl | exact hc.elim) (by rw [tv_cat]; cases u <;> first | rfl | exact hc'.elim) (ih _ _ _ hw p e s m args below meth c H locs ls B hP hS hL)
theorem st_goto {off : Int} (hd : decode y.2.1 pc = .ok (.goto off, 3)) (ht : (pc : Int) + off = (a : Int)) : StI l D ad cy w d y Q en is (.goto off, a, b, pl) pc 3 := by
  intro ih L S h hw p e s m args below meth c H locs ls B hP hS hL
  exact lv_goto B.1 B.2.1 hd ht (hw p e s m args below meth c H locs ls B hP hS hL)
theorem st_if_eq {off : Int} (hd : decode y.2.1 pc = .ok (.ifCond .eq off, 3)) (ht : (pc : Int) + off = (a : Int)) : StI l D ad cy w d y Q en is (.ifCond .eq off, a, b, pl) pc 3 := by
  intro ih L S h hw p e s m args below meth c H locs ls B hP hS hL
  obtain ⟨u, S, rfl, h1, h2⟩ := pI1_inv hw
  exact lv_if_eq B.1 B.2.1 hd ht (fun z => h1 z p e s m args below meth c H locs ls B hP hS hL) (fun z => ih _ _ _ (h2 z) p e s m args below meth c H locs ls B hP hS hL)
theorem st_icmp_eq {off : Int} (hd : decode y.2.1 pc = .ok (.if_icmp .eq off, 3)) (ht : (pc : Int) + off = (a : Int)) : StI l D ad cy w d y Q en is (.if_icmp .eq off, a, b, pl) pc 3 := by
  intro ih L S h hw p e s m args below meth c H locs ls B hP hS hL
  obtain ⟨u, v, S, rfl, h1, h2⟩ := pI2_inv hw
  exact lv_icmp_eq B.1 B.2.1 hd ht (fun z => h1 z p e s m args below meth c H locs ls B hP hS hL) (fun z => ih _ _ _ (h2 z) p e s m args below meth c H locs ls B hP hS hL)
theorem st_if_ne {off : Int} (hd : decode y.2.1 pc = .ok (.ifCond .ne off, 3)) (ht : (pc : Int) + off = (a : Int)) : StI l D ad cy w d y Q en is (.ifCond .ne off, a, b, pl) pc 3 := by
  intro ih L S h hw p e s m args below meth c H locs ls B hP hS hL
  obtain ⟨u, S, rfl, h1, h2⟩ := pI1_inv hw
  exact lv_if_ne B.1 B.2.1 hd ht (fun z => h1 z p e s m args below meth c H locs ls B hP hS hL) (fun z => ih _ _ _ (h2 z) p e s m args below meth c H locs ls B hP hS hL)
theorem st_icmp_ne {off : Int} (hd : decode y.2.1 pc = .ok (.if_icmp .ne off, 3)) (ht : (pc : Int) + off = (a : Int)) : StI l D ad cy w d y Q en is (.if_icmp .ne off, a, b, pl) pc 3 := by
  intro ih L S h hw p e s m args below meth c H locs ls B hP hS hL
  obtain ⟨u, v, S, rfl, h1, h2⟩ := pI2_inv hw
  exact lv_icmp_ne B.1 B.2.1 hd ht (fun z => h1 z p e s m args below meth c H locs ls B hP hS hL) (fun z => ih _ _ _ (h2 z) p e s m args below meth c H locs ls B hP hS hL)
theorem st_if_lt {off : Int} (hd : decode y.2.1 pc = .ok (.ifCond .lt off, 3)) (ht : (pc : Int) + off = (a : Int)) : StI l D ad cy w d y Q en is (.ifCond .lt off, a, b, pl) pc 3 := by
  intro ih L S h hw p e s m args below meth c H locs ls B hP hS hL
  obtain ⟨u, S, rfl, h1, h2⟩ := pI1_inv hw
  exact lv_if_lt B.1 B.2.1 hd ht (fun z => h1 z p e s m args below meth c H locs ls B hP hS hL) (fun z => ih _ _ _ (h2 z) p e s m args below meth c H locs ls B hP hS hL)
theorem st_icmp_lt {off : Int} (hd : decode y.2.1 pc = .ok (.if_icmp .lt off, 3)) (ht : (pc : Int) + off = (a : Int)) : StI l D ad cy w d y Q en is (.if_icmp .lt off, a, b, pl) pc 3 := by
  intro ih L S h hw p e s m args below meth c H locs ls B hP hS hL
  obtain ⟨u, v, S, rfl, h1, h2⟩ := pI2_inv hw
  exact lv_icmp_lt B.1 B.2.1 hd ht (fun z => h1 z p e s m args below meth c H locs ls B hP hS hL) (fun z => ih _ _ _ (h2 z) p e s m args below meth c H locs ls B hP hS hL)
theorem st_if_ge {off : Int} (hd : decode y.2.1 pc = .ok (.ifCond .ge off, 3)) (ht : (pc : Int) + off = (a : Int)) : StI l D ad cy w d y Q en is (.ifCond .ge off, a, b, pl) pc 3 := by
  intro ih L S h hw p e s m args below meth c H locs ls B hP hS hL
  obtain ⟨u, S, rfl, h1, h2⟩ := pI1_inv hw
  exact lv_if_ge B.1 B.2.1 hd ht (fun z => h1 z p e s m args below meth c H locs ls B hP hS hL) (fun z => ih _ _ _ (h2 z) p e s m args below meth c H locs ls B hP hS hL)
theorem st_icmp_ge {off : Int} (hd : decode y.2.1 pc = .ok (.if_icmp .ge off, 3)) (ht : (pc : Int) + off = (a : Int)) : StI l D ad cy w d y Q en is (.if_icmp .ge off, a, b, pl) pc 3 := by
  intro ih L S h hw p e s m args below meth c H locs ls B hP hS hL
  obtain ⟨u, v, S, rfl, h1, h2⟩ := pI2_inv hw
  exact lv_icmp_ge B.1 B.2.1 hd ht (fun z => h1 z p e s m args below meth c H locs ls B hP hS hL) (fun z => ih _ _ _ (h2 z) p e s m args below meth c H locs ls B hP hS hL)
theorem st_if_gt {off : Int} (hd : decode y.2.1 pc = .ok (.ifCond .gt off, 3)) (ht : (pc : Int) + off = (a : Int)) : StI l D ad cy w d y Q en is (.ifCond .gt off, a, b, pl) pc 3 := by
  intro ih L S h hw p e s m args below meth c H locs ls B hP hS hL
  obtain ⟨u, S, rfl, h1, h2⟩ := pI1_inv hw
  exact lv_if_gt B.1 B.2.1 hd ht (fun z => h1 z p e s m args below meth c H locs ls B hP hS hL) (fun z => ih _ _ _ (h2 z) p e s m args below meth c H locs ls B hP hS hL)
theorem st_icmp_gt {off : Int} (hd : decode y.2.1 pc = .ok (.if_icmp .gt off, 3)) (ht : (pc : Int) + off = (a : Int)) : StI l D ad cy w d y Q en is (.if_icmp .gt off, a, b, pl) pc 3 := by
  intro ih L S h hw p e s m args below meth c H locs ls B hP hS hL
  obtain ⟨u, v, S, rfl, h1, h2⟩ := pI2_inv hw
  exact lv_icmp_gt B.1 B.2.1 hd ht (fun z => h1 z p e s m args below meth c H locs ls B hP hS hL) (fun z => ih _ _ _ (h2 z) p e s m args below meth c H locs ls B hP hS hL)
theorem st_if_le {off : Int} (hd : decode y.2.1 pc = .ok (.ifCond .le off, 3)) (ht : (pc : Int) + off = (a : Int)) : StI l D ad cy w d y Q en is (.ifCond .le off, a, b, pl) pc 3 := by
  intro ih L S h hw p e s m args below meth c H locs ls B hP hS hL
  obtain ⟨u, S, rfl, h1, h2⟩ := pI1_inv hw
  exact lv_if_le B.1 B.2.1 hd ht (fun z => h1 z p e s m args below meth c H locs ls B hP hS hL) (fun z => ih _ _ _ (h2 z) p e s m args below meth c H locs ls B hP hS hL)
theorem st_icmp_le {off : Int} (hd : decode y.2.1 pc = .ok (.if_icmp .le off, 3)) (ht : (pc : Int) + off = (a : Int)) : StI l D ad cy w d y Q en is (.if_icmp .le off, a, b, pl) pc 3 := by
  intro ih L S h hw p e s m args below meth c H locs ls B hP hS hL
  obtain ⟨u, v, S, rfl, h1, h2⟩ := pI2_inv hw
  exact lv_icmp_le B.1 B.2.1 hd ht (fun z => h1 z p e s m args below meth c H locs ls B hP hS hL) (fun z => ih _ _ _ (h2 z) p e s m args below meth c H locs ls B hP hS hL)
end SND
