/-! the whole step, a stretch of code, a contract -/
theorem swp_tab {K : Nat → Prop} {x : Int32} {dp : Prop} {pc : Nat} : ∀ (offs : List Int) (lo : Int) (sw : List (Int32 × Nat)), sw.map (fun q => (q.1.toInt, (q.2 : Int))) = offs.mapIdx (fun j o => (lo + (j : Int), (pc : Int) + o)) → swp K x dp sw → (∃ (j t : Nat) (o : Int), offs[j]? = some o ∧ x.toInt = lo + (j : Int) ∧ (pc : Int) + o = (t : Int) ∧ K t) ∨ ((x.toInt < lo ∨ lo + (offs.length : Int) ≤ x.toInt) ∧ dp)
  | [], lo, sw, e, h => by
    cases sw with
    | nil =>
      right
      refine ⟨?_, h⟩
      simp
      omega
    | cons q r => simp at e
  | o :: offs, lo, sw, e, h => by
    cases sw with
    | nil => simp [List.mapIdx_cons] at e
    | cons q r =>
      simp only [List.map_cons, List.mapIdx_cons] at e
      have e1 := (List.cons.inj e).1
      have e2 := (List.cons.inj e).2
      have e11 : q.1.toInt = lo := by have := congrArg Prod.fst e1; simpa using this
      have e12 : (q.2 : Int) = (pc : Int) + o := congrArg Prod.snd e1
      obtain ⟨c, t⟩ := q
      obtain ⟨h1, h2⟩ := h
      by_cases hx : x = c
      · left
        exact ⟨0, t, o, rfl, by rw [hx]; simpa using e11, e12.symm, h1 hx⟩
      · have e3 : r.map (fun q => (q.1.toInt, (q.2 : Int))) = offs.mapIdx (fun j o => ((lo + 1) + (j : Int), (pc : Int) + o)) := by
          rw [e2]
          congr 1
          funext j o'
          congr 1
          push_cast
          omega
        rcases swp_tab offs (lo + 1) r e3 (h2 hx) with ⟨j, t', o', g1, g2, g3, g4⟩ | ⟨g1, g2⟩
        · left
          exact ⟨j + 1, t', o', by simpa using g1, by push_cast; omega, g3, g4⟩
        · right
          refine ⟨?_, g2⟩
          have hne : x.toInt ≠ lo := fun z => hx (Int32.toInt_inj.mp (by rw [z]; exact e11.symm))
          simp only [List.length_cons]
          push_cast
          omega
theorem swp_look {K : Nat → Prop} {x : Int32} {dp : Prop} {pc : Nat} {dflt : Int} : ∀ (ps : List (Int × Int)) (sw : List (Int32 × Nat)), sw.map (fun q => (q.1.toInt, (q.2 : Int))) = ps.map (fun q => (q.1, (pc : Int) + q.2)) → swp K x dp sw → (∃ (t : Nat), (pc : Int) + Op.lookupswitch.offset ps dflt x.toInt = (t : Int) ∧ K t) ∨ (Op.lookupswitch.offset ps dflt x.toInt = dflt ∧ dp)
  | [], sw, e, h => by
    cases sw with
    | nil => exact Or.inr ⟨rfl, h⟩
    | cons q r => simp at e
  | (a, o) :: ps, sw, e, h => by
    cases sw with
    | nil => simp at e
    | cons q r =>
      simp only [List.map_cons] at e
      have e1 := (List.cons.inj e).1
      have e2 := (List.cons.inj e).2
      have e11 : q.1.toInt = a := congrArg Prod.fst e1
      have e12 : (q.2 : Int) = (pc : Int) + o := congrArg Prod.snd e1
      obtain ⟨c, t⟩ := q
      obtain ⟨h1, h2⟩ := h
      by_cases hx : x = c
      · left
        refine ⟨t, ?_, h1 hx⟩
        rw [Op.lookupswitch.offset_cons, if_pos (by rw [hx]; exact e11.symm)]
        exact e12.symm
      · rw [lv_osw hx e11]
        exact swp_look ps r e2 (h2 hx)
section SND3
variable {l : Launch} {D : va_G} {ad : Nat → Nat} {cy : Nat → ClassId} {w : WdT} {d : Nat} {y : MtT} {Q : Option Value → HpT → Prop} {en : Nat} {is : List AIt} {a b pc len : Nat} {pl : Value ⊕ (MtT × Nat) ⊕ List (Int32 × Nat) ⊕ (Nat × Nat)}
theorem st_tableswitch {dflt lo hi : Int} {offs : Array Int} {sw : List (Int32 × Nat)} (hd : decode y.2.1 pc = .ok (.tableswitch dflt lo hi offs, len)) (ht : (pc : Int) + dflt = (a : Int)) (hs : sw.map (fun q => (q.1.toInt, (q.2 : Int))) = offs.toList.mapIdx (fun j o => (lo + (j : Int), (pc : Int) + o))) (hh : hi + 1 = lo + (offs.toList.length : Int)) : StI l D ad cy w d y Q en is (.tableswitch dflt lo hi offs, a, b, .inr (.inr (.inl sw))) pc len := by
  intro ih L S h hw p e s m args below meth c H locs ls B hP hS hL
  obtain ⟨x, S, rfl, hw⟩ := pI1_inv hw
  rcases swp_tab offs.toList lo sw hs hw with ⟨j, t, o, g1, g2, g3, g4⟩ | ⟨g1, g2⟩
  · have hj : j < offs.toList.length := (List.getElem?_eq_some_iff.mp g1).1
    exact lv_tableIn B.1 B.2.1 hd (by omega) (by omega) (by rw [show (x.toInt - lo).toNat = j by omega, ← Array.getElem?_toList]; exact g1) g3 (g4 p e s m args below meth c H locs ls B hP hS hL)
  · exact lv_tableOut B.1 B.2.1 hd (by omega) ht (g2 p e s m args below meth c H locs ls B hP hS hL)
theorem st_lookupswitch {dflt : Int} {ps : Array (Int × Int)} {sw : List (Int32 × Nat)} (hd : decode y.2.1 pc = .ok (.lookupswitch dflt ps, len)) (ht : (pc : Int) + dflt = (a : Int)) (hs : sw.map (fun q => (q.1.toInt, (q.2 : Int))) = ps.toList.map (fun q => (q.1, (pc : Int) + q.2))) (hp : (ps.toList.zip (ps.toList.drop 1)).all (fun (a, next) => a.1 < next.1) = true) : StI l D ad cy w d y Q en is (.lookupswitch dflt ps, a, b, .inr (.inr (.inl sw))) pc len := by
  intro ih L S h hw p e s m args below meth c H locs ls B hP hS hL
  obtain ⟨x, S, rfl, hw⟩ := pI1_inv hw
  rcases swp_look (dflt := dflt) ps.toList sw hs hw with ⟨t, g1, g2⟩ | ⟨g1, g2⟩
  · exact lv_lookup B.1 B.2.1 hd hp rfl g1 (g2 p e s m args below meth c H locs ls B hP hS hL)
  · exact lv_lookup B.1 B.2.1 hd hp g1 ht (g2 p e s m args below meth c H locs ls B hP hS hL)
set_option maxHeartbeats 4000000 in
theorem step_ok : ∀ (i : AIt), decode y.2.1 pc = .ok (i.1, len) → sd y pc len i = true → StI l D ad cy w d y Q en is i pc len := by
  intro i hd hs
  unfold sd at hs
  split at hs <;> (try simp only [Bool.and_eq_true, beq_iff_eq, decide_eq_true_eq] at hs) <;> (try dsimp only at hd)
  · obtain ⟨rfl, hv⟩ := hs; exact st_iconst hd hv
  · obtain ⟨rfl, hv⟩ := hs; exact st_bipush hd hv
  · obtain ⟨rfl, hv⟩ := hs; exact st_sipush hd hv
  · obtain ⟨rfl, hv⟩ := hs; exact st_lconst hd hv
  · obtain ⟨rfl, ht⟩ := hs; exact st_ldc hd ht
  · obtain ⟨rfl, hq, ht⟩ := hs; exact st_ldcS hd hq ht
  · obtain ⟨rfl, ht⟩ := hs; exact st_ldc_w hd ht
  · obtain ⟨rfl, ht⟩ := hs; exact st_ldc2_w hd ht
  · obtain ⟨rfl, rfl⟩ := hs; exact st_iload hd
  · obtain ⟨rfl, rfl⟩ := hs; exact st_aload hd
  · obtain ⟨rfl, rfl⟩ := hs; exact st_lload hd
  · obtain ⟨rfl, hi⟩ := hs; exact st_iload_n hd hi
  · obtain ⟨rfl, hi⟩ := hs; exact st_aload_n hd hi
  · obtain ⟨rfl, hi⟩ := hs; exact st_lload_n hd hi
  · obtain ⟨rfl, rfl, hi⟩ := hs; exact st_istore hd hi
  · obtain ⟨rfl, rfl, hi⟩ := hs; exact st_astore hd hi
  · obtain ⟨rfl, rfl, hi⟩ := hs; exact st_lstore hd hi
  · obtain ⟨rfl, he, hi⟩ := hs; exact st_istore_n hd he hi
  · obtain ⟨rfl, he, hi⟩ := hs; exact st_astore_n hd he hi
  · obtain ⟨rfl, he, hi⟩ := hs; exact st_lstore_n hd he hi
  · obtain ⟨rfl, rfl, hi, hv⟩ := hs; exact st_iinc hd hi hv
  · obtain rfl := hs; exact st_iadd hd
  · obtain rfl := hs; exact st_isub hd
  · obtain rfl := hs; exact st_imul hd
  · obtain rfl := hs; exact st_iand hd
  · obtain rfl := hs; exact st_ior hd
  · obtain rfl := hs; exact st_ixor hd
  · obtain rfl := hs; exact st_ishl hd
  · obtain rfl := hs; exact st_ishr hd
  · obtain rfl := hs; exact st_iushr hd
  · obtain rfl := hs; exact st_idiv hd
  · obtain rfl := hs; exact st_irem hd
  · obtain rfl := hs; exact st_ineg hd
  · obtain rfl := hs; exact st_i2l hd
  · obtain rfl := hs; exact st_l2i hd
  · obtain rfl := hs; exact st_i2c hd
  · obtain rfl := hs; exact st_ladd hd
  · obtain rfl := hs; exact st_lsub hd
  · obtain rfl := hs; exact st_lmul hd
  · obtain rfl := hs; exact st_lcmp hd
  · obtain rfl := hs; exact st_dup hd
  · obtain rfl := hs; exact st_dup2 hd
  · obtain ⟨rfl, ht⟩ := hs; rename_i cnd _ _ _ _; cases cnd <;> first | exact st_if_eq hd ht | exact st_if_ne hd ht | exact st_if_lt hd ht | exact st_if_ge hd ht | exact st_if_gt hd ht | exact st_if_le hd ht
  · obtain ⟨rfl, ht⟩ := hs; rename_i cnd _ _ _ _; cases cnd <;> first | exact st_icmp_eq hd ht | exact st_icmp_ne hd ht | exact st_icmp_lt hd ht | exact st_icmp_ge hd ht | exact st_icmp_gt hd ht | exact st_icmp_le hd ht
  · obtain ⟨rfl, ht⟩ := hs; exact st_goto hd ht
  · obtain ⟨ht, h1, h2⟩ := hs; exact st_tableswitch hd ht h1 h2
  · obtain ⟨ht, h1, h2⟩ := hs; exact st_lookupswitch hd ht h1 h2
  · obtain rfl := hs; exact st_ireturn hd
  · obtain rfl := hs; exact st_lreturn hd
  · obtain rfl := hs; exact st_return hd
  · obtain ⟨rfl, hs⟩ := hs; split at hs
    · rename_i q hq; simp only [Bool.and_eq_true, decide_eq_true_eq] at hs; exact st_getfield hd hq hs.1 hs.2.1 hs.2.2
    · cases hs
  · obtain ⟨rfl, hs⟩ := hs; split at hs
    · rename_i q hq; simp only [Bool.and_eq_true, decide_eq_true_eq] at hs; exact st_putfield hd hq hs.1 hs.2.1 hs.2.2.1 hs.2.2.2
    · cases hs
  · obtain rfl := hs; exact st_iaload hd
  · obtain rfl := hs; exact st_baload hd
  · obtain rfl := hs; exact st_caload hd
  · obtain rfl := hs; exact st_iastore hd
  · obtain rfl := hs; exact st_bastore hd
  · obtain rfl := hs; exact st_castore hd
  · obtain rfl := hs; exact st_arraylength hd
  · obtain ⟨rfl, h1, h2, h3⟩ := hs; refine st_invokevirtual hd h1 ?_ h3; split at h2 <;> rename_i hc <;> simp only [hc, if_true, if_false, decide_eq_true_eq] at h2 ⊢ <;> exact h2
  · obtain ⟨rfl, h1, h2⟩ := hs; refine st_invokestatic hd h1 ?_; split at h2 <;> rename_i hc <;> simp only [hc, if_true, if_false, decide_eq_true_eq] at h2 ⊢ <;> exact h2
  · obtain ⟨rfl, ht⟩ := hs; exact st_max hd ht
  · obtain ⟨rfl, ht⟩ := hs; exact st_min hd ht
  · cases hs
theorem run_ok : ∀ (is : List AIt) (pc : Nat), chk y pc is en = true → ∀ L S h, wp w (CCe l D ad cy w d) (AT l D ad cy w d y Q) Q y.2.2.2.1 en is L S h → AT l D ad cy w d y Q pc L S h
  | [], pc, hc, L, S, h, hw => by
    have e : pc = en := by simpa [chk] using hc
    subst e
    exact hw
  | i :: is, pc, hc, L, S, h, hw => by
    unfold chk at hc
    split at hc
    · rename_i ins len hd
      simp only [Bool.and_eq_true, decide_eq_true_eq] at hc
      obtain ⟨rfl, h1, h2⟩ := hc
      exact step_ok i hd h1 (run_ok is (pc + len) h2) L S h hw
    · cases hc
end SND3
/-! a contract out of the place where a method begins -/
def xpl : List Value → List Value
  | [] => []
  | .long x :: vs => .long x :: .null :: xpl vs
  | .int x :: vs => .int x :: xpl vs
  | .ref x :: vs => .ref x :: xpl vs
  | _ :: vs => .null :: xpl vs
def padl : Nat → List Value → List Value
  | 0, L => L
  | n + 1, [] => .null :: padl n []
  | n + 1, v :: L => v :: padl n L
theorem padl_get : ∀ (n : Nat) (L : List Value) (i : Nat) (v : Value), (padl n L)[i]? = some v → v ≠ .null → L[i]? = some v
  | 0, L, i, v, h, hn => h
  | n + 1, [], 0, v, h, hn => by simp [padl] at h; exact absurd h.symm hn
  | n + 1, [], i + 1, v, h, hn => by
    have := padl_get n [] i v (by simpa [padl] using h) hn
    simp at this
  | n + 1, u :: L, 0, v, h, hn => by simpa [padl] using h
  | n + 1, u :: L, i + 1, v, h, hn => by
    rw [List.getElem?_cons_succ]
    exact padl_get n L i v (by simpa [padl] using h) hn
theorem padl_len : ∀ (n : Nat) (L : List Value), L.length ≤ n → (padl n L).length = n
  | 0, L, h => by simp [padl]; exact List.eq_nil_of_length_eq_zero (by omega)
  | n + 1, [], h => by simp [padl]; exact padl_len n [] (Nat.zero_le n)
  | n + 1, u :: L, h => by simp [padl]; exact padl_len n L (by simpa using h)
def nnv : Value → Prop
  | .int _ => True
  | .long _ => True
  | .ref _ => True
  | _ => False
def nnl : List Value → Prop
  | [] => True
  | v :: vs => nnv v ∧ nnl vs
theorem xpl_len {ad : Nat → Nat} : ∀ (vs : List Value), nnl vs → (lg_sl (vs.map (tv ad))).length = (xpl vs).length
  | [], _ => rfl
  | .int x :: vs, h => by have := xpl_len (ad := ad) vs h.2; simp [lg_sl, tv, Value.category, xpl] at this ⊢; omega
  | .long x :: vs, h => by have := xpl_len (ad := ad) vs h.2; simp [lg_sl, tv, Value.category, xpl] at this ⊢; omega
  | .ref x :: vs, h => by have := xpl_len (ad := ad) vs h.2; simp [lg_sl, tv, Value.category, xpl] at this ⊢; omega
theorem xpl_get {ad : Nat → Nat} : ∀ (vs : List Value) (k i : Nat) (v : Value), nnl vs → (xpl vs)[i]? = some v → v ≠ .null → (k + i, tv ad v) ∈ lv_args k (vs.map (tv ad))
  | [], k, i, v, hn, h, h0 => by simp [xpl] at h
  | .int x :: vs, k, 0, v, hn, h, h0 => by simp [xpl] at h; subst h; exact List.mem_cons_self
  | .ref x :: vs, k, 0, v, hn, h, h0 => by simp [xpl] at h; subst h; exact List.mem_cons_self
  | .long x :: vs, k, 0, v, hn, h, h0 => by simp [xpl] at h; subst h; exact List.mem_cons_self
  | .int x :: vs, k, i + 1, v, hn, h, h0 => by
    have := xpl_get (ad := ad) vs (k + 1) i v hn.2 (by simpa [xpl] using h) h0
    rw [show k + (i + 1) = k + 1 + i by omega]
    exact List.mem_cons_of_mem _ this
  | .ref x :: vs, k, i + 1, v, hn, h, h0 => by
    have := xpl_get (ad := ad) vs (k + 1) i v hn.2 (by simpa [xpl] using h) h0
    rw [show k + (i + 1) = k + 1 + i by omega]
    exact List.mem_cons_of_mem _ this
  | .long x :: vs, k, 1, v, hn, h, h0 => by simp [xpl] at h; exact absurd h.symm h0
  | .long x :: vs, k, i + 2, v, hn, h, h0 => by
    have := xpl_get (ad := ad) vs (k + 2) i v hn.2 (by simpa [xpl] using h) h0
    rw [show k + (i + 2) = k + 2 + i by omega]
    exact List.mem_cons_of_mem _ this
theorem ok_of {l : Launch} {D : va_G} {ad : Nat → Nat} {cy : Nat → ClassId} {w : WdT} {d : Nat} {y : MtT} {Q : Option Value → HpT → Prop} {as : List Value} {h : HpT} (hk : Mok y) (hn : nnl as) (hl : (xpl as).length ≤ y.2.2.1) (ha : AT l D ad cy w d y Q 0 (padl y.2.2.1 (xpl as)) [] h) : OKe l D ad cy w d y as h Q := by
  refine ⟨hk, Met.ofW (cc := y.2.1) (maxL := y.2.2.1) (ret := y.2.2.2.1) hk.1.1 rfl ?_⟩
  intro p e s m args below meth c s₁ B hml hv
  obtain ⟨rfl, hP, hK, hE, hA⟩ := hv
  have hts := atoms_spec (ws := wsM y) B.pre
  have hown : s.vm.findClass y.1.cls = some m.cls := findClass_of_methodNamed B.named
  have hl2 : (lg_sl (as.map (tv ad))).length ≤ y.2.2.1 := by rw [xpl_len as hn]; exact hl
  have hl := lv_entry (as.map (tv ad)) (n := y.2.2.1) hl2
  rw [lg_entry_eq]
  generalize (lg_sl (as.map (tv ad)) ++ List.replicate (y.2.2.1 - (lg_sl (as.map (tv ad))).length) Slot.unset).toArray = ls at hl ⊢
  refine ha p e s m _ below meth c s.heap [] ls ⟨B.exec, B.bytes, B.returns, hml, hown, fun v hv => hts v (List.mem_cons_of_mem _ hv), B.notSynchronized, hK, hE, hA⟩ hP va_S.rf ⟨padl_len _ _ (by rw [← xpl_len (ad := ad) as hn]; exact hl2), hl.1, hl.2.1, fun i v hv h0 => ?_⟩
  have h1 := xpl_get (ad := ad) as 0 i v hn (padl_get _ _ i v hv h0) h0
  rw [Nat.zero_add] at h1
  exact hl.2.2 _ h1
/-- what follows of a contract -/
theorem ok_imp {l : Launch} {D : va_G} {ad : Nat → Nat} {cy : Nat → ClassId} {w : WdT} {d : Nat} {y : MtT} {Q Q' : Option Value → HpT → Prop} {as : List Value} {h : HpT} (hk : OKe l D ad cy w d y as h Q) (hq : ∀ r h', Q r h' → Q' r h') : OKe l D ad cy w d y as h Q' := by
  refine ⟨hk.1, ?_⟩
  intro p e ha hc hk2 s m args below hf happ hP hK
  obtain ⟨k, o, h1, h2, h3, hQ⟩ := hk.2 p e ha hc hk2 s m args below hf happ hP hK
  obtain ⟨⟨⟨r, h', e1, e2, e3⟩, hF⟩, hL⟩ := hQ
  exact ⟨k, o, h1, h2, h3, ⟨⟨r, h', e1, hq r h' e2, e3⟩, hF⟩, hL⟩
