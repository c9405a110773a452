/-! the heights of the codes that a text gives -/
def hgL : List Int32 → Nat → Option Nat
  | [], k => some k
  | v :: vs, k => if v = -5 then (if 1 ≤ k then hgL vs k else none) else if v = -6 ∨ v = -7 then (if 2 ≤ k then hgL vs (k - 1) else none) else if k < 31 then hgL vs (k + 1) else none
theorem hgL_app : ∀ (A B : List Int32) (k m : Nat), hgL A k = some m → hgL (A ++ B) k = hgL B m
  | [], B, k, m, h => by cases h; rfl
  | v :: A, B, k, m, h => by
    show hgL (v :: (A ++ B)) k = _
    rw [hgL] at h ⊢
    split
    · rename_i c; rw [if_pos c] at h
      split
      · rename_i c2; rw [if_pos c2] at h; exact hgL_app A B _ _ h
      · rename_i c2; rw [if_neg c2] at h; cases h
    · rename_i c; rw [if_neg c] at h
      split
      · rename_i c1; rw [if_pos c1] at h
        split
        · rename_i c2; rw [if_pos c2] at h; exact hgL_app A B _ _ h
        · rename_i c2; rw [if_neg c2] at h; cases h
      · rename_i c1; rw [if_neg c1] at h
        split
        · rename_i c2; rw [if_pos c2] at h; exact hgL_app A B _ _ h
        · rename_i c2; rw [if_neg c2] at h; cases h
theorem hgt_L (f : Nat → Int32) : ∀ (c : List Int32) (a k : Nat), (∀ i, i < c.length → f (a + i) = c.getD i 0) → hgt f a c.length k = hgL c k
  | [], a, k, h => rfl
  | v :: vs, a, k, h => by
    have h0 : f a = v := h 0 (Nat.succ_pos _)
    have ht : ∀ i, i < vs.length → f (a + 1 + i) = vs.getD i 0 := fun i hi => by
      have := h (i + 1) (Nat.succ_lt_succ hi)
      rw [show a + 1 + i = a + (i + 1) by omega]
      exact this
    show hgt f a (vs.length + 1) k = _
    rw [hgt, hgL, h0, hgt_L f vs (a + 1) k ht, hgt_L f vs (a + 1) (k - 1) ht, hgt_L f vs (a + 1) (k + 1) ht]
theorem hgt_cong (f g : Nat → Int32) : ∀ (n a k : Nat), (∀ i, a ≤ i → i < a + n → f i = g i) → hgt f a n k = hgt g a n k
  | 0, a, k, h => rfl
  | n + 1, a, k, h => by
    have ht : ∀ i, a + 1 ≤ i → i < a + 1 + n → f i = g i := fun i h1 h2 => h i (by omega) (by omega)
    rw [hgt, hgt, h a (by omega) (by omega), hgt_cong f g n (a + 1) k ht, hgt_cong f g n (a + 1) (k - 1) ht, hgt_cong f g n (a + 1) (k + 1) ht]
def cdB (c : List Int32) : Prop := ∀ v, v ∈ c → -7 ≤ v.toInt ∧ v.toInt < 32
theorem cdB_app {A B : List Int32} (a : cdB A) (b : cdB B) : cdB (A ++ B) := fun v hv => (List.mem_append.mp hv).elim (a v) (b v)
theorem cdB_nil : cdB [] := fun v hv => absurd hv List.not_mem_nil
theorem cdB_1 {v : Int32} (h : -7 ≤ v.toInt ∧ v.toInt < 32) : cdB [v] := fun u hu => by
  rw [List.mem_singleton.mp hu]; exact h
/-- codes that lift every height up to K by one -/
def gdC (K : Nat) (c : List Int32) : Prop := cdB c ∧ ∀ k, k ≤ K → hgL c k = some (k + 1)
def gdF (K : Nat) (f : Nat → Res) : Prop := ∀ s c s', f s = rOk c s' → gdC K c
theorem gdC_le {K K' : Nat} {c : List Int32} (h : gdC K c) (hk : K' ≤ K) : gdC K' c := ⟨h.1, fun k q => h.2 k (by omega)⟩
theorem gdF_le {K K' : Nat} {f : Nat → Res} (h : gdF K f) (hk : K' ≤ K) : gdF K' f := fun s c s' e => gdC_le (h s c s' e) hk
theorem gdC_1 {v : Int32} (hv : -7 ≤ v.toInt ∧ v.toInt < 32) (h5 : v ≠ -5) (h6 : v ≠ -6) (h7 : v ≠ -7) : gdC 30 [v] := ⟨cdB_1 hv, fun k hk => by
  rw [hgL, if_neg h5, if_neg (by rintro (z | z); exact h6 z; exact h7 z), if_pos (by omega), hgL]⟩
theorem gd_leaf {T : Nat → Nat} {nt : Nat} : gdF 30 (pLeaf T nt) := by
  intro s c s' h
  unfold pLeaf at h
  split at h
  · unfold pNum at h
    split at h
    · rename_i c1
      obtain ⟨e, -⟩ := rOk_inj h
      rw [← e]
      have b := c1.2
      have t : (nI (nm T (nx T nt s) (en T nt (nx T nt s) - nx T nt s))).toInt = (nm T (nx T nt s) (en T nt (nx T nt s) - nx T nt s) : Nat) := nI_toInt (by omega)
      refine gdC_1 (by omega) (fun z => ?_) (fun z => ?_) (fun z => ?_)
      · rw [z] at t; have : (-5 : Int32).toInt = -5 := by decide
        omega
      · rw [z] at t; have : (-6 : Int32).toInt = -6 := by decide
        omega
      · rw [z] at t; have : (-7 : Int32).toInt = -7 := by decide
        omega
    · exact absurd h.symm rOk_bad
  · split at h
    · obtain ⟨e, -⟩ := rOk_inj h; rw [← e]; exact gdC_1 (by decide) (by decide) (by decide) (by decide)
    · split at h
      · obtain ⟨e, -⟩ := rOk_inj h; rw [← e]; exact gdC_1 (by decide) (by decide) (by decide) (by decide)
      · split at h
        · obtain ⟨e, -⟩ := rOk_inj h; rw [← e]; exact gdC_1 (by decide) (by decide) (by decide) (by decide)
        · split at h
          · obtain ⟨e, -⟩ := rOk_inj h; rw [← e]; exact gdC_1 (by decide) (by decide) (by decide) (by decide)
          · exact absurd h.symm rOk_bad
theorem gdC_join {K : Nat} {o : Int32} {A B : List Int32} (ho : o = -6 ∨ o = -7) (a : gdC K A) (b : gdC (K + 1) B) : gdC K (A ++ B ++ [o]) := by
  refine ⟨cdB_app (cdB_app a.1 b.1) (cdB_1 ?_), fun k hk => ?_⟩
  · rcases ho with rfl | rfl <;> decide
  · rw [List.append_assoc, hgL_app _ _ _ _ (a.2 k hk), hgL_app _ _ _ _ (b.2 (k + 1) (by omega))]
    have n5 : o ≠ -5 := by rcases ho with rfl | rfl <;> decide
    rw [hgL, if_neg n5, if_pos ho, if_pos (by omega), hgL]
    rfl
theorem gd_L {T : Nat → Nat} {nt w K : Nat} {o : Int32} {f : Nat → Res} (ho : o = -6 ∨ o = -7) (hf : gdF (K + 1) f) : ∀ (c : Nat) (cs : List Int32) (s : Nat) (c' : List Int32) (s' : Nat), gdC K cs → pL T nt w o f c cs s = rOk c' s' → gdC K c'
  | 0, cs, s, c', s', g, h => by
    rw [pL] at h
    obtain ⟨e, -⟩ := rOk_inj h
    rw [← e]; exact g
  | c + 1, cs, s, c', s', g, h => by
    rw [pL] at h
    split at h
    · rcases res_or (f (nx T nt s)) with ⟨c2, s2, er⟩ | ⟨p, er⟩
      · rw [er, rThen_ok] at h
        exact gd_L ho hf c _ _ _ _ (gdC_join ho g (hf _ _ _ er)) h
      · rw [er, rThen_bad] at h; exact absurd h.symm rOk_bad
    · obtain ⟨e, -⟩ := rOk_inj h
      rw [← e]; exact g
theorem gd_J {T : Nat → Nat} {nt w K : Nat} {o : Int32} {f : Nat → Res} (ho : o = -6 ∨ o = -7) (hf : gdF (K + 1) f) : gdF K (pJ T nt w o f) := by
  intro s c s' h
  unfold pJ at h
  rcases res_or (f s) with ⟨c2, s2, er⟩ | ⟨p, er⟩
  · rw [er, rThen_ok] at h
    exact gd_L ho hf 400 _ _ _ _ (gdC_le (hf _ _ _ er) (by omega)) h
  · rw [er, rThen_bad] at h; exact absurd h.symm rOk_bad
theorem gd_or {T : Nat → Nat} {nt K : Nat} {f : Nat → Res} (hf : gdF (K + 2) f) : gdF K (pOr T nt f) := gd_J (Or.inr rfl) (gd_J (Or.inl rfl) hf)
theorem gd_not {T : Nat → Nat} {nt : Nat} : ∀ (k K : Nat), K + 2 * k ≤ 30 → gdF K (pNot T nt k)
  | 0, K, hK => by
    intro s c s' h
    rw [pNot] at h
    split at h
    · exact absurd h.symm rOk_bad
    · exact gdC_le (gd_leaf _ _ _ h) (by omega)
  | k + 1, K, hK => by
    intro s c s' h
    rw [pNot] at h
    split at h
    · rcases res_or (pOr T nt (pNot T nt k) (nx T nt s)) with ⟨c2, s2, er⟩ | ⟨p, er⟩
      · rw [er, rThen_ok] at h
        split at h
        · obtain ⟨e, -⟩ := rOk_inj h
          rw [← e]
          exact gd_or (gd_not k (K + 2) (by omega)) _ _ _ er
        · exact absurd h.symm rOk_bad
      · rw [er, rThen_bad] at h; exact absurd h.symm rOk_bad
    · split at h
      · rcases res_or (pNot T nt k (nx T nt s)) with ⟨c2, s2, er⟩ | ⟨p, er⟩
        · rw [er, rThen_ok] at h
          obtain ⟨e, -⟩ := rOk_inj h
          rw [← e]
          have g := gd_not k K (by omega) _ _ _ er
          refine ⟨cdB_app g.1 (cdB_1 (by decide)), fun j hj => ?_⟩
          rw [hgL_app _ _ _ _ (g.2 j hj), hgL, if_pos rfl, if_pos (by omega), hgL]
        · rw [er, rThen_bad] at h; exact absurd h.symm rOk_bad
      · exact gdC_le (gd_leaf _ _ _ h) (by omega)
theorem gd_rul {T : Nat → Nat} {nt s s' : Nat} {c : List Int32} (h : pRul T nt s = rOk c s') : pKd T nt (nx T nt s) < 4 ∧ cdB c ∧ (c = [] ∨ hgL c 0 = some 1) := by
  have kl : pKd T nt (nx T nt s) ≤ 4 := by
    rcases pKd_or T nt (nx T nt s) with ⟨i, hi, -, e⟩ | ⟨-, e⟩ <;> omega
  unfold pRul at h
  split at h
  · split at h
    · exact absurd h.symm rOk_bad
    · rename_i k4
      refine ⟨by omega, ?_⟩
      split at h
      · have g := gd_or (K := 0) (gd_not 8 2 (by omega)) _ _ _ h
        exact ⟨g.1, Or.inr (g.2 0 (Nat.le_refl 0))⟩
      · obtain ⟨e, -⟩ := rOk_inj h
        rw [← e]
        exact ⟨cdB_nil, Or.inl rfl⟩
  · exact absurd h.symm rOk_bad
/-- what a text's rules are like -/
def gdR (R : List (Nat × Nat × Nat)) (cs : List Int32) : Prop := cdB cs ∧ ∀ r, r < R.length → (R.getD r (0, 0, 0)).1 < 4 ∧ (R.getD r (0, 0, 0)).2.1 ≤ (R.getD r (0, 0, 0)).2.2 ∧ (R.getD r (0, 0, 0)).2.2 ≤ cs.length ∧ ((R.getD r (0, 0, 0)).2.1 < (R.getD r (0, 0, 0)).2.2 → hgt (fun i => cs.getD i 0) (R.getD r (0, 0, 0)).2.1 ((R.getD r (0, 0, 0)).2.2 - (R.getD r (0, 0, 0)).2.1) 0 = some 1)
theorem gdR_add {R : List (Nat × Nat × Nat)} {cs c : List Int32} {kd : Nat} (g : gdR R cs) (hk : kd < 4) (hb : cdB c) (hc : c = [] ∨ hgL c 0 = some 1) : gdR (R ++ [(kd, cs.length, cs.length + c.length)]) (cs ++ c) := by
  refine ⟨cdB_app g.1 hb, fun r hr => ?_⟩
  have el : (R ++ [(kd, cs.length, cs.length + c.length)]).length = R.length + 1 := by rw [List.length_append]; rfl
  rw [el] at hr
  by_cases e : r = R.length
  · subst e
    rw [getR_s]
    refine ⟨hk, Nat.le_add_right _ _, by rw [List.length_append]; exact Nat.le_refl _, fun lt => ?_⟩
    have lt : cs.length < cs.length + c.length := lt
    show hgt _ cs.length (cs.length + c.length - cs.length) 0 = some 1
    rw [Nat.add_sub_cancel_left, hgt_L _ c _ _ (fun i hi => ?_)]
    · rcases hc with q | q
      · rw [q] at lt; exact absurd lt (Nat.lt_irrefl _)
      · exact q
    · show (cs ++ c).getD (cs.length + i) 0 = _
      rw [List.getD_eq_getElem?_getD, List.getElem?_append_right (Nat.le_add_right _ _), Nat.add_sub_cancel_left, ← List.getD_eq_getElem?_getD]
  · rw [getR_l (by omega)]
    obtain ⟨a1, a2, a3, a4⟩ := g.2 r (by omega)
    refine ⟨a1, a2, by rw [List.length_append]; omega, fun lt => ?_⟩
    rw [← a4 lt]
    exact hgt_cong _ _ _ _ _ (fun i h1 h2 => getD_l (by omega))
theorem gd_txt {T : Nat → Nat} {nt : Nat} : ∀ (c : Nat) (R : List (Nat × Nat × Nat)) (cs : List Int32) (s : Nat) (R' : List (Nat × Nat × Nat)) (cs' : List Int32) (s' : Nat), gdR R cs → s ≤ nt → cs.length ≤ s → pTxt T nt c R cs s = (some (R', cs'), s') → gdR R' cs' ∧ R'.length ≤ R.length + c ∧ cs'.length ≤ nt
  | 0, R, cs, s, R', cs', s', g, h1, h2, h => by
    rw [pTxt] at h
    exact (tup_no h.symm).elim
  | c + 1, R, cs, s, R', cs', s', g, h1, h2, h => by
    rcases res_or (pRul T nt s) with ⟨c2, s2, er⟩ | ⟨p, er⟩
    · rw [pTxt_ok er] at h
      obtain ⟨q1, q2, q3⟩ := gd_rul er
      have gg := grw_rul _ _ _ h1 er
      have g2 := gdR_add g q1 q2 q3
      have el : (R ++ [(pKd T nt (nx T nt s), cs.length, cs.length + c2.length)]).length = R.length + 1 := by rw [List.length_append]; rfl
      have ec : (cs ++ c2).length = cs.length + c2.length := List.length_append
      split at h
      · obtain ⟨e1, e2, -⟩ := tup_some h
        subst e1; subst e2
        exact ⟨g2, by rw [el]; omega, by rw [ec]; omega⟩
      · split at h
        · have n2 := nx_le (T := T) gg.2.1
          have r := gd_txt c _ _ _ _ _ _ g2 n2.2.1 (by rw [ec]; omega) h
          rw [el] at r
          exact ⟨r.1, by omega, r.2.2⟩
        · exact (tup_no h.symm).elim
    · rw [pTxt_bad er] at h
      exact (tup_no h.symm).elim
theorem gd_text {T : Nat → Nat} {nt s : Nat} {R : List (Nat × Nat × Nat)} {cs : List Int32} (h : pText T nt = (some (R, cs), s)) : gdR R cs ∧ R.length ≤ 20 ∧ cs.length ≤ nt := by
  have sb := sk_le (T := T) (nt := nt) (s := 0) (Nat.zero_le _)
  have g0 : gdR [] [] := ⟨cdB_nil, fun r hr => absurd hr (Nat.not_lt_zero r)⟩
  unfold pText at h
  split at h
  · obtain ⟨e1, e2, -⟩ := tup_some h
    subst e1; subst e2
    exact ⟨g0, Nat.zero_le _, Nat.zero_le _⟩
  · have r := gd_txt 20 [] [] _ _ _ _ g0 sb.2 (Nat.zero_le _) h
    exact ⟨r.1, by have := r.2.1; simp only [List.length_nil] at this; omega, r.2.2⟩
