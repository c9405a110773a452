/-! rounds under way -/
def iRn (n : Nat) (x m : HpT) : Prop :=
  (∀ r, r < n → hA x 15 r = hA m 4 r ∧ hA x 16 r = hA m 5 r ∧ (∃ tm, hA m 4 r = nI tm ∧ tm ≤ 7) ∧ (hA m 5 r = -1 ∨ ∃ b, hA m 5 r = nI b ∧ b < 14)) ∧
  (∀ k, slt m n k → hA x 17 k = hA m 6 k ∧ hA x 18 k = hA m 7 k ∧ (∃ a b, hA m 6 k = nI a ∧ hA m 7 k = nI b ∧ a < 14 ∧ b < 14 ∧ a ≠ b) ∧
    (∀ s, s < 2 → hA x 19 (2 * k + s) = hA m 8 (2 * k + s) ∧ (hA m 8 (2 * k + s) = -1 ∨ ∃ j, hA m 8 (2 * k + s) = nI j ∧ j < 20)) ∧ (hA m 8 (2 * k) = hA m 8 (2 * k + 1) → hA m 8 (2 * k) = -1)) ∧
  (∀ s, s < 14 → hA x 20 s = nI (cntR (fun k => hA m 6 k == nI s) (tmN m) n) ∧ hA x 21 s = nI (fb_ct (fun r => hA m 5 r == nI s) n)) ∧
  (∀ a b, a < 14 → b < 14 → hA x 22 (a * 14 + b) = nI (cntR (fun k => (hA m 6 k == nI a && hA m 7 k == nI b) || (hA m 6 k == nI b && hA m 7 k == nI a)) (tmN m) n)) ∧
  (∀ j s, j < 20 → s < 14 → (hA x 23 (j * 14 + s) = 1 ∧ ∃ k, slt m n k ∧ (hA m 8 (2 * k) = nI j ∨ hA m 8 (2 * k + 1) = nI j) ∧ (hA m 6 k = nI s ∨ hA m 7 k = nI s)) ∨ (hA x 23 (j * 14 + s) = 0 ∧ ∀ k, slt m n k → ¬ ((hA m 8 (2 * k) = nI j ∨ hA m 8 (2 * k + 1) = nI j) ∧ (hA m 6 k = nI s ∨ hA m 7 k = nI s))))
theorem iRn_of {x m : HpT} {n : Nat} (h : iR x m) (hn : hI m 0 9 = nI n) (b8 : n ≤ 8) : iRn n x m := by
  obtain ⟨e1, nr, hnr, bn, hrd, hsl, hac, hme, hju⟩ := h
  have en : nr = n := by rw [hn, nI_eq (by omega) (by omega)] at hnr; exact hnr.symm
  subst en
  refine ⟨fun r hr => ?_, hsl, hac, hme, hju⟩
  obtain ⟨g1, g2, ⟨tm, g3, -, g4⟩, g5⟩ := hrd r hr
  exact ⟨g1, g2, ⟨tm, g3, g4⟩, g5⟩
theorem iR_of {x m : HpT} {n : Nat} (h : iRn n x m) (h1 : hI x 2 0 = nI n) (h2 : hI m 0 9 = nI n) (b8 : n ≤ 8) (ht : ∀ r, r < n → ∃ tm, hA m 4 r = nI tm ∧ 1 ≤ tm ∧ tm ≤ 7) : iR x m := by
  obtain ⟨hrd, hsl, hac, hme, hju⟩ := h
  refine ⟨by rw [h1, h2], n, h2, b8, fun r hr => ?_, hsl, hac, hme, hju⟩
  obtain ⟨g1, g2, -, g5⟩ := hrd r hr
  exact ⟨g1, g2, ht r hr, g5⟩
theorem cntR_cong {f f' : Nat → Bool} {tm tm' : Nat → Nat} : ∀ n, (∀ r, r < n → tm r = tm' r ∧ ∀ t, t < tm r → f (7 * r + t) = f' (7 * r + t)) → cntR f tm n = cntR f' tm' n
  | 0, _ => rfl
  | n + 1, h => by
    rw [cntR_succ, cntR_succ, cntR_cong n (fun r hr => h r (by omega)), (h n (by omega)).1.symm, fb_ct_cong (fun t ht => (h n (by omega)).2 t ht)]
def XT (x : HpT) (r t a b : Nat) (v : Nat × Int32 × Int32) : HpT := sW (sW (aTX x r t a b) 19 (sT (hA (aTX x r t a b) 19) (7 * r + t) v)) 23 (jT (hA (aTX x r t a b) 23) a b v)
theorem sT_sT {S : Nat → Int32} {k : Nat} {u v : Nat × Int32 × Int32} : sT (sT S k u) k v = sT S k v := by
  funext i
  by_cases e0 : i = 2 * k
  · rw [e0, sT_0, sT_0]
  · by_cases e1 : i = 2 * k + 1
    · rw [e1, sT_1, sT_1]
    · rw [sT_n e0 e1, sT_n e0 e1, sT_n e0 e1]
theorem hA_aTX (x : HpT) (r t a b c : Nat) : hA (aTX x r t a b) c = if c = 22 then m22 (hA x 22) a b else if c = 20 then upd (hA x 20) a (hA x 20 a + 1) else if c = 19 then sT (hA x 19) (7 * r + t) (0, -1, -1) else if c = 18 then upd (hA x 18) (7 * r + t) (nI b) else if c = 17 then upd (hA x 17) (7 * r + t) (nI a) else if c = 15 then upd (hA x 15) r (nI (t + 1)) else hA x c := by unfold aTX; simp only [hA_sW]
theorem hA_XT (x : HpT) (r t a b : Nat) (v : Nat × Int32 × Int32) (c : Nat) : hA (XT x r t a b v) c = if c = 23 then jT (hA x 23) a b v else if c = 19 then sT (hA x 19) (7 * r + t) v else hA (aTX x r t a b) c := by
  unfold XT
  rw [hA_sW, hA_sW, hA_aTX, hA_aTX]
  simp only [Nat.reduceEqDiff, if_false, if_true, sT_sT]
theorem hI_XT (x : HpT) (r t a b : Nat) (v : Nat × Int32 × Int32) (o k : Nat) : hI (XT x r t a b v) o k = hI x o k := by unfold XT aTX; simp only [hI_sW]
theorem hL_XT (x : HpT) (r t a b : Nat) (v : Nat × Int32 × Int32) (o k : Nat) : hL (XT x r t a b v) o k = hL x o k := by unfold XT aTX; simp only [hL_sW]
theorem hR_XT (x : HpT) (r t a b : Nat) (v : Nat × Int32 × Int32) (o k : Nat) : hR (XT x r t a b v) o k = hR x o k := by unfold XT aTX; simp only [hR_sW]
theorem hA_aTM (m : HpT) (r t a b nj : Nat) (cd : Nat → Bool) (c : Nat) : hA (aTM m r t a b nj cd) c = if c = 22 then bT (hA m 22) (stj cd nj) else if c = 8 then sT (hA m 8) (7 * r + t) (stj cd nj) else if c = 7 then upd (hA m 7) (7 * r + t) (nI b) else if c = 6 then upd (hA m 6) (7 * r + t) (nI a) else if c = 4 then upd (hA m 4) r (nI (t + 1)) else hA m c := by unfold aTM; simp only [hA_sW]
theorem hI_aTM (m : HpT) (r t a b nj : Nat) (cd : Nat → Bool) (o k : Nat) : hI (aTM m r t a b nj cd) o k = hI m o k := by unfold aTM; simp only [hI_sW]
theorem hL_aTM (m : HpT) (r t a b nj : Nat) (cd : Nat → Bool) (o k : Nat) : hL (aTM m r t a b nj cd) o k = hL m o k := by unfold aTM; simp only [hL_sW]
theorem hR_aTM (m : HpT) (r t a b nj : Nat) (cd : Nat → Bool) (o k : Nat) : hR (aTM m r t a b nj cd) o k = hR m o k := by unfold aTM; simp only [hR_sW]
/-- the seats of a trial -/
theorem stj_seats {cd : Nat → Bool} {nj : Nat} (bj : nj ≤ 20) : (∀ s, s < 2 → ∀ w, w = (if s = 0 then (stj cd nj).2.1 else (stj cd nj).2.2) → (w = -1 ∨ ∃ j, w = nI j ∧ j < 20)) ∧ ((stj cd nj).2.1 = (stj cd nj).2.2 → (stj cd nj).2.1 = -1) := by
  rcases stj_or (cd := cd) nj with e | ⟨i, i1, i2, e⟩ | ⟨i, i', j1, j2, j3, j4, e⟩ <;> rw [e]
  · refine ⟨fun s hs w hw => Or.inl ?_, fun _ => rfl⟩
    rw [hw]
    split <;> rfl
  · refine ⟨fun s hs w hw => ?_, fun z => z⟩
    rw [hw]
    split
    · exact Or.inr ⟨i, rfl, by omega⟩
    · exact Or.inl rfl
  · refine ⟨fun s hs w hw => ?_, fun z => ?_⟩
    · rw [hw]
      split
      · exact Or.inr ⟨i, rfl, by omega⟩
      · exact Or.inr ⟨i', rfl, by omega⟩
    · have z : nI i = nI i' := z
      rw [nI_eq (by omega) (by omega)] at z
      omega
theorem jT_iff {cd : Nat → Bool} {nj : Nat} {R : Nat → Int32} {a b j s : Nat} (bj : nj ≤ 20) (hj : j < 20) (ha : a < 14) (hb : b < 14) (hs : s < 14) : jT R a b (stj cd nj) (j * 14 + s) = if ((stj cd nj).2.1 = nI j ∨ (stj cd nj).2.2 = nI j) ∧ (s = a ∨ s = b) then 1 else R (j * 14 + s) := by
  rcases stj_or (cd := cd) nj with e | ⟨i, i1, i2, e⟩ | ⟨i, i', j1, j2, j3, j4, e⟩ <;> rw [e] <;> unfold jT
  · rw [if_pos rfl, if_neg]
    rintro ⟨z | z, -⟩
    · exact nI_m1 (show j < 2 ^ 31 by omega) z.symm
    · exact nI_m1 (show j < 2 ^ 31 by omega) z.symm
  · rw [if_neg (show ¬ (1 : Nat) = 0 by decide), if_pos rfl]
    show jrU R (nI i).toNatClampNeg a b (j * 14 + s) = _
    rw [nI_clamp (by omega)]
    by_cases c : i = j
    · subst c
      rw [jrU_eq]
      by_cases c2 : s = a ∨ s = b
      · rw [if_pos c2, if_pos ⟨Or.inl rfl, c2⟩]
      · rw [if_neg c2, if_neg (fun z => c2 z.2)]
    · rw [jrU_ne c ha hb hs, if_neg]
      rintro ⟨z | z, -⟩
      · have z : nI i = nI j := z
        rw [nI_eq (by omega) (by omega)] at z
        exact c z
      · exact nI_m1 (show j < 2 ^ 31 by omega) z.symm
  · rw [if_neg (show ¬ (2 : Nat) = 0 by decide), if_neg (show ¬ (2 : Nat) = 1 by decide)]
    show jrU (jrU R (nI i).toNatClampNeg a b) (nI i').toNatClampNeg a b (j * 14 + s) = if (nI i = nI j ∨ nI i' = nI j) ∧ (s = a ∨ s = b) then 1 else R (j * 14 + s)
    rw [nI_clamp (by omega), nI_clamp (by omega)]
    simp only [nI_eq (show i < 2 ^ 31 by omega) (show j < 2 ^ 31 by omega), nI_eq (show i' < 2 ^ 31 by omega) (show j < 2 ^ 31 by omega)]
    by_cases c : i' = j
    · subst c
      rw [jrU_eq]
      by_cases c2 : s = a ∨ s = b
      · rw [if_pos c2, if_pos ⟨Or.inr rfl, c2⟩]
      · rw [if_neg c2, if_neg (fun z => c2 z.2), jrU_ne (by omega) ha hb hs]
    · rw [jrU_ne c ha hb hs]
      by_cases c3 : i = j
      · subst c3
        rw [jrU_eq]
        by_cases c2 : s = a ∨ s = b
        · rw [if_pos c2, if_pos ⟨Or.inl rfl, c2⟩]
        · rw [if_neg c2, if_neg (fun z => c2 z.2)]
      · rw [jrU_ne c3 ha hb hs, if_neg]
        rintro ⟨z | z, -⟩
        · exact c3 z
        · exact c z
theorem bT_iff {cd : Nat → Bool} {nj : Nat} {B : Nat → Int32} {j : Nat} (bj : nj ≤ 20) (hj : j < 20) : bT B (stj cd nj) j = if (stj cd nj).2.1 = nI j ∨ (stj cd nj).2.2 = nI j then 1 else B j := by
  rcases stj_or (cd := cd) nj with e | ⟨i, i1, i2, e⟩ | ⟨i, i', j1, j2, j3, j4, e⟩ <;> rw [e] <;> unfold bT
  · rw [if_pos rfl, if_neg]
    rintro (z | z)
    · exact nI_m1 (show j < 2 ^ 31 by omega) z.symm
    · exact nI_m1 (show j < 2 ^ 31 by omega) z.symm
  · rw [if_neg (show ¬ (1 : Nat) = 0 by decide), if_pos rfl]
    show upd B (nI i).toNatClampNeg 1 j = _
    rw [nI_clamp (by omega)]
    by_cases c : j = i
    · subst c
      rw [pk_us, if_pos (Or.inl rfl)]
    · rw [pk_un c, if_neg]
      rintro (z | z)
      · have z : nI i = nI j := z
        rw [nI_eq (by omega) (by omega)] at z
        exact c z.symm
      · exact nI_m1 (show j < 2 ^ 31 by omega) z.symm
  · rw [if_neg (show ¬ (2 : Nat) = 0 by decide), if_neg (show ¬ (2 : Nat) = 1 by decide)]
    show upd (upd B (nI i).toNatClampNeg 1) (nI i').toNatClampNeg 1 j = if nI i = nI j ∨ nI i' = nI j then 1 else B j
    rw [nI_clamp (by omega), nI_clamp (by omega)]
    simp only [nI_eq (show i < 2 ^ 31 by omega) (show j < 2 ^ 31 by omega), nI_eq (show i' < 2 ^ 31 by omega) (show j < 2 ^ 31 by omega)]
    by_cases c : j = i'
    · subst c
      rw [pk_us, if_pos (Or.inr rfl)]
    · rw [pk_un c]
      by_cases c2 : j = i
      · subst c2
        rw [pk_us, if_pos (Or.inl rfl)]
      · rw [pk_un c2, if_neg]
        rintro (z | z)
        · exact c2 z.symm
        · exact c z.symm
theorem m22_at {M : Nat → Int32} {a b p q : Nat} (hab : a ≠ b) (ha : a < 14) (hb : b < 14) (hp : p < 14) (hq : q < 14) : m22 M a b (p * 14 + q) = if (a = p ∧ b = q) ∨ (a = q ∧ b = p) then M (p * 14 + q) + 1 else M (p * 14 + q) := by
  unfold m22
  by_cases c1 : a = q ∧ b = p
  · obtain ⟨rfl, rfl⟩ := c1
    rw [pk_us, if_pos (Or.inr ⟨rfl, rfl⟩), pk_un (by omega)]
  · rw [pk_un (by omega)]
    by_cases c2 : a = p ∧ b = q
    · obtain ⟨rfl, rfl⟩ := c2
      rw [pk_us, if_pos (Or.inl ⟨rfl, rfl⟩)]
    · rw [pk_un (by omega), if_neg (fun z => z.elim c2 c1)]
theorem slt_add {m m' : HpT} {nr t k : Nat} (h4 : hA m 4 nr = nI t) (ht : t < 7) (e4 : hA m' 4 = upd (hA m 4) nr (nI (t + 1))) : slt m' (nr + 1) k ↔ slt m (nr + 1) k ∨ k = 7 * nr + t := by
  unfold slt
  rw [e4]
  constructor
  · rintro ⟨r, t', tm, a1, a2, a3, a4, a5⟩
    by_cases c : r = nr
    · subst c
      rw [pk_us, nI_eq (by omega) (by omega)] at a2
      by_cases c2 : t' = t
      · right; omega
      · left; exact ⟨r, t', t, by omega, h4, by omega, by omega, a5⟩
    · rw [pk_un c] at a2
      left; exact ⟨r, t', tm, a1, a2, a3, a4, a5⟩
  · rintro (⟨r, t', tm, a1, a2, a3, a4, a5⟩ | e)
    · by_cases c : r = nr
      · subst c
        rw [h4, nI_eq (by omega) (by omega)] at a2
        exact ⟨r, t', t + 1, a1, by rw [pk_us], by omega, by omega, a5⟩
      · exact ⟨r, t', tm, a1, by rw [pk_un c]; exact a2, a3, a4, a5⟩
    · exact ⟨nr, t, t + 1, by omega, by rw [pk_us], by omega, by omega, e⟩
theorem slt_ne {m : HpT} {nr t k : Nat} (b8 : nr < 8) (h4 : hA m 4 nr = nI t) (ht : t < 7) (h : slt m (nr + 1) k) : k ≠ 7 * nr + t := by
  obtain ⟨r, t', tm, a1, a2, a3, a4, a5⟩ := h
  by_cases c : r = nr
  · subst c
    rw [h4, nI_eq (by omega) (by omega)] at a2
    omega
  · omega
/-- how counts grow by a trial -/
theorem cntR_add {m m' : HpT} {nr t : Nat} {f f' : Nat → Bool} (b8 : nr < 8) (hr : ∀ r, r < nr → ∃ tm, hA m 4 r = nI tm ∧ tm ≤ 7) (h4 : hA m 4 nr = nI t) (ht : t < 7) (e4 : hA m' 4 = upd (hA m 4) nr (nI (t + 1))) (hf : ∀ k, k ≠ 7 * nr + t → f' k = f k) : cntR f' (tmN m') (nr + 1) = cntR f (tmN m) (nr + 1) + (if f' (7 * nr + t) = true then 1 else 0) := by
  have t1 : tmN m nr = t := by unfold tmN; rw [h4, nI_clamp (by omega)]
  have t2 : tmN m' nr = t + 1 := by unfold tmN; rw [e4, pk_us, nI_clamp (by omega)]
  rw [cntR_succ, cntR_succ, t1, t2, fb_ct_succ]
  have c1 : cntR f' (tmN m') nr = cntR f (tmN m) nr := by
    refine cntR_cong nr (fun r h => ?_)
    have e : tmN m' r = tmN m r := by unfold tmN; rw [e4, pk_un (by omega)]
    refine ⟨e, fun t' ht' => hf _ ?_⟩
    obtain ⟨tm, g1, g2⟩ := hr r h
    have : tmN m r = tm := by unfold tmN; rw [g1, nI_clamp (by omega)]
    omega
  have c2 : fb_ct (fun t' => f' (7 * nr + t')) t = fb_ct (fun t' => f (7 * nr + t')) t := fb_ct_cong (fun t' h => hf _ (by omega))
  rw [c1, c2, ← Nat.add_assoc]
/-- a trial more keeps the rounds alike -/
theorem iRn_trial {x m : HpT} {nr t a b nj : Nat} {cd : Nat → Bool} (R : iRn (nr + 1) x m) (b8 : nr < 8) (h4 : hA m 4 nr = nI t) (ht : t < 7) (ha : a < 14) (hb : b < 14) (hab : a ≠ b) (bj : nj ≤ 20) : iRn (nr + 1) (XT x nr t a b (stj cd nj)) (aTM m nr t a b nj cd) := by
  obtain ⟨hrd, hsl, hac, hme, hju⟩ := R
  have m4 : hA (aTM m nr t a b nj cd) 4 = upd (hA m 4) nr (nI (t + 1)) := by rw [hA_aTM]; rfl
  have m5 : hA (aTM m nr t a b nj cd) 5 = hA m 5 := by rw [hA_aTM]; rfl
  have m6 : hA (aTM m nr t a b nj cd) 6 = upd (hA m 6) (7 * nr + t) (nI a) := by rw [hA_aTM]; rfl
  have m7 : hA (aTM m nr t a b nj cd) 7 = upd (hA m 7) (7 * nr + t) (nI b) := by rw [hA_aTM]; rfl
  have m8 : hA (aTM m nr t a b nj cd) 8 = sT (hA m 8) (7 * nr + t) (stj cd nj) := by rw [hA_aTM]; rfl
  have x15 : hA (XT x nr t a b (stj cd nj)) 15 = upd (hA x 15) nr (nI (t + 1)) := by rw [hA_XT, hA_aTX]; rfl
  have x16 : hA (XT x nr t a b (stj cd nj)) 16 = hA x 16 := by rw [hA_XT, hA_aTX]; rfl
  have x17 : hA (XT x nr t a b (stj cd nj)) 17 = upd (hA x 17) (7 * nr + t) (nI a) := by rw [hA_XT, hA_aTX]; rfl
  have x18 : hA (XT x nr t a b (stj cd nj)) 18 = upd (hA x 18) (7 * nr + t) (nI b) := by rw [hA_XT, hA_aTX]; rfl
  have x19 : hA (XT x nr t a b (stj cd nj)) 19 = sT (hA x 19) (7 * nr + t) (stj cd nj) := by rw [hA_XT]; rfl
  have x20 : hA (XT x nr t a b (stj cd nj)) 20 = upd (hA x 20) a (hA x 20 a + 1) := by rw [hA_XT, hA_aTX]; rfl
  have x21 : hA (XT x nr t a b (stj cd nj)) 21 = hA x 21 := by rw [hA_XT, hA_aTX]; rfl
  have x22 : hA (XT x nr t a b (stj cd nj)) 22 = m22 (hA x 22) a b := by rw [hA_XT, hA_aTX]; rfl
  have x23 : hA (XT x nr t a b (stj cd nj)) 23 = jT (hA x 23) a b (stj cd nj) := by rw [hA_XT]; rfl
  have hrr : ∀ r, r < nr → ∃ tm, hA m 4 r = nI tm ∧ tm ≤ 7 := fun r hr => (hrd r (by omega)).2.2.1
  obtain ⟨seat1, seat2⟩ := stj_seats (cd := cd) bj
  refine ⟨fun r hr => ?_, fun k hk => ?_, fun s hs => ?_, fun p q hp hq => ?_, fun j s hj hs => ?_⟩
  · rw [x15, x16, m4, m5]
    obtain ⟨g1, g2, g3, g4⟩ := hrd r hr
    by_cases c : r = nr
    · subst c
      rw [pk_us, pk_us]
      exact ⟨rfl, g2, ⟨t + 1, rfl, by omega⟩, g4⟩
    · rw [pk_un c, pk_un c]
      exact ⟨g1, g2, g3, g4⟩
  · rw [x17, x18, x19, m6, m7, m8]
    rcases (slt_add h4 ht m4).mp hk with hk | hk
    · have ne := slt_ne b8 h4 ht hk
      obtain ⟨g1, g2, g3, g4, g5⟩ := hsl k hk
      rw [pk_un ne, pk_un ne, pk_un ne, pk_un ne]
      refine ⟨g1, g2, g3, fun s hs => ?_, ?_⟩
      · rw [sT_n (by omega) (by omega), sT_n (by omega) (by omega)]
        exact g4 s hs
      · rw [sT_n (by omega) (by omega), sT_n (by omega) (by omega)]
        exact g5
    · subst hk
      rw [pk_us, pk_us, pk_us, pk_us]
      refine ⟨rfl, rfl, ⟨a, b, rfl, rfl, ha, hb, hab⟩, fun s hs => ?_, ?_⟩
      · have o : s = 0 ∨ s = 1 := by omega
        rcases o with rfl | rfl
        · rw [Nat.add_zero, sT_0, sT_0]
          exact ⟨rfl, seat1 0 (by decide) _ rfl⟩
        · rw [sT_1, sT_1]
          exact ⟨rfl, seat1 1 (by decide) _ rfl⟩
      · rw [sT_0, sT_1]
        exact seat2
  · obtain ⟨g1, g2⟩ := hac s hs
    rw [x20, x21, m5]
    refine ⟨?_, g2⟩
    rw [cntR_add (m' := aTM m nr t a b nj cd) (f := fun k => hA m 6 k == nI s) b8 hrr h4 ht m4 (fun k hk => by rw [m6, pk_un hk])]
    rw [m6]
    by_cases c : s = a
    · subst c
      rw [pk_us, g1]
      simp only [pk_us, beq_self_eq_true, if_true]
      rw [nI_1]
    · rw [pk_un c, g1]
      have : (upd (hA m 6) (7 * nr + t) (nI a) (7 * nr + t) == nI s) = false := by
        rw [pk_us]
        exact beq_eq_false_iff_ne.mpr (by rw [ne_eq, nI_eq (by omega) (by omega)]; omega)
      simp only [this, Bool.false_eq_true, if_false, Nat.add_zero]
  · rw [x22, m22_at hab ha hb hp hq]
    rw [cntR_add (m' := aTM m nr t a b nj cd) (f := fun k => (hA m 6 k == nI p && hA m 7 k == nI q) || (hA m 6 k == nI q && hA m 7 k == nI p)) b8 hrr h4 ht m4 (fun k hk => by rw [m6, m7, pk_un hk, pk_un hk])]
    rw [m6, m7, pk_us, pk_us, hme p q hp hq]
    have eqs : ∀ u v : Nat, u < 14 → v < 14 → (nI u == nI v) = decide (u = v) := by
      intro u v hu hv
      rw [Bool.eq_iff_iff, beq_iff_eq, nI_eq (by omega) (by omega), decide_eq_true_iff]
    rw [eqs a p ha hp, eqs b q hb hq, eqs a q ha hq, eqs b p hb hp]
    by_cases c : (a = p ∧ b = q) ∨ (a = q ∧ b = p)
    · rw [if_pos c, if_pos (by simpa using c), nI_1]
    · rw [if_neg c, if_neg (by simpa using c)]
      exact congrArg nI (Nat.add_zero _).symm
  · rw [x23, jT_iff bj hj ha hb hs, m6, m7, m8]
    have new : (((sT (hA m 8) (7 * nr + t) (stj cd nj) (2 * (7 * nr + t)) = nI j ∨ sT (hA m 8) (7 * nr + t) (stj cd nj) (2 * (7 * nr + t) + 1) = nI j) ∧ (upd (hA m 6) (7 * nr + t) (nI a) (7 * nr + t) = nI s ∨ upd (hA m 7) (7 * nr + t) (nI b) (7 * nr + t) = nI s))) ↔ ((stj cd nj).2.1 = nI j ∨ (stj cd nj).2.2 = nI j) ∧ (s = a ∨ s = b) := by
      rw [sT_0, sT_1, pk_us, pk_us, nI_eq (by omega) (by omega), nI_eq (by omega) (by omega)]
      constructor
      · rintro ⟨z1, z2⟩; exact ⟨z1, by omega⟩
      · rintro ⟨z1, z2⟩; exact ⟨z1, by omega⟩
    have old : ∀ k, slt m (nr + 1) k → (((sT (hA m 8) (7 * nr + t) (stj cd nj) (2 * k) = nI j ∨ sT (hA m 8) (7 * nr + t) (stj cd nj) (2 * k + 1) = nI j) ∧ (upd (hA m 6) (7 * nr + t) (nI a) k = nI s ∨ upd (hA m 7) (7 * nr + t) (nI b) k = nI s))) = ((hA m 8 (2 * k) = nI j ∨ hA m 8 (2 * k + 1) = nI j) ∧ (hA m 6 k = nI s ∨ hA m 7 k = nI s)) := by
      intro k hk
      have ne := slt_ne b8 h4 ht hk
      rw [pk_un ne, pk_un ne, sT_n (by omega) (by omega), sT_n (by omega) (by omega)]
    by_cases c : ((stj cd nj).2.1 = nI j ∨ (stj cd nj).2.2 = nI j) ∧ (s = a ∨ s = b)
    · rw [if_pos c]
      exact Or.inl ⟨rfl, 7 * nr + t, (slt_add h4 ht m4).mpr (Or.inr rfl), new.mpr c⟩
    · rw [if_neg c]
      rcases hju j s hj hs with ⟨z1, k, z2, z3⟩ | ⟨z1, z2⟩
      · exact Or.inl ⟨z1, k, (slt_add h4 ht m4).mpr (Or.inl z2), by rw [old k z2]; exact z3⟩
      · refine Or.inr ⟨z1, fun k hk => ?_⟩
        rcases (slt_add h4 ht m4).mp hk with hk | hk
        · rw [old k hk]; exact z2 k hk
        · subst hk
          rw [new]
          exact c
