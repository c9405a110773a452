/-! the trials of a round, one after another -/
theorem iRn_start {x m x' m' : HpT} {nr : Nat} {v : Int32} (R : iRn nr x m) (b8 : nr < 8) (hv : v = -1 ∨ ∃ b, v = nI b ∧ b < 14) (x15 : hA x' 15 = upd (hA x 15) nr 0) (x16 : hA x' 16 = upd (hA x 16) nr v) (xs : ∀ c, 17 ≤ c → c ≤ 23 → c ≠ 21 → hA x' c = hA x c) (x21 : ∀ s, s < 14 → hA x' 21 s = if v = nI s then hA x 21 s + 1 else hA x 21 s) (m4 : hA m' 4 = upd (hA m 4) nr 0) (m5 : hA m' 5 = upd (hA m 5) nr v) (ms : ∀ c, 6 ≤ c → c ≤ 8 → hA m' c = hA m c) : iRn (nr + 1) x' m' := by
  obtain ⟨hrd, hsl, hac, hme, hju⟩ := R
  have sl : ∀ k, slt m' (nr + 1) k ↔ slt m nr k := by
    intro k
    unfold slt
    rw [m4]
    constructor
    · rintro ⟨r, t, tm, a1, a2, a3, a4, a5⟩
      by_cases c : r = nr
      · subst c
        rw [pk_us] at a2
        have : tm = 0 := by
          have : nI 0 = nI tm := a2
          rw [nI_eq (by omega) (by omega)] at this
          omega
        omega
      · rw [pk_un c] at a2
        exact ⟨r, t, tm, by omega, a2, a3, a4, a5⟩
    · rintro ⟨r, t, tm, a1, a2, a3, a4, a5⟩
      exact ⟨r, t, tm, by omega, by rw [pk_un (by omega)]; exact a2, a3, a4, a5⟩
  have ct : ∀ f : Nat → Bool, cntR f (tmN m') (nr + 1) = cntR f (tmN m) nr := by
    intro f
    have t2 : tmN m' nr = 0 := by unfold tmN; rw [m4, pk_us]; rfl
    rw [cntR_succ, t2]
    have : fb_ct (fun t => f (7 * nr + t)) 0 = 0 := rfl
    rw [this, Nat.add_zero]
    exact cntR_cong nr (fun r hr => ⟨by unfold tmN; rw [m4, pk_un (by omega)], fun _ _ => rfl⟩)
  refine ⟨fun r hr => ?_, fun k hk => ?_, fun s hs => ?_, fun p q hp hq => ?_, fun j s hj hs => ?_⟩
  · rw [x15, x16, m4, m5]
    by_cases c : r = nr
    · subst c
      rw [pk_us, pk_us, pk_us, pk_us]
      exact ⟨rfl, rfl, ⟨0, rfl, by omega⟩, hv⟩
    · rw [pk_un c, pk_un c, pk_un c, pk_un c]
      exact hrd r (by omega)
  · rw [xs 17 (by decide) (by decide) (by decide), xs 18 (by decide) (by decide) (by decide), xs 19 (by decide) (by decide) (by decide), ms 6 (by decide) (by decide), ms 7 (by decide) (by decide), ms 8 (by decide) (by decide)]
    exact hsl k ((sl k).mp hk)
  · obtain ⟨g1, g2⟩ := hac s hs
    rw [xs 20 (by decide) (by decide) (by decide), ms 6 (by decide) (by decide), ct]
    refine ⟨g1, ?_⟩
    rw [x21 s hs, fb_ct_succ, m5, pk_us]
    have e : fb_ct (fun r => upd (hA m 5) nr v r == nI s) nr = fb_ct (fun r => hA m 5 r == nI s) nr := fb_ct_cong (fun r hr => by rw [pk_un (by omega)])
    rw [e]
    by_cases c : v = nI s
    · rw [if_pos c, g2, beq_iff_eq.mpr c, nI_1]
      rfl
    · rw [if_neg c, g2, beq_eq_false_iff_ne.mpr c]
      rfl
  · rw [xs 22 (by decide) (by decide) (by decide), ms 6 (by decide) (by decide), ms 7 (by decide) (by decide), ct]
    exact hme p q hp hq
  · rw [xs 23 (by decide) (by decide) (by decide), ms 6 (by decide) (by decide), ms 7 (by decide) (by decide), ms 8 (by decide) (by decide)]
    rcases hju j s hj hs with ⟨z1, k, z2, z3⟩ | ⟨z1, z2⟩
    · exact Or.inl ⟨z1, k, (sl k).mpr z2, z3⟩
    · exact Or.inr ⟨z1, fun k hk => z2 k ((sl k).mp hk)⟩
/-- who accuses, who defends -/
def acP (cnt : Nat → Nat) (pr : Nat → Nat × Nat) (p : Nat) : Nat := if cnt (pr p).2 < cnt (pr p).1 then (pr p).2 else (pr p).1
def deP (cnt : Nat → Nat) (pr : Nat → Nat × Nat) (p : Nat) : Nat := if cnt (pr p).2 < cnt (pr p).1 then (pr p).1 else (pr p).2
def s8 (nr nj : Nat) (K J : Nat → Nat → Bool) (pr : Nat → Nat × Nat) (S0 : Nat → Int32) : Nat → Nat → Int32
  | 0 => S0
  | p + 1 => sT (s8 nr nj K J pr S0 p) (7 * nr + p) (stj (cdF (fun j => bzB (s8 nr nj K J pr S0 p) nr j p) K J (pr p).1 (pr p).2) nj)
def cdc (nr nj : Nat) (K J : Nat → Nat → Bool) (pr : Nat → Nat × Nat) (S0 : Nat → Int32) (p : Nat) : Nat → Bool := cdF (fun j => bzB (s8 nr nj K J pr S0 p) nr j p) K J (pr p).1 (pr p).2
def xq (nr nj : Nat) (cnt : Nat → Nat) (cd : Nat → Nat → Bool) (pr : Nat → Nat × Nat) (x0 : HpT) : Nat → HpT
  | 0 => x0
  | p + 1 => XT (xq nr nj cnt cd pr x0 p) nr p (acP cnt pr p) (deP cnt pr p) (stj (cd p) nj)
def mq (nr nj : Nat) (cnt : Nat → Nat) (cd : Nat → Nat → Bool) (pr : Nat → Nat × Nat) (m0 : HpT) : Nat → HpT
  | 0 => m0
  | p + 1 => aTM (mq nr nj cnt cd pr m0 p) nr p (acP cnt pr p) (deP cnt pr p) nj (cd p)
def prOK (pr : Nat → Nat × Nat) (c : Nat) : Prop := ∀ p, p < c → (pr p).1 < 14 ∧ (pr p).2 < 14 ∧ (pr p).1 ≠ (pr p).2 ∧ ∀ q, q < p → (pr p).1 ≠ (pr q).1 ∧ (pr p).1 ≠ (pr q).2 ∧ (pr p).2 ≠ (pr q).1 ∧ (pr p).2 ≠ (pr q).2
theorem ac_or (cnt : Nat → Nat) (pr : Nat → Nat × Nat) (p : Nat) : (acP cnt pr p = (pr p).1 ∧ deP cnt pr p = (pr p).2) ∨ (acP cnt pr p = (pr p).2 ∧ deP cnt pr p = (pr p).1) := by
  unfold acP deP
  by_cases c : cnt (pr p).2 < cnt (pr p).1
  · rw [if_pos c, if_pos c]; exact Or.inr ⟨rfl, rfl⟩
  · rw [if_neg c, if_neg c]; exact Or.inl ⟨rfl, rfl⟩
section SEQ
variable {nr nj : Nat} {cnt : Nat → Nat} {K J : Nat → Nat → Bool} {pr : Nat → Nat × Nat} {S0 : Nat → Int32} {cd : Nat → Nat → Bool} {x0 m0 : HpT}
theorem xq_fr (p : Nat) : (∀ o k, hI (xq nr nj cnt cd pr x0 p) o k = hI x0 o k) ∧ (∀ o k, hL (xq nr nj cnt cd pr x0 p) o k = hL x0 o k) ∧ (∀ o k, hR (xq nr nj cnt cd pr x0 p) o k = hR x0 o k) ∧ ∀ c, c ≠ 15 → ¬ (17 ≤ c ∧ c ≤ 20) → c ≠ 22 → c ≠ 23 → hA (xq nr nj cnt cd pr x0 p) c = hA x0 c := by
  induction p with
  | zero => exact ⟨fun _ _ => rfl, fun _ _ => rfl, fun _ _ => rfl, fun _ _ _ _ _ => rfl⟩
  | succ p ih =>
    obtain ⟨a1, a2, a3, a4⟩ := ih
    refine ⟨fun o k => ?_, fun o k => ?_, fun o k => ?_, fun c c1 c2 c3 c4 => ?_⟩
    · rw [xq, hI_XT, a1]
    · rw [xq, hL_XT, a2]
    · rw [xq, hR_XT, a3]
    · rw [xq, hA_XT, if_neg c4, if_neg (by omega), hA_aTX, if_neg c3, if_neg (by omega), if_neg (by omega), if_neg (by omega), if_neg (by omega), if_neg c1]
      exact a4 c c1 c2 c3 c4
theorem mq_fr (p : Nat) : (∀ o k, hI (mq nr nj cnt cd pr m0 p) o k = hI m0 o k) ∧ (∀ o k, hL (mq nr nj cnt cd pr m0 p) o k = hL m0 o k) ∧ (∀ o k, hR (mq nr nj cnt cd pr m0 p) o k = hR m0 o k) ∧ ∀ c, c ≠ 4 → ¬ (6 ≤ c ∧ c ≤ 8) → c ≠ 22 → hA (mq nr nj cnt cd pr m0 p) c = hA m0 c := by
  induction p with
  | zero => exact ⟨fun _ _ => rfl, fun _ _ => rfl, fun _ _ => rfl, fun _ _ _ _ => rfl⟩
  | succ p ih =>
    obtain ⟨a1, a2, a3, a4⟩ := ih
    refine ⟨fun o k => ?_, fun o k => ?_, fun o k => ?_, fun c c1 c2 c3 => ?_⟩
    · rw [mq, hI_aTM, a1]
    · rw [mq, hL_aTM, a2]
    · rw [mq, hR_aTM, a3]
    · rw [mq, hA_aTM, if_neg c3, if_neg (by omega), if_neg (by omega), if_neg (by omega), if_neg c1]
      exact a4 c c1 c2 c3
/-- the reference's heaps along the trials -/
theorem mq_ok (bj : nj ≤ 20) (h4 : hA m0 4 nr = nI 0) (h8 : hA m0 8 = S0) (h22 : ∀ j, j < 20 → hA m0 22 j = 0) (p : Nat) : hA (mq nr nj cnt (cdc nr nj K J pr S0) pr m0 p) 4 nr = nI p ∧ (∀ r, r ≠ nr → hA (mq nr nj cnt (cdc nr nj K J pr S0) pr m0 p) 4 r = hA m0 4 r) ∧ hA (mq nr nj cnt (cdc nr nj K J pr S0) pr m0 p) 8 = s8 nr nj K J pr S0 p ∧ (∀ k, k < 7 * nr → hA (mq nr nj cnt (cdc nr nj K J pr S0) pr m0 p) 6 k = hA m0 6 k ∧ hA (mq nr nj cnt (cdc nr nj K J pr S0) pr m0 p) 7 k = hA m0 7 k ∧ s8 nr nj K J pr S0 p (2 * k) = S0 (2 * k) ∧ s8 nr nj K J pr S0 p (2 * k + 1) = S0 (2 * k + 1)) ∧ (∀ j, j < 20 → hA (mq nr nj cnt (cdc nr nj K J pr S0) pr m0 p) 22 j = bI (bzB (s8 nr nj K J pr S0 p) nr j p)) ∧ ∀ q, q < p → hA (mq nr nj cnt (cdc nr nj K J pr S0) pr m0 p) 6 (7 * nr + q) = nI (acP cnt pr q) ∧ hA (mq nr nj cnt (cdc nr nj K J pr S0) pr m0 p) 7 (7 * nr + q) = nI (deP cnt pr q) := by
  induction p with
  | zero => exact ⟨h4, fun _ _ => rfl, h8, fun _ _ => ⟨rfl, rfl, rfl, rfl⟩, fun j hj => h22 j hj, fun q hq => absurd hq (by omega)⟩
  | succ p ih =>
    obtain ⟨a1, a2, a3, a4, a5, a6⟩ := ih
    refine ⟨?_, fun r hr => ?_, ?_, fun k hk => ⟨?_, ?_, ?_, ?_⟩, fun j hj => ?_, fun q hq => ⟨?_, ?_⟩⟩
    · rw [mq, hA_aTM]; show upd _ nr (nI (p + 1)) nr = _; rw [pk_us]
    · rw [mq, hA_aTM]; show upd _ nr (nI (p + 1)) r = _; rw [pk_un hr]; exact a2 r hr
    · rw [mq, hA_aTM]; show sT _ _ _ = _; rw [a3]; rfl
    · rw [mq, hA_aTM]; show upd _ (7 * nr + p) _ k = _; rw [pk_un (by omega)]; exact (a4 k hk).1
    · rw [mq, hA_aTM]; show upd _ (7 * nr + p) _ k = _; rw [pk_un (by omega)]; exact (a4 k hk).2.1
    · rw [s8, sT_n (by omega) (by omega)]; exact (a4 k hk).2.2.1
    · rw [s8, sT_n (by omega) (by omega)]; exact (a4 k hk).2.2.2
    · rw [mq, hA_aTM]
      show bT _ _ j = _
      rw [bT_iff bj hj, s8, bzB, sT_0, sT_1]
      have e1 : bzB (sT (s8 nr nj K J pr S0 p) (7 * nr + p) (stj (cdF (fun j => bzB (s8 nr nj K J pr S0 p) nr j p) K J (pr p).1 (pr p).2) nj)) nr j p = bzB (s8 nr nj K J pr S0 p) nr j p := bzB_cong p (fun i hi => ⟨sT_n (by omega) (by omega), sT_n (by omega) (by omega)⟩)
      rw [e1, a5 j hj]
      show (if (stj (cdF (fun j => bzB (s8 nr nj K J pr S0 p) nr j p) K J (pr p).1 (pr p).2) nj).2.1 = nI j ∨ (stj (cdF (fun j => bzB (s8 nr nj K J pr S0 p) nr j p) K J (pr p).1 (pr p).2) nj).2.2 = nI j then (1 : Int32) else bI (bzB (s8 nr nj K J pr S0 p) nr j p)) = _
      obtain ⟨V, eV⟩ : ∃ x, stj (cdF (fun j => bzB (s8 nr nj K J pr S0 p) nr j p) K J (pr p).1 (pr p).2) nj = x := ⟨_, rfl⟩
      rw [eV]
      by_cases c1 : V.2.1 = nI j
      · rw [if_pos (Or.inl c1), beq_iff_eq.mpr c1, Bool.true_or, Bool.or_true]; rfl
      · by_cases c2 : V.2.2 = nI j
        · rw [if_pos (Or.inr c2), beq_iff_eq.mpr c2, Bool.or_true, Bool.or_true]; rfl
        · rw [if_neg (fun z => z.elim c1 c2), beq_eq_false_iff_ne.mpr c1, beq_eq_false_iff_ne.mpr c2, Bool.or_self, Bool.or_false]
    · rw [mq, hA_aTM]
      show upd _ (7 * nr + p) _ (7 * nr + q) = _
      by_cases c : q = p
      · subst c; rw [pk_us]
      · rw [pk_un (by omega)]; exact (a6 q (by omega)).1
    · rw [mq, hA_aTM]
      show upd _ (7 * nr + p) _ (7 * nr + q) = _
      by_cases c : q = p
      · subst c; rw [pk_us]
      · rw [pk_un (by omega)]; exact (a6 q (by omega)).2
theorem rel_ok {c : Nat} (bj : nj ≤ 20) (b8 : nr < 8) (c7 : c ≤ 7) (hpr : prOK pr c) (h4 : hA m0 4 nr = nI 0) (h8 : hA m0 8 = S0) (h22 : ∀ j, j < 20 → hA m0 22 j = 0) (R0 : iRn (nr + 1) x0 m0) (p : Nat) (hp : p ≤ c) : iRn (nr + 1) (xq nr nj cnt (cdc nr nj K J pr S0) pr x0 p) (mq nr nj cnt (cdc nr nj K J pr S0) pr m0 p) := by
  induction p with
  | zero => exact R0
  | succ p ih =>
    obtain ⟨a1, a2, a3, -⟩ := hpr p (by omega)
    have mo := mq_ok (cnt := cnt) (K := K) (J := J) (pr := pr) bj h4 h8 h22 p
    rw [xq, mq]
    rcases ac_or cnt pr p with ⟨e1, e2⟩ | ⟨e1, e2⟩ <;> rw [e1, e2]
    · exact iRn_trial (ih (by omega)) b8 mo.1 (by omega) a1 a2 a3 bj
    · exact iRn_trial (ih (by omega)) b8 mo.1 (by omega) a2 a1 (fun z => a3 z.symm) bj
end SEQ
