/-! class and reference reckon alike -/
def AA (m : HpT) (k : Nat) : Nat := (hA m 6 k).toNatClampNeg
def BB (m : HpT) (k : Nat) : Nat := (hA m 7 k).toNatClampNeg
theorem sumS_cong {q q' : Nat → Nat → Int32} {b : Nat} : ∀ t, (∀ i, i < t → q (b + i) = q' (b + i)) → sumS q b t = sumS q' b t
  | 0, _ => rfl
  | t + 1, h => by rw [sumS, sumS, sumS_cong t (fun i hi => h i (by omega)), h t (by omega)]
theorem totD_cong {y y' q q' : Nat → Nat → Int32} {tm : Nat → Nat} : ∀ n, (∀ r, r < n → y r = y' r ∧ ∀ t, t < tm r → q (7 * r + t) = q' (7 * r + t)) → totD y q tm n = totD y' q' tm n
  | 0, _ => rfl
  | n + 1, h => by rw [totD, totD, totD_cong n (fun r hr => h r (by omega)), (h n (by omega)).1, sumS_cong _ (h n (by omega)).2]
theorem least_ex (P : Nat → Prop) (n : Nat) : P n → ∃ m, P m ∧ ∀ p, P p → m ≤ p := by
  induction n using Nat.strongRecOn with
  | ind n ih =>
    intro hn
    by_cases e : ∃ k, k < n ∧ P k
    · obtain ⟨k, k1, k2⟩ := e; exact ih k k1 k2
    · exact ⟨n, hn, fun p hp => by
        rcases Nat.lt_or_ge p n with q | q
        · exact absurd ⟨p, q, hp⟩ e
        · exact q⟩
theorem most_ex (P : Nat → Prop) (hb : ∀ p, P p → p ≤ 100) (n : Nat) (hn : P n) : ∃ m, P m ∧ ∀ p, P p → p ≤ m := by
  obtain ⟨m, h1, h2⟩ := least_ex (fun k => P (100 - k) ∧ k ≤ 100) (100 - n) ⟨by have := hb n hn; rw [show 100 - (100 - n) = n by omega]; exact hn, by omega⟩
  refine ⟨100 - m, h1.1, fun p hp => ?_⟩
  have a := hb p hp
  have := h2 (100 - p) ⟨by rw [show 100 - (100 - p) = p by omega]; exact hp, by omega⟩
  omega
theorem lowP_ex (P : Nat → Prop) (hb : ∀ p, P p → p ≤ 100) : ∃ v, lowP 100 P v := by
  by_cases e : ∃ p, P p
  · obtain ⟨p, hp⟩ := e
    obtain ⟨m, h1, h2⟩ := least_ex P p hp
    exact ⟨nI m, m, rfl, hb m h1, Or.inr h1, h2⟩
  · exact ⟨nI 100, 100, rfl, by omega, Or.inl rfl, fun p hp => absurd ⟨p, hp⟩ e⟩
theorem higP_ex (P : Nat → Prop) (hb : ∀ p, P p → p ≤ 100) : ∃ v, higP P v := by
  by_cases e : ∃ p, P p
  · obtain ⟨p, hp⟩ := e
    obtain ⟨m, h1, h2⟩ := most_ex P hb p hp
    exact ⟨nI m, m, rfl, hb m h1, Or.inr h1, h2⟩
  · exact ⟨nI 0, 0, rfl, by omega, Or.inl rfl, fun p hp => absurd ⟨p, hp⟩ e⟩
theorem lowP_un {s t : Nat} {P : Nat → Prop} {v w : Int32} {p : Nat} (hb : ∀ p, P p → p ≤ 100) (hs : 100 ≤ s) (ht : 100 ≤ t) (hp : P p) (h : lowP s P v) (g : lowP t P w) : v = w := by
  obtain ⟨n, h1, h2, h3, h4⟩ := h
  obtain ⟨m, g1, g2, g3, g4⟩ := g
  have a := h4 p hp
  have b := g4 p hp
  have c := hb p hp
  have e1 : P n := by
    rcases h3 with h3 | h3
    · have : p = n := by omega
      rw [← this]; exact hp
    · exact h3
  have e2 : P m := by
    rcases g3 with g3 | g3
    · have : p = m := by omega
      rw [← this]; exact hp
    · exact g3
  have := h4 m e2
  have := g4 n e1
  rw [h1, g1, show n = m by omega]
theorem higP_un {P : Nat → Prop} {v w : Int32} (h : higP P v) (g : higP P w) : v = w := by
  obtain ⟨n, h1, h2, h3, h4⟩ := h
  obtain ⟨m, g1, g2, g3, g4⟩ := g
  rw [h1, g1]
  congr 1
  rcases h3 with h3 | h3
  · rcases g3 with g3 | g3
    · omega
    · have := h4 m g3; omega
  · rcases g3 with g3 | g3
    · have := g4 n h3; omega
    · have := h4 m g3; have := g4 n h3; omega
theorem low_hig_none {s : Nat} {P : Nat → Prop} {v w : Int32} (e : ¬ ∃ p, P p) (h : lowP s P v) (g : higP P w) : v = nI s ∧ w = nI 0 := by
  obtain ⟨n, h1, h2, h3, h4⟩ := h
  obtain ⟨m, g1, g2, g3, g4⟩ := g
  constructor
  · rcases h3 with h3 | h3
    · rw [h1, h3]
    · exact absurd ⟨n, h3⟩ e
  · rcases g3 with g3 | g3
    · rw [g1, g3]
    · exact absurd ⟨m, g3⟩ e
theorem span_un {P : Nat → Prop} {v w v' w' : Int32} {s t : Nat} (hb : ∀ p, P p → p ≤ 100) (hs : s = 100 ∨ s = 1000) (ht : t = 100 ∨ t = 1000) (h1 : lowP s P v) (h2 : higP P w) (g1 : lowP t P v') (g2 : higP P w') : mxI 1 (w - v) = mxI 1 (w' - v') := by
  by_cases e : ∃ p, P p
  · obtain ⟨p, hp⟩ := e
    rw [lowP_un hb (by omega) (by omega) hp h1 g1, higP_un h2 g2]
  · obtain ⟨a1, a2⟩ := low_hig_none e h1 h2
    obtain ⟨b1, b2⟩ := low_hig_none e g1 g2
    rw [a1, a2, b1, b2]
    rcases hs with hs | hs <;> rcases ht with ht | ht <;> rw [hs, ht] <;> decide
theorem mx1_sub {a b : Nat} (ha : a ≤ 1000) (hb : b ≤ 100) : ∃ q, 1 ≤ q ∧ q ≤ 100 ∧ mxI 1 (nI b - nI a) = nI q := by
  have ea : (nI a).toInt = a := nI_toInt (by omega)
  have eb : (nI b).toInt = b := nI_toInt (by omega)
  have e1 : (nI b - nI a).toInt = (b : Int) - a := by rw [fb_subI (by omega) (by omega), eb, ea]
  have z1 : (1 : Int32).toInt = 1 := rfl
  unfold mxI
  by_cases c : (1 : Int32) < nI b - nI a
  · rw [if_pos c]
    rw [Int32.lt_iff_toInt_lt, e1, z1] at c
    refine ⟨b - a, by omega, by omega, ?_⟩
    rw [← Int32.toInt_inj, e1, nI_toInt (by omega)]
    omega
  · rw [if_neg c]
    exact ⟨1, by omega, by omega, rfl⟩
theorem sgm_eq {u w q : Nat} (hu : u ≤ 100) (hw : w ≤ 100) (h1 : 1 ≤ q) (h2 : q ≤ 100) : sgm (nI u - nI w) (nI q) = (nI u - nI w) * 1000 / nI q := by
  have z0 : (0 : Int32).toInt = 0 := rfl
  have zk : (1000 : Int32).toInt = 1000 := rfl
  have eu : (nI u).toInt = u := nI_toInt (by omega)
  have ew : (nI w).toInt = w := nI_toInt (by omega)
  have eq : (nI q).toInt = q := nI_toInt (by omega)
  have e1 : (nI u - nI w).toInt = (u : Int) - w := by rw [fb_subI (by omega) (by omega), eu, ew]
  have e2 : (-(nI u - nI w)).toInt = (w : Int) - u := by
    rw [fb_negI (by omega), e1]; omega
  have c3 : 0 < nI u - nI w ↔ 0 < (u : Int) - w := by rw [Int32.lt_iff_toInt_lt, e1, z0]
  have c5 : nI u - nI w < 0 ↔ (u : Int) - w < 0 := by rw [Int32.lt_iff_toInt_lt, e1, z0]
  unfold sgm absI
  rcases Nat.lt_trichotomy u w with p | p | p
  · rw [if_neg (by rw [c3]; omega), if_pos (by rw [c5]; omega)]
    obtain ⟨n, en⟩ : ∃ n : Nat, n = (w - u) * 1000 := ⟨_, rfl⟩
    have m1 : (-(nI u - nI w) * 1000).toInt = (n : Int) := by rw [fb_mulI (by rw [e2, zk]; omega) (by rw [e2, zk]; omega), e2, zk]; omega
    have m2 : ((nI u - nI w) * 1000).toInt = -(n : Int) := by rw [fb_mulI (by rw [e1, zk]; omega) (by rw [e1, zk]; omega), e1, zk]; omega
    have d1 := Nat.div_le_self n q
    obtain ⟨v, ev⟩ : ∃ v : Nat, n / q = v := ⟨_, rfl⟩
    rw [ev] at d1
    have d0 : (n : Int).tdiv (q : Int) = (v : Int) := by rw [← Int.ofNat_tdiv, ev]
    have g1 : (-(nI u - nI w) * 1000 / nI q).toInt = (v : Int) := by
      rw [Int32.toInt_div, m1, eq, d0, Int.bmod_eq_of_le (by omega) (by omega)]
    have g2 : ((nI u - nI w) * 1000 / nI q).toInt = -(v : Int) := by
      rw [Int32.toInt_div, m2, eq, Int.neg_tdiv, d0, Int.bmod_eq_of_le (by omega) (by omega)]
    rw [← Int32.toInt_inj, fb_negI (by rw [g1]; omega), g1, g2]
  · subst p
    rw [if_neg (by rw [c3]; omega), if_neg (by rw [c5]; omega), Int32.sub_self, Int32.zero_mul, Int32.zero_div]
    rfl
  · rw [if_pos (by rw [c3]; omega), if_neg (by rw [c5]; omega)]
section JOI
variable {l : Launch} {D : va_G} {ad ad' : Nat → Nat} {cy : Nat → ClassId} {d : Nat} {hx hm h : HpT} {N : Nat}
theorem slt_56 {nr k : Nat} (bn : nr ≤ 8) (h : slt hm nr k) : k < 56 := by
  obtain ⟨r, t, tm, a1, a2, a3, a4, rfl⟩ := h
  omega
theorem rd_of (hR : iR hx hm) {nr : Nat} (hnr : hI hm 0 9 = nI nr) (bn : nr ≤ 8) : rdX hx nr (tmN hm) (AA hm) (BB hm) ∧ rdM hm nr (tmN hm) (AA hm) (BB hm) ∧ ∀ r t, r < nr → t < tmN hm r → slt hm nr (7 * r + t) := by
  obtain ⟨e1, nr2, hnr2, bn2, hrd, hsl, -⟩ := hR
  have en : nr2 = nr := by rw [hnr, nI_eq (by omega) (by omega)] at hnr2; exact hnr2.symm
  subst en
  have tmE : ∀ r, r < nr2 → hA hm 4 r = nI (tmN hm r) ∧ tmN hm r ≤ 7 := by
    intro r hr
    obtain ⟨tm, h1, h2, h3⟩ := (hrd r hr).2.2.1
    have : tmN hm r = tm := by unfold tmN; rw [h1, nI_clamp (by omega)]
    rw [this]; exact ⟨h1, h3⟩
  have sl : ∀ r t, r < nr2 → t < tmN hm r → slt hm nr2 (7 * r + t) := fun r t hr ht => ⟨r, t, tmN hm r, hr, (tmE r hr).1, ht, (tmE r hr).2, rfl⟩
  have ab : ∀ k, slt hm nr2 k → hA hm 6 k = nI (AA hm k) ∧ AA hm k < 14 ∧ hA hm 7 k = nI (BB hm k) ∧ BB hm k < 14 := by
    intro k hk
    obtain ⟨a, b, h1, h2, h3, h4, h5⟩ := (hsl k hk).2.2.1
    have ea : AA hm k = a := by unfold AA; rw [h1, nI_clamp (by omega)]
    have eb : BB hm k = b := by unfold BB; rw [h2, nI_clamp (by omega)]
    rw [ea, eb]; exact ⟨h1, h3, h2, h4⟩
  refine ⟨⟨by rw [e1]; exact hnr, bn, fun r hr => ?_⟩, ⟨hnr, bn, fun r hr => ?_⟩, sl⟩
  · obtain ⟨g1, g2, g3, g4⟩ := hrd r hr
    refine ⟨by rw [g1]; exact (tmE r hr).1, (tmE r hr).2, by rw [g2]; exact g4, fun t ht => ?_⟩
    have hk := sl r t hr ht
    have a := ab _ hk
    have b := hsl _ hk
    exact ⟨by rw [b.1]; exact a.1, a.2.1, by rw [b.2.1]; exact a.2.2.1, a.2.2.2⟩
  · obtain ⟨g1, g2, g3, g4⟩ := hrd r hr
    refine ⟨(tmE r hr).1, (tmE r hr).2, g4, fun t ht => ?_⟩
    have hk := sl r t hr ht
    have a := ab _ hk
    have b := hsl _ hk
    exact ⟨a.1, a.2.1, a.2.2.1, a.2.2.2, fun s hs => (b.2.2.2.1 s hs).2⟩
theorem bl_of (hR : iR hx hm) (hB : iB hx hm) {nb : Nat} (hnb : hI hm 0 15 = nI nb) (bb : nb ≤ 400) : blX hx nb ∧ blM hm nb := by
  obtain ⟨e1, nr, hnr, bn, hrd, hsl, -⟩ := hR
  obtain ⟨q1, nb2, nr2, hnb2, bb2, hnr2, bn2, hbl⟩ := hB
  have en : nr2 = nr := by rw [hnr, nI_eq (by omega) (by omega)] at hnr2; exact hnr2.symm
  have eb : nb2 = nb := by rw [hnb, nI_eq (by omega) (by omega)] at hnb2; exact hnb2.symm
  subst en; subst eb
  refine ⟨⟨by rw [q1]; exact hnb, bb, fun b hb => ?_⟩, hnb, bb, fun b hb => ?_⟩
  · obtain ⟨g1, g2, g3, ⟨u, u1, u2⟩, ⟨w, w1, w2⟩, g6, k, s, j, h1, h2, h3, h4, h5, h6, h7⟩ := hbl b hb
    have k5 := slt_56 bn h1
    exact ⟨2 * k + s, j, u, w, h4, by omega, by rw [((hsl k h1).2.2.2.1 s h2).1]; exact h5, h7, by rw [g1]; exact u2, u1, by rw [g2]; exact w2, w1⟩
  · obtain ⟨g1, g2, g3, ⟨u, u1, u2⟩, ⟨w, w1, w2⟩, -⟩ := hbl b hb
    exact ⟨u, w, u2, u1, w2, w1⟩
theorem PXM (hR : iR hx hm) (hB : iB hx hm) {nb : Nat} (hnb : hI hm 0 15 = nI nb) (bb : nb ≤ 400) {kn : Int32} {j p : Nat} (hj : j < 20) : PX hx (cntF hx kn nb) 112 j p ↔ PM hm kn nb nb j p := by
  obtain ⟨e1, nr, hnr, bn, hrd, hsl, -⟩ := id hR
  obtain ⟨q1, nb2, nr2, hnb2, bb2, hnr2, bn2, hbl⟩ := id hB
  have en : nr2 = nr := by rw [hnr, nI_eq (by omega) (by omega)] at hnr2; exact hnr2.symm
  have eb : nb2 = nb := by rw [hnb, nI_eq (by omega) (by omega)] at hnb2; exact hnb2.symm
  subst en; subst eb
  constructor
  · rintro ⟨i, b, hi, hc, b4, hji, hp, p1⟩
    unfold cntF at hc
    rw [if_pos hi] at hc
    rcases lastI_or (pX hx (nI i) kn) nb2 with ⟨z, -⟩ | ⟨b', z1, z2, z3, -⟩
    · rw [z] at hc; exact absurd hc.symm (nI_m1 (by omega))
    · rw [z2, nI_eq (by omega) (by omega)] at hc
      subst hc
      unfold pX at z3
      rw [Bool.and_eq_true, beq_iff_eq] at z3
      obtain ⟨g1, g2, g3, g4, g5, g6, k, s, j', h1, h2, h3, h4, h5, h6, h7⟩ := hbl b' z1
      have k5 := slt_56 bn h1
      have ei : i = 2 * k + s := by
        have := z3.1
        rw [h4, nI_eq (by omega) (by omega)] at this
        exact this.symm
      subst ei
      rw [((hsl k h1).2.2.2.1 s h2).1] at hji
      refine ⟨b', z1, by rw [h6, ← h5]; exact hji, ?_, by rw [← g1, ← g2]; exact hp, p1⟩
      rw [h3, ← lastI_cong nb2 (pXM hR hB hnr bn hnb bb h1 h2 hji hj)]
      exact z2
  · rintro ⟨b, hb, hjb, hl, hp, p1⟩
    obtain ⟨g1, g2, g3, g4, g5, g6, k, s, j', h1, h2, h3, h4, h5, h6, h7⟩ := hbl b hb
    have k5 := slt_56 bn h1
    have e8 : hA hm 8 (2 * k + s) = nI j := by rw [h5, ← h6]; exact hjb
    refine ⟨2 * k + s, b, by omega, ?_, by omega, by rw [((hsl k h1).2.2.2.1 s h2).1]; exact e8, by rw [g1, g2]; exact hp, p1⟩
    unfold cntF
    rw [if_pos (by omega), lastI_cong nb2 (pXM hR hB hnr bn hnb bb h1 h2 e8 hj), ← h3]
    exact hl
theorem seXM (hR : iR hx hm) (hB : iB hx hm) {nb nr : Nat} (hnb : hI hm 0 15 = nI nb) (bb : nb ≤ 400) (hnr : hI hm 0 9 = nI nr) (bn : nr ≤ 8) {kn : Int32} {k s : Nat} {f g spn : Nat → Int32} (hk : slt hm nr k) (hs : s < 2) (hsp : ∀ j, j < 20 → spn j = mxI 1 (g j - f j) ∧ ∃ q, 1 ≤ q ∧ q ≤ 100 ∧ spn j = nI q) : seX (cH hx (cntF hx kn nb) f g) (2 * k + s) = seM hm kn nb spn (2 * k + s) := by
  obtain ⟨e1, nr2, hnr2, bn2, hrd, hsl, -⟩ := id hR
  obtain ⟨q1, nb2, nr3, hnb2, bb2, hnr3, bn3, hbl⟩ := id hB
  have en : nr2 = nr := by rw [hnr, nI_eq (by omega) (by omega)] at hnr2; exact hnr2.symm
  have en3 : nr3 = nr := by rw [hnr, nI_eq (by omega) (by omega)] at hnr3; exact hnr3.symm
  have eb : nb2 = nb := by rw [hnb, nI_eq (by omega) (by omega)] at hnb2; exact hnb2.symm
  subst en; subst en3; subst eb
  have k5 := slt_56 bn hk
  obtain ⟨f1, f2⟩ := (hsl k hk).2.2.2.1 s hs
  have e33 : hA (cH hx (cntF hx kn nb2) f g) 33 (2 * k + s) = lastI (pX hx (nI (2 * k + s)) kn) nb2 := by
    unfold cH
    simp only [hA_sW, Nat.reduceEqDiff, if_false, if_true]
    unfold cntF
    rw [if_pos (by omega)]
  have e19 : hA (cH hx (cntF hx kn nb2) f g) 19 = hA hx 19 := by unfold cH; simp only [hA_sW, Nat.reduceEqDiff, if_false]
  have e25 : hA (cH hx (cntF hx kn nb2) f g) 25 = hA hx 25 := by unfold cH; simp only [hA_sW, Nat.reduceEqDiff, if_false]
  have e26 : hA (cH hx (cntF hx kn nb2) f g) 26 = hA hx 26 := by unfold cH; simp only [hA_sW, Nat.reduceEqDiff, if_false]
  have e34 : hA (cH hx (cntF hx kn nb2) f g) 34 = f := by unfold cH; simp only [hA_sW, Nat.reduceEqDiff, if_false, if_true]
  have e35 : hA (cH hx (cntF hx kn nb2) f g) 35 = g := by unfold cH; simp only [hA_sW, if_true]
  have hq : (2 * k + s) / 2 = k := by omega
  rcases f2 with f2 | ⟨j, f2, f3⟩
  · rw [seM_none1 f2]
    refine seX_none ?_
    rw [e33]
    rcases lastI_or (pX hx (nI (2 * k + s)) kn) nb2 with ⟨z, -⟩ | ⟨b', z1, z2, z3, -⟩
    · exact z
    · exfalso
      unfold pX at z3
      rw [Bool.and_eq_true, beq_iff_eq] at z3
      obtain ⟨g1, g2, g3, g4, g5, g6, k', s', j', h1, h2, h3, h4, h5, h6, h7⟩ := hbl b' z1
      have k5' := slt_56 bn h1
      have ei : 2 * k' + s' = 2 * k + s := by
        have := z3.1
        rw [h4, nI_eq (by omega) (by omega)] at this
        exact this
      rw [ei, f2] at h5
      exact nI_m1 (show j' < 2 ^ 31 by omega) h5.symm
  · have el := lastI_cong nb2 (pXM (kn := kn) hR hB hnr bn hnb bb hk hs f2 f3)
    rcases lastI_or (pM hm (nI k) (nI j) kn) nb2 with ⟨z, -⟩ | ⟨b, z1, z2, z3, -⟩
    · rw [seM_none2 (by rw [hq, f2]; exact z)]
      refine seX_none ?_
      rw [e33, el, z]
    · rw [seM_some (c := b) f2 f3 (by rw [hq]; exact z2) (by omega)]
      rw [seX_some (b := b) (j := j) (by rw [e33, el, z2]) (by omega) (by rw [e19, f1, f2]) f3, e25, e26, e34, e35]
      obtain ⟨g1, g2, g3, ⟨u, u1, u2⟩, ⟨w, w1, w2⟩, -⟩ := hbl b z1
      obtain ⟨s1, q, s2, s3, s4⟩ := hsp j f3
      rw [g1, g2, u2, w2, ← s1, s4, sgm_eq u1 w1 s2 s3]
end JOI
