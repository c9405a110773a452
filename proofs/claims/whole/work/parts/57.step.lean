/-! one trial more, on each side -/
def stM (nr nj nk : Nat) (cnt : Nat → Nat) (K J : Nat → Nat → Bool) (S0 : Nat → Int32) (m0 : HpT) : Prop := (hI m0 0 9 = nI nr ∧ nr < 8 ∧ (∀ r, r < nr → ∃ tm, hA m0 4 r = nI tm ∧ 1 ≤ tm ∧ tm ≤ 7) ∧ hA m0 4 nr = nI 0 ∧ hA m0 8 = S0 ∧ ∀ j, j < 20 → hA m0 22 j = 0) ∧ (hI m0 0 4 = nI nj ∧ nj ≤ 20 ∧ hI m0 0 5 = nI nk ∧ nk ≤ 60) ∧ (∀ s, s < 14 → cntR (fun k => hA m0 6 k == nI s) (tmN m0) nr = cnt s) ∧ (∀ j s, j < 20 → s < 14 → akB (hA m0 2) (hA m0 3) (nI j) (nI s) nk = K j s) ∧ ∀ j s, j < 20 → s < 14 → anR (hjT m0 (nI j) (nI s)) (tmN m0) nr = J j s
theorem hI_aTX (x : HpT) (r t a b o k : Nat) : hI (aTX x r t a b) o k = hI x o k := by unfold aTX; simp only [hI_sW]
theorem stj_cong {cd cd' : Nat → Bool} : ∀ n, (∀ j, j < n → cd j = cd' j) → stj cd n = stj cd' n
  | 0, _ => rfl
  | n + 1, h => by rw [stj, stj, stj_cong n (fun j hj => h j (by omega)), h n (by omega)]
section STP
variable {l : Launch} {D : va_G} {ad ad' : Nat → Nat} {cy : Nat → ClassId} {d : Nat} {hx hm h : HpT} {N : Nat} {nr nj nk : Nat} {cnt : Nat → Nat} {K J : Nat → Nat → Bool} {pr : Nat → Nat × Nat} {S0 : Nat → Int32} {x0 m0 : HpT}
theorem past_ok (st : stM nr nj nk cnt K J S0 m0) (p : Nat) : (∀ s, s < 14 → cntR (fun k => hA (mq nr nj cnt (cdc nr nj K J pr S0) pr m0 p) 6 k == nI s) (tmN (mq nr nj cnt (cdc nr nj K J pr S0) pr m0 p)) nr = cnt s) ∧ (∀ j s, j < 20 → s < 14 → anR (hjT (mq nr nj cnt (cdc nr nj K J pr S0) pr m0 p) (nI j) (nI s)) (tmN (mq nr nj cnt (cdc nr nj K J pr S0) pr m0 p)) nr = J j s) ∧ (∀ r, r < nr → ∃ tm, hA (mq nr nj cnt (cdc nr nj K J pr S0) pr m0 p) 4 r = nI tm ∧ 1 ≤ tm ∧ tm ≤ 7) := by
  obtain ⟨⟨s1, s2, s3, s4, s5, s6⟩, ⟨s7, s8, s9, s10⟩, s11, s12, s13⟩ := st
  obtain ⟨a1, a2, a3, a4, a5, a6⟩ := mq_ok (cnt := cnt) (K := K) (J := J) (pr := pr) s8 s4 s5 s6 p
  have tme : ∀ r, r < nr → tmN (mq nr nj cnt (cdc nr nj K J pr S0) pr m0 p) r = tmN m0 r ∧ tmN m0 r ≤ 7 := by
    intro r hr
    obtain ⟨tm, t1, t2, t3⟩ := s3 r hr
    have e : tmN m0 r = tm := by unfold tmN; rw [t1, nI_clamp (by omega)]
    refine ⟨?_, by omega⟩
    unfold tmN
    rw [a2 r (by omega)]
  refine ⟨fun s hs => ?_, fun j s hj hs => ?_, fun r hr => ?_⟩
  · rw [← s11 s hs]
    refine cntR_cong nr (fun r hr => ⟨(tme r hr).1, fun t ht => ?_⟩)
    have := tme r hr
    rw [(a4 (7 * r + t) (by omega)).1]
  · rw [← s13 j s hj hs, Bool.eq_iff_iff, anR_iff, anR_iff]
    have eqs : ∀ r t, r < nr → t < tmN m0 r → hjT (mq nr nj cnt (cdc nr nj K J pr S0) pr m0 p) (nI j) (nI s) (7 * r + t) = hjT m0 (nI j) (nI s) (7 * r + t) := by
      intro r t hr ht
      have := tme r hr
      obtain ⟨b1, b2, b3, b4⟩ := a4 (7 * r + t) (by omega)
      unfold hjT
      rw [b1, b2, a3, b3, b4, s5]
    constructor
    · rintro ⟨r, t, c1, c2, c3⟩
      rw [(tme r c1).1] at c2
      exact ⟨r, t, c1, c2, by rw [← eqs r t c1 c2]; exact c3⟩
    · rintro ⟨r, t, c1, c2, c3⟩
      exact ⟨r, t, c1, by rw [(tme r c1).1]; exact c2, by rw [eqs r t c1 c2]; exact c3⟩
  · rw [a2 r (by omega)]; exact s3 r hr
set_option maxHeartbeats 4000000 in
theorem oM_step {c p : Nat} (st : stM nr nj nk cnt K J S0 m0) (c7 : c ≤ 7) (hpr : prOK pr c) (hp : p < c) (hc : ∀ s, cnt s < 1000) : OKe l D ad cy wdM (d + 1) MX12_addTrial [.ref 0, .int (nI (pr p).1), .int (nI (pr p).2)] (mq nr nj cnt (cdc nr nj K J pr S0) pr m0 p) (fun z h' => z = none ∧ h' = mq nr nj cnt (cdc nr nj K J pr S0) pr m0 (p + 1)) := by
  obtain ⟨b1, b2, b3⟩ := past_ok (pr := pr) st p
  obtain ⟨⟨s1, s2, s3, s4, s5, s6⟩, ⟨s7, s8', s9, s10⟩, s11, s12, s13⟩ := st
  obtain ⟨a1, a2, a3, a4, a5, a6⟩ := mq_ok (cnt := cnt) (K := K) (J := J) (pr := pr) s8' s4 s5 s6 p
  obtain ⟨f1, f2, f3, f4⟩ := mq_fr (nr := nr) (nj := nj) (cnt := cnt) (cd := cdc nr nj K J pr S0) (pr := pr) (m0 := m0) p
  obtain ⟨q1, q2, q3, -⟩ := hpr p hp
  refine ok_imp (oX12_addTrial (nr := nr) (t := p) (a := (pr p).1) (b := (pr p).2) (nj := nj) (nk := nk) (B := fun j => bzB (s8 nr nj K J pr S0 p) nr j p) (K := K) (J := J) (by rw [f1]; exact s1) s2 b3 a1 (by omega) q1 q2 (b1 _ q1) (b1 _ q2) (hc _) (hc _) (by rw [f1]; exact s7) s8' (by rw [f1]; exact s9) s10 a5 (by rw [f4 2 (by omega) (by omega) (by omega), f4 3 (by omega) (by omega) (by omega)]; exact s12) b2) ?_
  rintro z h' ⟨e1, e2⟩
  refine ⟨e1, ?_⟩
  rw [e2, mq]
  unfold acP deP
  by_cases q : cnt (pr p).2 < cnt (pr p).1
  · rw [if_pos q, if_pos q, if_pos q]; rfl
  · rw [if_neg q, if_neg q, if_neg q]; rfl
set_option maxHeartbeats 4000000 in
theorem oX_step {c p : Nat} (st : stM nr nj nk cnt K J S0 m0) (R0 : iRn (nr + 1) x0 m0) (c7 : c ≤ 7) (hpr : prOK pr c) (hp : p < c) (hc : ∀ s, cnt s < 1000) (hnj : hI x0 1 2 = nI nj) (hk : ∀ j s, j < 20 → s < 14 → hA x0 14 (j * 14 + s) = bI (K j s)) : (∀ d, OKe l D ad cy wdX (d + 1) MX4_addTrial [.ref 5, .int (nI nr), .int (nI (pr p).1), .int (nI (pr p).2)] (xq nr nj cnt (cdc nr nj K J pr S0) pr x0 p) (fun z h' => z = some (.int (nI (7 * nr + p))) ∧ h' = aTX (xq nr nj cnt (cdc nr nj K J pr S0) pr x0 p) nr p (acP cnt pr p) (deP cnt pr p))) ∧ ∀ d, OKe l D ad cy wdX (d + 2) MX4_seatJudges [.ref 5, .int (nI nr), .int (nI (7 * nr + p))] (aTX (xq nr nj cnt (cdc nr nj K J pr S0) pr x0 p) nr p (acP cnt pr p) (deP cnt pr p)) (fun z h' => z = none ∧ h' = xq nr nj cnt (cdc nr nj K J pr S0) pr x0 (p + 1)) := by
  obtain ⟨b1, b2, b3⟩ := past_ok (pr := pr) st p
  obtain ⟨⟨s1, s2, s3, s4, s5, s6⟩, ⟨s7, s8', s9, s10⟩, s11, s12, s13⟩ := st
  obtain ⟨a1, a2, a3, a4, a5, a6⟩ := mq_ok (cnt := cnt) (K := K) (J := J) (pr := pr) s8' s4 s5 s6 p
  obtain ⟨f1, f2, f3, f4⟩ := xq_fr (nr := nr) (nj := nj) (cnt := cnt) (cd := cdc nr nj K J pr S0) (pr := pr) (x0 := x0) p
  have R := rel_ok (cnt := cnt) (K := K) (J := J) s8' s2 c7 hpr s4 s5 s6 R0 p (by omega)
  obtain ⟨q1, q2, q3, q4⟩ := hpr p hp
  have xe : xq nr nj cnt (cdc nr nj K J pr S0) pr x0 (p + 1) = XT (xq nr nj cnt (cdc nr nj K J pr S0) pr x0 p) nr p (acP cnt pr p) (deP cnt pr p) (stj (cdc nr nj K J pr S0 p) nj) := rfl
  rw [xe]
  obtain ⟨x, ex⟩ : ∃ x, xq nr nj cnt (cdc nr nj K J pr S0) pr x0 p = x := ⟨_, rfl⟩
  obtain ⟨m, em⟩ : ∃ m, mq nr nj cnt (cdc nr nj K J pr S0) pr m0 p = m := ⟨_, rfl⟩
  rw [ex] at R f1 f2 f3 f4 ⊢
  rw [em] at R a1 a2 a3 a4 a5 a6 b1 b2 b3
  obtain ⟨hrd, hsl, hac, hme, hju⟩ := R
  have tmp : tmN m nr = p := by unfold tmN; rw [a1, nI_clamp (by omega)]
  have ac14 : acP cnt pr p < 14 ∧ deP cnt pr p < 14 := by rcases ac_or cnt pr p with ⟨e1, e2⟩ | ⟨e1, e2⟩ <;> rw [e1, e2] <;> exact ⟨by omega, by omega⟩
  have cx : ∀ s, s < 14 → (∀ q, q < p → s ≠ (pr q).1 ∧ s ≠ (pr q).2) → hA x 20 s = nI (cnt s) := by
    intro s hs hn
    rw [(hac s hs).1, cntR_succ, b1 s hs, tmp]
    have : fb_ct (fun t => hA m 6 (7 * nr + t) == nI s) p = 0 := by
      have e : fb_ct (fun t => hA m 6 (7 * nr + t) == nI s) p = fb_ct (fun _ => false) p := fb_ct_cong (fun q hq => by
        rw [(a6 q hq).1]
        obtain ⟨z1, z2, -⟩ := hpr q (by omega)
        have := hn q hq
        rcases ac_or cnt pr q with ⟨e1, -⟩ | ⟨e1, -⟩ <;> rw [e1] <;> exact beq_eq_false_iff_ne.mpr (by rw [ne_eq, nI_eq (by omega) (by omega)]; omega))
      rw [e]
      have : ∀ k, fb_ct (fun _ => false) k = 0 := by
        intro k
        induction k with
        | zero => rfl
        | succ k ih => rw [fb_ct_succ, ih]; rfl
      exact this p
    rw [this, Nat.add_zero]
  refine ⟨fun d => ?_, fun d => ?_⟩
  · refine ok_imp (oX4_addTrial (r := nr) (t := p) (a := (pr p).1) (b := (pr p).2) s2 (by omega) (by rw [(hrd nr (by omega)).1]; exact a1) q1 q2 (cx _ q1 (fun q hq => ⟨(q4 q hq).1, (q4 q hq).2.1⟩)) (cx _ q2 (fun q hq => ⟨(q4 q hq).2.2.1, (q4 q hq).2.2.2⟩)) (hc _) (hc _)) ?_
    rintro z h' ⟨e1, e2⟩
    refine ⟨e1, ?_⟩
    rw [e2]
    unfold acP deP
    by_cases q : cnt (pr p).2 < cnt (pr p).1
    · rw [if_pos q, if_pos q, if_pos q]
    · rw [if_neg q, if_neg q, if_neg q]
  · have slp : ∀ i, i < p → slt m (nr + 1) (7 * nr + i) := fun i hi => ⟨nr, i, p, by omega, a1, hi, by omega, rfl⟩
    have j01 : ∀ j s, j < 20 → s < 14 → hA x 23 (j * 14 + s) = bI (hA x 23 (j * 14 + s) == 1) := by
      intro j s hj hs
      rcases hju j s hj hs with ⟨z, -⟩ | ⟨z, -⟩ <;> rw [z] <;> rfl
    have A15 : hA (aTX x nr p (acP cnt pr p) (deP cnt pr p)) 15 nr = nI (p + 1) := by rw [hA_aTX]; show upd _ nr _ nr = _; rw [pk_us]
    have A17 : hA (aTX x nr p (acP cnt pr p) (deP cnt pr p)) 17 (7 * nr + p) = nI (acP cnt pr p) := by rw [hA_aTX]; show upd _ (7 * nr + p) _ (7 * nr + p) = _; rw [pk_us]
    have A18 : hA (aTX x nr p (acP cnt pr p) (deP cnt pr p)) 18 (7 * nr + p) = nI (deP cnt pr p) := by rw [hA_aTX]; show upd _ (7 * nr + p) _ (7 * nr + p) = _; rw [pk_us]
    have A14 : hA (aTX x nr p (acP cnt pr p) (deP cnt pr p)) 14 = hA x 14 := by rw [hA_aTX]; rfl
    have A23 : hA (aTX x nr p (acP cnt pr p) (deP cnt pr p)) 23 = hA x 23 := by rw [hA_aTX]; rfl
    have A19 : hA (aTX x nr p (acP cnt pr p) (deP cnt pr p)) 19 = sT (hA x 19) (7 * nr + p) (0, -1, -1) := by rw [hA_aTX]; rfl
    refine ok_imp (oX4_seatJudges (r := nr) (t := p) (nj := nj) (a := acP cnt pr p) (b := deP cnt pr p) (K := K) (J := fun j s => hA x 23 (j * 14 + s) == 1) s2 (by omega) A15 (by rw [hI_aTX, f1]; exact hnj) s8' A17 A18 ac14.1 ac14.2 (by rw [A14, f4 14 (by omega) (by omega) (by omega) (by omega)]; exact hk) (by rw [A23]; exact j01) (by rw [A19, sT_0]) (by rw [A19, sT_1])) ?_
    rintro z h' ⟨e1, e2⟩
    refine ⟨e1, ?_⟩
    have ecd : stj (cdF (fun j => bzB (hA (aTX x nr p (acP cnt pr p) (deP cnt pr p)) 19) nr j p) K (fun j s => hA x 23 (j * 14 + s) == 1) (acP cnt pr p) (deP cnt pr p)) nj = stj (cdc nr nj K J pr S0 p) nj := by
      refine stj_cong nj (fun j hj => ?_)
      have bz : bzB (hA (aTX x nr p (acP cnt pr p) (deP cnt pr p)) 19) nr j p = bzB (s8 nr nj K J pr S0 p) nr j p := by
        rw [A19]
        refine bzB_cong p (fun i hi => ?_)
        have := (hsl _ (slp i hi)).2.2.2.1
        rw [sT_n (by omega) (by omega), sT_n (by omega) (by omega), ← a3]
        exact ⟨(this 0 (by decide)).1, (this 1 (by decide)).1⟩
      have sym : cdF (fun j => bzB (hA (aTX x nr p (acP cnt pr p) (deP cnt pr p)) 19) nr j p) K (fun j s => hA x 23 (j * 14 + s) == 1) (acP cnt pr p) (deP cnt pr p) j = cdF (fun j => bzB (hA (aTX x nr p (acP cnt pr p) (deP cnt pr p)) 19) nr j p) K (fun j s => hA x 23 (j * 14 + s) == 1) (pr p).1 (pr p).2 j := by
        obtain ⟨F, eF⟩ : ∃ F : Nat → Bool, (fun j => bzB (hA (aTX x nr p (acP cnt pr p) (deP cnt pr p)) 19) nr j p) = F := ⟨_, rfl⟩
        rw [eF]
        rcases ac_or cnt pr p with ⟨e1, e2⟩ | ⟨e1, e2⟩ <;> rw [e1, e2]
        exact cdF_sym
      rw [sym]
      show (!bzB (hA (aTX x nr p (acP cnt pr p) (deP cnt pr p)) 19) nr j p && (!K j (pr p).1 && !(hA x 23 (j * 14 + (pr p).1) == 1)) && (!K j (pr p).2 && !(hA x 23 (j * 14 + (pr p).2) == 1))) = (!bzB (s8 nr nj K J pr S0 p) nr j p && (!K j (pr p).1 && !J j (pr p).1) && (!K j (pr p).2 && !J j (pr p).2))
      rw [bz]
      rcases bTF (bzB (s8 nr nj K J pr S0 p) nr j p) with c1 | c1
      · rw [c1]; simp
      · have jx : ∀ s, s < 14 → (hA x 23 (j * 14 + s) == 1) = J j s := by
          intro s hs
          rw [← b2 j s (by omega) hs]
          rcases hju j s (by omega) hs with ⟨z1, k, z2, z3, z4⟩ | ⟨z1, z2⟩
          · rw [z1]
            symm
            rw [show ((1 : Int32) == 1) = true from rfl, anR_iff]
            obtain ⟨r, t, tm, y1, y2, y3, y4, y5⟩ := z2
            by_cases cr : r = nr
            · exfalso
              subst cr
              rw [a1, nI_eq (by omega) (by omega)] at y2
              subst y5
              rw [a3] at z3
              rw [(bzB_iff p).mpr ⟨t, by omega, z3⟩] at c1
              cases c1
            · refine ⟨r, t, by omega, ?_, ?_⟩
              · have : tmN m r = tm := by unfold tmN; rw [y2, nI_clamp (by omega)]
                omega
              · subst y5
                unfold hjT
                rw [Bool.and_eq_true, Bool.or_eq_true, Bool.or_eq_true, beq_iff_eq, beq_iff_eq, beq_iff_eq, beq_iff_eq]
                exact ⟨z3, z4⟩
          · rw [z1]
            symm
            rw [show ((0 : Int32) == 1) = false from rfl]
            rcases bTF (anR (hjT m (nI j) (nI s)) (tmN m) nr) with w | w
            · exfalso
              obtain ⟨r, t, y1, y2, y3⟩ := (anR_iff nr).mp w
              obtain ⟨tm, y4, y5, y6⟩ := b3 r y1
              have et : tmN m r = tm := by unfold tmN; rw [y4, nI_clamp (by omega)]
              unfold hjT at y3
              rw [Bool.and_eq_true, Bool.or_eq_true, Bool.or_eq_true, beq_iff_eq, beq_iff_eq, beq_iff_eq, beq_iff_eq] at y3
              exact z2 (7 * r + t) ⟨r, t, tm, by omega, y4, by omega, y6, rfl⟩ y3
            · exact w
        rw [c1, jx _ q1, jx _ q2]
    rw [ecd] at e2
    rw [e2]
    rfl
end STP
