/-! one standing for both -/
def rX (hx : HpT) (spn W H K G : Nat → Int32) (L : List Nat) (h' : HpT) : Prop := stFr hx h' ∧ (∀ j, j < 20 → mxI 1 (hA h' 35 j - hA h' 34 j) = spn j) ∧ (∀ i, i < 14 → hA h' 28 i = W i ∧ hA h' 29 i = H i ∧ hA h' 30 i = K i ∧ hA h' 31 i = G i) ∧ hI h' 4 5 = nI L.length ∧ repL (hA h' 32) L
def rM (hm : HpT) (W H K G : Nat → Int32) (L : List Nat) (h' : HpT) : Prop := stFrM hm h' ∧ (∀ i, i < 14 → hA h' 14 i = W i ∧ hA h' 15 i = H i ∧ hA h' 16 i = K i ∧ hA h' 17 i = G i) ∧ hI h' 0 26 = nI L.length ∧ repL (hA h' 18) L
theorem Inv_stFr {N : Nat} {x m x' : HpT} (I : Inv N x m) (f : stFr x x') : Inv N x' m := by
  obtain ⟨hS, hP, hR, hB, hT, hZ, hU⟩ := I
  obtain ⟨f1, f2, f3, f4⟩ := f
  refine ⟨?_, ?_, ?_, ?_, ?_, ?_, ?_⟩
  · unfold iS; rw [f1 0 11 (by omega), f1 0 12 (by omega)]; exact hS
  · exact iP_fr (x := x) (m := m) (fun k => f1 1 k (by omega)) (fun a _ _ => f4 a (by omega)) ⟨rfl, rfl, rfl, rfl⟩ (fun _ _ _ => rfl) hP
  · exact iR_fr (x := x) (m := m) (f1 2 0 (by omega)) (fun a _ _ => f4 a (by omega)) rfl (fun _ _ _ => rfl) hR
  · exact iB_fr (x := x) (m := m) (f1 3 0 (by omega)) (fun a _ _ => f4 a (by omega)) ⟨rfl, rfl⟩ (fun _ _ _ => rfl) hB
  · exact iT_fr (x := x) (m := m) (fun k => f1 7 k (by omega)) (fun a _ _ => f4 a (by omega)) ⟨rfl, rfl, rfl⟩ (fun _ _ _ => rfl) hT
  · exact iZ_fr (x := x) (m := m) (f1 9 0 (by omega)) (f4 45 (by omega)) rfl rfl hZ
  · exact iU_fr (x := x) (m := m) ⟨⟨f3 0 9, f3 0 10⟩, f3 10 3⟩ (fun o _ => f1 o 0 (by omega)) (fun a _ _ => f4 a (by omega)) rfl (fun _ _ _ => rfl) hU
theorem Inv_stFrM {N : Nat} {x m m' : HpT} (I : Inv N x m) (f : stFrM m m') : Inv N x m' := by
  obtain ⟨hS, hP, hR, hB, hT, hZ, hU⟩ := I
  obtain ⟨f1, f2, f3, f4⟩ := f
  refine ⟨?_, ?_, ?_, ?_, ?_, ?_, ?_⟩
  · unfold iS; rw [f1 0 55 (by omega), f1 0 1 (by omega)]; exact hS
  · exact iP_fr (x := x) (m := m) (fun _ => rfl) (fun _ _ _ => rfl) ⟨f1 0 2 (by omega), f1 0 4 (by omega), f1 0 5 (by omega), f1 0 8 (by omega)⟩ (fun a _ _ => f4 a (by omega)) hP
  · exact iR_fr (x := x) (m := m) rfl (fun _ _ _ => rfl) (f1 0 9 (by omega)) (fun a _ _ => f4 a (by omega)) hR
  · exact iB_fr (x := x) (m := m) rfl (fun _ _ _ => rfl) ⟨f1 0 15 (by omega), f1 0 9 (by omega)⟩ (fun a _ _ => f4 a (by omega)) hB
  · exact iT_fr (x := x) (m := m) (fun _ => rfl) (fun _ _ _ => rfl) ⟨f1 0 31 (by omega), f1 0 33 (by omega), f1 0 37 (by omega)⟩ (fun a _ _ => f4 a (by omega)) hT
  · exact iZ_fr (x := x) (m := m) rfl rfl (f1 0 50 (by omega)) (f4 34 (by omega)) hZ
  · exact iU_fr (x := x) (m := m) ⟨⟨rfl, rfl⟩, rfl⟩ (fun _ _ => rfl) (fun _ _ _ => rfl) (f1 0 38 (by omega)) (fun a _ _ => f4 a (by omega)) hU
theorem shI_b (x : Int32) : ∃ v, v ≤ 2 ∧ shI x = nI v := by
  unfold shI
  split
  · exact ⟨1, by omega, rfl⟩
  · split
    · exact ⟨2, by omega, rfl⟩
    · exact ⟨0, by omega, rfl⟩
theorem dl_b {a i n : Nat} {x : Int32} (h : ∃ v, v ≤ n ∧ x = nI v) : ∃ v, v ≤ n ∧ dl a x i = nI v := by
  unfold dl
  split
  · exact h
  · exact ⟨0, by omega, rfl⟩
theorem adF_b {f g : Nat → Int32} {i n k : Nat} (h1 : ∃ v, v ≤ n ∧ f i = nI v) (h2 : ∃ v, v ≤ k ∧ g i = nI v) : ∃ v, v ≤ n + k ∧ adF f g i = nI v := by
  obtain ⟨u, u1, u2⟩ := h1
  obtain ⟨w, w1, w2⟩ := h2
  exact ⟨u + w, by omega, by unfold adF; rw [u2, w2, nI_add]⟩
theorem wnD_b (a b : Nat) (o p : Option (Int32 × Int32)) (i : Nat) : ∃ v, v ≤ 4 ∧ wnD a b o p i = nI v := by
  unfold wnD
  split
  · exact ⟨0, by omega, rfl⟩
  · exact adF_b (n := 2) (k := 2) (dl_b (shI_b _)) (dl_b (shI_b _))
theorem byD_b (v : Int32) (i : Nat) : ∃ u, u ≤ 2 ∧ byD v i = nI u := by
  unfold byD
  split
  · exact ⟨0, by omega, rfl⟩
  · exact dl_b ⟨2, by omega, rfl⟩
theorem sumS_b {q : Nat → Nat → Int32} {b i : Nat} (h : ∀ k, ∃ v, v ≤ 4 ∧ q k i = nI v) : ∀ t, ∃ v, v ≤ 4 * t ∧ sumS q b t i = nI v
  | 0 => ⟨0, by omega, rfl⟩
  | t + 1 => by
    obtain ⟨v, v1, v2⟩ := adF_b (sumS_b (b := b) h t) (h (b + t))
    exact ⟨v, by omega, v2⟩
theorem totD_b {y q : Nat → Nat → Int32} {tm : Nat → Nat} {i : Nat} (hy : ∀ r, ∃ v, v ≤ 2 ∧ y r i = nI v) (hq : ∀ k, ∃ v, v ≤ 4 ∧ q k i = nI v) : ∀ n, (∀ r, r < n → tm r ≤ 7) → ∃ v, v ≤ 30 * n ∧ totD y q tm n i = nI v
  | 0, _ => ⟨0, by omega, rfl⟩
  | n + 1, h => by
    have := h n (by omega)
    obtain ⟨v, v1, v2⟩ := adF_b (totD_b hy hq n (fun r hr => h r (by omega))) (adF_b (hy n) (sumS_b (b := 7 * n) hq (tm n)))
    exact ⟨v, by omega, v2⟩
section BOT
variable {l : Launch} {D : va_G} {ad ad' : Nat → Nat} {cy : Nat → ClassId} {d : Nat} {hx hm h : HpT} {N : Nat}
set_option maxHeartbeats 4000000 in
theorem oboth2 (kn : Int32) (hP : iP hx hm) (hR : iR hx hm) (hB : iB hx hm) : ∃ spn W H K G L ns, (∀ i, ∃ v, v ≤ 240 ∧ W i = nI v) ∧ hI hx 1 0 = nI ns ∧ hI hm 0 2 = nI ns ∧ ns ≤ 14 ∧ L = sortL (fun i => hA hm 1 i == 0) (ahB W H K G) ns ∧ (∀ d, OKe l D ad cy wdX (d + 3) MX8_reckon [.ref 4, .int kn] hx (fun z h' => z = none ∧ rX hx spn W H K G L h')) ∧ (∀ d, OKe l D ad' cy wdM (d + 4) MX12_findStandings [.ref 0, .int kn] hm (fun z h' => z = none ∧ rM hm W H K G L h')) ∧ ∀ d j, j < 20 → OKe l D ad' cy wdM (d + 2) MX12_spanOf [.ref 0, .int (nI j), .int kn] hm (fun z h' => z = some (.int (spn j)) ∧ h' = hm) := by
  obtain ⟨p1, p2, p3, p4, ns, nj, nk, rm, hns, b1, hnj, b2, hnk, b3, hrm, b4, b5, hth, hgo, hki⟩ := id hP
  obtain ⟨e1, nr, hnr, bn, hrd, hsl, -⟩ := id hR
  obtain ⟨q1, nb, nr2, hnb, bb, hnr2, bn2, hbl⟩ := id hB
  obtain ⟨rx, rm', sl⟩ := rd_of hR hnr bn
  obtain ⟨bx, bm⟩ := bl_of hR hB hnb bb
  rw [hns] at p1
  have hbd : ∀ j p, PX hx (cntF hx kn nb) 112 j p → p ≤ 100 := fun j p ⟨_, _, _, _, _, _, _, z⟩ => z
  obtain ⟨F, hF⟩ := Classical.axiomOfChoice (fun j => lowP_ex (PX hx (cntF hx kn nb) 112 j) (hbd j))
  obtain ⟨G0, hG⟩ := Classical.axiomOfChoice (fun j => higP_ex (PX hx (cntF hx kn nb) 112 j) (hbd j))
  obtain ⟨spn, hspn⟩ : ∃ s : Nat → Int32, ∀ j, s j = mxI 1 (G0 j - F j) := ⟨fun j => mxI 1 (G0 j - F j), fun _ => rfl⟩
  have hq : ∀ j, ∃ q, 1 ≤ q ∧ q ≤ 100 ∧ spn j = nI q := by
    intro j
    obtain ⟨a, a1, a2, -⟩ := hF j
    obtain ⟨b, b1, b2, -⟩ := hG j
    rw [hspn, a1, b1]
    exact mx1_sub (by omega) b2
  have hspM : spM hm kn nb spn := by
    intro j hj
    refine ⟨fun lo hi h1 h2 => ?_, ?_⟩
    · rw [hspn]
      exact span_un (hbd j) (Or.inr rfl) (Or.inl rfl) (lowP_cong (fun p => (PXM hR hB hnb bb hj).symm) h1) (higP_cong (fun p => (PXM hR hB hnb bb hj).symm) h2) (hF j) (hG j)
    · rw [hspn]; exact mx1_ne _
  have eK : ∀ w w' : Nat → Int32, (∀ i, i < 14 → w i = w' i) → KT (AA hm) (BB hm) (tmN hm) nr w = KT (AA hm) (BB hm) (tmN hm) nr w' := by
    intro w w' hw
    unfold KT
    refine totD_cong nr (fun r hr => ⟨rfl, fun t ht => ?_⟩)
    obtain ⟨-, s2, -, s4, -⟩ := (rm'.2.2 r hr).2.2.2 t ht
    unfold kS
    rw [hw _ s2, hw _ s4]
  have eT : ∀ i, i < ns → (!(hA hx 13 i == 0)) = (hA hm 1 i == 0) := by
    intro i hi
    rcases hth i hi with ⟨a1, a2⟩ | ⟨a1, a2⟩ <;> rw [a1, a2] <;> decide
  refine ⟨spn, WTm hm (AA hm) (BB hm) (tmN hm) nr (seM hm kn nb spn), HT (AA hm) (BB hm) (tmN hm) nr (seM hm kn nb spn), KT (AA hm) (BB hm) (tmN hm) nr (WTm hm (AA hm) (BB hm) (tmN hm) nr (seM hm kn nb spn)), GT (AA hm) (BB hm) (tmN hm) nr (seM hm kn nb spn), _, ns, fun i => ?_, p1, hns, b1, rfl, fun d => ?_, fun d => ?_, fun d j hj => ?_⟩
  · obtain ⟨v, v1, v2⟩ := totD_b (y := fun r => byD (hA hm 5 r)) (q := wS (AA hm) (BB hm) (seM hm kn nb spn)) (tm := tmN hm) (i := i) (fun r => byD_b _ _) (fun k => wnD_b _ _ _ _ _) nr (fun r hr => (rm'.2.2 r hr).2.1)
    exact ⟨v, by omega, v2⟩
  · refine ok_imp (oX8_reckon (kn := kn) bx rx p1 b1) ?_
    rintro z h' ⟨ez, f, g, w, fr, hlh, e33, e34, e35, hw, hv, h45, hrep⟩
    refine ⟨ez, ?_⟩
    have hsp2 : ∀ j, j < 20 → spn j = mxI 1 (g j - f j) ∧ ∃ q, 1 ≤ q ∧ q ≤ 100 ∧ spn j = nI q := by
      intro j hj
      refine ⟨?_, hq j⟩
      rw [hspn]
      exact span_un (hbd j) (Or.inl rfl) (Or.inl rfl) (hF j) (hG j) (hlh j hj).1 (hlh j hj).2
    have eS0 : ∀ r t, r < nr → t < tmN hm r → seX (cH hx (cntF hx kn nb) f g) (2 * (7 * r + t)) = seM hm kn nb spn (2 * (7 * r + t)) := fun r t hr ht => seXM (s := 0) hR hB hnb bb hnr bn (sl r t hr ht) (by decide) hsp2
    have eS1 : ∀ r t, r < nr → t < tmN hm r → seX (cH hx (cntF hx kn nb) f g) (2 * (7 * r + t) + 1) = seM hm kn nb spn (2 * (7 * r + t) + 1) := fun r t hr ht => seXM (s := 1) hR hB hnb bb hnr bn (sl r t hr ht) (by decide) hsp2
    have eW : WT hx (AA hm) (BB hm) (tmN hm) nr (seX (cH hx (cntF hx kn nb) f g)) = WTm hm (AA hm) (BB hm) (tmN hm) nr (seM hm kn nb spn) := by
      unfold WT WTm
      refine totD_cong nr (fun r hr => ⟨by rw [(hrd r hr).2.1], fun t ht => ?_⟩)
      unfold wS
      rw [eS0 r t hr ht, eS1 r t hr ht]
    have eH : HT (AA hm) (BB hm) (tmN hm) nr (seX (cH hx (cntF hx kn nb) f g)) = HT (AA hm) (BB hm) (tmN hm) nr (seM hm kn nb spn) := by
      unfold HT
      refine totD_cong nr (fun r hr => ⟨rfl, fun t ht => ?_⟩)
      unfold hS
      rw [eS0 r t hr ht, eS1 r t hr ht]
    have eG : GT (AA hm) (BB hm) (tmN hm) nr (seX (cH hx (cntF hx kn nb) f g)) = GT (AA hm) (BB hm) (tmN hm) nr (seM hm kn nb spn) := by
      unfold GT
      refine totD_cong nr (fun r hr => ⟨rfl, fun t ht => ?_⟩)
      unfold gS
      rw [eS0 r t hr ht, eS1 r t hr ht]
    rw [eW] at hw
    rw [eW, eH, eG, eK w _ hw] at hv
    rw [eW, eH, eG, eK w _ hw, sortL_cong ns eT (fun _ _ _ _ => rfl)] at h45 hrep
    refine ⟨fr, fun j hj => ?_, hv, h45, hrep⟩
    rw [e34, e35]
    exact (hsp2 j hj).1.symm
  · refine ok_imp (oX12_findStandings (kn := kn) bm hspM rm' hns b1) ?_
    rintro z h' ⟨ez, w, fr, hw, hv, h26, hrep⟩
    rw [eK w _ hw] at hv h26 hrep
    exact ⟨ez, fr, hv, h26, hrep⟩
  · exact oX12_spanOf bm (hspM j hj).1
set_option maxHeartbeats 4000000 in
theorem oboth (kn : Int32) (hP : iP hx hm) (hR : iR hx hm) (hB : iB hx hm) : ∃ spn W H K G L ns, hI hx 1 0 = nI ns ∧ hI hm 0 2 = nI ns ∧ ns ≤ 14 ∧ L = sortL (fun i => hA hm 1 i == 0) (ahB W H K G) ns ∧ (∀ d, OKe l D ad cy wdX (d + 3) MX8_reckon [.ref 4, .int kn] hx (fun z h' => z = none ∧ rX hx spn W H K G L h')) ∧ (∀ d, OKe l D ad' cy wdM (d + 4) MX12_findStandings [.ref 0, .int kn] hm (fun z h' => z = none ∧ rM hm W H K G L h')) ∧ ∀ d j, j < 20 → OKe l D ad' cy wdM (d + 2) MX12_spanOf [.ref 0, .int (nI j), .int kn] hm (fun z h' => z = some (.int (spn j)) ∧ h' = hm) := by
  obtain ⟨spn, W, H, K, G, L, ns, -, e⟩ := oboth2 (l := l) (D := D) (ad := ad) (ad' := ad') (cy := cy) kn hP hR hB
  exact ⟨spn, W, H, K, G, L, ns, e⟩
/-- the place of a school, first or last: it stands there once -/
theorem plc_last {f : Nat → Int32} {s : Int32} {n : Nat} (hu : ∀ i j, i < n → j < n → f i = s → f j = s → i = j) : plcI f s n n = lastI (fun i => f i == s) n := by
  rcases lastI_or (fun i => f i == s) n with ⟨e, a⟩ | ⟨b, b1, b2, b3, -⟩
  · rw [e]
    have : ∀ c, c ≤ n → plcI f s n c = -1 := by
      intro c
      induction c with
      | zero => intro _; rfl
      | succ c ih =>
        intro hc
        have := a (n - (c + 1)) (by omega)
        rw [plcI, if_neg (beq_eq_false_iff_ne.mp this)]
        exact ih (by omega)
    exact this n (Nat.le_refl n)
  · rw [b2]
    have hb : f b = s := beq_iff_eq.mp b3
    have : ∀ c, c ≤ n → n - c ≤ b → plcI f s n c = nI b := by
      intro c
      induction c with
      | zero => intro _ h; omega
      | succ c ih =>
        intro hc h
        rw [plcI]
        by_cases e : f (n - (c + 1)) = s
        · rw [if_pos e, hu _ b (by omega) b1 e hb]
        · rw [if_neg e]
          refine ih (by omega) ?_
          have : n - (c + 1) ≠ b := fun z => e (by rw [z]; exact hb)
          omega
    exact this n (Nat.le_refl n) (by omega)
theorem sortL_nodup (T : Nat → Bool) (A : Nat → Nat → Bool) : ∀ n, (sortL T A n).Nodup
  | 0 => List.nodup_nil
  | n + 1 => by
    have ih := sortL_nodup T A n
    rw [sortL]
    cases T n with
    | false => exact ih
    | true =>
      simp only [if_true]
      unfold insL
      have hp : (List.take (posI (fun i => A n ((sortL T A n).getD i 0)) (sortL T A n).length) (sortL T A n) ++ n :: List.drop (posI (fun i => A n ((sortL T A n).getD i 0)) (sortL T A n).length) (sortL T A n)).Perm (n :: sortL T A n) := by
        refine List.perm_middle.trans ?_
        rw [List.take_append_drop]
      rw [hp.nodup_iff, List.nodup_cons]
      exact ⟨fun z => absurd (sortL_lt T A n n z).1 (by omega), ih⟩
theorem rep_un {f : Nat → Int32} {L : List Nat} {s : Int32} (hr : repL f L) (hn : L.Nodup) (hb : ∀ x ∈ L, x < 14) : ∀ i j, i < L.length → j < L.length → f i = s → f j = s → i = j := by
  intro i j hi hj e1 e2
  rw [hr i hi] at e1
  rw [hr j hj, ← e1] at e2
  have a1 := hb _ (getD_mem hi)
  have a2 := hb _ (getD_mem hj)
  rw [nI_eq (by omega) (by omega)] at e2
  rw [List.getD_eq_getElem?_getD, List.getD_eq_getElem?_getD, List.getElem?_eq_getElem hi, List.getElem?_eq_getElem hj] at e2
  exact (List.getElem?_inj hi hn).mp (by rw [List.getElem?_eq_getElem hi, List.getElem?_eq_getElem hj]; exact congrArg some e2.symm)
theorem lastI_rep {f g : Nat → Int32} {L : List Nat} {s : Int32} (hf : repL f L) (hg : repL g L) : lastI (fun i => f i == s) L.length = lastI (fun i => g i == s) L.length := lastI_cong _ (fun i hi => by rw [hf i hi, hg i hi])
end BOT
