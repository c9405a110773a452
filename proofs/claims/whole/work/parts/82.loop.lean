/-! the law's loop -/
theorem lt_sub7 {L i : Nat} (hL : L ≤ 3584) (hi : i ≤ 4000) : (Int32.ofNat L - 7 < nI i) ↔ L < i + 7 := by
  rw [Int32.lt_iff_toInt_lt, nI_toInt (by omega)]
  rcases Nat.lt_or_ge L 7 with q | q
  · have h : ∀ L, L < 7 → (Int32.ofNat L - 7).toInt < 0 := by decide
    have := h L q
    omega
  · have e : Int32.ofNat L - 7 = nI (L - 7) := nI_sub (a := L) (b := 7) q
    rw [e, nI_toInt (by omega)]
    omega
set_option maxHeartbeats 4000000 in
set_option maxRecDepth 100000 in
theorem law_loop {p : Program} {l : Launch} {e : Env} {s : State} {m : MethodId} {below : List Frame} {meth : Method} {c : Code} {b L : Nat} {xs : Nat → Int32} {D : va_G} {cy : Nat → ClassId} {ad ad' : Nat → Nat} (C0 : lw_At p s m meth c b L xs) (hL : L ≤ 3584) (hc : LCx s D cy ad ad') : ∀ (n N : Nat) (hx hm : HpT) (H : Heap) (locs : List Loc) (ls : Array Slot), L + 1 ≤ 7 * N + n → 7 * N ≤ L + 7 → Inv N hx hm → va_P D vwCl (wsOf ad cy wdX hx) H → va_P D vwCl (wsOf ad' cy wdM hm) H → va_S (A0 s) s.heap H locs → lv_has ls 4 [(0, .ref b), (1, .ref (ad 0)), (2, .ref (ad' 0)), (3, .int (nI (7 * N)))] → LWt p l e s m below meth c b H locs (F0 m 18 ls []) := by
  obtain ⟨hx', hb', hr, hml, hown, hts, hX, hbl, hlocks, hgv⟩ := id C0
  have hbA : ¬ (A0 s) b := Nat.not_le.mpr hbl
  have head : ∀ (N : Nat) (H : Heap) (locs : List Loc) (ls : Array Slot), 7 * N ≤ L + 7 → va_S (A0 s) s.heap H locs → lv_has ls 4 [(0, .ref b), (1, .ref (ad 0)), (2, .ref (ad' 0)), (3, .int (nI (7 * N)))] → (7 * N + 7 ≤ L → LWt p l e s m below meth c b H locs (F0 m 27 ls [])) → LWt p l e s m below meth c b H locs (F0 m 18 ls []) := by
    intro N H locs ls hN hS hl go
    refine lv_iload_n hx' hb' dL_18 rfl (lv_at hl 3 rfl) ?_
    refine lv_aload_n hx' hb' dL_19 rfl (lv_at hl 0 rfl) ?_
    refine va_slen hx' hb' hX hbl hbA hS dL_20 ?_
    refine lv_bipush (v := 7) hx' hb' dL_21 (by decide) ?_
    refine lv_isub hx' hb' dL_23 ?_
    refine lv_icmp_gt (tgt := 956) hx' hb' dL_24 (by decide) (fun z => ?_) (fun z => ?_)
    · refine lv_iconst (v := 1) hx' hb' dL_956 (by decide) ?_
      refine va_forget (fun q hq => hS.2.2 q hq) ?_
      exact lw_ret hx' hb' hr hlocks dL_957
    · rw [lt_sub7 hL (by omega)] at z
      exact go (by omega)
  intro n
  induction n with
  | zero =>
    intro N hx hm H locs ls h1 h2 I hPX hPM hS hl
    exact head N H locs ls h2 hS hl (fun h => absurd h (by omega))
  | succ n ih =>
    intro N hx hm H locs ls h1 h2 I hPX hPM hS hl
    refine head N H locs ls h2 hS hl (fun hi => ?_)
    have hN : N < 1000 := by omega
    have nx : ∀ (hx' hm' : HpT) (H : Heap) (locs : List Loc), Inv (N + 1) hx' hm' → va_P D vwCl (wsOf ad cy wdX hx') H → va_P D vwCl (wsOf ad' cy wdM hm') H → va_S (A0 s) s.heap H locs → LWt p l e s m below meth c b H locs (F0 m 950 ls []) := by
      intro hx2 hm2 H2 locs2 I2 a1 a2 a3
      refine lv_iinc (v := nI (7 * (N + 1))) (lv' := [(3, .int (nI (7 * (N + 1)))), (0, .ref b), (1, .ref (ad 0)), (2, .ref (ad' 0))]) hx' hb' dL_950 hl (k := 3) rfl ?_ (by decide) rfl (fun ls2 hl2 => ?_)
      · show nI (7 * N) + nI 7 = _
        rw [nI_add, Nat.mul_succ]
      · refine lv_goto (tgt := 18) hx' hb' dL_953 (by decide) ?_
        exact ih (N + 1) hx2 hm2 H2 locs2 ls2 (by omega) (by omega) I2 a1 a2 a3 (lv_sub hl2 [1, 2, 3, 0] rfl)
    refine lv_aload_n hx' hb' dL_27 rfl (lv_at hl 0 rfl) ?_
    refine lv_iload_n hx' hb' dL_28 rfl (lv_at hl 3 rfl) ?_
    refine va_sld hx' hb' hX hbl hbA hS (vp_in_nI (by omega) (by omega)) dL_29 ?_
    refine lv_bipush (v := 31) hx' hb' dL_30 (by decide) ?_
    refine lv_iand hx' hb' dL_32 ?_
    obtain ⟨k, hk, ek⟩ := and31 (xs (nI (7 * N)).toNatClampNeg)
    rw [ek]
    have ko : k = 0 ∨ k = 1 ∨ k = 2 ∨ k = 3 ∨ k = 4 ∨ k = 5 ∨ k = 6 ∨ k = 7 ∨ k = 8 ∨ k = 9 ∨ k = 10 ∨ k = 11 ∨ k = 12 ∨ k = 13 ∨ k = 14 ∨ k = 15 ∨ k = 16 ∨ k = 17 ∨ k = 18 ∨ k = 19 ∨ k = 20 ∨ k = 21 ∨ k = 22 ∨ k = 23 ∨ 24 ≤ k := by omega
    rcases ko with rfl | rfl | rfl | rfl | rfl | rfl | rfl | rfl | rfl | rfl | rfl | rfl | rfl | rfl | rfl | rfl | rfl | rfl | rfl | rfl | rfl | rfl | rfl | rfl | k24
    · refine lv_tableIn (tgt := 144) (off := 111) hx' hb' dL_33 (by decide) (by decide) (by decide) (by decide) ?_
      exact lawC_0 C0 hL hi hc hl I hN hPX hPM hS nx
    · refine lv_tableIn (tgt := 157) (off := 124) hx' hb' dL_33 (by decide) (by decide) (by decide) (by decide) ?_
      exact lawC_1 C0 hL hi hc hl I hN hPX hPM hS nx
    · refine lv_tableIn (tgt := 206) (off := 173) hx' hb' dL_33 (by decide) (by decide) (by decide) (by decide) ?_
      exact lawC_2 C0 hL hi hc hl I hN hPX hPM hS nx
    · refine lv_tableIn (tgt := 219) (off := 186) hx' hb' dL_33 (by decide) (by decide) (by decide) (by decide) ?_
      exact lawC_3 C0 hL hi hc hl I hN hPX hPM hS nx
    · refine lv_tableIn (tgt := 252) (off := 219) hx' hb' dL_33 (by decide) (by decide) (by decide) (by decide) ?_
      exact lawC_4 C0 hL hi hc hl I hN hPX hPM hS nx
    · refine lv_tableIn (tgt := 275) (off := 242) hx' hb' dL_33 (by decide) (by decide) (by decide) (by decide) ?_
      exact lawC_5 C0 hL hi hc hl I hN hPX hPM hS nx
    · refine lv_tableIn (tgt := 298) (off := 265) hx' hb' dL_33 (by decide) (by decide) (by decide) (by decide) ?_
      exact lawC_6 C0 hL hi hc hl I hN hPX hPM hS nx
    · refine lv_tableIn (tgt := 341) (off := 308) hx' hb' dL_33 (by decide) (by decide) (by decide) (by decide) ?_
      exact lawC_7 C0 hL hi hc hl I hN hPX hPM hS nx
    · refine lv_tableIn (tgt := 416) (off := 383) hx' hb' dL_33 (by decide) (by decide) (by decide) (by decide) ?_
      exact lawC_8 C0 hL hi hc hl I hN hPX hPM hS nx
    · refine lv_tableIn (tgt := 479) (off := 446) hx' hb' dL_33 (by decide) (by decide) (by decide) (by decide) ?_
      exact lawC_9 C0 hL hi hc hl I hN hPX hPM hS nx
    · refine lv_tableIn (tgt := 522) (off := 489) hx' hb' dL_33 (by decide) (by decide) (by decide) (by decide) ?_
      exact lawC_10 C0 hL hi hc hl I hN hPX hPM hS nx
    · refine lv_tableIn (tgt := 555) (off := 522) hx' hb' dL_33 (by decide) (by decide) (by decide) (by decide) ?_
      exact lawC_11 C0 hL hi hc hl I hN hPX hPM hS nx
    · refine lv_tableIn (tgt := 588) (off := 555) hx' hb' dL_33 (by decide) (by decide) (by decide) (by decide) ?_
      exact lawC_12 C0 hL hi hc hl I hN hPX hPM hS nx
    · refine lv_tableIn (tgt := 621) (off := 588) hx' hb' dL_33 (by decide) (by decide) (by decide) (by decide) ?_
      exact lawC_13 C0 hL hi hc hl I hN hPX hPM hS nx
    · refine lv_tableIn (tgt := 644) (off := 611) hx' hb' dL_33 (by decide) (by decide) (by decide) (by decide) ?_
      exact lawC_14 C0 hL hi hc hl I hN hPX hPM hS nx
    · refine lv_tableIn (tgt := 677) (off := 644) hx' hb' dL_33 (by decide) (by decide) (by decide) (by decide) ?_
      exact lawC_15 C0 hL hi hc hl I hN hPX hPM hS nx
    · refine lv_tableIn (tgt := 700) (off := 667) hx' hb' dL_33 (by decide) (by decide) (by decide) (by decide) ?_
      exact lawC_16 C0 hL hi hc hl I hN hPX hPM hS nx
    · refine lv_tableIn (tgt := 763) (off := 730) hx' hb' dL_33 (by decide) (by decide) (by decide) (by decide) ?_
      exact lawC_17 C0 hL hi hc hl I hN hPX hPM hS nx
    · refine lv_tableIn (tgt := 786) (off := 753) hx' hb' dL_33 (by decide) (by decide) (by decide) (by decide) ?_
      exact lawC_18 C0 hL hi hc hl I hN hPX hPM hS nx
    · refine lv_tableIn (tgt := 799) (off := 766) hx' hb' dL_33 (by decide) (by decide) (by decide) (by decide) ?_
      exact lawC_19 C0 hL hi hc hl I hN hPX hPM hS nx
    · refine lv_tableIn (tgt := 812) (off := 779) hx' hb' dL_33 (by decide) (by decide) (by decide) (by decide) ?_
      exact lawC_20 C0 hL hi hc hl I hN hPX hPM hS nx
    · refine lv_tableIn (tgt := 881) (off := 848) hx' hb' dL_33 (by decide) (by decide) (by decide) (by decide) ?_
      exact lawC_21 C0 hL hi hc hl I hN hPX hPM hS nx
    · refine lv_tableIn (tgt := 914) (off := 881) hx' hb' dL_33 (by decide) (by decide) (by decide) (by decide) ?_
      exact lawC_22 C0 hL hi hc hl I hN hPX hPM hS nx
    · refine lv_tableIn (tgt := 937) (off := 904) hx' hb' dL_33 (by decide) (by decide) (by decide) (by decide) ?_
      exact lawC_23 C0 hL hi hc hl I hN hPX hPM hS nx
    · refine lv_tableOut (tgt := 950) hx' hb' dL_33 (Or.inr ?_) (by decide) ?_
      · rw [nI_toInt (by omega)]; omega
      · exact nx hx hm H locs (Inv_mono I) hPX hPM hS
