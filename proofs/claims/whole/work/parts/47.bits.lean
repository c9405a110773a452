/-! sets of places as bits -/
theorem bt_nI (n : Nat) {i : Nat} (hi : i < 32) : bt (nI n) i = n.testBit i := by
  unfold bt
  show (BitVec.ofNat 32 n).getLsbD i = _
  rw [BitVec.getLsbD_ofNat]
  simp [hi]
theorem shl_1 {k : Nat} (hk : k < 31) : (1 : Int32) <<< (nI k &&& 31) = nI (2 ^ k) := by
  apply b_ext
  intro i hi
  rw [b_shl k (by omega) _ hi, bt_nI _ hi, show (1 : Int32) = nI 1 from rfl, Nat.testBit_two_pow]
  rcases Nat.lt_or_ge i k with q | q
  · rw [decide_eq_false (by omega), decide_eq_false (by omega), Bool.false_and]
  · rw [bt_nI _ (by omega), decide_eq_true q, Bool.true_and, show (1 : Nat) = 2 ^ 0 from rfl, Nat.testBit_two_pow]
    congr 1
    rw [eq_iff_iff]
    omega
def tb (s k : Nat) : Int32 := if s.testBit k = true then 1 else 0
theorem shr_bit {s k : Nat} (hk : k < 32) (hs : s < 65536) : (nI s >>> (nI k &&& 31)) &&& 1 = tb s k := by
  apply b_ext
  intro i hi
  rw [b_and, b_sshr k hk _ hi]
  have e1 : bt (1 : Int32) i = decide (i = 0) := by
    rw [show (1 : Int32) = nI 1 from rfl, bt_nI _ hi, show (1 : Nat) = 2 ^ 0 from rfl, Nat.testBit_two_pow]
    congr 1
    rw [eq_iff_iff]
    omega
  have e3 : bt (nI s) 31 = false := by
    rw [bt_nI _ (by omega)]
    exact Nat.testBit_lt_two_pow (Nat.lt_of_lt_of_le hs (by decide))
  rw [e1]
  unfold tb
  by_cases q : i = 0
  · subst q
    rw [decide_eq_true rfl, Bool.and_true, Nat.add_zero, if_pos hk, bt_nI _ hk]
    by_cases c : s.testBit k = true
    · rw [if_pos c, e1, c]; rfl
    · rw [if_neg c, b_0]; simpa using c
  · rw [decide_eq_false q, Bool.and_false]
    by_cases c : s.testBit k = true
    · rw [if_pos c, e1, decide_eq_false q]
    · rw [if_neg c, b_0]
theorem ush_bit {s k : Nat} (hk : k < 32) (hs : s < 65536) : (ush (nI s) (nI k)) &&& 1 = tb s k := by
  unfold ush
  apply b_ext
  intro i hi
  rw [b_and, b_ushr k hk]
  have e1 : bt (1 : Int32) i = decide (i = 0) := by
    rw [show (1 : Int32) = nI 1 from rfl, bt_nI _ hi, show (1 : Nat) = 2 ^ 0 from rfl, Nat.testBit_two_pow]
    congr 1
    rw [eq_iff_iff]
    omega
  rw [e1]
  unfold tb
  by_cases q : i = 0
  · subst q
    rw [decide_eq_true rfl, Bool.and_true, Nat.add_zero, bt_nI _ hk]
    by_cases c : s.testBit k = true
    · rw [if_pos c, e1, c]; rfl
    · rw [if_neg c, b_0]; simpa using c
  · rw [decide_eq_false q, Bool.and_false]
    by_cases c : s.testBit k = true
    · rw [if_pos c, e1, decide_eq_false q]
    · rw [if_neg c, b_0]
theorem tb_t {s k : Nat} (h : s.testBit k = true) : tb s k = 1 := if_pos h
theorem tb_f {s k : Nat} (h : s.testBit k = false) : tb s k = 0 := if_neg (by rw [h]; decide)
/-- two places taken away -/
def rm (s f k : Nat) : Nat := s ^^^ 2 ^ f ^^^ 2 ^ k
theorem rm_bit {s f k : Nat} (h1 : s.testBit f = true) (h2 : s.testBit k = true) (hf : f ≠ k) (i : Nat) : (rm s f k).testBit i = (s.testBit i && !decide (i = f) && !decide (i = k)) := by
  unfold rm
  rw [Nat.testBit_xor, Nat.testBit_xor, Nat.testBit_two_pow, Nat.testBit_two_pow]
  by_cases a : i = f
  · subst a
    rw [h1, decide_eq_true rfl, decide_eq_false (show ¬ k = i from fun z => hf z.symm), decide_eq_false (show ¬ i = k from hf)]
    rfl
  · by_cases b : i = k
    · subst b
      rw [h2, decide_eq_false (show ¬ f = i from fun z => a z.symm), decide_eq_true rfl, decide_eq_false a]
      rfl
    · rw [decide_eq_false (show ¬ f = i from fun z => a z.symm), decide_eq_false (show ¬ k = i from fun z => b z.symm), decide_eq_false a, decide_eq_false b]
      cases s.testBit i <;> rfl
theorem lt_tb : ∀ (k x y : Nat), x.testBit k = false → y.testBit k = true → (∀ j, k < j → x.testBit j = y.testBit j) → x < y
  | 0, x, y, h1, h2, h3 => by
    rw [Nat.testBit_zero] at h1 h2
    have e : x / 2 = y / 2 := by
      apply Nat.eq_of_testBit_eq
      intro i
      have := h3 (i + 1) (by omega)
      rw [Nat.testBit_succ, Nat.testBit_succ] at this
      exact this
    have := of_decide_eq_false h1
    have := of_decide_eq_true h2
    omega
  | k + 1, x, y, h1, h2, h3 => by
    rw [Nat.testBit_succ] at h1 h2
    have := lt_tb k (x / 2) (y / 2) h1 h2 (fun j hj => by
      have := h3 (j + 1) (by omega)
      rw [Nat.testBit_succ, Nat.testBit_succ] at this
      exact this)
    omega
theorem rm_lt {s f k : Nat} (h1 : s.testBit f = true) (h2 : s.testBit k = true) (hf : f < k) : rm s f k < s := by
  refine lt_tb k _ _ ?_ h2 (fun j hj => ?_)
  · rw [rm_bit h1 h2 (by omega), decide_eq_true (show k = k from rfl), Bool.not_true, Bool.and_false]
  · rw [rm_bit h1 h2 (by omega), decide_eq_false (show ¬ j = f by omega), decide_eq_false (show ¬ j = k by omega)]
    simp
theorem rm_x {s f k : Nat} : nI s ^^^ nI (2 ^ f) ^^^ nI (2 ^ k) = nI (rm s f k) := by rw [nx_xor, nx_xor]; rfl
theorem bt_m1x {x : Int32} {i : Nat} (hi : i < 32) : bt (x ^^^ -1) i = !bt x i := by
  rw [b_xor, b_m1 i hi]; cases bt x i <;> rfl
theorem rm_w {s f k : Nat} (h1 : s.testBit f = true) (h2 : s.testBit k = true) (hf : f ≠ k) (hk : f < 31) (hk' : k < 31) : (nI s &&& (nI (2 ^ f) ^^^ -1)) &&& (nI (2 ^ k) ^^^ -1) = nI (rm s f k) := by
  apply b_ext
  intro i hi
  rw [b_and, b_and, bt_m1x hi, bt_m1x hi, bt_nI _ hi, bt_nI _ hi, bt_nI _ hi, bt_nI _ hi, rm_bit h1 h2 hf, Nat.testBit_two_pow, Nat.testBit_two_pow]
  have e1 : decide (f = i) = decide (i = f) := by congr 1; rw [eq_iff_iff]; omega
  have e2 : decide (k = i) = decide (i = k) := by congr 1; rw [eq_iff_iff]; omega
  rw [e1, e2]
/-- the first place that has it -/
def seek (p : Nat → Bool) : Nat → Nat
  | 0 => 14
  | c + 1 => if p (14 - (c + 1)) = true then 14 - (c + 1) else seek p c
theorem seek_ok {p : Nat → Bool} : ∀ c, c ≤ 14 → (∃ k, 14 - c ≤ k ∧ k < 14 ∧ p k = true) → seek p c < 14 ∧ 14 - c ≤ seek p c ∧ p (seek p c) = true ∧ ∀ i, 14 - c ≤ i → i < seek p c → p i = false
  | 0, _, ⟨k, k1, k2, _⟩ => absurd k1 (by omega)
  | c + 1, hc, ⟨k, k1, k2, k3⟩ => by
    rw [seek]
    by_cases e : p (14 - (c + 1)) = true
    · rw [if_pos e]
      exact ⟨by omega, by omega, e, fun i a b => absurd b (by omega)⟩
    · rw [if_neg e]
      have hk : k ≠ 14 - (c + 1) := fun z => e (by rw [← z]; exact k3)
      obtain ⟨a1, a2, a3, a4⟩ := seek_ok (p := p) c (by omega) ⟨k, by omega, k2, k3⟩
      refine ⟨a1, by omega, a3, fun i b1 b2 => ?_⟩
      by_cases z : i = 14 - (c + 1)
      · rw [z]; simpa using e
      · exact a4 i (by omega) b2
def fF (s : Nat) : Nat := seek (fun k => s.testBit k) 14
theorem fF_ok {s : Nat} (h0 : s ≠ 0) (hs : s < 2 ^ 14) : fF s < 14 ∧ s.testBit (fF s) = true ∧ ∀ i, i < fF s → s.testBit i = false := by
  obtain ⟨k, hk⟩ := Nat.exists_testBit_of_ne_zero h0
  have hk14 : k < 14 := by
    rcases Nat.lt_or_ge k 14 with q | q
    · exact q
    · have := Nat.testBit_lt_two_pow (Nat.lt_of_lt_of_le hs (Nat.pow_le_pow_right (by decide) q))
      rw [this] at hk; cases hk
  obtain ⟨a1, a2, a3, a4⟩ := seek_ok (p := fun k => s.testBit k) 14 (by omega) ⟨k, by omega, hk14, hk⟩
  exact ⟨a1, a3, fun i hi => a4 i (by omega) hi⟩
/-- the ones below the first one -/
theorem low_ones {s f : Nat} (hs : s < 2 ^ 14) (h1 : s.testBit f = true) (h2 : ∀ i, i < f → s.testBit i = false) (hf : f < 14) : (nI s ^^^ -1) &&& (nI s - 1) = nI (2 ^ f - 1) := by
  have s0 : s ≠ 0 := by rintro rfl; rw [Nat.zero_testBit] at h1; cases h1
  obtain ⟨t, rfl⟩ : ∃ t, s = t + 1 := ⟨s - 1, by omega⟩
  rw [nI_pred]
  have key : ∀ i, (t.testBit i) = if i < f then true else if i = f then false else (t + 1).testBit i := by
    -- t + 1 = 2 ^ f * (2 q + 1)
    have hm : (t + 1) % 2 ^ f = 0 := by
      apply Nat.eq_of_testBit_eq
      intro i
      rw [Nat.testBit_mod_two_pow, Nat.zero_testBit]
      by_cases c : i < f
      · rw [h2 i c, Bool.and_false]
      · rw [decide_eq_false c, Bool.false_and]
    obtain ⟨q, hq⟩ : ∃ q, t + 1 = 2 ^ f * q := ⟨(t + 1) / 2 ^ f, by have := Nat.div_add_mod (t + 1) (2 ^ f); omega⟩
    have hodd : q % 2 = 1 := by
      have e := h1
      rw [hq, show 2 ^ f * q = 2 ^ f * q + 0 by omega, Nat.testBit_two_pow_mul_add q (Nat.two_pow_pos f) f, if_neg (by omega), Nat.sub_self, Nat.testBit_zero] at e
      exact of_decide_eq_true e
    obtain ⟨r, hr⟩ : ∃ r, q = 2 * r + 1 := ⟨q / 2, by omega⟩
    subst hr
    have hp := Nat.two_pow_pos f
    have ht : t = 2 ^ f * (2 * r) + (2 ^ f - 1) := by rw [Nat.mul_add] at hq; omega
    intro i
    have e1 : t.testBit i = if i < f then (2 ^ f - 1).testBit i else (2 * r).testBit (i - f) := by
      rw [ht]; exact Nat.testBit_two_pow_mul_add (2 * r) (by omega) i
    have e2 : (t + 1).testBit i = if i < f then Nat.testBit 0 i else (2 * r + 1).testBit (i - f) := by
      rw [hq, show 2 ^ f * (2 * r + 1) = 2 ^ f * (2 * r + 1) + 0 by omega]; exact Nat.testBit_two_pow_mul_add (2 * r + 1) hp i
    rw [e1, e2]
    by_cases c : i < f
    · rw [if_pos c, if_pos c, Nat.testBit_two_pow_sub_one, decide_eq_true c]
    · rw [if_neg c, if_neg c, if_neg c]
      by_cases z : i = f
      · rw [if_pos z, z, Nat.sub_self, Nat.testBit_zero]
        exact decide_eq_false (by omega)
      · rw [if_neg z]
        obtain ⟨j, hj⟩ : ∃ j, i - f = j + 1 := ⟨i - f - 1, by omega⟩
        rw [hj, Nat.testBit_succ, Nat.testBit_succ]
        congr 1
        omega
  apply b_ext
  intro i hi
  rw [b_and, bt_m1x hi, bt_nI _ hi, bt_nI _ hi, bt_nI _ hi, Nat.testBit_two_pow_sub_one, key i]
  by_cases c : i < f
  · rw [if_pos c, h2 i c, decide_eq_true c]; rfl
  · rw [if_neg c, decide_eq_false c]
    by_cases z : i = f
    · rw [if_pos z, Bool.and_false]
    · rw [if_neg z]; cases (t + 1).testBit i <;> rfl
/-- how many -/
def pcn (s : Nat) : Nat := fb_ct (fun k => s.testBit k) 14
section BIT
variable {l : Launch} {D : va_G} {ad ad' : Nat → Nat} {cy : Nat → ClassId} {d : Nat} {hx hm h : HpT} {N : Nat}
set_option maxHeartbeats 4000000 in
theorem oX11_hasBitN {s k : Nat} (hs : s < 65536) (hk : k < 32) : OKe l D ad cy wdX d MX11_hasBit [.int (nI s), .int (nI k)] h (fun z h' => z = some (.int (tb s k)) ∧ h' = h) := by
  refine eX11_hasBit (by simp only [nnl, nnv, and_self]) (Nat.le_of_ble_eq_true rfl) ?_
  by_cases c : s.testBit k = true
  · repeat ((first | refine rX11_hasBit_0 ?_ | refine rX11_hasBit_13 ?_ | refine rX11_hasBit_14 ?_); simp only [↓wp_nil, ↓wp_iconst, ↓wp_bipush, ↓wp_sipush, ↓wp_lconst, ↓wp_ldc, ↓wp_ldc_w, ↓wp_ldc2_w, ↓wp_iload, ↓wp_iload_n, ↓wp_aload, ↓wp_aload_n, ↓wp_lload, ↓wp_lload_n, ↓wp_istore, ↓wp_istore_n, ↓wp_astore, ↓wp_astore_n, ↓wp_lstore, ↓wp_lstore_n, ↓wp_iinc, ↓wp_iadd, ↓wp_isub, ↓wp_imul, ↓wp_iand, ↓wp_ior, ↓wp_ixor, ↓wp_ishl, ↓wp_ishr, ↓wp_iushr, ↓wp_idiv, ↓wp_irem, ↓wp_ineg, ↓wp_i2l, ↓wp_l2i, ↓wp_i2c, ↓wp_ladd, ↓wp_lsub, ↓wp_lmul, ↓wp_lcmp, ↓wp_dup, ↓wp_dup2, ↓wp_if_eq, ↓wp_icmp_eq, ↓wp_if_ne, ↓wp_icmp_ne, ↓wp_if_lt, ↓wp_icmp_lt, ↓wp_if_ge, ↓wp_icmp_ge, ↓wp_if_gt, ↓wp_icmp_gt, ↓wp_if_le, ↓wp_icmp_le, ↓wp_goto, ↓wp_tableswitch, ↓wp_lookupswitch, ↓wp_ireturn, ↓wp_lreturn, ↓wp_return_, ↓wp_getfield, ↓wp_putfield, ↓wp_iaload, ↓wp_baload, ↓wp_caload, ↓wp_iastore, ↓wp_bastore, ↓wp_castore, ↓wp_arraylength, ↓wp_invokevirtual, ↓wp_invokestatic, ↓wp_invokestatic_1, ↓wp_invokestatic_2, ↓ldI_0, ↓ldI_s, ↓ldL_0, ↓ldL_s, ↓ldR_0, ↓ldR_s, ↓pI1_c, ↓pI2_c, ↓pL1_c, ↓pL2_c, ↓pR1_c, ↓pIR_c, ↓pIIR_c, ↓pVR_c, ↓pV1_c, ↓pV2_c, ↓pOne_c, ↓pNil_c, ↓popn_0, ↓popn_s, ↓pfv_0, ↓pfv_1, ↓pfv_2, ↓pfv_4, ↓gfv_0, ↓gfv_1, ↓gfv_2, ↓gfv_3, ↓gfv_4, setn_0, setn_s, c1_i, c1_r, okst_0, okst_i, okst_r, okst_u, okst_s, shs_0, shs_1, shs_2, shs_3, shs_4, ↓sw_n, ↓sw_c, rtc_I, rtc_Z, rtc_C, rtl_L, rcv_c, ↓cc_s, padl_0, padl_n, padl_c, xpl_n, xpl_i, xpl_r, xpl_l, toL_n, toL_s, List.cons_append, List.nil_append, sA, hI_sI, hL_sI, hR_sI, hA_sI, hI_sL, hL_sL, hR_sL, hA_sL, hI_sR, hL_sR, hR_sR, hA_sR, hI_sW, hL_sW, hR_sW, hA_sW, true_and, and_true, and_self, eq_self, if_true, if_false, reduceIte, Nat.reduceLT, Nat.reduceLeDiff, Nat.reduceEqDiff, Nat.reduceAdd, ne_eq, not_true_eq_false, not_false_eq_true, false_and, and_false, true_or, or_true, forall_const, true_implies, false_implies, le_nlt, Decidable.not_not, wX_1, wX_2, wX_oc, wX_ln, wX_ty, wX_fr, ocX_0, ocX_1, ocX_2, ocX_3, ocX_4, ocX_5, ocX_6, ocX_7, ocX_8, ocX_9, ocX_10, ocX_11, ocX_12, lnX_13, lnX_14, lnX_15, lnX_16, lnX_17, lnX_18, lnX_19, lnX_20, lnX_21, lnX_22, lnX_23, lnX_24, lnX_25, lnX_26, lnX_27, lnX_28, lnX_29, lnX_30, lnX_31, lnX_32, lnX_33, lnX_34, lnX_35, lnX_36, lnX_37, lnX_38, lnX_39, lnX_40, lnX_41, lnX_42, lnX_43, lnX_44, lnX_45, lnX_46, lnX_47, lnX_48, lnX_49, lnX_50, lnX_51, lnX_52, lnX_53, lnX_54, lnX_55, tyX_13, tyX_14, tyX_15, tyX_16, tyX_17, tyX_18, tyX_19, tyX_20, tyX_21, tyX_22, tyX_23, tyX_24, tyX_25, tyX_26, tyX_27, tyX_28, tyX_29, tyX_30, tyX_31, tyX_32, tyX_33, tyX_34, tyX_35, tyX_36, tyX_37, tyX_38, tyX_39, tyX_40, tyX_41, tyX_42, tyX_43, tyX_44, tyX_45, tyX_46, tyX_47, tyX_48, tyX_49, tyX_50, tyX_51, tyX_52, tyX_53, tyX_54, tyX_55, frX_0_0, frX_0_1, frX_0_2, frX_0_3, frX_0_4, frX_0_5, frX_0_6, frX_0_7, frX_0_8, frX_1_1, frX_1_4, frX_2_1, frX_2_2, frX_2_3, frX_2_4, frX_2_5, frX_2_6, frX_2_7, frX_2_8, frX_2_9, frX_3_1, frX_3_2, frX_3_3, frX_3_4, frX_4_0, frX_4_1, frX_4_2, frX_4_3, frX_4_4, frX_4_6, frX_4_7, frX_4_8, frX_4_9, frX_4_10, frX_4_11, frX_5_0, frX_5_2, frX_5_3, frX_5_4, frX_5_5, frX_6_0, frX_6_1, frX_6_2, frX_6_3, frX_7_1, frX_7_3, frX_7_4, frX_7_6, frX_9_1, frX_10_2, frX_11_1, frX_11_2, frX_11_3, frX_11_4, frX_11_6, frX_12_1, frX_12_2, frX_12_3, frX_12_4, frX_12_6, ush_bit hk hs, tb_t c])
  · have c' : s.testBit k = false := by simpa using c
    repeat ((first | refine rX11_hasBit_0 ?_ | refine rX11_hasBit_13 ?_ | refine rX11_hasBit_14 ?_); simp only [↓wp_nil, ↓wp_iconst, ↓wp_bipush, ↓wp_sipush, ↓wp_lconst, ↓wp_ldc, ↓wp_ldc_w, ↓wp_ldc2_w, ↓wp_iload, ↓wp_iload_n, ↓wp_aload, ↓wp_aload_n, ↓wp_lload, ↓wp_lload_n, ↓wp_istore, ↓wp_istore_n, ↓wp_astore, ↓wp_astore_n, ↓wp_lstore, ↓wp_lstore_n, ↓wp_iinc, ↓wp_iadd, ↓wp_isub, ↓wp_imul, ↓wp_iand, ↓wp_ior, ↓wp_ixor, ↓wp_ishl, ↓wp_ishr, ↓wp_iushr, ↓wp_idiv, ↓wp_irem, ↓wp_ineg, ↓wp_i2l, ↓wp_l2i, ↓wp_i2c, ↓wp_ladd, ↓wp_lsub, ↓wp_lmul, ↓wp_lcmp, ↓wp_dup, ↓wp_dup2, ↓wp_if_eq, ↓wp_icmp_eq, ↓wp_if_ne, ↓wp_icmp_ne, ↓wp_if_lt, ↓wp_icmp_lt, ↓wp_if_ge, ↓wp_icmp_ge, ↓wp_if_gt, ↓wp_icmp_gt, ↓wp_if_le, ↓wp_icmp_le, ↓wp_goto, ↓wp_tableswitch, ↓wp_lookupswitch, ↓wp_ireturn, ↓wp_lreturn, ↓wp_return_, ↓wp_getfield, ↓wp_putfield, ↓wp_iaload, ↓wp_baload, ↓wp_caload, ↓wp_iastore, ↓wp_bastore, ↓wp_castore, ↓wp_arraylength, ↓wp_invokevirtual, ↓wp_invokestatic, ↓wp_invokestatic_1, ↓wp_invokestatic_2, ↓ldI_0, ↓ldI_s, ↓ldL_0, ↓ldL_s, ↓ldR_0, ↓ldR_s, ↓pI1_c, ↓pI2_c, ↓pL1_c, ↓pL2_c, ↓pR1_c, ↓pIR_c, ↓pIIR_c, ↓pVR_c, ↓pV1_c, ↓pV2_c, ↓pOne_c, ↓pNil_c, ↓popn_0, ↓popn_s, ↓pfv_0, ↓pfv_1, ↓pfv_2, ↓pfv_4, ↓gfv_0, ↓gfv_1, ↓gfv_2, ↓gfv_3, ↓gfv_4, setn_0, setn_s, c1_i, c1_r, okst_0, okst_i, okst_r, okst_u, okst_s, shs_0, shs_1, shs_2, shs_3, shs_4, ↓sw_n, ↓sw_c, rtc_I, rtc_Z, rtc_C, rtl_L, rcv_c, ↓cc_s, padl_0, padl_n, padl_c, xpl_n, xpl_i, xpl_r, xpl_l, toL_n, toL_s, List.cons_append, List.nil_append, sA, hI_sI, hL_sI, hR_sI, hA_sI, hI_sL, hL_sL, hR_sL, hA_sL, hI_sR, hL_sR, hR_sR, hA_sR, hI_sW, hL_sW, hR_sW, hA_sW, true_and, and_true, and_self, eq_self, if_true, if_false, reduceIte, Nat.reduceLT, Nat.reduceLeDiff, Nat.reduceEqDiff, Nat.reduceAdd, ne_eq, not_true_eq_false, not_false_eq_true, false_and, and_false, true_or, or_true, forall_const, true_implies, false_implies, le_nlt, Decidable.not_not, wX_1, wX_2, wX_oc, wX_ln, wX_ty, wX_fr, ocX_0, ocX_1, ocX_2, ocX_3, ocX_4, ocX_5, ocX_6, ocX_7, ocX_8, ocX_9, ocX_10, ocX_11, ocX_12, lnX_13, lnX_14, lnX_15, lnX_16, lnX_17, lnX_18, lnX_19, lnX_20, lnX_21, lnX_22, lnX_23, lnX_24, lnX_25, lnX_26, lnX_27, lnX_28, lnX_29, lnX_30, lnX_31, lnX_32, lnX_33, lnX_34, lnX_35, lnX_36, lnX_37, lnX_38, lnX_39, lnX_40, lnX_41, lnX_42, lnX_43, lnX_44, lnX_45, lnX_46, lnX_47, lnX_48, lnX_49, lnX_50, lnX_51, lnX_52, lnX_53, lnX_54, lnX_55, tyX_13, tyX_14, tyX_15, tyX_16, tyX_17, tyX_18, tyX_19, tyX_20, tyX_21, tyX_22, tyX_23, tyX_24, tyX_25, tyX_26, tyX_27, tyX_28, tyX_29, tyX_30, tyX_31, tyX_32, tyX_33, tyX_34, tyX_35, tyX_36, tyX_37, tyX_38, tyX_39, tyX_40, tyX_41, tyX_42, tyX_43, tyX_44, tyX_45, tyX_46, tyX_47, tyX_48, tyX_49, tyX_50, tyX_51, tyX_52, tyX_53, tyX_54, tyX_55, frX_0_0, frX_0_1, frX_0_2, frX_0_3, frX_0_4, frX_0_5, frX_0_6, frX_0_7, frX_0_8, frX_1_1, frX_1_4, frX_2_1, frX_2_2, frX_2_3, frX_2_4, frX_2_5, frX_2_6, frX_2_7, frX_2_8, frX_2_9, frX_3_1, frX_3_2, frX_3_3, frX_3_4, frX_4_0, frX_4_1, frX_4_2, frX_4_3, frX_4_4, frX_4_6, frX_4_7, frX_4_8, frX_4_9, frX_4_10, frX_4_11, frX_5_0, frX_5_2, frX_5_3, frX_5_4, frX_5_5, frX_6_0, frX_6_1, frX_6_2, frX_6_3, frX_7_1, frX_7_3, frX_7_4, frX_7_6, frX_9_1, frX_10_2, frX_11_1, frX_11_2, frX_11_3, frX_11_4, frX_11_6, frX_12_1, frX_12_2, frX_12_3, frX_12_4, frX_12_6, ush_bit hk hs, tb_f c', show ¬ (0 : Int32) = 1 by decide])
set_option maxHeartbeats 4000000 in
theorem oX1_without {s f k : Nat} (h1 : s.testBit f = true) (h2 : s.testBit k = true) (hf : f ≠ k) (hk : f < 14) (hk' : k < 14) : OKe l D ad cy wdX d MX1_without [.int (nI s), .int (nI f), .int (nI k)] h (fun z h' => z = some (.int (nI (rm s f k))) ∧ h' = h) := by
  refine eX1_without (by simp only [nnl, nnv, and_self]) (Nat.le_of_ble_eq_true rfl) ?_
  repeat ((first | refine rX1_without_0 ?_); simp only [↓wp_nil, ↓wp_iconst, ↓wp_bipush, ↓wp_sipush, ↓wp_lconst, ↓wp_ldc, ↓wp_ldc_w, ↓wp_ldc2_w, ↓wp_iload, ↓wp_iload_n, ↓wp_aload, ↓wp_aload_n, ↓wp_lload, ↓wp_lload_n, ↓wp_istore, ↓wp_istore_n, ↓wp_astore, ↓wp_astore_n, ↓wp_lstore, ↓wp_lstore_n, ↓wp_iinc, ↓wp_iadd, ↓wp_isub, ↓wp_imul, ↓wp_iand, ↓wp_ior, ↓wp_ixor, ↓wp_ishl, ↓wp_ishr, ↓wp_iushr, ↓wp_idiv, ↓wp_irem, ↓wp_ineg, ↓wp_i2l, ↓wp_l2i, ↓wp_i2c, ↓wp_ladd, ↓wp_lsub, ↓wp_lmul, ↓wp_lcmp, ↓wp_dup, ↓wp_dup2, ↓wp_if_eq, ↓wp_icmp_eq, ↓wp_if_ne, ↓wp_icmp_ne, ↓wp_if_lt, ↓wp_icmp_lt, ↓wp_if_ge, ↓wp_icmp_ge, ↓wp_if_gt, ↓wp_icmp_gt, ↓wp_if_le, ↓wp_icmp_le, ↓wp_goto, ↓wp_tableswitch, ↓wp_lookupswitch, ↓wp_ireturn, ↓wp_lreturn, ↓wp_return_, ↓wp_getfield, ↓wp_putfield, ↓wp_iaload, ↓wp_baload, ↓wp_caload, ↓wp_iastore, ↓wp_bastore, ↓wp_castore, ↓wp_arraylength, ↓wp_invokevirtual, ↓wp_invokestatic, ↓wp_invokestatic_1, ↓wp_invokestatic_2, ↓ldI_0, ↓ldI_s, ↓ldL_0, ↓ldL_s, ↓ldR_0, ↓ldR_s, ↓pI1_c, ↓pI2_c, ↓pL1_c, ↓pL2_c, ↓pR1_c, ↓pIR_c, ↓pIIR_c, ↓pVR_c, ↓pV1_c, ↓pV2_c, ↓pOne_c, ↓pNil_c, ↓popn_0, ↓popn_s, ↓pfv_0, ↓pfv_1, ↓pfv_2, ↓pfv_4, ↓gfv_0, ↓gfv_1, ↓gfv_2, ↓gfv_3, ↓gfv_4, setn_0, setn_s, c1_i, c1_r, okst_0, okst_i, okst_r, okst_u, okst_s, shs_0, shs_1, shs_2, shs_3, shs_4, ↓sw_n, ↓sw_c, rtc_I, rtc_Z, rtc_C, rtl_L, rcv_c, ↓cc_s, padl_0, padl_n, padl_c, xpl_n, xpl_i, xpl_r, xpl_l, toL_n, toL_s, List.cons_append, List.nil_append, sA, hI_sI, hL_sI, hR_sI, hA_sI, hI_sL, hL_sL, hR_sL, hA_sL, hI_sR, hL_sR, hR_sR, hA_sR, hI_sW, hL_sW, hR_sW, hA_sW, true_and, and_true, and_self, eq_self, if_true, if_false, reduceIte, Nat.reduceLT, Nat.reduceLeDiff, Nat.reduceEqDiff, Nat.reduceAdd, ne_eq, not_true_eq_false, not_false_eq_true, false_and, and_false, true_or, or_true, forall_const, true_implies, false_implies, le_nlt, Decidable.not_not, wX_1, wX_2, wX_oc, wX_ln, wX_ty, wX_fr, ocX_0, ocX_1, ocX_2, ocX_3, ocX_4, ocX_5, ocX_6, ocX_7, ocX_8, ocX_9, ocX_10, ocX_11, ocX_12, lnX_13, lnX_14, lnX_15, lnX_16, lnX_17, lnX_18, lnX_19, lnX_20, lnX_21, lnX_22, lnX_23, lnX_24, lnX_25, lnX_26, lnX_27, lnX_28, lnX_29, lnX_30, lnX_31, lnX_32, lnX_33, lnX_34, lnX_35, lnX_36, lnX_37, lnX_38, lnX_39, lnX_40, lnX_41, lnX_42, lnX_43, lnX_44, lnX_45, lnX_46, lnX_47, lnX_48, lnX_49, lnX_50, lnX_51, lnX_52, lnX_53, lnX_54, lnX_55, tyX_13, tyX_14, tyX_15, tyX_16, tyX_17, tyX_18, tyX_19, tyX_20, tyX_21, tyX_22, tyX_23, tyX_24, tyX_25, tyX_26, tyX_27, tyX_28, tyX_29, tyX_30, tyX_31, tyX_32, tyX_33, tyX_34, tyX_35, tyX_36, tyX_37, tyX_38, tyX_39, tyX_40, tyX_41, tyX_42, tyX_43, tyX_44, tyX_45, tyX_46, tyX_47, tyX_48, tyX_49, tyX_50, tyX_51, tyX_52, tyX_53, tyX_54, tyX_55, frX_0_0, frX_0_1, frX_0_2, frX_0_3, frX_0_4, frX_0_5, frX_0_6, frX_0_7, frX_0_8, frX_1_1, frX_1_4, frX_2_1, frX_2_2, frX_2_3, frX_2_4, frX_2_5, frX_2_6, frX_2_7, frX_2_8, frX_2_9, frX_3_1, frX_3_2, frX_3_3, frX_3_4, frX_4_0, frX_4_1, frX_4_2, frX_4_3, frX_4_4, frX_4_6, frX_4_7, frX_4_8, frX_4_9, frX_4_10, frX_4_11, frX_5_0, frX_5_2, frX_5_3, frX_5_4, frX_5_5, frX_6_0, frX_6_1, frX_6_2, frX_6_3, frX_7_1, frX_7_3, frX_7_4, frX_7_6, frX_9_1, frX_10_2, frX_11_1, frX_11_2, frX_11_3, frX_11_4, frX_11_6, frX_12_1, frX_12_2, frX_12_3, frX_12_4, frX_12_6, shl_1 (show f < 31 by omega), shl_1 (show k < 31 by omega), rm_w h1 h2 hf (show f < 31 by omega) (show k < 31 by omega)])
end BIT
