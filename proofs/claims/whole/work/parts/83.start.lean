/-! the start -/
theorem lkS_1021 : lk 1021 = some (.classLink R_law 7 RX11) := by decide +kernel
theorem lkS_1022 : lk 1022 = some (.instantiable RX11 13) := by decide +kernel
theorem lkS_1001 : lk 1001 = some (.initialized RX11) := by decide +kernel
theorem lkS_1023 : lk 1023 = some (.methodLink R_law 9 yX11_init) := by decide +kernel
theorem lkS_1024 : lk 1024 = some (.instanceMethod yX11_init) := by decide +kernel
theorem lkS_4201 : lk 4201 = some (.classLink R_law 10 RX12) := by decide +kernel
theorem lkS_4202 : lk 4202 = some (.instantiable RX12 57) := by decide +kernel
theorem lkS_1013 : lk 1013 = some (.initialized RX12) := by decide +kernel
theorem lkS_4203 : lk 4203 = some (.methodLink R_law 12 yX12_init) := by decide +kernel
theorem lkS_4204 : lk 4204 = some (.instanceMethod yX12_init) := by decide +kernel
theorem lkS_1115 : lk 1115 = some (.instantiable RX0 5) := by decide +kernel
theorem lkS_1199 : lk 1199 = some (.instantiable RX1 4) := by decide +kernel
theorem lkS_1030 : lk 1030 = some (.instantiable RX2 6) := by decide +kernel
theorem lkS_2031 : lk 2031 = some (.instantiable RX3 5) := by decide +kernel
theorem lkS_1193 : lk 1193 = some (.instantiable RX4 6) := by decide +kernel
theorem lkS_1064 : lk 1064 = some (.instantiable RX5 10) := by decide +kernel
theorem lkS_2074 : lk 2074 = some (.instantiable RX6 8) := by decide +kernel
theorem lkS_2106 : lk 2106 = some (.instantiable RX7 4) := by decide +kernel
theorem lkS_1142 : lk 1142 = some (.instantiable RX8 12) := by decide +kernel
theorem lkS_2058 : lk 2058 = some (.instantiable RX9 2) := by decide +kernel
theorem lkS_1239 : lk 1239 = some (.instantiable RX10 7) := by decide +kernel
theorem lkS_1113 : lk 1113 = some (.arrayClass .int) := by decide +kernel
theorem lkS_1062 : lk 1062 = some (.arrayClass .boolean) := by decide +kernel
theorem lkS_2072 : lk 2072 = some (.arrayClass .char) := by decide +kernel
theorem arr_known {s : State} {args : Array Value} {ty : FieldType} (h : (Cond.arrayClass ty).before args s = true) : ∃ cA : ClassId, ArrOfT s cA ty ∧ s.vm.findClass ("[" ++ ty.toString) = some cA := by
  obtain ⟨cA, kA, comp, h1, h2, h3⟩ := Cond.arrayClass_spec h
  exact ⟨cA, fun n z => ⟨fun k h => (by cases h), kA, h2, comp, h3⟩, h1⟩
set_option maxHeartbeats 4000000 in
theorem law_known {s : State} {args : Array Value} (htsG : ∀ v ∈ GW, v.before args s = true) : ∃ (D : va_G) (cy : Nat → ClassId), va_K D vwCl (tysC cy) s := by
  obtain ⟨c0, i0, hk0⟩ := u_known (C := RX0) (T := TX0) (N := 5) (n := 5) htsG (cls_in (ci := 0) (q := (RX0, TX0, 5)) rfl) (htsG _ (gw_at lkS_1115 rfl))
  obtain ⟨c1, i1, hk1⟩ := u_known (C := RX1) (T := TX1) (N := 4) (n := 4) htsG (cls_in (ci := 1) (q := (RX1, TX1, 4)) rfl) (htsG _ (gw_at lkS_1199 rfl))
  obtain ⟨c2, i2, hk2⟩ := u_known (C := RX2) (T := TX2) (N := 6) (n := 6) htsG (cls_in (ci := 2) (q := (RX2, TX2, 6)) rfl) (htsG _ (gw_at lkS_1030 rfl))
  obtain ⟨c3, i3, hk3⟩ := u_known (C := RX3) (T := TX3) (N := 5) (n := 5) htsG (cls_in (ci := 3) (q := (RX3, TX3, 5)) rfl) (htsG _ (gw_at lkS_2031 rfl))
  obtain ⟨c4, i4, hk4⟩ := u_known (C := RX4) (T := TX4) (N := 6) (n := 6) htsG (cls_in (ci := 4) (q := (RX4, TX4, 6)) rfl) (htsG _ (gw_at lkS_1193 rfl))
  obtain ⟨c5, i5, hk5⟩ := u_known (C := RX5) (T := TX5) (N := 10) (n := 10) htsG (cls_in (ci := 5) (q := (RX5, TX5, 10)) rfl) (htsG _ (gw_at lkS_1064 rfl))
  obtain ⟨c6, i6, hk6⟩ := u_known (C := RX6) (T := TX6) (N := 8) (n := 8) htsG (cls_in (ci := 6) (q := (RX6, TX6, 8)) rfl) (htsG _ (gw_at lkS_2074 rfl))
  obtain ⟨c7, i7, hk7⟩ := u_known (C := RX7) (T := TX7) (N := 4) (n := 4) htsG (cls_in (ci := 7) (q := (RX7, TX7, 4)) rfl) (htsG _ (gw_at lkS_2106 rfl))
  obtain ⟨c8, i8, hk8⟩ := u_known (C := RX8) (T := TX8) (N := 12) (n := 12) htsG (cls_in (ci := 8) (q := (RX8, TX8, 12)) rfl) (htsG _ (gw_at lkS_1142 rfl))
  obtain ⟨c9, i9, hk9⟩ := u_known (C := RX9) (T := TX9) (N := 2) (n := 2) htsG (cls_in (ci := 9) (q := (RX9, TX9, 2)) rfl) (htsG _ (gw_at lkS_2058 rfl))
  obtain ⟨c10, i10, hk10⟩ := u_known (C := RX10) (T := TX10) (N := 7) (n := 7) htsG (cls_in (ci := 10) (q := (RX10, TX10, 7)) rfl) (htsG _ (gw_at lkS_1239 rfl))
  obtain ⟨c11, i11, hk11⟩ := u_known (C := RX11) (T := TX11) (N := 13) (n := 13) htsG (cls_in (ci := 11) (q := (RX11, TX11, 13)) rfl) (htsG _ (gw_at lkS_1022 rfl))
  obtain ⟨c12, i12, hk12⟩ := u_known (C := RX12) (T := TX12) (N := 57) (n := 57) htsG (cls_in (ci := 12) (q := (RX12, TX12, 57)) rfl) (htsG _ (gw_at lkS_4202 rfl))
  obtain ⟨y0, a0, f0⟩ := arr_known (htsG _ (gw_at lkS_1113 rfl))
  obtain ⟨y1, a1, f1⟩ := arr_known (htsG _ (gw_at lkS_1062 rfl))
  obtain ⟨y2, a2, f2⟩ := arr_known (htsG _ (gw_at lkS_2072 rfl))
  refine ⟨(fun k => match k with | 0 => c0 | 1 => c1 | 2 => c2 | 3 => c3 | 4 => c4 | 5 => c5 | 6 => c6 | 7 => c7 | 8 => c8 | 9 => c9 | 10 => c10 | 11 => c11 | _ => c12, fun k => match k with | 0 => i0 | 1 => i1 | 2 => i2 | 3 => i3 | 4 => i4 | 5 => i5 | 6 => i6 | 7 => i7 | 8 => i8 | 9 => i9 | 10 => i10 | 11 => i11 | _ => i12), fun t => match t with | 0 => y0 | 1 => y1 | _ => y2, fun k q hq => ?_, fun k q hq => ?_⟩
  · match k, hq with
    | 0, hq => cases hq; exact hk0
    | 1, hq => cases hq; exact hk1
    | 2, hq => cases hq; exact hk2
    | 3, hq => cases hq; exact hk3
    | 4, hq => cases hq; exact hk4
    | 5, hq => cases hq; exact hk5
    | 6, hq => cases hq; exact hk6
    | 7, hq => cases hq; exact hk7
    | 8, hq => cases hq; exact hk8
    | 9, hq => cases hq; exact hk9
    | 10, hq => cases hq; exact hk10
    | 11, hq => cases hq; exact hk11
    | 12, hq => cases hq; exact hk12
    | k + 13, hq => simp at hq
  · match k, hq with
    | 0, hq => cases hq; exact ⟨a0, f0⟩
    | 1, hq => cases hq; exact ⟨a1, f1⟩
    | 2, hq => cases hq; exact ⟨a2, f2⟩
    | k + 3, hq => simp [tysC] at hq
def strT (i : Nat) : Term := .string RX7 ((strW.getD i (RX7, 0, "")).2.1)
def FL : List Cond := flatC (Jvm.Cond.and given_1 narrow_1)
def stP (i : Nat) : Nat := [9, 20, 32, 45, 59, 76, 87, 100, 112, 125, 142, 161, 182, 205, 227, 248, 269].getD i 0
theorem sQ_ex : ∀ i, i < 17 → FL[stP i]? = some (Cond.exactly (strT i) "java/lang/String") := by decide +kernel
theorem sQ_co : ∀ i, i < 17 → FL[stP i + 1]? = some (Cond.eq (.field (strT i) "java/lang/String" "coder" "B") (.int 0)) := by decide +kernel
theorem sQ_ar : ∀ i, i < 17 → FL[stP i + 2]? = some (Cond.arrayOf (.field (strT i) "java/lang/String" "value" "[B") .byte) := by decide +kernel
theorem sQ_le : ∀ i, i < 17 → FL[stP i + 3]? = some (Cond.eq (.length (.field (strT i) "java/lang/String" "value" "[B")) (.int (Int32.ofNat (strN.getD i 0)))) := by decide +kernel
theorem sQ_el : ∀ i, i < 17 → ∀ j, j < strN.getD i 0 → FL[stP i + 4 + j]? = some (Cond.eq (.elem (.field (strT i) "java/lang/String" "value" "[B") (.int (Int32.ofNat j))) (.int ((strB.getD i []).getD j 0))) := by decide +kernel
theorem sQ_ne : ∀ j, j < 17 → ∀ i, i < j → FL[stP j + 4 + strN.getD j 0 + i]? = some (Cond.not (Cond.eq (strT i) (strT j))) := by decide +kernel
theorem sK_ex (i : Nat) (hi : i < 17) : Cond.exactly (strT i) "java/lang/String" ∈ FL := List.mem_of_getElem? (sQ_ex i hi)
theorem sK_co (i : Nat) (hi : i < 17) : Cond.eq (.field (strT i) "java/lang/String" "coder" "B") (.int 0) ∈ FL := List.mem_of_getElem? (sQ_co i hi)
theorem sK_ar (i : Nat) (hi : i < 17) : Cond.arrayOf (.field (strT i) "java/lang/String" "value" "[B") .byte ∈ FL := List.mem_of_getElem? (sQ_ar i hi)
theorem sK_le (i : Nat) (hi : i < 17) : Cond.eq (.length (.field (strT i) "java/lang/String" "value" "[B")) (.int (Int32.ofNat (strN.getD i 0))) ∈ FL := List.mem_of_getElem? (sQ_le i hi)
theorem sK_el (i : Nat) (hi : i < 17) (j : Nat) (hj : j < strN.getD i 0) : Cond.eq (.elem (.field (strT i) "java/lang/String" "value" "[B") (.int (Int32.ofNat j))) (.int ((strB.getD i []).getD j 0)) ∈ FL := List.mem_of_getElem? (sQ_el i hi j hj)
theorem sK_ne (i : Nat) (hi : i < 17) (j : Nat) (hj : j < 17) (hij : i ≠ j) : Cond.not (Cond.eq (strT i) (strT j)) ∈ FL ∨ Cond.not (Cond.eq (strT j) (strT i)) ∈ FL := by
  rcases Nat.lt_or_ge i j with q | q
  · exact Or.inl (List.mem_of_getElem? (sQ_ne j hj i q))
  · exact Or.inr (List.mem_of_getElem? (sQ_ne i hi j (by omega)))
theorem sK_n : ∀ i, i < 17 → strN.getD i 0 < 2 ^ 31 := by decide +kernel
theorem sK_cs : Cond.eq (.static "java/lang/String" "COMPACT_STRINGS" "Z") (.int 1) ∈ FL := by decide +kernel
theorem sK_sf : Cond.isRef (.static "jdk/internal/util/Preconditions" "SIOOBE_FORMATTER" "Ljava/util/function/BiFunction;") ∈ FL := by decide +kernel
theorem sK_ref : ∀ i, i < 17 → Cond.stringRef (strW.getD i (RX7, 0, "")).1 (strW.getD i (RX7, 0, "")).2.1 (strW.getD i (RX7, 0, "")).2.2 ∈ lw_tbl := by decide +kernel
theorem sK_own : ∀ i, i < 17 → (strW.getD i (RX7, 0, "")).1 = RX7 := by decide +kernel
theorem sK_nest : ∀ q ∈ nestW, Cond.methodLinkNest q.1 q.2.1 q.2.2.1 q.2.2.2 ∈ lw_tbl := by decide +kernel
theorem sK_nestC : ∀ q ∈ nestC, Cond.methodLinkNest q.1 q.2.1 q.2.2.1 q.2.2.2 ∈ lw_tbl := by decide +kernel
theorem sK_w : Cond.laysStatic "java/lang/String" "COMPACT_STRINGS" "Z" ∈ lw_tbl ∧ Cond.initialized "java/lang/String" ∈ lw_tbl ∧ Cond.laysStatic "jdk/internal/util/Preconditions" "SIOOBE_FORMATTER" "Ljava/util/function/BiFunction;" ∈ lw_tbl ∧ Cond.initialized "jdk/internal/util/Preconditions" ∈ lw_tbl := by decide +kernel
theorem law_NC {s : State} {args : Array Value} (hts : ∀ w ∈ lw_tbl, w.before args s = true) : NC s := fun q hq => va_Nw.of rfl (hts _ (sK_nestC q hq))
/-- what stands of the constant words at the start -/
theorem law_str {s : State} {args : Array Value} {A : Nat → Prop} (hts : ∀ w ∈ lw_tbl, w.before args s = true) (hgv : (Jvm.Cond.and given_1 narrow_1).before args s = true) (hA : ∀ a : Nat, a < s.heap.size → ¬ A a) : ∃ aK aV : Nat → Nat, ∀ ad : Nat → Nat, (∀ i, i < 17 → ad (1000 + i) = aK i ∧ ad (2000 + i) = aV i) → ExP ad A s := by
  have hf := flat_of_before _ hgv
  obtain ⟨aK, aV, hS, hev⟩ := vk_Sof (args := args) (s := s) (N := 17) (tm := strT) (len := strN) (byt := strB) (A := A) sK_n (fun i hi => hf _ (sK_ex i hi)) (fun i hi => hf _ (sK_co i hi)) (fun i hi => hf _ (sK_ar i hi)) (fun i hi => hf _ (sK_le i hi)) (fun i hi j hj => hf _ (sK_el i hi j hj)) (fun i j hi hj hij => (sK_ne i hi j hj hij).imp (fun h => hf _ h) (fun h => hf _ h)) hA
  refine ⟨aK, aV, fun ad had => ⟨fun q hq => va_Nw.of rfl (hts _ (sK_nest q hq)), fun i q hq => ?_, ⟨fun i hi => ?_, fun i j hi hj e => ?_⟩, ?_, ?_⟩⟩
  · have hi : i < 17 := (List.getElem?_eq_some_iff.mp hq).1
    have eq : strW.getD i (RX7, 0, "") = q := by rw [List.getD_eq_getElem?_getD, hq]; rfl
    have h1 := hts _ (sK_ref i hi)
    have h2 := hev i hi
    have h3 := sK_own i hi
    unfold strT at h2
    rw [eq] at h1 h2 h3
    rw [(had i hi).1]
    rw [← h3] at h2
    exact vk_R.of h1 h2
  · have h := hS.1 i hi
    rw [← (had i hi).1, ← (had i hi).2] at h
    exact h
  · have e : ad (1000 + i) = ad (1000 + j) := e
    rw [(had i hi).1, (had j hj).1] at e
    exact hS.2 i j hi hj e
  · exact va_Zof (hts _ sK_w.1) (hts _ sK_w.2.1) (va_eqt (hf _ sK_cs)) hA
  · exact va_Zqof (hts _ sK_w.2.2.1) (hts _ sK_w.2.2.2) (hf _ sK_sf) hA
theorem inv0 : Inv 0 hX0 hM0 := by
  refine ⟨⟨rfl, rfl⟩, ⟨rfl, rfl, rfl, rfl, 0, 0, 0, 7, rfl, by decide, rfl, by decide, rfl, by decide, rfl, by decide, by decide, fun i hi => absurd hi (Nat.not_lt_zero i), fun i _ _ => rfl, fun j s _ _ => Or.inr ⟨rfl, fun k hk => absurd hk (Nat.not_lt_zero k)⟩⟩, ⟨rfl, 0, rfl, by decide, fun i hi => absurd hi (Nat.not_lt_zero i), ?_, fun s _ => ⟨rfl, rfl⟩, fun a b _ _ => rfl, fun j s _ _ => Or.inr ⟨rfl, ?_⟩⟩, ⟨rfl, 0, 0, rfl, by decide, rfl, by decide, fun i hi => absurd hi (Nat.not_lt_zero i)⟩, ⟨rfl, rfl, rfl, 0, 0, rfl, by decide, rfl, by decide, fun i hi => absurd hi (Nat.not_lt_zero i), fun i hi => absurd hi (Nat.not_lt_zero i), fun i _ => ⟨rfl, 0, Nat.le_refl _, rfl⟩⟩, ⟨rfl, 0, rfl, by decide, fun i hi => absurd hi (Nat.not_lt_zero i)⟩, ⟨Or.inl ⟨rfl, rfl⟩, Or.inr rfl, rfl, 0, rfl, by decide, fun i hi => absurd hi (Nat.not_lt_zero i)⟩⟩
  · rintro k ⟨r, t, tm, hr, -⟩
    exact absurd hr (Nat.not_lt_zero r)
  · rintro k ⟨r, t, tm, hr, -⟩
    exact absurd hr (Nat.not_lt_zero r)
theorem P_left {D : va_G} {w1 w2 : va_W} {H : Heap} (h : va_P D vwCl (w1 ++ w2) H) : va_P D vwCl w1 H := h.by id (fun k q hq => by
  show (w1 ++ w2)[k]? = some q
  rw [List.getElem?_append_left (List.getElem?_eq_some_iff.mp hq).1]; exact hq)
theorem P_right {D : va_G} {w1 w2 : va_W} {H : Heap} (h : va_P D vwCl (w1 ++ w2) H) : va_P D vwCl w2 H := h.by (fun k => w1.length + k) (fun k q hq => by
  show (w1 ++ w2)[w1.length + k]? = some q
  rw [List.getElem?_append_right (Nat.le_add_right _ _), Nat.add_sub_cancel_left]; exact hq)
theorem D_right {A : Nat → Prop} {w1 w2 : va_W} (h : va_D A (w1 ++ w2)) : va_D A w2 := by
  have k1 : ∀ (k : Nat) (q : Nat × va_E), w2[k]? = some q → (w1 ++ w2)[w1.length + k]? = some q := fun k q hq => by
    rw [List.getElem?_append_right (Nat.le_add_right _ _), Nat.add_sub_cancel_left]; exact hq
  exact ⟨fun i j p q hi hj e => by have := h.1 _ _ _ _ (k1 i p hi) (k1 j q hj) e; omega, fun k q hq => h.2 _ _ (k1 k q hq)⟩
theorem D_apart {A : Nat → Prop} {w1 w2 : va_W} (h : va_D A (w1 ++ w2)) {i j : Nat} {p q : Nat × va_E} (hi : w1[i]? = some p) (hj : w2[j]? = some q) : p.1 ≠ q.1 := fun e => by
  have li := (List.getElem?_eq_some_iff.mp hi).1
  have := h.1 i (w1.length + j) p q (by rw [List.getElem?_append_left li]; exact hi) (by rw [List.getElem?_append_right (Nat.le_add_right _ _), Nat.add_sub_cancel_left]; exact hj) e
  omega
