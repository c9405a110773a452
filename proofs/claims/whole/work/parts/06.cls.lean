/-! fields, arrays, calls, ends -/
theorem cls_in_all : vwCl.all (fun q => (u_ws q.1 q.2.1 q.2.2).all (fun v => decide (v ∈ lw_tbl) && goodWord v)) = true := by decide +kernel
theorem cls_in {ci : Nat} {q : vw_C} (h : vwCl[ci]? = some q) : ∀ v ∈ u_ws q.1 q.2.1 q.2.2, v ∈ GW := by
  intro v hv
  have h1 := List.all_eq_true.mp (List.all_eq_true.mp cls_in_all q (List.mem_of_getElem? h)) v hv
  simp only [Bool.and_eq_true, decide_eq_true_eq] at h1
  exact List.mem_filter.mpr h1
def tyAll : List (Nat → FieldType) := [tyX0, tyX1, tyX2, tyX3, tyX4, tyX5, tyX6, tyX7, tyX8, tyX9, tyX10, tyX11, tyX12]
theorem cls_ty {ci : Nat} {q : vw_C} (h : vwCl[ci]? = some q) : ∃ ty : Nat → FieldType, (∀ k, k < q.2.2 → parseFieldDescriptor (q.2.1 k).2.2.1 = some (ty k)) ∧ ∀ a, a < q.2.2 → ∀ b, b < q.2.2 → a ≠ b → (q.2.1 a).2.1 ≠ (q.2.1 b).2.1 := by
  match ci, h with
  | 0, h => cases h; exact ⟨tyX0, tyX0_ok, nmX0⟩
  | 1, h => cases h; exact ⟨tyX1, tyX1_ok, nmX1⟩
  | 2, h => cases h; exact ⟨tyX2, tyX2_ok, nmX2⟩
  | 3, h => cases h; exact ⟨tyX3, tyX3_ok, nmX3⟩
  | 4, h => cases h; exact ⟨tyX4, tyX4_ok, nmX4⟩
  | 5, h => cases h; exact ⟨tyX5, tyX5_ok, nmX5⟩
  | 6, h => cases h; exact ⟨tyX6, tyX6_ok, nmX6⟩
  | 7, h => cases h; exact ⟨tyX7, tyX7_ok, nmX7⟩
  | 8, h => cases h; exact ⟨tyX8, tyX8_ok, nmX8⟩
  | 9, h => cases h; exact ⟨tyX9, tyX9_ok, nmX9⟩
  | 10, h => cases h; exact ⟨tyX10, tyX10_ok, nmX10⟩
  | 11, h => cases h; exact ⟨tyX11, tyX11_ok, nmX11⟩
  | 12, h => cases h; exact ⟨tyX12, tyX12_ok, nmX12⟩
  | n + 13, h => simp at h
def isOb : Option FieldType → Bool
  | some (.object _) => true
  | _ => false
theorem cls_ob_all : vwCl.all (fun q => (List.range q.2.2).all (fun k => !(kdT (q.2.1 k) == 2) || isOb (parseFieldDescriptor (q.2.1 k).2.2.1))) = true := by decide +kernel
theorem cls_ob {ci : Nat} {q : vw_C} (h : vwCl[ci]? = some q) {k : Nat} (hk : k < q.2.2) (h2 : kdT (q.2.1 k) = 2) : ∃ c, parseFieldDescriptor (q.2.1 k).2.2.1 = some (.object c) := by
  have h1 := List.all_eq_true.mp (List.all_eq_true.mp cls_ob_all q (List.mem_of_getElem? h)) k (List.mem_range.mpr hk)
  rw [h2] at h1
  have h3 : isOb (parseFieldDescriptor (q.2.1 k).2.2.1) = true := by simpa using h1
  cases hp : parseFieldDescriptor (q.2.1 k).2.2.1 with
  | none => rw [hp] at h3; cases h3
  | some t =>
    rw [hp] at h3
    cases t with
    | object c => exact ⟨c, rfl⟩
    | _ => cases h3
theorem kdT0 {q : String × String × String × Bool} (h : kdT q = 0) : q.2.2.1 = "I" := by
  unfold kdT at h
  split at h
  · assumption
  · split at h
    · cases h
    · split at h
      · cases h
      · split at h <;> cases h
theorem kdT4 {q : String × String × String × Bool} (h : kdT q = 4) : q.2.2.1 = "Z" := by
  unfold kdT at h
  split at h
  · cases h
  · split at h
    · assumption
    · split at h
      · cases h
      · split at h <;> cases h
theorem kdT1 {q : String × String × String × Bool} (h : kdT q = 1) : q.2.2.1 = "J" := by
  unfold kdT at h
  split at h
  · cases h
  · split at h
    · cases h
    · split at h
      · assumption
      · split at h <;> cases h
theorem prI : parseFieldDescriptor "I" = some .int := by decide +kernel
theorem prZ : parseFieldDescriptor "Z" = some .boolean := by decide +kernel
theorem prJ : parseFieldDescriptor "J" = some .long := by decide +kernel
