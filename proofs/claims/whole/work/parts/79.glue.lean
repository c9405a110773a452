/-! from the constructors' cells to the numbered ones -/
def adC (ws : va_W) (pl : Nat → Nat) (aK aV : Nat → Nat) (o : Nat) : Nat := if o < 1000 then (ws.getD (pl o) (0, .inr (0, []))).1 else if o < 2000 then aK (o - 1000) else aV (o - 2000)
theorem adC_K {ws : va_W} {pl aK aV : Nat → Nat} {i : Nat} (hi : i < 17) : adC ws pl aK aV (1000 + i) = aK i := by
  unfold adC
  rw [if_neg (by omega), if_pos (by omega), Nat.add_sub_cancel_left]
theorem adC_V {ws : va_W} {pl aK aV : Nat → Nat} {i : Nat} (hi : i < 17) : adC ws pl aK aV (2000 + i) = aV i := by
  unfold adC
  rw [if_neg (by omega), if_neg (by omega), Nat.add_sub_cancel_left]
theorem ceO_tab {ad : Nat → Nat} {w : WdT} {h : HpT} {o : Nat} {q : vw_C} (hq : vwCl[wOc w o]? = some q) {kl : List Nat} (hk : ∀ k, k < q.2.2 → kdT (q.2.1 k) = kl.getD k 0) : ceO ad w h o = (List.range q.2.2).map (fun k => tv ad (gfv w h o k (kl.getD k 0))) := by
  unfold ceO
  rw [hq]
  show (List.range q.2.2).map _ = _
  apply List.map_congr_left
  intro k hk2
  rw [hk k (List.mem_range.mp hk2)]
theorem glue {ws : va_W} {pl aK aV : Nat → Nat} {w : WdT} {h : HpT} {cy : Nat → ClassId} {D : va_G} {H : Heap} {A : Nat → Prop} (hw : w.1 ≤ w.2.1) (hw2 : w.2.1 ≤ 1000) (hlen : ∀ o, o < w.2.1 → pl o < ws.length) (hinj : ∀ i, i < w.2.1 → ∀ j, j < w.2.1 → pl i = pl j → i = j) (hce : ∀ o, o < w.2.1 → ceOf (adC ws pl aK aV) cy w h o = (ws.getD (pl o) (0, .inr (0, []))).2) (hP : va_P D vwCl ws H) (hD : va_D A ws) : va_P D vwCl (wsOf (adC ws pl aK aV) cy w h) H ∧ adOk (adC ws pl aK aV) w ∧ ∀ q, inA (adC ws pl aK aV) w q → A q := by
  have key : ∀ o, o < w.2.1 → ws[pl o]? = some (ws.getD (pl o) (0, .inr (0, []))) := by
    intro o ho
    rw [List.getD_eq_getElem?_getD, List.getElem?_eq_getElem (hlen o ho)]
    rfl
  have had : ∀ o, o < w.2.1 → adC ws pl aK aV o = (ws.getD (pl o) (0, .inr (0, []))).1 := by
    intro o ho
    unfold adC
    rw [if_pos (by omega)]
  refine ⟨hP.by pl (fun k q hq => ?_), ⟨hw, fun i j hi hj e => ?_⟩, ?_⟩
  · by_cases hk : k < w.2.1
    · rw [wsOf_get hk] at hq
      have e := Option.some.inj hq
      rw [← e, key k hk, had k hk, hce k hk]
    · rw [wsOf_none hk] at hq
      cases hq
  · rw [had i hi, had j hj] at e
    exact hinj i hi j hj (hD.1 _ _ _ _ (key i hi) (key j hj) e)
  · rintro q ⟨o, ho, rfl⟩
    rw [had o ho]
    exact hD.2 _ _ (key o ho)
theorem kdL_0 : ∀ k, k < 5 → kdT (TX0 k) = [0, 3, 3, 3, 3].getD k 0 := by decide +kernel
theorem kdL_1 : ∀ k, k < 4 → kdT (TX1 k) = [3, 3, 3, 3].getD k 0 := by decide +kernel
theorem kdL_2 : ∀ k, k < 6 → kdT (TX2 k) = [0, 3, 0, 0, 3, 0].getD k 0 := by decide +kernel
theorem kdL_3 : ∀ k, k < 5 → kdT (TX3 k) = [0, 4, 4, 4, 4].getD k 0 := by decide +kernel
theorem kdL_4 : ∀ k, k < 6 → kdT (TX4 k) = [3, 0, 3, 3, 3, 3].getD k 0 := by decide +kernel
theorem kdL_5 : ∀ k, k < 10 → kdT (TX5 k) = [0, 3, 3, 3, 3, 3, 3, 3, 3, 3].getD k 0 := by decide +kernel
theorem kdL_6 : ∀ k, k < 8 → kdT (TX6 k) = [0, 3, 3, 3, 3, 0, 3, 0].getD k 0 := by decide +kernel
theorem kdL_7 : ∀ k, k < 4 → kdT (TX7 k) = [0, 0, 3, 2].getD k 0 := by decide +kernel
theorem kdL_8 : ∀ k, k < 12 → kdT (TX8 k) = [3, 3, 3, 3, 3, 0, 3, 3, 3, 3, 3, 3].getD k 0 := by decide +kernel
theorem kdL_9 : ∀ k, k < 2 → kdT (TX9 k) = [0, 3].getD k 0 := by decide +kernel
theorem kdL_10 : ∀ k, k < 7 → kdT (TX10 k) = [0, 3, 0, 3, 3, 0, 3].getD k 0 := by decide +kernel
theorem kdL_11 : ∀ k, k < 13 → kdT (TX11 k) = [3, 3, 3, 3, 3, 3, 3, 3, 3, 2, 2, 0, 0].getD k 0 := by decide +kernel
theorem kdL_12 : ∀ k, k < 57 → kdT (TX12 k) = [0, 0, 0, 3, 0, 0, 3, 3, 0, 0, 3, 3, 3, 3, 3, 0, 3, 3, 3, 3, 3, 3, 3, 3, 3, 3, 0, 3, 3, 3, 3, 0, 3, 0, 3, 3, 3, 0, 0, 3, 3, 3, 0, 0, 3, 3, 3, 3, 0, 3, 0, 0, 0, 0, 1, 0, 4].getD k 0 := by decide +kernel
def plX (o : Nat) : Nat := [0, 1, 4, 14, 19, 28, 30, 35, 40, 41, 55, 43, 49, 2, 3, 5, 6, 7, 8, 9, 10, 11, 12, 13, 15, 16, 17, 18, 20, 21, 22, 23, 24, 25, 26, 27, 29, 31, 32, 33, 34, 36, 37, 38, 39, 42, 44, 45, 46, 47, 48, 50, 51, 52, 53, 54].getD o 0
theorem plX_lt : ∀ o, o < 56 → plX o < 56 := by decide +kernel
theorem plX_inj : ∀ i, i < 56 → ∀ j, j < 56 → plX i = plX j → i = j := by decide +kernel
def hX0 : HpT := sI (sI (sR (sR (sR (fun _ _ => 0, fun _ _ => 0, fun _ _ => 0, fun _ _ => 0) 0 9 11) 0 10 12) 10 3 12) 1 5 7) 0 11 (-1)
abbrev wsX0 (cy : Nat → ClassId) (h0 q1 q2 q3 q4 q5 q6 q7 q8 q9 q10 q11 q12 q13 q14 q15 q16 q17 q18 q19 q20 q21 q22 q23 q24 q25 q26 q27 q28 q29 q30 q31 q32 q33 q34 q35 q36 q37 q38 q39 q40 q41 q42 q43 q44 q45 q46 q47 q48 q49 q50 q51 q52 q53 q54 q55 : Nat) : va_W := [(h0, .inr (11, [.ref q1, .ref q4, .ref q14, .ref q19, .ref q28, .ref q35, .ref q40, .ref q41, .ref q55, .ref q43, .ref q49, .int (-1), .int 0])), (q1, .inr (2, [.int 0, .ref q2, .int 0, .int 0, .ref q3, .int 7])), (q2, .inl (cy 1, 14, .inl (fun _ => 0))), (q3, .inl (cy 1, 280, .inl (fun _ => 0))), (q4, .inr (5, [.int 0, .ref q5, .ref q6, .ref q7, .ref q8, .ref q9, .ref q10, .ref q11, .ref q12, .ref q13])), (q5, .inl (cy 0, 8, .inl (fun _ => 0))), (q6, .inl (cy 0, 8, .inl (fun _ => 0))), (q7, .inl (cy 0, 56, .inl (fun _ => 0))), (q8, .inl (cy 0, 56, .inl (fun _ => 0))), (q9, .inl (cy 0, 112, .inl (fun _ => 0))), (q10, .inl (cy 0, 14, .inl (fun _ => 0))), (q11, .inl (cy 0, 14, .inl (fun _ => 0))), (q12, .inl (cy 0, 196, .inl (fun _ => 0))), (q13, .inl (cy 1, 280, .inl (fun _ => 0))), (q14, .inr (0, [.int 0, .ref q15, .ref q16, .ref q17, .ref q18])), (q15, .inl (cy 0, 400, .inl (fun _ => 0))), (q16, .inl (cy 0, 400, .inl (fun _ => 0))), (q17, .inl (cy 0, 400, .inl (fun _ => 0))), (q18, .inl (cy 0, 400, .inl (fun _ => 0))), (q19, .inr (8, [.ref q20, .ref q21, .ref q22, .ref q23, .ref q24, .int 0, .ref q25, .ref q26, .ref q27, .ref q1, .ref q4, .ref q14])), (q20, .inl (cy 0, 14, .inl (fun _ => 0))), (q21, .inl (cy 0, 14, .inl (fun _ => 0))), (q22, .inl (cy 0, 14, .inl (fun _ => 0))), (q23, .inl (cy 0, 14, .inl (fun _ => 0))), (q24, .inl (cy 0, 14, .inl (fun _ => 0))), (q25, .inl (cy 0, 112, .inl (fun _ => 0))), (q26, .inl (cy 0, 20, .inl (fun _ => 0))), (q27, .inl (cy 0, 20, .inl (fun _ => 0))), (q28, .inr (4, [.ref q29, .int 0, .ref q30, .ref q1, .ref q4, .ref q19])), (q29, .inl (cy 0, 14, .inl (fun _ => 0))), (q30, .inr (1, [.ref q31, .ref q32, .ref q33, .ref q34])), (q31, .inl (cy 0, 7, .inl (fun _ => 0))), (q32, .inl (cy 0, 7, .inl (fun _ => 0))), (q33, .inl (cy 0, 196, .inl (fun _ => 0))), (q34, .inl (cy 0, 16384, .inl (fun _ => 0))), (q35, .inr (10, [.int 0, .ref q36, .int 0, .ref q37, .ref q38, .int 0, .ref q39])), (q36, .inl (cy 0, 10, .inl (fun _ => 0))), (q37, .inl (cy 0, 40, .inl (fun _ => 0))), (q38, .inl (cy 0, 40, .inl (fun _ => 0))), (q39, .inl (cy 0, 320, .inl (fun _ => 0))), (q40, .inr (3, [.int 0, .int 0, .int 0, .int 0, .int 0])), (q41, .inr (9, [.int 0, .ref q42])), (q42, .inl (cy 2, 400, .inl (fun _ => 0))), (q43, .inr (6, [.int 0, .ref q44, .ref q45, .ref q46, .ref q47, .int 0, .ref q48, .int 0])), (q44, .inl (cy 0, 20, .inl (fun _ => 0))), (q45, .inl (cy 0, 20, .inl (fun _ => 0))), (q46, .inl (cy 0, 20, .inl (fun _ => 0))), (q47, .inl (cy 0, 400, .inl (fun _ => 0))), (q48, .inl (cy 1, 32, .inl (fun _ => 0))), (q49, .inr (6, [.int 0, .ref q50, .ref q51, .ref q52, .ref q53, .int 0, .ref q54, .int 0])), (q50, .inl (cy 0, 20, .inl (fun _ => 0))), (q51, .inl (cy 0, 20, .inl (fun _ => 0))), (q52, .inl (cy 0, 20, .inl (fun _ => 0))), (q53, .inl (cy 0, 400, .inl (fun _ => 0))), (q54, .inl (cy 1, 32, .inl (fun _ => 0))), (q55, .inr (7, [.int 0, .int 0, .ref q41, .ref q49]))]
set_option maxRecDepth 100000 in
theorem ceX_0 (cy : Nat → ClassId) (h0 q1 q2 q3 q4 q5 q6 q7 q8 q9 q10 q11 q12 q13 q14 q15 q16 q17 q18 q19 q20 q21 q22 q23 q24 q25 q26 q27 q28 q29 q30 q31 q32 q33 q34 q35 q36 q37 q38 q39 q40 q41 q42 q43 q44 q45 q46 q47 q48 q49 q50 q51 q52 q53 q54 q55 : Nat) (aK aV : Nat → Nat) : ceOf (adC (wsX0 cy h0 q1 q2 q3 q4 q5 q6 q7 q8 q9 q10 q11 q12 q13 q14 q15 q16 q17 q18 q19 q20 q21 q22 q23 q24 q25 q26 q27 q28 q29 q30 q31 q32 q33 q34 q35 q36 q37 q38 q39 q40 q41 q42 q43 q44 q45 q46 q47 q48 q49 q50 q51 q52 q53 q54 q55) plX aK aV) cy wdX hX0 0 = (((h0, .inr (11, [.ref q1, .ref q4, .ref q14, .ref q19, .ref q28, .ref q35, .ref q40, .ref q41, .ref q55, .ref q43, .ref q49, .int (-1), .int 0])) : Nat × va_E)).2 := by
  rw [ceOf, if_pos (by decide), ceO_tab (q := (RX11, TX11, 13)) rfl kdL_11]
  rfl
set_option maxRecDepth 100000 in
theorem ceX_1 (cy : Nat → ClassId) (h0 q1 q2 q3 q4 q5 q6 q7 q8 q9 q10 q11 q12 q13 q14 q15 q16 q17 q18 q19 q20 q21 q22 q23 q24 q25 q26 q27 q28 q29 q30 q31 q32 q33 q34 q35 q36 q37 q38 q39 q40 q41 q42 q43 q44 q45 q46 q47 q48 q49 q50 q51 q52 q53 q54 q55 : Nat) (aK aV : Nat → Nat) : ceOf (adC (wsX0 cy h0 q1 q2 q3 q4 q5 q6 q7 q8 q9 q10 q11 q12 q13 q14 q15 q16 q17 q18 q19 q20 q21 q22 q23 q24 q25 q26 q27 q28 q29 q30 q31 q32 q33 q34 q35 q36 q37 q38 q39 q40 q41 q42 q43 q44 q45 q46 q47 q48 q49 q50 q51 q52 q53 q54 q55) plX aK aV) cy wdX hX0 1 = (((q1, .inr (2, [.int 0, .ref q2, .int 0, .int 0, .ref q3, .int 7])) : Nat × va_E)).2 := by
  rw [ceOf, if_pos (by decide), ceO_tab (q := (RX2, TX2, 6)) rfl kdL_2]
  rfl
set_option maxRecDepth 100000 in
theorem ceX_2 (cy : Nat → ClassId) (h0 q1 q2 q3 q4 q5 q6 q7 q8 q9 q10 q11 q12 q13 q14 q15 q16 q17 q18 q19 q20 q21 q22 q23 q24 q25 q26 q27 q28 q29 q30 q31 q32 q33 q34 q35 q36 q37 q38 q39 q40 q41 q42 q43 q44 q45 q46 q47 q48 q49 q50 q51 q52 q53 q54 q55 : Nat) (aK aV : Nat → Nat) : ceOf (adC (wsX0 cy h0 q1 q2 q3 q4 q5 q6 q7 q8 q9 q10 q11 q12 q13 q14 q15 q16 q17 q18 q19 q20 q21 q22 q23 q24 q25 q26 q27 q28 q29 q30 q31 q32 q33 q34 q35 q36 q37 q38 q39 q40 q41 q42 q43 q44 q45 q46 q47 q48 q49 q50 q51 q52 q53 q54 q55) plX aK aV) cy wdX hX0 2 = (((q4, .inr (5, [.int 0, .ref q5, .ref q6, .ref q7, .ref q8, .ref q9, .ref q10, .ref q11, .ref q12, .ref q13])) : Nat × va_E)).2 := by
  rw [ceOf, if_pos (by decide), ceO_tab (q := (RX5, TX5, 10)) rfl kdL_5]
  rfl
set_option maxRecDepth 100000 in
theorem ceX_3 (cy : Nat → ClassId) (h0 q1 q2 q3 q4 q5 q6 q7 q8 q9 q10 q11 q12 q13 q14 q15 q16 q17 q18 q19 q20 q21 q22 q23 q24 q25 q26 q27 q28 q29 q30 q31 q32 q33 q34 q35 q36 q37 q38 q39 q40 q41 q42 q43 q44 q45 q46 q47 q48 q49 q50 q51 q52 q53 q54 q55 : Nat) (aK aV : Nat → Nat) : ceOf (adC (wsX0 cy h0 q1 q2 q3 q4 q5 q6 q7 q8 q9 q10 q11 q12 q13 q14 q15 q16 q17 q18 q19 q20 q21 q22 q23 q24 q25 q26 q27 q28 q29 q30 q31 q32 q33 q34 q35 q36 q37 q38 q39 q40 q41 q42 q43 q44 q45 q46 q47 q48 q49 q50 q51 q52 q53 q54 q55) plX aK aV) cy wdX hX0 3 = (((q14, .inr (0, [.int 0, .ref q15, .ref q16, .ref q17, .ref q18])) : Nat × va_E)).2 := by
  rw [ceOf, if_pos (by decide), ceO_tab (q := (RX0, TX0, 5)) rfl kdL_0]
  rfl
set_option maxRecDepth 100000 in
theorem ceX_4 (cy : Nat → ClassId) (h0 q1 q2 q3 q4 q5 q6 q7 q8 q9 q10 q11 q12 q13 q14 q15 q16 q17 q18 q19 q20 q21 q22 q23 q24 q25 q26 q27 q28 q29 q30 q31 q32 q33 q34 q35 q36 q37 q38 q39 q40 q41 q42 q43 q44 q45 q46 q47 q48 q49 q50 q51 q52 q53 q54 q55 : Nat) (aK aV : Nat → Nat) : ceOf (adC (wsX0 cy h0 q1 q2 q3 q4 q5 q6 q7 q8 q9 q10 q11 q12 q13 q14 q15 q16 q17 q18 q19 q20 q21 q22 q23 q24 q25 q26 q27 q28 q29 q30 q31 q32 q33 q34 q35 q36 q37 q38 q39 q40 q41 q42 q43 q44 q45 q46 q47 q48 q49 q50 q51 q52 q53 q54 q55) plX aK aV) cy wdX hX0 4 = (((q19, .inr (8, [.ref q20, .ref q21, .ref q22, .ref q23, .ref q24, .int 0, .ref q25, .ref q26, .ref q27, .ref q1, .ref q4, .ref q14])) : Nat × va_E)).2 := by
  rw [ceOf, if_pos (by decide), ceO_tab (q := (RX8, TX8, 12)) rfl kdL_8]
  rfl
set_option maxRecDepth 100000 in
theorem ceX_5 (cy : Nat → ClassId) (h0 q1 q2 q3 q4 q5 q6 q7 q8 q9 q10 q11 q12 q13 q14 q15 q16 q17 q18 q19 q20 q21 q22 q23 q24 q25 q26 q27 q28 q29 q30 q31 q32 q33 q34 q35 q36 q37 q38 q39 q40 q41 q42 q43 q44 q45 q46 q47 q48 q49 q50 q51 q52 q53 q54 q55 : Nat) (aK aV : Nat → Nat) : ceOf (adC (wsX0 cy h0 q1 q2 q3 q4 q5 q6 q7 q8 q9 q10 q11 q12 q13 q14 q15 q16 q17 q18 q19 q20 q21 q22 q23 q24 q25 q26 q27 q28 q29 q30 q31 q32 q33 q34 q35 q36 q37 q38 q39 q40 q41 q42 q43 q44 q45 q46 q47 q48 q49 q50 q51 q52 q53 q54 q55) plX aK aV) cy wdX hX0 5 = (((q28, .inr (4, [.ref q29, .int 0, .ref q30, .ref q1, .ref q4, .ref q19])) : Nat × va_E)).2 := by
  rw [ceOf, if_pos (by decide), ceO_tab (q := (RX4, TX4, 6)) rfl kdL_4]
  rfl
set_option maxRecDepth 100000 in
theorem ceX_6 (cy : Nat → ClassId) (h0 q1 q2 q3 q4 q5 q6 q7 q8 q9 q10 q11 q12 q13 q14 q15 q16 q17 q18 q19 q20 q21 q22 q23 q24 q25 q26 q27 q28 q29 q30 q31 q32 q33 q34 q35 q36 q37 q38 q39 q40 q41 q42 q43 q44 q45 q46 q47 q48 q49 q50 q51 q52 q53 q54 q55 : Nat) (aK aV : Nat → Nat) : ceOf (adC (wsX0 cy h0 q1 q2 q3 q4 q5 q6 q7 q8 q9 q10 q11 q12 q13 q14 q15 q16 q17 q18 q19 q20 q21 q22 q23 q24 q25 q26 q27 q28 q29 q30 q31 q32 q33 q34 q35 q36 q37 q38 q39 q40 q41 q42 q43 q44 q45 q46 q47 q48 q49 q50 q51 q52 q53 q54 q55) plX aK aV) cy wdX hX0 6 = (((q30, .inr (1, [.ref q31, .ref q32, .ref q33, .ref q34])) : Nat × va_E)).2 := by
  rw [ceOf, if_pos (by decide), ceO_tab (q := (RX1, TX1, 4)) rfl kdL_1]
  rfl
set_option maxRecDepth 100000 in
theorem ceX_7 (cy : Nat → ClassId) (h0 q1 q2 q3 q4 q5 q6 q7 q8 q9 q10 q11 q12 q13 q14 q15 q16 q17 q18 q19 q20 q21 q22 q23 q24 q25 q26 q27 q28 q29 q30 q31 q32 q33 q34 q35 q36 q37 q38 q39 q40 q41 q42 q43 q44 q45 q46 q47 q48 q49 q50 q51 q52 q53 q54 q55 : Nat) (aK aV : Nat → Nat) : ceOf (adC (wsX0 cy h0 q1 q2 q3 q4 q5 q6 q7 q8 q9 q10 q11 q12 q13 q14 q15 q16 q17 q18 q19 q20 q21 q22 q23 q24 q25 q26 q27 q28 q29 q30 q31 q32 q33 q34 q35 q36 q37 q38 q39 q40 q41 q42 q43 q44 q45 q46 q47 q48 q49 q50 q51 q52 q53 q54 q55) plX aK aV) cy wdX hX0 7 = (((q35, .inr (10, [.int 0, .ref q36, .int 0, .ref q37, .ref q38, .int 0, .ref q39])) : Nat × va_E)).2 := by
  rw [ceOf, if_pos (by decide), ceO_tab (q := (RX10, TX10, 7)) rfl kdL_10]
  rfl
set_option maxRecDepth 100000 in
theorem ceX_8 (cy : Nat → ClassId) (h0 q1 q2 q3 q4 q5 q6 q7 q8 q9 q10 q11 q12 q13 q14 q15 q16 q17 q18 q19 q20 q21 q22 q23 q24 q25 q26 q27 q28 q29 q30 q31 q32 q33 q34 q35 q36 q37 q38 q39 q40 q41 q42 q43 q44 q45 q46 q47 q48 q49 q50 q51 q52 q53 q54 q55 : Nat) (aK aV : Nat → Nat) : ceOf (adC (wsX0 cy h0 q1 q2 q3 q4 q5 q6 q7 q8 q9 q10 q11 q12 q13 q14 q15 q16 q17 q18 q19 q20 q21 q22 q23 q24 q25 q26 q27 q28 q29 q30 q31 q32 q33 q34 q35 q36 q37 q38 q39 q40 q41 q42 q43 q44 q45 q46 q47 q48 q49 q50 q51 q52 q53 q54 q55) plX aK aV) cy wdX hX0 8 = (((q40, .inr (3, [.int 0, .int 0, .int 0, .int 0, .int 0])) : Nat × va_E)).2 := by
  rw [ceOf, if_pos (by decide), ceO_tab (q := (RX3, TX3, 5)) rfl kdL_3]
  rfl
set_option maxRecDepth 100000 in
theorem ceX_9 (cy : Nat → ClassId) (h0 q1 q2 q3 q4 q5 q6 q7 q8 q9 q10 q11 q12 q13 q14 q15 q16 q17 q18 q19 q20 q21 q22 q23 q24 q25 q26 q27 q28 q29 q30 q31 q32 q33 q34 q35 q36 q37 q38 q39 q40 q41 q42 q43 q44 q45 q46 q47 q48 q49 q50 q51 q52 q53 q54 q55 : Nat) (aK aV : Nat → Nat) : ceOf (adC (wsX0 cy h0 q1 q2 q3 q4 q5 q6 q7 q8 q9 q10 q11 q12 q13 q14 q15 q16 q17 q18 q19 q20 q21 q22 q23 q24 q25 q26 q27 q28 q29 q30 q31 q32 q33 q34 q35 q36 q37 q38 q39 q40 q41 q42 q43 q44 q45 q46 q47 q48 q49 q50 q51 q52 q53 q54 q55) plX aK aV) cy wdX hX0 9 = (((q41, .inr (9, [.int 0, .ref q42])) : Nat × va_E)).2 := by
  rw [ceOf, if_pos (by decide), ceO_tab (q := (RX9, TX9, 2)) rfl kdL_9]
  rfl
set_option maxRecDepth 100000 in
theorem ceX_10 (cy : Nat → ClassId) (h0 q1 q2 q3 q4 q5 q6 q7 q8 q9 q10 q11 q12 q13 q14 q15 q16 q17 q18 q19 q20 q21 q22 q23 q24 q25 q26 q27 q28 q29 q30 q31 q32 q33 q34 q35 q36 q37 q38 q39 q40 q41 q42 q43 q44 q45 q46 q47 q48 q49 q50 q51 q52 q53 q54 q55 : Nat) (aK aV : Nat → Nat) : ceOf (adC (wsX0 cy h0 q1 q2 q3 q4 q5 q6 q7 q8 q9 q10 q11 q12 q13 q14 q15 q16 q17 q18 q19 q20 q21 q22 q23 q24 q25 q26 q27 q28 q29 q30 q31 q32 q33 q34 q35 q36 q37 q38 q39 q40 q41 q42 q43 q44 q45 q46 q47 q48 q49 q50 q51 q52 q53 q54 q55) plX aK aV) cy wdX hX0 10 = (((q55, .inr (7, [.int 0, .int 0, .ref q41, .ref q49])) : Nat × va_E)).2 := by
  rw [ceOf, if_pos (by decide), ceO_tab (q := (RX7, TX7, 4)) rfl kdL_7]
  rfl
set_option maxRecDepth 100000 in
theorem ceX_11 (cy : Nat → ClassId) (h0 q1 q2 q3 q4 q5 q6 q7 q8 q9 q10 q11 q12 q13 q14 q15 q16 q17 q18 q19 q20 q21 q22 q23 q24 q25 q26 q27 q28 q29 q30 q31 q32 q33 q34 q35 q36 q37 q38 q39 q40 q41 q42 q43 q44 q45 q46 q47 q48 q49 q50 q51 q52 q53 q54 q55 : Nat) (aK aV : Nat → Nat) : ceOf (adC (wsX0 cy h0 q1 q2 q3 q4 q5 q6 q7 q8 q9 q10 q11 q12 q13 q14 q15 q16 q17 q18 q19 q20 q21 q22 q23 q24 q25 q26 q27 q28 q29 q30 q31 q32 q33 q34 q35 q36 q37 q38 q39 q40 q41 q42 q43 q44 q45 q46 q47 q48 q49 q50 q51 q52 q53 q54 q55) plX aK aV) cy wdX hX0 11 = (((q43, .inr (6, [.int 0, .ref q44, .ref q45, .ref q46, .ref q47, .int 0, .ref q48, .int 0])) : Nat × va_E)).2 := by
  rw [ceOf, if_pos (by decide), ceO_tab (q := (RX6, TX6, 8)) rfl kdL_6]
  rfl
set_option maxRecDepth 100000 in
theorem ceX_12 (cy : Nat → ClassId) (h0 q1 q2 q3 q4 q5 q6 q7 q8 q9 q10 q11 q12 q13 q14 q15 q16 q17 q18 q19 q20 q21 q22 q23 q24 q25 q26 q27 q28 q29 q30 q31 q32 q33 q34 q35 q36 q37 q38 q39 q40 q41 q42 q43 q44 q45 q46 q47 q48 q49 q50 q51 q52 q53 q54 q55 : Nat) (aK aV : Nat → Nat) : ceOf (adC (wsX0 cy h0 q1 q2 q3 q4 q5 q6 q7 q8 q9 q10 q11 q12 q13 q14 q15 q16 q17 q18 q19 q20 q21 q22 q23 q24 q25 q26 q27 q28 q29 q30 q31 q32 q33 q34 q35 q36 q37 q38 q39 q40 q41 q42 q43 q44 q45 q46 q47 q48 q49 q50 q51 q52 q53 q54 q55) plX aK aV) cy wdX hX0 12 = (((q49, .inr (6, [.int 0, .ref q50, .ref q51, .ref q52, .ref q53, .int 0, .ref q54, .int 0])) : Nat × va_E)).2 := by
  rw [ceOf, if_pos (by decide), ceO_tab (q := (RX6, TX6, 8)) rfl kdL_6]
  rfl
set_option maxHeartbeats 4000000 in
set_option maxRecDepth 100000 in
theorem ceX (cy : Nat → ClassId) (h0 q1 q2 q3 q4 q5 q6 q7 q8 q9 q10 q11 q12 q13 q14 q15 q16 q17 q18 q19 q20 q21 q22 q23 q24 q25 q26 q27 q28 q29 q30 q31 q32 q33 q34 q35 q36 q37 q38 q39 q40 q41 q42 q43 q44 q45 q46 q47 q48 q49 q50 q51 q52 q53 q54 q55 : Nat) (aK aV : Nat → Nat) : ∀ o, o < 56 → ceOf (adC (wsX0 cy h0 q1 q2 q3 q4 q5 q6 q7 q8 q9 q10 q11 q12 q13 q14 q15 q16 q17 q18 q19 q20 q21 q22 q23 q24 q25 q26 q27 q28 q29 q30 q31 q32 q33 q34 q35 q36 q37 q38 q39 q40 q41 q42 q43 q44 q45 q46 q47 q48 q49 q50 q51 q52 q53 q54 q55) plX aK aV) cy wdX hX0 o = ((wsX0 cy h0 q1 q2 q3 q4 q5 q6 q7 q8 q9 q10 q11 q12 q13 q14 q15 q16 q17 q18 q19 q20 q21 q22 q23 q24 q25 q26 q27 q28 q29 q30 q31 q32 q33 q34 q35 q36 q37 q38 q39 q40 q41 q42 q43 q44 q45 q46 q47 q48 q49 q50 q51 q52 q53 q54 q55).getD (plX o) (0, .inr (0, []))).2 := by
  intro o ho
  match o, ho with
  | 0, _ => exact ceX_0 cy h0 q1 q2 q3 q4 q5 q6 q7 q8 q9 q10 q11 q12 q13 q14 q15 q16 q17 q18 q19 q20 q21 q22 q23 q24 q25 q26 q27 q28 q29 q30 q31 q32 q33 q34 q35 q36 q37 q38 q39 q40 q41 q42 q43 q44 q45 q46 q47 q48 q49 q50 q51 q52 q53 q54 q55 aK aV
  | 1, _ => exact ceX_1 cy h0 q1 q2 q3 q4 q5 q6 q7 q8 q9 q10 q11 q12 q13 q14 q15 q16 q17 q18 q19 q20 q21 q22 q23 q24 q25 q26 q27 q28 q29 q30 q31 q32 q33 q34 q35 q36 q37 q38 q39 q40 q41 q42 q43 q44 q45 q46 q47 q48 q49 q50 q51 q52 q53 q54 q55 aK aV
  | 2, _ => exact ceX_2 cy h0 q1 q2 q3 q4 q5 q6 q7 q8 q9 q10 q11 q12 q13 q14 q15 q16 q17 q18 q19 q20 q21 q22 q23 q24 q25 q26 q27 q28 q29 q30 q31 q32 q33 q34 q35 q36 q37 q38 q39 q40 q41 q42 q43 q44 q45 q46 q47 q48 q49 q50 q51 q52 q53 q54 q55 aK aV
  | 3, _ => exact ceX_3 cy h0 q1 q2 q3 q4 q5 q6 q7 q8 q9 q10 q11 q12 q13 q14 q15 q16 q17 q18 q19 q20 q21 q22 q23 q24 q25 q26 q27 q28 q29 q30 q31 q32 q33 q34 q35 q36 q37 q38 q39 q40 q41 q42 q43 q44 q45 q46 q47 q48 q49 q50 q51 q52 q53 q54 q55 aK aV
  | 4, _ => exact ceX_4 cy h0 q1 q2 q3 q4 q5 q6 q7 q8 q9 q10 q11 q12 q13 q14 q15 q16 q17 q18 q19 q20 q21 q22 q23 q24 q25 q26 q27 q28 q29 q30 q31 q32 q33 q34 q35 q36 q37 q38 q39 q40 q41 q42 q43 q44 q45 q46 q47 q48 q49 q50 q51 q52 q53 q54 q55 aK aV
  | 5, _ => exact ceX_5 cy h0 q1 q2 q3 q4 q5 q6 q7 q8 q9 q10 q11 q12 q13 q14 q15 q16 q17 q18 q19 q20 q21 q22 q23 q24 q25 q26 q27 q28 q29 q30 q31 q32 q33 q34 q35 q36 q37 q38 q39 q40 q41 q42 q43 q44 q45 q46 q47 q48 q49 q50 q51 q52 q53 q54 q55 aK aV
  | 6, _ => exact ceX_6 cy h0 q1 q2 q3 q4 q5 q6 q7 q8 q9 q10 q11 q12 q13 q14 q15 q16 q17 q18 q19 q20 q21 q22 q23 q24 q25 q26 q27 q28 q29 q30 q31 q32 q33 q34 q35 q36 q37 q38 q39 q40 q41 q42 q43 q44 q45 q46 q47 q48 q49 q50 q51 q52 q53 q54 q55 aK aV
  | 7, _ => exact ceX_7 cy h0 q1 q2 q3 q4 q5 q6 q7 q8 q9 q10 q11 q12 q13 q14 q15 q16 q17 q18 q19 q20 q21 q22 q23 q24 q25 q26 q27 q28 q29 q30 q31 q32 q33 q34 q35 q36 q37 q38 q39 q40 q41 q42 q43 q44 q45 q46 q47 q48 q49 q50 q51 q52 q53 q54 q55 aK aV
  | 8, _ => exact ceX_8 cy h0 q1 q2 q3 q4 q5 q6 q7 q8 q9 q10 q11 q12 q13 q14 q15 q16 q17 q18 q19 q20 q21 q22 q23 q24 q25 q26 q27 q28 q29 q30 q31 q32 q33 q34 q35 q36 q37 q38 q39 q40 q41 q42 q43 q44 q45 q46 q47 q48 q49 q50 q51 q52 q53 q54 q55 aK aV
  | 9, _ => exact ceX_9 cy h0 q1 q2 q3 q4 q5 q6 q7 q8 q9 q10 q11 q12 q13 q14 q15 q16 q17 q18 q19 q20 q21 q22 q23 q24 q25 q26 q27 q28 q29 q30 q31 q32 q33 q34 q35 q36 q37 q38 q39 q40 q41 q42 q43 q44 q45 q46 q47 q48 q49 q50 q51 q52 q53 q54 q55 aK aV
  | 10, _ => exact ceX_10 cy h0 q1 q2 q3 q4 q5 q6 q7 q8 q9 q10 q11 q12 q13 q14 q15 q16 q17 q18 q19 q20 q21 q22 q23 q24 q25 q26 q27 q28 q29 q30 q31 q32 q33 q34 q35 q36 q37 q38 q39 q40 q41 q42 q43 q44 q45 q46 q47 q48 q49 q50 q51 q52 q53 q54 q55 aK aV
  | 11, _ => exact ceX_11 cy h0 q1 q2 q3 q4 q5 q6 q7 q8 q9 q10 q11 q12 q13 q14 q15 q16 q17 q18 q19 q20 q21 q22 q23 q24 q25 q26 q27 q28 q29 q30 q31 q32 q33 q34 q35 q36 q37 q38 q39 q40 q41 q42 q43 q44 q45 q46 q47 q48 q49 q50 q51 q52 q53 q54 q55 aK aV
  | 12, _ => exact ceX_12 cy h0 q1 q2 q3 q4 q5 q6 q7 q8 q9 q10 q11 q12 q13 q14 q15 q16 q17 q18 q19 q20 q21 q22 q23 q24 q25 q26 q27 q28 q29 q30 q31 q32 q33 q34 q35 q36 q37 q38 q39 q40 q41 q42 q43 q44 q45 q46 q47 q48 q49 q50 q51 q52 q53 q54 q55 aK aV
  | 13, _ => exact rfl
  | 14, _ => exact rfl
  | 15, _ => exact rfl
  | 16, _ => exact rfl
  | 17, _ => exact rfl
  | 18, _ => exact rfl
  | 19, _ => exact rfl
  | 20, _ => exact rfl
  | 21, _ => exact rfl
  | 22, _ => exact rfl
  | 23, _ => exact rfl
  | 24, _ => exact rfl
  | 25, _ => exact rfl
  | 26, _ => exact rfl
  | 27, _ => exact rfl
  | 28, _ => exact rfl
  | 29, _ => exact rfl
  | 30, _ => exact rfl
  | 31, _ => exact rfl
  | 32, _ => exact rfl
  | 33, _ => exact rfl
  | 34, _ => exact rfl
  | 35, _ => exact rfl
  | 36, _ => exact rfl
  | 37, _ => exact rfl
  | 38, _ => exact rfl
  | 39, _ => exact rfl
  | 40, _ => exact rfl
  | 41, _ => exact rfl
  | 42, _ => exact rfl
  | 43, _ => exact rfl
  | 44, _ => exact rfl
  | 45, _ => exact rfl
  | 46, _ => exact rfl
  | 47, _ => exact rfl
  | 48, _ => exact rfl
  | 49, _ => exact rfl
  | 50, _ => exact rfl
  | 51, _ => exact rfl
  | 52, _ => exact rfl
  | 53, _ => exact rfl
  | 54, _ => exact rfl
  | 55, _ => exact rfl
  | k + 56, ho => exact absurd ho (by omega)
set_option maxHeartbeats 4000000 in
set_option maxRecDepth 100000 in
theorem glueX {D : va_G} {H : Heap} {A : Nat → Prop} (cy : Nat → ClassId) (h0 q1 q2 q3 q4 q5 q6 q7 q8 q9 q10 q11 q12 q13 q14 q15 q16 q17 q18 q19 q20 q21 q22 q23 q24 q25 q26 q27 q28 q29 q30 q31 q32 q33 q34 q35 q36 q37 q38 q39 q40 q41 q42 q43 q44 q45 q46 q47 q48 q49 q50 q51 q52 q53 q54 q55 : Nat) (aK aV : Nat → Nat) (hP : va_P D vwCl (wsX0 cy h0 q1 q2 q3 q4 q5 q6 q7 q8 q9 q10 q11 q12 q13 q14 q15 q16 q17 q18 q19 q20 q21 q22 q23 q24 q25 q26 q27 q28 q29 q30 q31 q32 q33 q34 q35 q36 q37 q38 q39 q40 q41 q42 q43 q44 q45 q46 q47 q48 q49 q50 q51 q52 q53 q54 q55) H) (hD : va_D A (wsX0 cy h0 q1 q2 q3 q4 q5 q6 q7 q8 q9 q10 q11 q12 q13 q14 q15 q16 q17 q18 q19 q20 q21 q22 q23 q24 q25 q26 q27 q28 q29 q30 q31 q32 q33 q34 q35 q36 q37 q38 q39 q40 q41 q42 q43 q44 q45 q46 q47 q48 q49 q50 q51 q52 q53 q54 q55)) : ∃ ad : Nat → Nat, (∀ i, i < 17 → ad (1000 + i) = aK i ∧ ad (2000 + i) = aV i) ∧ ad 0 = h0 ∧ va_P D vwCl (wsOf ad cy wdX hX0) H ∧ adOk ad wdX ∧ ∀ q, inA ad wdX q → A q := by
  refine ⟨adC (wsX0 cy h0 q1 q2 q3 q4 q5 q6 q7 q8 q9 q10 q11 q12 q13 q14 q15 q16 q17 q18 q19 q20 q21 q22 q23 q24 q25 q26 q27 q28 q29 q30 q31 q32 q33 q34 q35 q36 q37 q38 q39 q40 q41 q42 q43 q44 q45 q46 q47 q48 q49 q50 q51 q52 q53 q54 q55) plX aK aV, fun i hi => ⟨adC_K hi, adC_V hi⟩, rfl, ?_⟩
  exact glue (w := wdX) (by decide) (by decide) (fun o ho => (plX_lt o ho : plX o < 56)) (fun i hi j hj e => plX_inj i hi j hj e) (fun o ho => ceX cy h0 q1 q2 q3 q4 q5 q6 q7 q8 q9 q10 q11 q12 q13 q14 q15 q16 q17 q18 q19 q20 q21 q22 q23 q24 q25 q26 q27 q28 q29 q30 q31 q32 q33 q34 q35 q36 q37 q38 q39 q40 q41 q42 q43 q44 q45 q46 q47 q48 q49 q50 q51 q52 q53 q54 q55 aK aV o ho) hP hD
def plM (o : Nat) : Nat := [0, 1, 2, 3, 4, 5, 6, 7, 8, 9, 10, 11, 12, 13, 14, 15, 16, 17, 18, 19, 20, 21, 22, 23, 24, 25, 26, 27, 28, 29, 30, 31, 32, 33, 34].getD o 0
theorem plM_lt : ∀ o, o < 35 → plM o < 35 := by decide +kernel
theorem plM_inj : ∀ i, i < 35 → ∀ j, j < 35 → plM i = plM j → i = j := by decide +kernel
def hM0 : HpT := sI (sI (fun _ _ => 0, fun _ _ => 0, fun _ _ => 0, fun _ _ => 0) 0 8 7) 0 55 (-1)
abbrev wsM0 (cy : Nat → ClassId) (h0 q1 q2 q3 q4 q5 q6 q7 q8 q9 q10 q11 q12 q13 q14 q15 q16 q17 q18 q19 q20 q21 q22 q23 q24 q25 q26 q27 q28 q29 q30 q31 q32 q33 q34 : Nat) : va_W := [(h0, .inr (12, [.int 0, .int 0, .int 0, .ref q1, .int 0, .int 0, .ref q2, .ref q3, .int 7, .int 0, .ref q4, .ref q5, .ref q6, .ref q7, .ref q8, .int 0, .ref q9, .ref q10, .ref q11, .ref q12, .ref q13, .ref q14, .ref q15, .ref q16, .ref q17, .ref q18, .int 0, .ref q19, .ref q20, .ref q21, .ref q22, .int 0, .ref q23, .int 0, .ref q24, .ref q25, .ref q26, .int 0, .int 0, .ref q27, .ref q28, .ref q29, .int 0, .int 0, .ref q30, .ref q31, .ref q32, .ref q33, .int 0, .ref q34, .int 0, .int 0, .int 0, .int 0, .long 0, .int (-1), .int 0])), (q1, .inl (cy 1, 14, .inl (fun _ => 0))), (q2, .inl (cy 0, 60, .inl (fun _ => 0))), (q3, .inl (cy 0, 60, .inl (fun _ => 0))), (q4, .inl (cy 0, 8, .inl (fun _ => 0))), (q5, .inl (cy 0, 8, .inl (fun _ => 0))), (q6, .inl (cy 0, 56, .inl (fun _ => 0))), (q7, .inl (cy 0, 56, .inl (fun _ => 0))), (q8, .inl (cy 0, 112, .inl (fun _ => 0))), (q9, .inl (cy 0, 400, .inl (fun _ => 0))), (q10, .inl (cy 0, 400, .inl (fun _ => 0))), (q11, .inl (cy 0, 400, .inl (fun _ => 0))), (q12, .inl (cy 0, 400, .inl (fun _ => 0))), (q13, .inl (cy 0, 400, .inl (fun _ => 0))), (q14, .inl (cy 0, 14, .inl (fun _ => 0))), (q15, .inl (cy 0, 14, .inl (fun _ => 0))), (q16, .inl (cy 0, 14, .inl (fun _ => 0))), (q17, .inl (cy 0, 14, .inl (fun _ => 0))), (q18, .inl (cy 0, 14, .inl (fun _ => 0))), (q19, .inl (cy 0, 16384, .inl (fun _ => 0))), (q20, .inl (cy 0, 14, .inl (fun _ => 0))), (q21, .inl (cy 0, 196, .inl (fun _ => 0))), (q22, .inl (cy 1, 20, .inl (fun _ => 0))), (q23, .inl (cy 0, 10, .inl (fun _ => 0))), (q24, .inl (cy 0, 40, .inl (fun _ => 0))), (q25, .inl (cy 0, 40, .inl (fun _ => 0))), (q26, .inl (cy 0, 320, .inl (fun _ => 0))), (q27, .inl (cy 0, 20, .inl (fun _ => 0))), (q28, .inl (cy 0, 21, .inl (fun _ => 0))), (q29, .inl (cy 0, 400, .inl (fun _ => 0))), (q30, .inl (cy 0, 20, .inl (fun _ => 0))), (q31, .inl (cy 0, 21, .inl (fun _ => 0))), (q32, .inl (cy 0, 400, .inl (fun _ => 0))), (q33, .inl (cy 0, 400, .inl (fun _ => 0))), (q34, .inl (cy 0, 400, .inl (fun _ => 0)))]
set_option maxRecDepth 100000 in
theorem ceM_0 (cy : Nat → ClassId) (h0 q1 q2 q3 q4 q5 q6 q7 q8 q9 q10 q11 q12 q13 q14 q15 q16 q17 q18 q19 q20 q21 q22 q23 q24 q25 q26 q27 q28 q29 q30 q31 q32 q33 q34 : Nat) (aK aV : Nat → Nat) : ceOf (adC (wsM0 cy h0 q1 q2 q3 q4 q5 q6 q7 q8 q9 q10 q11 q12 q13 q14 q15 q16 q17 q18 q19 q20 q21 q22 q23 q24 q25 q26 q27 q28 q29 q30 q31 q32 q33 q34) plM aK aV) cy wdM hM0 0 = (((h0, .inr (12, [.int 0, .int 0, .int 0, .ref q1, .int 0, .int 0, .ref q2, .ref q3, .int 7, .int 0, .ref q4, .ref q5, .ref q6, .ref q7, .ref q8, .int 0, .ref q9, .ref q10, .ref q11, .ref q12, .ref q13, .ref q14, .ref q15, .ref q16, .ref q17, .ref q18, .int 0, .ref q19, .ref q20, .ref q21, .ref q22, .int 0, .ref q23, .int 0, .ref q24, .ref q25, .ref q26, .int 0, .int 0, .ref q27, .ref q28, .ref q29, .int 0, .int 0, .ref q30, .ref q31, .ref q32, .ref q33, .int 0, .ref q34, .int 0, .int 0, .int 0, .int 0, .long 0, .int (-1), .int 0])) : Nat × va_E)).2 := by
  rw [ceOf, if_pos (by decide), ceO_tab (q := (RX12, TX12, 57)) rfl kdL_12]
  rfl
set_option maxHeartbeats 4000000 in
set_option maxRecDepth 100000 in
theorem ceM (cy : Nat → ClassId) (h0 q1 q2 q3 q4 q5 q6 q7 q8 q9 q10 q11 q12 q13 q14 q15 q16 q17 q18 q19 q20 q21 q22 q23 q24 q25 q26 q27 q28 q29 q30 q31 q32 q33 q34 : Nat) (aK aV : Nat → Nat) : ∀ o, o < 35 → ceOf (adC (wsM0 cy h0 q1 q2 q3 q4 q5 q6 q7 q8 q9 q10 q11 q12 q13 q14 q15 q16 q17 q18 q19 q20 q21 q22 q23 q24 q25 q26 q27 q28 q29 q30 q31 q32 q33 q34) plM aK aV) cy wdM hM0 o = ((wsM0 cy h0 q1 q2 q3 q4 q5 q6 q7 q8 q9 q10 q11 q12 q13 q14 q15 q16 q17 q18 q19 q20 q21 q22 q23 q24 q25 q26 q27 q28 q29 q30 q31 q32 q33 q34).getD (plM o) (0, .inr (0, []))).2 := by
  intro o ho
  match o, ho with
  | 0, _ => exact ceM_0 cy h0 q1 q2 q3 q4 q5 q6 q7 q8 q9 q10 q11 q12 q13 q14 q15 q16 q17 q18 q19 q20 q21 q22 q23 q24 q25 q26 q27 q28 q29 q30 q31 q32 q33 q34 aK aV
  | 1, _ => exact rfl
  | 2, _ => exact rfl
  | 3, _ => exact rfl
  | 4, _ => exact rfl
  | 5, _ => exact rfl
  | 6, _ => exact rfl
  | 7, _ => exact rfl
  | 8, _ => exact rfl
  | 9, _ => exact rfl
  | 10, _ => exact rfl
  | 11, _ => exact rfl
  | 12, _ => exact rfl
  | 13, _ => exact rfl
  | 14, _ => exact rfl
  | 15, _ => exact rfl
  | 16, _ => exact rfl
  | 17, _ => exact rfl
  | 18, _ => exact rfl
  | 19, _ => exact rfl
  | 20, _ => exact rfl
  | 21, _ => exact rfl
  | 22, _ => exact rfl
  | 23, _ => exact rfl
  | 24, _ => exact rfl
  | 25, _ => exact rfl
  | 26, _ => exact rfl
  | 27, _ => exact rfl
  | 28, _ => exact rfl
  | 29, _ => exact rfl
  | 30, _ => exact rfl
  | 31, _ => exact rfl
  | 32, _ => exact rfl
  | 33, _ => exact rfl
  | 34, _ => exact rfl
  | k + 35, ho => exact absurd ho (by omega)
set_option maxHeartbeats 4000000 in
set_option maxRecDepth 100000 in
theorem glueM {D : va_G} {H : Heap} {A : Nat → Prop} (cy : Nat → ClassId) (h0 q1 q2 q3 q4 q5 q6 q7 q8 q9 q10 q11 q12 q13 q14 q15 q16 q17 q18 q19 q20 q21 q22 q23 q24 q25 q26 q27 q28 q29 q30 q31 q32 q33 q34 : Nat) (aK aV : Nat → Nat) (hP : va_P D vwCl (wsM0 cy h0 q1 q2 q3 q4 q5 q6 q7 q8 q9 q10 q11 q12 q13 q14 q15 q16 q17 q18 q19 q20 q21 q22 q23 q24 q25 q26 q27 q28 q29 q30 q31 q32 q33 q34) H) (hD : va_D A (wsM0 cy h0 q1 q2 q3 q4 q5 q6 q7 q8 q9 q10 q11 q12 q13 q14 q15 q16 q17 q18 q19 q20 q21 q22 q23 q24 q25 q26 q27 q28 q29 q30 q31 q32 q33 q34)) : ∃ ad : Nat → Nat, (∀ i, i < 17 → ad (1000 + i) = aK i ∧ ad (2000 + i) = aV i) ∧ ad 0 = h0 ∧ va_P D vwCl (wsOf ad cy wdM hM0) H ∧ adOk ad wdM ∧ ∀ q, inA ad wdM q → A q := by
  refine ⟨adC (wsM0 cy h0 q1 q2 q3 q4 q5 q6 q7 q8 q9 q10 q11 q12 q13 q14 q15 q16 q17 q18 q19 q20 q21 q22 q23 q24 q25 q26 q27 q28 q29 q30 q31 q32 q33 q34) plM aK aV, fun i hi => ⟨adC_K hi, adC_V hi⟩, rfl, ?_⟩
  exact glue (w := wdM) (by decide) (by decide) (fun o ho => (plM_lt o ho : plM o < 35)) (fun i hi j hj e => plM_inj i hi j hj e) (fun o ho => ceM cy h0 q1 q2 q3 q4 q5 q6 q7 q8 q9 q10 q11 q12 q13 q14 q15 q16 q17 q18 q19 q20 q21 q22 q23 q24 q25 q26 q27 q28 q29 q30 q31 q32 q33 q34 aK aV o ho) hP hD
