/-! the numbered cells on the kit's heap, and what a contract and a place in the code say -/
def tv (ad : Nat → Nat) : Value → Value
  | .ref o => .ref (ad o)
  | v => v
def kdT (q : String × String × String × Bool) : Nat := if q.2.2.1 = "I" then 0 else if q.2.2.1 = "Z" then 4 else if q.2.2.1 = "J" then 1 else if q.2.2.2 then 3 else 2
def ceO (ad : Nat → Nat) (w : WdT) (h : HpT) (o : Nat) : List Value := match vwCl[wOc w o]? with
  | some q => (List.range q.2.2).map (fun k => tv ad (gfv w h o k (kdT (q.2.1 k))))
  | none => []
def ceOf (ad : Nat → Nat) (cy : Nat → ClassId) (w : WdT) (h : HpT) (o : Nat) : va_E := if o < w.1 then .inr (wOc w o, ceO ad w h o) else .inl (cy (wTy w o), wLn w o, .inl (hA h o))
def wsOf (ad : Nat → Nat) (cy : Nat → ClassId) (w : WdT) (h : HpT) : va_W := (List.range w.2.1).map (fun o => (ad o, ceOf ad cy w h o))
/-- a word of the tables by its place: the list's number times 1000, and the place in it -/
def lk (b : Nat) : Option Cond := match b / 1000 with
  | 0 => (k2_sels lw_privs)[b % 1000]?
  | 1 => tables_1_1[b % 1000]?
  | 2 => tables_1_2[b % 1000]?
  | 3 => tables_1_3[b % 1000]?
  | 4 => tables_1_4[b % 1000]?
  | 5 => tables_1_5[b % 1000]?
  | 6 => tables_1_6[b % 1000]?
  | _ => none
theorem lk_mem {b : Nat} {w : Cond} (h : lk b = some w) : w ∈ lw_tbl := by
  unfold lk at h
  unfold lw_tbl tables_1
  simp only [List.mem_append]
  split at h
  · exact Or.inl (List.mem_of_getElem? h)
  · exact Or.inr (Or.inl (List.mem_of_getElem? h))
  · exact Or.inr (Or.inr (Or.inl (List.mem_of_getElem? h)))
  · exact Or.inr (Or.inr (Or.inr (Or.inl (List.mem_of_getElem? h))))
  · exact Or.inr (Or.inr (Or.inr (Or.inr (Or.inl (List.mem_of_getElem? h)))))
  · exact Or.inr (Or.inr (Or.inr (Or.inr (Or.inr (Or.inl (List.mem_of_getElem? h))))))
  · exact Or.inr (Or.inr (Or.inr (Or.inr (Or.inr (Or.inr (List.mem_of_getElem? h))))))
  · cases h
def GW : List Cond := lw_tbl.filter goodWord
def wsM (y : MtT) : List Cond := .code y.1 y.2.1 y.2.2.1 y.2.2.2.1 :: GW
def tysC (cy : Nat → ClassId) : List (ClassId × FieldType) := [(cy 0, .int), (cy 1, .boolean), (cy 2, .char)]
def inA (ad : Nat → Nat) (w : WdT) : Nat → Prop := fun q => ∃ o, o < w.2.1 ∧ q = ad o
def nestW : List (String × Nat × MethodName × String) := [(RX1, 48, yX11_hasBit, RX11), (RX7, 128, yX11_isFact, RX11)]
def strW : List (String × Nat × String) := [(RX7, 44, "sustain"), (RX7, 60, "leading"), (RX7, 62, "hearsay"), (RX7, 64, "stretch"), (RX7, 66, "relevance"), (RX7, 54, "if"), (RX7, 81, "not"), (RX7, 86, "("), (RX7, 99, ")"), (RX7, 91, "fact"), (RX7, 101, "cross"), (RX7, 103, "stated"), (RX7, 105, "implied"), (RX7, 107, "asked"), (RX7, 79, "and"), (RX7, 71, "or"), (RX7, 38, ";")]
def strB : List (List Int32) := [[115, 117, 115, 116, 97, 105, 110], [108, 101, 97, 100, 105, 110, 103], [104, 101, 97, 114, 115, 97, 121], [115, 116, 114, 101, 116, 99, 104], [114, 101, 108, 101, 118, 97, 110, 99, 101], [105, 102], [110, 111, 116], [40], [41], [102, 97, 99, 116], [99, 114, 111, 115, 115], [115, 116, 97, 116, 101, 100], [105, 109, 112, 108, 105, 101, 100], [97, 115, 107, 101, 100], [97, 110, 100], [111, 114], [59]]
def strN : List Nat := [7, 7, 7, 7, 9, 2, 3, 1, 1, 4, 5, 6, 7, 5, 3, 2, 1]
def ExP (ad : Nat → Nat) (A : Nat → Prop) (U : State) : Prop := (∀ q ∈ nestW, va_Nw (.methodLinkNest q.1 q.2.1 q.2.2.1 q.2.2.2) U) ∧ (∀ (i : Nat) (q : String × Nat × String), strW[i]? = some q → vk_R q.1 q.2.1 q.2.2 (ad (1000 + i)) U) ∧ vk_S 17 strN strB (fun i => ad (1000 + i)) (fun i => ad (2000 + i)) A U U.heap ∧ va_Z "java/lang/String" "COMPACT_STRINGS" "Z" (.int 1) A U U.heap ∧ va_Zq "jdk/internal/util/Preconditions" "SIOOBE_FORMATTER" "Ljava/util/function/BiFunction;" A U U.heap
def adOk (ad : Nat → Nat) (w : WdT) : Prop := w.1 ≤ w.2.1 ∧ ∀ i j, i < w.2.1 → j < w.2.1 → ad i = ad j → i = j
def QQ (D : va_G) (ad : Nat → Nat) (cy : Nat → ClassId) (w : WdT) (Q : Option Value → HpT → Prop) : Array Value → State → Outcome → State → Prop := fun _ st oc t => (∃ (r : Option Value) (h' : HpT), oc = .returned (r.map (tv ad)) ∧ Q r h' ∧ va_P D vwCl (wsOf ad cy w h') t.heap) ∧ va_F (inA ad w) st t
def rmm (d : Nat) : Room := { frames := d + 1, cells := 0, slots := 0, locals := 64 * (d + 1) }
/-- what the tables say of a method -/
def Mok (y : MtT) : Prop := (plainName y.1.cls = true ∧ y.2.2.1 ≤ 45) ∧ Cond.code y.1 y.2.1 y.2.2.1 y.2.2.2.1 ∈ lw_tbl ∧ Cond.initialized y.1.cls ∈ lw_tbl ∧ (y.1.cls ≠ "java/lang/invoke/MethodHandle" ∧ y.1.cls ≠ "java/lang/invoke/VarHandle") ∧ (parseMethodDescriptor y.1.desc).map (fun d => d.parameters.length) = some y.2.2.2.2.2 ∧ (if y.2.2.2.2.1 then Cond.static y.1 ∈ lw_tbl else Cond.instanceMethod y.1 ∈ lw_tbl ∧ Cond.selects y.1.cls y.1 y.1 ∈ lw_tbl)
def OKe (l : Launch) (D : va_G) (ad : Nat → Nat) (cy : Nat → ClassId) (w : WdT) (d : Nat) (y : MtT) (as : List Value) (h : HpT) (Q : Option Value → HpT → Prop) : Prop :=
  Mok y ∧ Met l y.1 (wsM y) (rmm d) (va_Pc (as.map (tv ad)) (fun U => va_P D vwCl (wsOf ad cy w h) U.heap ∧ va_K D vwCl (tysC cy) U ∧ ExP ad (inA ad w) U ∧ adOk ad w)) (QQ D ad cy w Q) 0 0 (inA ad w)
def CCe (l : Launch) (D : va_G) (ad : Nat → Nat) (cy : Nat → ClassId) (w : WdT) : Nat → MtT → List Value → HpT → (Option Value → HpT → Prop) → Prop
  | 0, _, _, _, _ => False
  | d + 1, y, as, h, Q => OKe l D ad cy w d y as h Q
def Bd (D : va_G) (ad : Nat → Nat) (cy : Nat → ClassId) (w : WdT) (y : MtT) (p : Program) (s : State) (m : MethodId) (args : Array Value) (meth : Method) (c : Code) : Prop := p.tables.exec = Jvm.exec ∧ c.code = y.2.1 ∧ meth.sig.returnType = y.2.2.2.1 ∧ c.maxLocals = y.2.2.1 ∧ s.vm.findClass y.1.cls = some m.cls ∧ (∀ v ∈ GW, v.before args s = true) ∧ meth.locks = false ∧ va_K D vwCl (tysC cy) s ∧ ExP ad (inA ad w) s ∧ adOk ad w
def Lr (ad : Nat → Nat) (n : Nat) (ls : Array Slot) (L : List Value) : Prop := L.length = n ∧ ls.size = n ∧ lv_wf ls ∧ ∀ (i : Nat) (v : Value), L[i]? = some v → v ≠ .null → ls[i]? = some (.val (tv ad v))
def AT (l : Launch) (D : va_G) (ad : Nat → Nat) (cy : Nat → ClassId) (w : WdT) (d : Nat) (y : MtT) (Q : Option Value → HpT → Prop) (pc : Nat) (L S : List Value) (h : HpT) : Prop :=
  ∀ (p : Program) (e : Env) (s : State) (m : MethodId) (args : Array Value) (below : List Frame) (meth : Method) (c : Code) (H : Heap) (locs : List Loc) (ls : Array Slot), Bd D ad cy w y p s m args meth c → va_P D vwCl (wsOf ad cy w h) H → va_S (inA ad w) s.heap H locs → Lr ad y.2.2.1 ls L → W p l e (rmm d) s m args below meth c H locs 0 0 (MQ below (QQ D ad cy w Q) args s 0 0 (inA ad w)) (F0 m pc ls (S.map (tv ad)))
/-! locals -/
theorem nth_get : ∀ (L : List Value) (i : Nat) (v : Value), nth L i = v → v ≠ .null → L[i]? = some v
  | [], i, v, h, hn => absurd h.symm hn
  | u :: L, 0, v, h, hn => by rw [← h]; rfl
  | u :: L, i + 1, v, h, hn => by rw [List.getElem?_cons_succ]; exact nth_get L i v h hn
theorem setn_len : ∀ (L : List Value) (i : Nat) (v : Value), (setn L i v).length = L.length
  | [], i, v => rfl
  | u :: L, 0, v => rfl
  | u :: L, i + 1, v => by show (setn L i v).length + 1 = L.length + 1; rw [setn_len L i v]
theorem setn_get : ∀ (L : List Value) (i : Nat) (v : Value) (j : Nat), (setn L i v)[j]? = if j = i ∧ j < L.length then some v else L[j]?
  | [], i, v, j => by simp [setn]
  | u :: L, 0, v, 0 => by simp [setn]
  | u :: L, 0, v, j + 1 => by simp [setn]
  | u :: L, i + 1, v, 0 => by simp [setn]
  | u :: L, i + 1, v, j + 1 => by
    show (u :: setn L i v)[j + 1]? = _
    rw [List.getElem?_cons_succ, setn_get L i v j, List.getElem?_cons_succ]
    simp
theorem okst_no : ∀ (L : List Value) (i : Nat), okst L i → ∀ (j : Nat) (v : Value), j + 1 = i → L[j]? = some v → ¬ v.category = 2
  | [], i, h, j, v, e, g => by simp at g
  | u :: L, 0, h, j, v, e, g => by omega
  | u :: L, 1, h, j, v, e, g => by
    have : j = 0 := by omega
    subst this
    simp at g
    subst g
    intro hc
    cases u <;> first | exact h | cases hc
  | u :: L, i + 2, h, j, v, e, g => by
    have e2 : j = i + 1 := by omega
    subst e2
    rw [List.getElem?_cons_succ] at g
    have h' : okst L (i + 1) := by
      cases u <;> exact h
    exact okst_no L (i + 1) h' i v rfl g
theorem tv_nn {ad : Nat → Nat} {v : Value} (h : v ≠ .null) : tv ad v ≠ .null := by
  cases v <;> simp_all [tv]
theorem tv_cat {ad : Nat → Nat} (v : Value) : (tv ad v).category = v.category := by
  cases v <;> rfl
def lvp1 (ad : Nat → Nat) (i : Nat) : Option Value → Option (Nat × Value)
  | some .null => none
  | some v => some (i, tv ad v)
  | none => none
def lvp (ad : Nat → Nat) (L : List Value) : List (Nat × Value) := (List.range L.length).filterMap (fun i => lvp1 ad i L[i]?)
theorem lvp1_some {ad : Nat → Nat} {i : Nat} {v : Value} (hv : v ≠ .null) : lvp1 ad i (some v) = some (i, tv ad v) := by
  cases v <;> first | rfl | exact absurd rfl hv
theorem Lr_has {ad : Nat → Nat} {n : Nat} {ls : Array Slot} {L : List Value} (h : Lr ad n ls L) : lv_has ls n (lvp ad L) := by
  refine ⟨h.2.1, h.2.2.1, fun q hq => ?_⟩
  obtain ⟨i, hi, e⟩ := List.mem_filterMap.mp hq
  cases g : L[i]? with
  | none => rw [g] at e; cases e
  | some v =>
    rw [g] at e
    have hv : v ≠ .null := by rintro rfl; cases e
    rw [lvp1_some hv] at e
    cases e
    exact h.2.2.2 i v g hv
theorem Lr_mem {ad : Nat → Nat} {L : List Value} {i : Nat} {v : Value} (g : L[i]? = some v) (hv : v ≠ .null) : (i, tv ad v) ∈ lvp ad L := by
  refine List.mem_filterMap.mpr ⟨i, List.mem_range.mpr (List.getElem?_eq_some_iff.mp g).1, ?_⟩
  rw [g]
  exact lvp1_some hv
/-- a store of a value of one word -/
theorem Lr_st1 {ad : Nat → Nat} {n : Nat} {ls ls' : Array Slot} {L : List Value} {i : Nat} {v : Value} (h : Lr ad n ls L) (hi : i < n) (ho : okst L i)
    (h' : lv_has ls' n ((i, tv ad v) :: (lvp ad L).filter (fun q => !(q.1 == i) && !(q.1 + 1 == i && q.2.category == 2)))) : Lr ad n ls' (setn L i v) := by
  refine ⟨by rw [setn_len]; exact h.1, h'.1, h'.2.1, fun j u hu hn => ?_⟩
  rw [setn_get] at hu
  by_cases hj : j = i
  · subst hj
    rw [if_pos ⟨rfl, by rw [h.1]; exact hi⟩] at hu
    cases hu
    exact h'.2.2 (j, tv ad v) List.mem_cons_self
  · rw [if_neg (fun z => hj z.1)] at hu
    refine h'.2.2 (j, tv ad u) (List.mem_cons_of_mem _ (List.mem_filter.mpr ⟨Lr_mem hu hn, ?_⟩))
    simp only [tv_cat]
    simp [hj]
    by_cases e : j + 1 = i
    · exact Or.inr (okst_no L i ho j u e hu)
    · exact Or.inl e
/-- a store of a value of two words -/
theorem Lr_st2 {ad : Nat → Nat} {n : Nat} {ls ls' : Array Slot} {L : List Value} {i : Nat} {v : Value} (h : Lr ad n ls L) (hi : i + 1 < n) (ho : okst L i)
    (h' : lv_has ls' n ((i, tv ad v) :: (lvp ad L).filter (fun q => !(q.1 == i) && (!(q.1 == i + 1) && !(q.1 + 1 == i && q.2.category == 2))))) : Lr ad n ls' (setn (setn L i v) (i + 1) .null) := by
  refine ⟨by rw [setn_len, setn_len]; exact h.1, h'.1, h'.2.1, fun j u hu hn => ?_⟩
  rw [setn_get, setn_len] at hu
  by_cases hj1 : j = i + 1
  · subst hj1
    rw [if_pos ⟨rfl, by rw [h.1]; exact hi⟩] at hu
    cases hu
    exact absurd rfl hn
  · rw [if_neg (fun z => hj1 z.1), setn_get] at hu
    by_cases hj : j = i
    · subst hj
      rw [if_pos ⟨rfl, by rw [h.1]; omega⟩] at hu
      cases hu
      exact h'.2.2 (j, tv ad v) List.mem_cons_self
    · rw [if_neg (fun z => hj z.1)] at hu
      refine h'.2.2 (j, tv ad u) (List.mem_cons_of_mem _ (List.mem_filter.mpr ⟨Lr_mem hu hn, ?_⟩))
      simp only [tv_cat]
      simp [hj, hj1]
      by_cases e : j + 1 = i
      · exact Or.inr (okst_no L i ho j u e hu)
      · exact Or.inl e
/-! cells -/
theorem wsOf_get {ad : Nat → Nat} {cy : Nat → ClassId} {w : WdT} {h : HpT} {o : Nat} (ho : o < w.2.1) : (wsOf ad cy w h)[o]? = some (ad o, ceOf ad cy w h o) := by
  unfold wsOf
  rw [List.getElem?_map, List.getElem?_range ho]
  rfl
theorem wsOf_obj {ad : Nat → Nat} {cy : Nat → ClassId} {w : WdT} {h : HpT} {o : Nat} (hw : w.1 ≤ w.2.1) (ho : o < w.1) : (wsOf ad cy w h)[o]? = some (ad o, .inr (wOc w o, ceO ad w h o)) := by
  rw [wsOf_get (Nat.lt_of_lt_of_le ho hw), ceOf, if_pos ho]
theorem wsOf_arr {ad : Nat → Nat} {cy : Nat → ClassId} {w : WdT} {h : HpT} {a : Nat} (h1 : w.1 ≤ a) (h2 : a < w.2.1) : (wsOf ad cy w h)[a]? = some (ad a, .inl (cy (wTy w a), wLn w a, .inl (hA h a))) := by
  rw [wsOf_get h2, ceOf, if_neg (Nat.not_lt.mpr h1)]
theorem wsOf_len {ad : Nat → Nat} {cy : Nat → ClassId} {w : WdT} {h : HpT} : (wsOf ad cy w h).length = w.2.1 := by
  simp [wsOf]
theorem wsOf_none {ad : Nat → Nat} {cy : Nat → ClassId} {w : WdT} {h : HpT} {o : Nat} (ho : ¬ o < w.2.1) : (wsOf ad cy w h)[o]? = none := by
  apply List.getElem?_eq_none
  rw [wsOf_len]
  omega
theorem wsOf_D {ad : Nat → Nat} {cy : Nat → ClassId} {w : WdT} {h : HpT} (hk : adOk ad w) : va_D (inA ad w) (wsOf ad cy w h) := by
  have key : ∀ (i : Nat) (p : Nat × va_E), (wsOf ad cy w h)[i]? = some p → i < w.2.1 ∧ p.1 = ad i := by
    intro i p hp
    by_cases hi : i < w.2.1
    · rw [wsOf_get hi] at hp
      cases hp
      exact ⟨hi, rfl⟩
    · rw [wsOf_none hi] at hp
      cases hp
  refine ⟨fun i j p q hi hj e => ?_, fun k q hq => ?_⟩
  · obtain ⟨a1, a2⟩ := key i p hi
    obtain ⟨b1, b2⟩ := key j q hj
    exact hk.2 i j a1 b1 (by rw [← a2, ← b2]; exact e)
  · obtain ⟨a1, a2⟩ := key k q hq
    exact ⟨k, a1, a2⟩
/-- a cell is set: all others are the same -/
theorem wsOf_set {ad : Nat → Nat} {cy : Nat → ClassId} {w : WdT} {h h' : HpT} {o : Nat} {x : va_E} (ho : o < w.2.1) (hx : ceOf ad cy w h' o = x) (hy : ∀ q, q < w.2.1 → q ≠ o → ceOf ad cy w h' q = ceOf ad cy w h q) : (wsOf ad cy w h).set o (ad o, x) = wsOf ad cy w h' := by
  apply List.ext_getElem?
  intro i
  rw [List.getElem?_set]
  by_cases hi : i < w.2.1
  · by_cases e : o = i
    · subst e
      rw [if_pos rfl, if_pos (by rw [wsOf_len]; exact ho), wsOf_get hi, hx]
    · rw [if_neg e, wsOf_get hi, wsOf_get hi, hy i hi (Ne.symm e)]
  · have e : o ≠ i := by omega
    rw [if_neg e, wsOf_none hi, wsOf_none hi]
theorem ceO_set {ad : Nat → Nat} {w : WdT} {h h' : HpT} {o k : Nat} {q : vw_C} {v : Value} (hq : vwCl[wOc w o]? = some q) (hk : k < q.2.2) (hv : tv ad (gfv w h' o k (kdT (q.2.1 k))) = v) (hn : ∀ j kd, j ≠ k → gfv w h' o j kd = gfv w h o j kd) : ceO ad w h' o = (ceO ad w h o).set k v := by
  unfold ceO
  rw [hq]
  apply List.ext_getElem?
  intro i
  rw [List.getElem?_set]
  simp only [List.getElem?_map, List.length_map, List.length_range]
  by_cases e : k = i
  · subst e
    rw [if_pos rfl, if_pos hk, List.getElem?_range hk]
    show some (tv ad (gfv w h' o k (kdT (q.2.1 k)))) = some v
    rw [hv]
  · rw [if_neg e]
    by_cases hi : i < q.2.2
    · rw [List.getElem?_range hi]
      show some (tv ad (gfv w h' o i (kdT (q.2.1 i)))) = some (tv ad (gfv w h o i (kdT (q.2.1 i))))
      rw [hn i _ (Ne.symm e)]
    · rw [List.getElem?_eq_none (by simp; omega)]
      rfl
theorem gfv_kd (w : WdT) (h h' : HpT) (o k kd : Nat) (h1 : hI h' o k = hI h o k) (h2 : hL h' o k = hL h o k) (h3 : hR h' o k = hR h o k) : gfv w h' o k kd = gfv w h o k kd := by
  unfold gfv
  split <;> simp [h1, h2, h3]
theorem ceO_same {ad : Nat → Nat} {w : WdT} {h h' : HpT} {o : Nat} (hn : ∀ k kd, gfv w h' o k kd = gfv w h o k kd) : ceO ad w h' o = ceO ad w h o := by
  unfold ceO
  split
  · apply List.map_congr_left
    intro k _
    rw [hn]
  · rfl
theorem ceOf_same {ad : Nat → Nat} {cy : Nat → ClassId} {w : WdT} {h h' : HpT} {o : Nat} (hn : ∀ k kd, gfv w h' o k kd = gfv w h o k kd) (ha : hA h' o = hA h o) : ceOf ad cy w h' o = ceOf ad cy w h o := by
  unfold ceOf
  rw [ceO_same hn, ha]
theorem ws_sI {ad : Nat → Nat} {cy : Nat → ClassId} {w : WdT} {h : HpT} {o k : Nat} {x : Int32} {q : vw_C} (hw : w.1 ≤ w.2.1) (ho : o < w.1) (hq : vwCl[wOc w o]? = some q) (hk : k < q.2.2) (hkd : kdT (q.2.1 k) = 0 ∨ kdT (q.2.1 k) = 4) : (wsOf ad cy w h).set o (ad o, .inr (wOc w o, (ceO ad w h o).set k (.int x))) = wsOf ad cy w (sI h o k x) := by
  refine wsOf_set (Nat.lt_of_lt_of_le ho hw) ?_ (fun p hp hne => ceOf_same (fun j kd => gfv_kd _ _ _ _ _ _ ?_ rfl rfl) rfl)
  · rw [ceOf, if_pos ho, ceO_set hq hk (h' := sI h o k x) (h := h) (v := .int x) ?_ (fun j kd hj => gfv_kd _ _ _ _ _ _ ?_ rfl rfl)]
    · rcases hkd with e | e <;> rw [e] <;> simp [gfv, tv, hI_sI]
    · rw [hI_sI, if_neg (fun z => hj z.2)]
  · rw [hI_sI, if_neg (fun z => hne z.1)]
theorem ws_sL {ad : Nat → Nat} {cy : Nat → ClassId} {w : WdT} {h : HpT} {o k : Nat} {x : Int64} {q : vw_C} (hw : w.1 ≤ w.2.1) (ho : o < w.1) (hq : vwCl[wOc w o]? = some q) (hk : k < q.2.2) (hkd : kdT (q.2.1 k) = 1) : (wsOf ad cy w h).set o (ad o, .inr (wOc w o, (ceO ad w h o).set k (.long x))) = wsOf ad cy w (sL h o k x) := by
  refine wsOf_set (Nat.lt_of_lt_of_le ho hw) ?_ (fun p hp hne => ceOf_same (fun j kd => gfv_kd _ _ _ _ _ _ rfl ?_ rfl) rfl)
  · rw [ceOf, if_pos ho, ceO_set hq hk (h' := sL h o k x) (h := h) (v := .long x) ?_ (fun j kd hj => gfv_kd _ _ _ _ _ _ rfl ?_ rfl)]
    · rw [hkd]; simp [gfv, tv, hL_sL]
    · rw [hL_sL, if_neg (fun z => hj z.2)]
  · rw [hL_sL, if_neg (fun z => hne z.1)]
theorem ws_sR {ad : Nat → Nat} {cy : Nat → ClassId} {w : WdT} {h : HpT} {o k : Nat} {x : Nat} {q : vw_C} (hw : w.1 ≤ w.2.1) (ho : o < w.1) (hq : vwCl[wOc w o]? = some q) (hk : k < q.2.2) (hkd : kdT (q.2.1 k) = 2) : (wsOf ad cy w h).set o (ad o, .inr (wOc w o, (ceO ad w h o).set k (.ref (ad x)))) = wsOf ad cy w (sR h o k x) := by
  refine wsOf_set (Nat.lt_of_lt_of_le ho hw) ?_ (fun p hp hne => ceOf_same (fun j kd => gfv_kd _ _ _ _ _ _ rfl rfl ?_) rfl)
  · rw [ceOf, if_pos ho, ceO_set hq hk (h' := sR h o k x) (h := h) (v := .ref (ad x)) ?_ (fun j kd hj => gfv_kd _ _ _ _ _ _ rfl rfl ?_)]
    · rw [hkd]; simp [gfv, tv, hR_sR]
    · rw [hR_sR, if_neg (fun z => hj z.2)]
  · rw [hR_sR, if_neg (fun z => hne z.1)]
theorem ws_sA {ad : Nat → Nat} {cy : Nat → ClassId} {w : WdT} {h : HpT} {a i : Nat} {x : Int32} (h1 : w.1 ≤ a) (h2 : a < w.2.1) : (wsOf ad cy w h).set a (ad a, .inl (cy (wTy w a), wLn w a, .inl (upd (hA h a) i x))) = wsOf ad cy w (sA h a i x) := by
  refine wsOf_set h2 ?_ (fun p hp hne => ceOf_same (fun j kd => gfv_kd _ _ _ _ _ _ rfl rfl rfl) ?_)
  · rw [ceOf, if_neg (Nat.not_lt.mpr h1), sA, hA_sW, if_pos rfl]
  · rw [sA, hA_sW, if_neg hne]
theorem ceO_get {ad : Nat → Nat} {w : WdT} {h : HpT} {o k : Nat} {q : vw_C} (hq : vwCl[wOc w o]? = some q) (hk : k < q.2.2) : (ceO ad w h o)[k]? = some (tv ad (gfv w h o k (kdT (q.2.1 k)))) := by
  unfold ceO
  rw [hq]
  show ((List.range q.2.2).map _)[k]? = _
  rw [List.getElem?_map, List.getElem?_range hk]
  rfl
theorem ceO_len {ad : Nat → Nat} {w : WdT} {h : HpT} {o : Nat} {q : vw_C} (hq : vwCl[wOc w o]? = some q) : (ceO ad w h o).length = q.2.2 := by
  unfold ceO
  rw [hq]
  simp
