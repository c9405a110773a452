/-! A small machine of numbered cells over the kit's rows: what a stretch of code does, as a proposition that reduces -/
abbrev HpT : Type := (Nat → Nat → Int32) × (Nat → Nat → Int64) × (Nat → Nat → Nat) × (Nat → Nat → Int32)
def hI (h : HpT) (o k : Nat) : Int32 := h.1 o k
def hL (h : HpT) (o k : Nat) : Int64 := h.2.1 o k
def hR (h : HpT) (o k : Nat) : Nat := h.2.2.1 o k
def hA (h : HpT) (a : Nat) : Nat → Int32 := h.2.2.2 a
def sI (h : HpT) (o k : Nat) (v : Int32) : HpT := (fun a b => if a = o ∧ b = k then v else h.1 a b, h.2)
def sL (h : HpT) (o k : Nat) (v : Int64) : HpT := (h.1, fun a b => if a = o ∧ b = k then v else h.2.1 a b, h.2.2)
def sR (h : HpT) (o k : Nat) (v : Nat) : HpT := (h.1, h.2.1, fun a b => if a = o ∧ b = k then v else h.2.2.1 a b, h.2.2.2)
def sW (h : HpT) (a : Nat) (f : Nat → Int32) : HpT := (h.1, h.2.1, h.2.2.1, fun b => if b = a then f else h.2.2.2 b)
def sA (h : HpT) (a i : Nat) (v : Int32) : HpT := sW h a (upd (hA h a) i v)
theorem hI_sI (h : HpT) (o k o' k' : Nat) (v : Int32) : hI (sI h o k v) o' k' = if o' = o ∧ k' = k then v else hI h o' k' := rfl
theorem hL_sI (h : HpT) (o k o' k' : Nat) (v : Int32) : hL (sI h o k v) o' k' = hL h o' k' := rfl
theorem hR_sI (h : HpT) (o k o' k' : Nat) (v : Int32) : hR (sI h o k v) o' k' = hR h o' k' := rfl
theorem hA_sI (h : HpT) (o k a : Nat) (v : Int32) : hA (sI h o k v) a = hA h a := rfl
theorem hI_sL (h : HpT) (o k o' k' : Nat) (v : Int64) : hI (sL h o k v) o' k' = hI h o' k' := rfl
theorem hL_sL (h : HpT) (o k o' k' : Nat) (v : Int64) : hL (sL h o k v) o' k' = if o' = o ∧ k' = k then v else hL h o' k' := rfl
theorem hR_sL (h : HpT) (o k o' k' : Nat) (v : Int64) : hR (sL h o k v) o' k' = hR h o' k' := rfl
theorem hA_sL (h : HpT) (o k a : Nat) (v : Int64) : hA (sL h o k v) a = hA h a := rfl
theorem hI_sR (h : HpT) (o k o' k' : Nat) (v : Nat) : hI (sR h o k v) o' k' = hI h o' k' := rfl
theorem hL_sR (h : HpT) (o k o' k' : Nat) (v : Nat) : hL (sR h o k v) o' k' = hL h o' k' := rfl
theorem hR_sR (h : HpT) (o k o' k' : Nat) (v : Nat) : hR (sR h o k v) o' k' = if o' = o ∧ k' = k then v else hR h o' k' := rfl
theorem hA_sR (h : HpT) (o k a : Nat) (v : Nat) : hA (sR h o k v) a = hA h a := rfl
theorem hI_sW (h : HpT) (a o' k' : Nat) (f : Nat → Int32) : hI (sW h a f) o' k' = hI h o' k' := rfl
theorem hL_sW (h : HpT) (a o' k' : Nat) (f : Nat → Int32) : hL (sW h a f) o' k' = hL h o' k' := rfl
theorem hR_sW (h : HpT) (a o' k' : Nat) (f : Nat → Int32) : hR (sW h a f) o' k' = hR h o' k' := rfl
theorem hA_sW (h : HpT) (a b : Nat) (f : Nat → Int32) : hA (sW h a f) b = if b = a then f else hA h b := rfl
/-- a method: name, bytes, locals, what it returns, static or not, how many parameters -/
abbrev MtT : Type := MethodName × ByteArray × Nat × Option FieldType × Bool × Nat
abbrev AIt : Type := Instr × Nat × Nat × (Value ⊕ (MtT × Nat) ⊕ List (Int32 × Nat) ⊕ (Nat × Nat))
/-- a world: objects, cells in all, kind of each object, length and sort of each array, which cell a fixed field names -/
abbrev WdT : Type := Nat × Nat × (Nat → Nat) × (Nat → Nat) × (Nat → Nat) × (Nat → Nat → Nat)
def wOc (w : WdT) (o : Nat) : Nat := w.2.2.1 o
def wLn (w : WdT) (a : Nat) : Nat := w.2.2.2.1 a
def wTy (w : WdT) (a : Nat) : Nat := w.2.2.2.2.1 a
def wFr (w : WdT) (o k : Nat) : Nat := w.2.2.2.2.2 o k
def nth : List Value → Nat → Value
  | [], _ => .null
  | v :: _, 0 => v
  | _ :: L, n + 1 => nth L n
def setn : List Value → Nat → Value → List Value
  | [], _, _ => []
  | _ :: L, 0, v => v :: L
  | w :: L, n + 1, v => w :: setn L n v
def ldI (L : List Value) (i : Nat) (k : Int32 → Prop) : Prop := match nth L i with
  | .int x => k x
  | _ => False
def ldL (L : List Value) (i : Nat) (k : Int64 → Prop) : Prop := match nth L i with
  | .long x => k x
  | _ => False
def ldR (L : List Value) (i : Nat) (k : Nat → Prop) : Prop := match nth L i with
  | .ref x => k x
  | _ => False
def pI1 (S : List Value) (k : Int32 → List Value → Prop) : Prop := match S with
  | .int x :: S => k x S
  | _ => False
def pI2 (S : List Value) (k : Int32 → Int32 → List Value → Prop) : Prop := match S with
  | .int y :: .int x :: S => k x y S
  | _ => False
def pL1 (S : List Value) (k : Int64 → List Value → Prop) : Prop := match S with
  | .long x :: S => k x S
  | _ => False
def pL2 (S : List Value) (k : Int64 → Int64 → List Value → Prop) : Prop := match S with
  | .long y :: .long x :: S => k x y S
  | _ => False
def pR1 (S : List Value) (k : Nat → List Value → Prop) : Prop := match S with
  | .ref x :: S => k x S
  | _ => False
def pIR (S : List Value) (k : Int32 → Nat → List Value → Prop) : Prop := match S with
  | .int i :: .ref a :: S => k i a S
  | _ => False
def pIIR (S : List Value) (k : Int32 → Int32 → Nat → List Value → Prop) : Prop := match S with
  | .int x :: .int i :: .ref a :: S => k x i a S
  | _ => False
def pVR (S : List Value) (k : Value → Nat → List Value → Prop) : Prop := match S with
  | v :: .ref a :: S => k v a S
  | _ => False
def pV1 (S : List Value) (k : Value → List Value → Prop) : Prop := match S with
  | v :: S => k v S
  | _ => False
def pV2 (S : List Value) (k : Value → Value → List Value → Prop) : Prop := match S with
  | v :: u :: S => k v u S
  | _ => False
def pOne (S : List Value) (k : Value → Prop) : Prop := match S with
  | [v] => k v
  | _ => False
def pNil (S : List Value) (k : Prop) : Prop := match S with
  | [] => k
  | _ => False
def c1 : Value → Prop
  | .int _ => True
  | .ref _ => True
  | _ => False
def okst : List Value → Nat → Prop
  | .long _ :: _, 1 => False
  | .double _ :: _, 1 => False
  | _ :: L, n + 2 => okst L (n + 1)
  | _, _ => True
def shs : List Value → Prop
  | [] => True
  | [_] => True
  | [_, _] => True
  | [_, _, _] => True
  | [_, _, _, _] => True
  | _ => False
def popn : Nat → List Value → List Value → (List Value → List Value → Prop) → Prop
  | 0, acc, S, k => k acc S
  | n + 1, acc, v :: S, k => popn n (v :: acc) S k
  | _ + 1, _, [], _ => False
def swp (K : Nat → Prop) (x : Int32) (d : Prop) : List (Int32 × Nat) → Prop
  | [] => d
  | (c, t) :: r => (x = c → K t) ∧ (¬ x = c → swp K x d r)
def gfv (w : WdT) (h : HpT) (o k : Nat) : Nat → Value
  | 0 => .int (hI h o k)
  | 1 => .long (hL h o k)
  | 2 => .ref (hR h o k)
  | 3 => .ref (wFr w o k)
  | _ => .int (hI h o k)
def pfv (h : HpT) (o k : Nat) (K : HpT → Prop) : Nat → Value → Prop
  | 0, .int x => K (sI h o k x)
  | 1, .long x => K (sL h o k x)
  | 2, .ref q => K (sR h o k q)
  | 4, .int x => (x = 0 ∨ x = 1) ∧ K (sI h o k x)
  | _, _ => False
def rtc : Option FieldType → Value → Prop
  | some .int, .int _ => True
  | some .boolean, .int x => x = 0 ∨ x = 1
  | some .char, .int x => vp_nar .char x = x
  | _, _ => False
def rtl : Option FieldType → Value → Prop
  | some .long, .long _ => True
  | _, _ => False
def npop (m : MtT) : Nat := if m.2.2.2.2.1 then m.2.2.2.2.2 else m.2.2.2.2.2 + 1
def rcv (w : WdT) (ci : Nat) : List Value → Prop
  | .ref o :: _ => if ci = 99 then 1000 ≤ o ∧ o < 1017 else o < w.1 ∧ wOc w o = ci
  | _ => False
def ush (x y : Int32) : Int32 := (x.toUInt32 >>> (y.toUInt32 &&& Int32.toUInt32 31)).toInt32
def mxI (x y : Int32) : Int32 := if x < y then y else x
def mnI (x y : Int32) : Int32 := if y < x then y else x
def toC (x : Int32) : Int32 := (x.toUInt32 % 65536).toInt32
def wp (w : WdT) (C : MtT → List Value → HpT → (Option Value → HpT → Prop) → Prop) (K : Nat → List Value → List Value → HpT → Prop) (Rt : Option Value → HpT → Prop) (rt : Option FieldType) (en : Nat) : List AIt → List Value → List Value → HpT → Prop
  | [], L, S, h => K en L S h
  | (.iconst _, _, _, .inl v) :: is, L, S, h => wp w C K Rt rt en is L (v :: S) h
  | (.bipush _, _, _, .inl v) :: is, L, S, h => wp w C K Rt rt en is L (v :: S) h
  | (.sipush _, _, _, .inl v) :: is, L, S, h => wp w C K Rt rt en is L (v :: S) h
  | (.lconst _, _, _, .inl v) :: is, L, S, h => wp w C K Rt rt en is L (v :: S) h
  | (.ldc _, _, _, .inl v) :: is, L, S, h => wp w C K Rt rt en is L (v :: S) h
  | (.ldc_w _, _, _, .inl v) :: is, L, S, h => wp w C K Rt rt en is L (v :: S) h
  | (.ldc2_w _, _, _, .inl v) :: is, L, S, h => wp w C K Rt rt en is L (v :: S) h
  | (.iload _, i, _, _) :: is, L, S, h => ldI L i (fun x => wp w C K Rt rt en is L (.int x :: S) h)
  | (.iload_n _, i, _, _) :: is, L, S, h => ldI L i (fun x => wp w C K Rt rt en is L (.int x :: S) h)
  | (.aload _, i, _, _) :: is, L, S, h => ldR L i (fun x => wp w C K Rt rt en is L (.ref x :: S) h)
  | (.aload_n _, i, _, _) :: is, L, S, h => ldR L i (fun x => wp w C K Rt rt en is L (.ref x :: S) h)
  | (.lload _, i, _, _) :: is, L, S, h => ldL L i (fun x => wp w C K Rt rt en is L (.long x :: S) h)
  | (.lload_n _, i, _, _) :: is, L, S, h => ldL L i (fun x => wp w C K Rt rt en is L (.long x :: S) h)
  | (.istore _, i, _, _) :: is, L, S, h => pI1 S (fun x S => okst L i ∧ wp w C K Rt rt en is (setn L i (.int x)) S h)
  | (.istore_n _, i, _, _) :: is, L, S, h => pI1 S (fun x S => okst L i ∧ wp w C K Rt rt en is (setn L i (.int x)) S h)
  | (.astore _, i, _, _) :: is, L, S, h => pR1 S (fun x S => okst L i ∧ wp w C K Rt rt en is (setn L i (.ref x)) S h)
  | (.astore_n _, i, _, _) :: is, L, S, h => pR1 S (fun x S => okst L i ∧ wp w C K Rt rt en is (setn L i (.ref x)) S h)
  | (.lstore _, i, _, _) :: is, L, S, h => pL1 S (fun x S => okst L i ∧ wp w C K Rt rt en is (setn (setn L i (.long x)) (i + 1) .null) S h)
  | (.lstore_n _, i, _, _) :: is, L, S, h => pL1 S (fun x S => okst L i ∧ wp w C K Rt rt en is (setn (setn L i (.long x)) (i + 1) .null) S h)
  | (.iinc _ _, i, _, .inl (.int n)) :: is, L, S, h => okst L i ∧ ldI L i (fun x => wp w C K Rt rt en is (setn L i (.int (x + n))) S h)
  | (.iadd, _, _, _) :: is, L, S, h => pI2 S (fun x y S => wp w C K Rt rt en is L (.int (x + y) :: S) h)
  | (.isub, _, _, _) :: is, L, S, h => pI2 S (fun x y S => wp w C K Rt rt en is L (.int (x - y) :: S) h)
  | (.imul, _, _, _) :: is, L, S, h => pI2 S (fun x y S => wp w C K Rt rt en is L (.int (x * y) :: S) h)
  | (.iand, _, _, _) :: is, L, S, h => pI2 S (fun x y S => wp w C K Rt rt en is L (.int (x &&& y) :: S) h)
  | (.ior, _, _, _) :: is, L, S, h => pI2 S (fun x y S => wp w C K Rt rt en is L (.int (x ||| y) :: S) h)
  | (.ixor, _, _, _) :: is, L, S, h => pI2 S (fun x y S => wp w C K Rt rt en is L (.int (x ^^^ y) :: S) h)
  | (.ishl, _, _, _) :: is, L, S, h => pI2 S (fun x y S => wp w C K Rt rt en is L (.int (x <<< (y &&& 31)) :: S) h)
  | (.ishr, _, _, _) :: is, L, S, h => pI2 S (fun x y S => wp w C K Rt rt en is L (.int (x >>> (y &&& 31)) :: S) h)
  | (.iushr, _, _, _) :: is, L, S, h => pI2 S (fun x y S => wp w C K Rt rt en is L (.int (ush x y) :: S) h)
  | (.idiv, _, _, _) :: is, L, S, h => pI2 S (fun x y S => (¬ y = 0) ∧ wp w C K Rt rt en is L (.int (x / y) :: S) h)
  | (.irem, _, _, _) :: is, L, S, h => pI2 S (fun x y S => (¬ y = 0) ∧ wp w C K Rt rt en is L (.int (x - x / y * y) :: S) h)
  | (.ineg, _, _, _) :: is, L, S, h => pI1 S (fun x S => wp w C K Rt rt en is L (.int (-x) :: S) h)
  | (.i2l, _, _, _) :: is, L, S, h => pI1 S (fun x S => wp w C K Rt rt en is L (.long x.toInt64 :: S) h)
  | (.l2i, _, _, _) :: is, L, S, h => pL1 S (fun x S => wp w C K Rt rt en is L (.int x.toInt32 :: S) h)
  | (.i2c, _, _, _) :: is, L, S, h => pI1 S (fun x S => wp w C K Rt rt en is L (.int (toC x) :: S) h)
  | (.ladd, _, _, _) :: is, L, S, h => pL2 S (fun x y S => wp w C K Rt rt en is L (.long (x + y) :: S) h)
  | (.lsub, _, _, _) :: is, L, S, h => pL2 S (fun x y S => wp w C K Rt rt en is L (.long (x - y) :: S) h)
  | (.lmul, _, _, _) :: is, L, S, h => pL2 S (fun x y S => wp w C K Rt rt en is L (.long (x * y) :: S) h)
  | (.lcmp, _, _, _) :: is, L, S, h => pL2 S (fun x y S => wp w C K Rt rt en is L (.int (lg_cmp x y) :: S) h)
  | (.dup, _, _, _) :: is, L, S, h => pV1 S (fun v S => c1 v ∧ wp w C K Rt rt en is L (v :: v :: S) h)
  | (.dup2, _, _, _) :: is, L, S, h => pV2 S (fun v u S => (c1 v ∧ c1 u) ∧ wp w C K Rt rt en is L (v :: u :: v :: u :: S) h)
  | (.ifCond .eq _, a, _, _) :: is, L, S, h => pI1 S (fun x S => (x = 0 → K a L S h) ∧ (¬ x = 0 → wp w C K Rt rt en is L S h))
  | (.if_icmp .eq _, a, _, _) :: is, L, S, h => pI2 S (fun x y S => (x = y → K a L S h) ∧ (¬ x = y → wp w C K Rt rt en is L S h))
  | (.ifCond .ne _, a, _, _) :: is, L, S, h => pI1 S (fun x S => (¬ x = 0 → K a L S h) ∧ (x = 0 → wp w C K Rt rt en is L S h))
  | (.if_icmp .ne _, a, _, _) :: is, L, S, h => pI2 S (fun x y S => (¬ x = y → K a L S h) ∧ (x = y → wp w C K Rt rt en is L S h))
  | (.ifCond .lt _, a, _, _) :: is, L, S, h => pI1 S (fun x S => (x < 0 → K a L S h) ∧ (¬ x < 0 → wp w C K Rt rt en is L S h))
  | (.if_icmp .lt _, a, _, _) :: is, L, S, h => pI2 S (fun x y S => (x < y → K a L S h) ∧ (¬ x < y → wp w C K Rt rt en is L S h))
  | (.ifCond .ge _, a, _, _) :: is, L, S, h => pI1 S (fun x S => (0 ≤ x → K a L S h) ∧ (¬ 0 ≤ x → wp w C K Rt rt en is L S h))
  | (.if_icmp .ge _, a, _, _) :: is, L, S, h => pI2 S (fun x y S => (y ≤ x → K a L S h) ∧ (¬ y ≤ x → wp w C K Rt rt en is L S h))
  | (.ifCond .gt _, a, _, _) :: is, L, S, h => pI1 S (fun x S => (0 < x → K a L S h) ∧ (¬ 0 < x → wp w C K Rt rt en is L S h))
  | (.if_icmp .gt _, a, _, _) :: is, L, S, h => pI2 S (fun x y S => (y < x → K a L S h) ∧ (¬ y < x → wp w C K Rt rt en is L S h))
  | (.ifCond .le _, a, _, _) :: is, L, S, h => pI1 S (fun x S => (x ≤ 0 → K a L S h) ∧ (¬ x ≤ 0 → wp w C K Rt rt en is L S h))
  | (.if_icmp .le _, a, _, _) :: is, L, S, h => pI2 S (fun x y S => (x ≤ y → K a L S h) ∧ (¬ x ≤ y → wp w C K Rt rt en is L S h))
  | (.goto _, a, _, _) :: _, L, S, h => K a L S h
  | (.tableswitch _ _ _ _, a, _, .inr (.inr (.inl sw))) :: _, L, S, h => pI1 S (fun x S => swp (fun t => K t L S h) x (K a L S h) sw)
  | (.lookupswitch _ _, a, _, .inr (.inr (.inl sw))) :: _, L, S, h => pI1 S (fun x S => swp (fun t => K t L S h) x (K a L S h) sw)
  | (.ireturn, _, _, _) :: _, _, S, h => pOne S (fun v => rtc rt v ∧ Rt (some v) h)
  | (.lreturn, _, _, _) :: _, _, S, h => pOne S (fun v => rtl rt v ∧ Rt (some v) h)
  | (.return_, _, _, _) :: _, _, S, h => pNil S (rt = none ∧ Rt none h)
  | (.getfield _, ci, k, .inr (.inr (.inr (kd, _)))) :: is, L, S, h => pR1 S (fun o S => (o < w.1 ∧ wOc w o = ci) ∧ wp w C K Rt rt en is L (gfv w h o k kd :: S) h)
  | (.putfield _, ci, k, .inr (.inr (.inr (kd, _)))) :: is, L, S, h => pVR S (fun v o S => (o < w.1 ∧ wOc w o = ci) ∧ pfv h o k (fun h' => wp w C K Rt rt en is L S h') kd v)
  | (.iaload, _, _, _) :: is, L, S, h => pIR S (fun i a S => (w.1 ≤ a ∧ a < w.2.1 ∧ wTy w a = 0 ∧ vp_in i (wLn w a)) ∧ wp w C K Rt rt en is L (.int (hA h a i.toNatClampNeg) :: S) h)
  | (.baload, _, _, _) :: is, L, S, h => pIR S (fun i a S => (w.1 ≤ a ∧ a < w.2.1 ∧ wTy w a = 1 ∧ vp_in i (wLn w a)) ∧ wp w C K Rt rt en is L (.int (hA h a i.toNatClampNeg) :: S) h)
  | (.caload, _, _, _) :: is, L, S, h => pIR S (fun i a S => (w.1 ≤ a ∧ a < w.2.1 ∧ wTy w a = 2 ∧ vp_in i (wLn w a)) ∧ wp w C K Rt rt en is L (.int (hA h a i.toNatClampNeg) :: S) h)
  | (.iastore, _, _, _) :: is, L, S, h => pIIR S (fun x i a S => (w.1 ≤ a ∧ a < w.2.1 ∧ wTy w a = 0 ∧ vp_in i (wLn w a)) ∧ wp w C K Rt rt en is L S (sA h a i.toNatClampNeg x))
  | (.bastore, _, _, _) :: is, L, S, h => pIIR S (fun x i a S => (w.1 ≤ a ∧ a < w.2.1 ∧ wTy w a = 1 ∧ vp_in i (wLn w a)) ∧ wp w C K Rt rt en is L S (sA h a i.toNatClampNeg (vp_nar .boolean x)))
  | (.castore, _, _, _) :: is, L, S, h => pIIR S (fun x i a S => (w.1 ≤ a ∧ a < w.2.1 ∧ wTy w a = 2 ∧ vp_in i (wLn w a)) ∧ wp w C K Rt rt en is L S (sA h a i.toNatClampNeg (vp_nar .char x)))
  | (.arraylength, _, _, _) :: is, L, S, h => pR1 S (fun a S => (w.1 ≤ a ∧ a < w.2.1 ∧ wTy w a = 0) ∧ wp w C K Rt rt en is L (.int (nI (wLn w a)) :: S) h)
  | (.invokevirtual _, ci, n, .inr (.inl (m, _))) :: is, L, S, h => popn n [] S (fun as S => (rcv w ci as ∧ shs S) ∧ C m as h (fun r h => wp w C K Rt rt en is L (r.toList ++ S) h))
  | (.invokestatic _, _, n, .inr (.inl (m, _))) :: is, L, S, h => popn n [] S (fun as S => shs S ∧ C m as h (fun r h => wp w C K Rt rt en is L (r.toList ++ S) h))
  | (.invokestatic _, 7, _, .inl _) :: is, L, S, h => pI2 S (fun x y S => shs S ∧ wp w C K Rt rt en is L (.int (mxI x y) :: S) h)
  | (.invokestatic _, 8, _, .inl _) :: is, L, S, h => pI2 S (fun x y S => shs S ∧ wp w C K Rt rt en is L (.int (mnI x y) :: S) h)
  | _ :: _, _, _, _ => False
theorem ldI_inv {L : List Value} {i : Nat} {k : Int32 → Prop} (h : ldI L i k) : ∃ x, nth L i = .int x ∧ k x := by
  unfold ldI at h; split at h
  · rename_i x e; exact ⟨x, e, h⟩
  · exact h.elim
theorem ldL_inv {L : List Value} {i : Nat} {k : Int64 → Prop} (h : ldL L i k) : ∃ x, nth L i = .long x ∧ k x := by
  unfold ldL at h; split at h
  · rename_i x e; exact ⟨x, e, h⟩
  · exact h.elim
theorem ldR_inv {L : List Value} {i : Nat} {k : Nat → Prop} (h : ldR L i k) : ∃ x, nth L i = .ref x ∧ k x := by
  unfold ldR at h; split at h
  · rename_i x e; exact ⟨x, e, h⟩
  · exact h.elim
theorem pI1_inv {S : List Value} {k : Int32 → List Value → Prop} (h : pI1 S k) : ∃ x S', S = .int x :: S' ∧ k x S' := by
  unfold pI1 at h; split at h
  · exact ⟨_, _, rfl, h⟩
  · exact h.elim
theorem pI2_inv {S : List Value} {k : Int32 → Int32 → List Value → Prop} (h : pI2 S k) : ∃ x y S', S = .int y :: .int x :: S' ∧ k x y S' := by
  unfold pI2 at h; split at h
  · exact ⟨_, _, _, rfl, h⟩
  · exact h.elim
theorem pL1_inv {S : List Value} {k : Int64 → List Value → Prop} (h : pL1 S k) : ∃ x S', S = .long x :: S' ∧ k x S' := by
  unfold pL1 at h; split at h
  · exact ⟨_, _, rfl, h⟩
  · exact h.elim
theorem pL2_inv {S : List Value} {k : Int64 → Int64 → List Value → Prop} (h : pL2 S k) : ∃ x y S', S = .long y :: .long x :: S' ∧ k x y S' := by
  unfold pL2 at h; split at h
  · exact ⟨_, _, _, rfl, h⟩
  · exact h.elim
theorem pR1_inv {S : List Value} {k : Nat → List Value → Prop} (h : pR1 S k) : ∃ x S', S = .ref x :: S' ∧ k x S' := by
  unfold pR1 at h; split at h
  · exact ⟨_, _, rfl, h⟩
  · exact h.elim
theorem pIR_inv {S : List Value} {k : Int32 → Nat → List Value → Prop} (h : pIR S k) : ∃ i a S', S = .int i :: .ref a :: S' ∧ k i a S' := by
  unfold pIR at h; split at h
  · exact ⟨_, _, _, rfl, h⟩
  · exact h.elim
theorem pIIR_inv {S : List Value} {k : Int32 → Int32 → Nat → List Value → Prop} (h : pIIR S k) : ∃ x i a S', S = .int x :: .int i :: .ref a :: S' ∧ k x i a S' := by
  unfold pIIR at h; split at h
  · exact ⟨_, _, _, _, rfl, h⟩
  · exact h.elim
theorem pVR_inv {S : List Value} {k : Value → Nat → List Value → Prop} (h : pVR S k) : ∃ v a S', S = v :: .ref a :: S' ∧ k v a S' := by
  unfold pVR at h; split at h
  · exact ⟨_, _, _, rfl, h⟩
  · exact h.elim
theorem pV1_inv {S : List Value} {k : Value → List Value → Prop} (h : pV1 S k) : ∃ v S', S = v :: S' ∧ k v S' := by
  unfold pV1 at h; split at h
  · exact ⟨_, _, rfl, h⟩
  · exact h.elim
theorem pV2_inv {S : List Value} {k : Value → Value → List Value → Prop} (h : pV2 S k) : ∃ v u S', S = v :: u :: S' ∧ k v u S' := by
  unfold pV2 at h; split at h
  · exact ⟨_, _, _, rfl, h⟩
  · exact h.elim
theorem pOne_inv {S : List Value} {k : Value → Prop} (h : pOne S k) : ∃ v, S = [v] ∧ k v := by
  unfold pOne at h; split at h
  · exact ⟨_, rfl, h⟩
  · exact h.elim
theorem pNil_inv {S : List Value} {k : Prop} (h : pNil S k) : S = [] ∧ k := by
  unfold pNil at h; split at h
  · exact ⟨rfl, h⟩
  · exact h.elim
theorem popn_inv : ∀ (n : Nat) (acc S : List Value) (k : List Value → List Value → Prop), popn n acc S k → ∃ as S', as.length = n ∧ S = as.reverse ++ S' ∧ k (as ++ acc) S'
  | 0, acc, S, k, h => ⟨[], S, rfl, rfl, h⟩
  | n + 1, acc, [], k, h => h.elim
  | n + 1, acc, v :: S, k, h => by
    obtain ⟨as, S', e1, e2, e3⟩ := popn_inv n (v :: acc) S k h
    exact ⟨as ++ [v], S', by simp [e1], by simp [e2], by simpa using e3⟩
