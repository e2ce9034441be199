/-! 02.base: abstract values, states and the evaluator of one instruction -/
abbrev mcM : Type := MethodName × ByteArray × Nat × Option FieldType × List (Nat × Nat × Nat × Nat)
/-- class or type number, field number or count of arguments, places of words, the called method -/
abbrev mcX : Type := Nat × Nat × List Nat × List mcM
abbrev mcX0 : mcX := (0, 0, [], [])
/-- place, is a loop's head, instruction, length, what it means -/
abbrev mcEn : Type := Nat × Bool × Instr × Nat × mcX
abbrev mV : Type := Int ⊕ (Int64 ⊕ Nat)
abbrev mi (x : Int) : mV := .inl x
abbrev ml (x : Int64) : mV := .inr (.inl x)
abbrev mr (a : Nat) : mV := .inr (.inr a)
abbrev mP : Type := Nat → Int → Option Nat
abbrev mG : Type := Nat → Int → Int
/-- array type and length, or class number -/
abbrev mSh : Type := (Nat × Nat) ⊕ Nat
/-- what a method returned, or the sort and place of what it threw -/
abbrev mcOut : Type := Option mV ⊕ (Nat × Nat)
abbrev mcPost : Type := mcOut → mP → mG → Nat → Nat → Prop
abbrev mcCont : Type := Nat → List (Option mV) → List mV → mP → mG → Nat → Nat → Prop
def in32 (x : Int) : Prop := -2147483648 ≤ x ∧ x < 2147483648
def upc {α : Type} (σ : Nat → Int → α) (k : Nat) (f : Int → α) : Nat → Int → α := fun k' => if k' = k then f else σ k'
def upi {α : Type} (f : Int → α) (i : Int) (v : α) : Int → α := fun j => if j = i then v else f j
theorem upc_self {α : Type} (σ : Nat → Int → α) (k : Nat) (f : Int → α) : upc σ k f k = f := by simp [upc]
theorem upc_ne {α : Type} (σ : Nat → Int → α) {k k' : Nat} (f : Int → α) (h : k' ≠ k) : upc σ k f k' = σ k' := by simp [upc, h]
theorem upc_upc {α : Type} (σ : Nat → Int → α) (k : Nat) (f g : Int → α) : upc (upc σ k f) k g = upc σ k g := by
  funext q; by_cases h : q = k <;> simp [upc, h]
theorem upi_self {α : Type} (f : Int → α) (i : Int) (v : α) : upi f i v i = v := by simp [upi]
theorem upi_ne {α : Type} (f : Int → α) {i j : Int} (v : α) (h : j ≠ i) : upi f i v j = f j := by simp [upi, h]
def mCmp (x y : Int64) : Int := if y < x then 1 else if x = y then 0 else -1
def mShl (x : Int64) (e : Int) : Int64 := x <<< Int64.ofInt e
def mShr (x : Int64) (e : Int) : Int64 := (x.toUInt64 >>> (Int64.ofInt e).toUInt64).toInt64
def mAnd (x y : Int) : Int := (Int32.ofInt x &&& Int32.ofInt y).toInt
def mCpy (f g : Int → Int) (sp dp n : Int) : Int → Int := fun i => if dp ≤ i ∧ i < dp + n then f (sp + (i - dp)) else g i
def mcSl1 (v : mV) : List (Option mV) := match v with
  | .inr (.inl _) => [some v, none]
  | _ => [some v]
/-- the locals at a method's entry -/
def mcEnt (nL : Nat) (vs : List mV) : List (Option mV) := vs.flatMap mcSl1 ++ List.replicate (nL - (vs.flatMap mcSl1).length) none
def mcCat : mV → Nat
  | .inr (.inl _) => 2
  | _ => 1
/-- words of the operand stack -/
def mcCats (st : List mV) : Nat := (st.map mcCat).sum
def mcPI (st : List mV) (k : Int → List mV → Prop) : Prop := match st with
  | .inl x :: r => k x r
  | _ => False
def mcPL (st : List mV) (k : Int64 → List mV → Prop) : Prop := match st with
  | .inr (.inl x) :: r => k x r
  | _ => False
def mcPR (st : List mV) (k : Nat → List mV → Prop) : Prop := match st with
  | .inr (.inr x) :: r => k x r
  | _ => False
def mcP1 (st : List mV) (k : mV → List mV → Prop) : Prop := match st with
  | v :: r => k v r
  | _ => False
/-- a local -/
def mcGI (ls : List (Option mV)) (i : Nat) (k : Int → Prop) : Prop := match ls[i]? with
  | some (some (.inl x)) => k x
  | _ => False
def mcGL (ls : List (Option mV)) (i : Nat) (k : Int64 → Prop) : Prop := match ls[i]? with
  | some (some (.inr (.inl x))) => k x
  | _ => False
def mcGR (ls : List (Option mV)) (i : Nat) (k : Nat → Prop) : Prop := match ls[i]? with
  | some (some (.inr (.inr x))) => k x
  | _ => False
/-- a store of one word, of two words: a long before it is gone too -/
def mcS1 (ls : List (Option mV)) (i : Nat) (v : mV) : List (Option mV) := (match i with
  | 0 => ls
  | j + 1 => match ls[j]? with
    | some (some (.inr (.inl _))) => ls.set j none
    | _ => ls).set i (some v)
def mcS2 (ls : List (Option mV)) (i : Nat) (v : mV) : List (Option mV) := (mcS1 ls i v).set (i + 1) none
def mcArg (k : Nat) (st : List mV) (f : List mV → List mV → Prop) : Prop := k ≤ st.length ∧ f (st.take k).reverse (st.drop k)
/-- a table switch -/
def mcTs (x lo : Int) (pc : Nat) : List Int → (Nat → Prop) → Prop
  | [], _ => True
  | t :: r, f => (x = lo → f ((pc : Int) + t).toNat) ∧ mcTs x (lo + 1) pc r f
def mcTg (pc : Nat) (off : Int) : Nat := ((pc : Int) + off).toNat
