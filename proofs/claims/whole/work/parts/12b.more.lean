/-! 12b.more: rows for the pure side of a walk -/
theorem upc_id {α : Type} {σ : Nat → Int → α} {k : Nat} {f : Int → α} (h : σ k = f) : upc σ k f = σ := by
  funext q; by_cases e : q = k
  · subst e; rw [upc_self, h]
  · rw [upc_ne _ _ e]
theorem mCmp_lo (x y : Int64) : (-2147483648 ≤ mCmp x y) = True := by
  unfold mCmp; repeat' split
  all_goals simp
theorem mCmp_hi (x y : Int64) : (mCmp x y < 2147483648) = True := by
  unfold mCmp; repeat' split
  all_goals simp
theorem mCmp_0 (x y : Int64) : (mCmp x y = 0) = (x = y) := by
  unfold mCmp
  by_cases h : y < x
  · have : x ≠ y := fun e => by subst e; exact absurd h (Int64.lt_irrefl)
    simp [h, this]
  · by_cases e : x = y <;> simp [h, e]
/-- an array's elements from a to b are v -/
def fillF (f : Int → Int) (a b v : Int) : Int → Int := fun j => if a ≤ j ∧ j < b then v else f j
theorem fillF_nil (f : Int → Int) {a b v : Int} (h : b ≤ a) : fillF f a b v = f := by
  funext j; unfold fillF; rw [if_neg (by omega)]
theorem fillF_step (f : Int → Int) {a b v : Int} (h : a ≤ b) : upi (fillF f a b v) b v = fillF f a (b + 1) v := by
  funext j; unfold upi fillF
  by_cases e : j = b
  · rw [if_pos e, if_pos (by omega)]
  · rw [if_neg e]
    by_cases q : a ≤ j ∧ j < b
    · rw [if_pos q, if_pos (by omega)]
    · rw [if_neg q, if_neg (by omega)]
def mcWk : List (Option mV) → List (Option mV) → Prop
  | [], [] => True
  | none :: a, _ :: b => mcWk a b
  | some v :: a, w :: b => w = some v ∧ mcWk a b
  | _, _ => False
theorem mcWk_spec : ∀ {a b : List (Option mV)}, mcWk a b → a.length = b.length ∧ ∀ (i : Nat) (v : mV), a[i]? = some (some v) → b[i]? = some (some v)
  | [], [], _ => ⟨rfl, fun _ _ h => h⟩
  | none :: a, w :: b, h => by
    obtain ⟨h1, h2⟩ := mcWk_spec (a := a) (b := b) h
    refine ⟨by simp [h1], fun i v hv => ?_⟩
    cases i with
    | zero => simp at hv
    | succ i => simpa using h2 i v (by simpa using hv)
  | some u :: a, w :: b, h => by
    obtain ⟨h0, h⟩ := h
    obtain ⟨h1, h2⟩ := mcWk_spec (a := a) (b := b) h
    refine ⟨by simp [h1], fun i v hv => ?_⟩
    cases i with
    | zero => simp at hv; subst hv; simp [h0]
    | succ i => simpa using h2 i v (by simpa using hv)
  | [], _ :: _, h => h.elim
  | none :: _, [], h => h.elim
  | some _ :: _, [], h => h.elim
/-- fewer known locals -/
theorem cE_wk {L d : Nat} {M : mcM} {pc : Nat} {ls ls' : List (Option mV)} {st : List mV} {σ : mG} {n z : Nat} {Φ : cPost} (k : cE L d M pc ls' st σ n z Φ) (h : mcWk ls' ls) : cE L d M pc ls st σ n z Φ :=
  fun fr lo h1 h2 h3 => mc_weak (mcWk_spec h).1 (mcWk_spec h).2 (k fr lo h1 h2 h3)
def upc2 {α : Type} (σ : Nat → Int → α) (b : Nat) (g : Int → α) (a : Nat) (f : Int → α) : Nat → Int → α := upc (upc σ b g) a f
theorem upc2_eq {α : Type} (σ : Nat → Int → α) (b : Nat) (g : Int → α) (a : Nat) (f : Int → α) : upc2 σ b g a f = upc (upc σ b g) a f := rfl
theorem upc_comm0 {α : Type} (σ : Nat → Int → α) {a b : Nat} (f g : Int → α) (h : b < a) : upc (upc σ a f) b g = upc (upc σ b g) a f := by
  funext q
  by_cases e1 : q = a
  · subst e1; rw [upc_ne _ _ (by omega), upc_self, upc_self]
  · by_cases e2 : q = b
    · subst e2; rw [upc_self, upc_ne _ _ e1, upc_self]
    · rw [upc_ne _ _ e2, upc_ne _ _ e1, upc_ne _ _ e1, upc_ne _ _ e2]
theorem upc_comm {α : Type} (σ : Nat → Int → α) {a b : Nat} (f g : Int → α) (h : b < a) : upc (upc σ a f) b g = upc2 σ b g a f := upc_comm0 σ f g h
theorem upi_upi {α : Type} (f : Int → α) (i : Int) (a b : α) : upi (upi f i a) i b = upi f i b := by
  funext q; unfold upi; split <;> rfl
theorem i64_0 : Int64.toInt 0 = 0 := by decide
