/-! 40.bits: a long as a set of places; finding and counting -/
section BITS
variable {x y r : Int64} {p : Int}
def bt (x : Int64) (p : Int) : Prop := ¬ x &&& mShl 1 p = 0
theorem sm64 : ∀ k, k < 64 → ((Int64.ofInt ((k : Nat) : Int)).toBitVec.smod 64).toNat = k := by decide +kernel
theorem shl_bv (x : Int64) {k : Nat} (hk : k < 64) : (mShl x (k : Int)).toBitVec = x.toBitVec <<< k := by
  unfold mShl
  rw [Int64.toBitVec_shiftLeft]
  show x.toBitVec <<< ((Int64.ofInt (k : Int)).toBitVec.smod 64).toNat = _
  rw [sm64 k hk]
theorem shr_bv : ∀ k, k < 64 → (mShr (-1) ((k : Nat) : Int)).toBitVec = BitVec.allOnes 64 >>> k := by decide +kernel
theorem one_bv : ∀ k, k < 64 → (mShl 1 ((k : Nat) : Int)).toBitVec = BitVec.twoPow 64 k := by decide +kernel
theorem tp_bv : ∀ k, k < 64 → ¬ BitVec.twoPow 64 k = 0#64 := by decide +kernel
theorem bt_iff (hp : 0 ≤ p ∧ p < 64) : bt x p ↔ x.toBitVec.getLsbD p.toNat = true := by
  obtain ⟨k, rfl⟩ : ∃ k : Nat, p = (k : Int) := ⟨p.toNat, by omega⟩
  have hk : k < 64 := by omega
  unfold bt
  rw [← Int64.toBitVec_inj, Int64.toBitVec_and, one_bv k hk, BitVec.and_twoPow]
  show ¬ _ = 0#64 ↔ _
  rw [Int.toNat_natCast]
  cases h : x.toBitVec.getLsbD k
  · simp
  · simp only [if_true, iff_true]; exact tp_bv k hk
theorem bt_or (hp : 0 ≤ p ∧ p < 64) : bt (x ||| y) p ↔ bt x p ∨ bt y p := by
  rw [bt_iff hp, bt_iff hp, bt_iff hp, Int64.toBitVec_or, BitVec.getLsbD_or, Bool.or_eq_true]
theorem bt_and (hp : 0 ≤ p ∧ p < 64) : bt (x &&& y) p ↔ bt x p ∧ bt y p := by
  rw [bt_iff hp, bt_iff hp, bt_iff hp, Int64.toBitVec_and, BitVec.getLsbD_and, Bool.and_eq_true]
theorem bt_0 : ¬ bt 0 p := by
  unfold bt
  rw [Int64.zero_and]
  simp
theorem bt_an (hp : 0 ≤ p ∧ p < 64) : bt (x &&& (r ^^^ -1)) p ↔ bt x p ∧ ¬ bt r p := by
  have ha : (-1 : Int64).toBitVec = BitVec.allOnes 64 := by decide
  have hk : p.toNat < 64 := by omega
  rw [bt_iff hp, bt_iff hp, bt_iff hp, Int64.toBitVec_and, Int64.toBitVec_xor, ha, BitVec.getLsbD_and, BitVec.getLsbD_xor, BitVec.getLsbD_allOnes]
  simp [hk]
theorem bt_ext (h : ∀ p, 0 ≤ p → p < 64 → (bt x p ↔ bt y p)) : x = y := by
  apply Int64.toBitVec_inj.mp
  apply BitVec.eq_of_getLsbD_eq
  intro i hi
  have w := h (i : Int) (by omega) (by omega)
  rw [bt_iff (by omega), bt_iff (by omega), Int.toNat_natCast] at w
  exact Bool.eq_iff_iff.mpr w
theorem and_0 : x &&& r = 0 ↔ ∀ p, 0 ≤ p → p < 64 → bt r p → ¬ bt x p := by
  constructor
  · intro h p h0 h1 a b
    have w : bt (x &&& r) p := (bt_and ⟨h0, h1⟩).mpr ⟨b, a⟩
    rw [h] at w
    exact bt_0 w
  · intro h
    refine bt_ext fun p h0 h1 => ?_
    rw [bt_and ⟨h0, h1⟩]
    exact ⟨fun w => absurd w.1 (h p h0 h1 w.2), fun w => absurd w bt_0⟩
theorem and_s : x &&& r = r ↔ ∀ p, 0 ≤ p → p < 64 → bt r p → bt x p := by
  constructor
  · intro h p h0 h1 a
    rw [← h, bt_and ⟨h0, h1⟩] at a
    exact a.1
  · intro h
    refine bt_ext fun p h0 h1 => ?_
    rw [bt_and ⟨h0, h1⟩]
    exact ⟨fun w => w.2, fun w => ⟨h p h0 h1 w, w⟩⟩
theorem bt_rng {a b : Int} (ha : 0 ≤ a ∧ a ≤ 64) (hb : -1 ≤ b ∧ b < 64) (hp : 0 ≤ p ∧ p < 64) : bt (rngF a b) p ↔ a ≤ p ∧ p ≤ b := by
  unfold rngF
  by_cases h : b < a
  · rw [if_pos h]
    exact ⟨fun w => absurd w bt_0, fun w => by omega⟩
  · rw [if_neg h, bt_iff hp]
    obtain ⟨k, hk⟩ : ∃ k : Nat, 63 - (b - a) = (k : Int) := ⟨(63 - (b - a)).toNat, by omega⟩
    obtain ⟨q, rfl⟩ : ∃ q : Nat, a = (q : Int) := ⟨a.toNat, by omega⟩
    obtain ⟨i, rfl⟩ : ∃ i : Nat, p = (i : Int) := ⟨p.toNat, by omega⟩
    rw [hk, shl_bv _ (by omega), shr_bv k (by omega), Int.toNat_natCast, BitVec.getLsbD_shiftLeft, BitVec.getLsbD_ushiftRight, BitVec.getLsbD_allOnes]
    simp only [Bool.and_eq_true, Bool.not_eq_true', decide_eq_true_eq, decide_eq_false_iff_not]
    omega
end BITS
section FIND
theorem fnd_spec {f : Int → Bool} : ∀ (k : Nat) (i : Int), (fnd f k i = -1 ∧ ∀ j, i ≤ j → j < i + k → f j = false) ∨ (i ≤ fnd f k i ∧ fnd f k i < i + k ∧ f (fnd f k i) = true ∧ ∀ j, i ≤ j → j < fnd f k i → f j = false)
  | 0, i => Or.inl ⟨rfl, fun j h0 h1 => by omega⟩
  | k + 1, i => by
    unfold fnd
    cases h : f i
    · simp only [Bool.false_eq_true, if_false]
      rcases fnd_spec (f := f) k (i + 1) with ⟨a, b⟩ | ⟨a, b, c, e⟩
      · refine Or.inl ⟨a, fun j h0 h1 => ?_⟩
        by_cases q : j = i
        · rw [q]; exact h
        · exact b j (by omega) (by omega)
      · refine Or.inr ⟨by omega, by omega, c, fun j h0 h1 => ?_⟩
        by_cases q : j = i
        · rw [q]; exact h
        · exact e j (by omega) h1
    · simp only [if_true]
      exact Or.inr ⟨by omega, by omega, h, fun j h0 h1 => by omega⟩
theorem fnd_congr {f g : Int → Bool} : ∀ (k : Nat) (i : Int), (∀ j, i ≤ j → j < i + k → f j = g j) → fnd f k i = fnd g k i
  | 0, _, _ => rfl
  | k + 1, i, h => by
    unfold fnd
    rw [h i (by omega) (by omega), fnd_congr k (i + 1) (fun j h0 h1 => h j (by omega) (by omega))]
theorem anyB_congr {f g : Int → Bool} : ∀ (k : Nat) (i : Int), (∀ j, i ≤ j → j < i + k → f j = g j) → anyB f k i = anyB g k i
  | 0, _, _ => rfl
  | k + 1, i, h => by
    unfold anyB
    rw [h i (by omega) (by omega), anyB_congr k (i + 1) (fun j h0 h1 => h j (by omega) (by omega))]
theorem anyB_iff {f : Int → Bool} : ∀ (k : Nat) (i : Int), anyB f k i = true ↔ ∃ j, i ≤ j ∧ j < i + k ∧ f j = true
  | 0, i => ⟨fun h => by simp [anyB] at h, fun ⟨j, h0, h1, _⟩ => by omega⟩
  | k + 1, i => by
    unfold anyB
    cases h : f i
    · simp only [Bool.false_eq_true, if_false]
      rw [anyB_iff k (i + 1)]
      constructor
      · rintro ⟨j, a, b, c⟩; exact ⟨j, by omega, by omega, c⟩
      · rintro ⟨j, a, b, c⟩
        by_cases q : j = i
        · rw [q, h] at c; cases c
        · exact ⟨j, by omega, by omega, c⟩
    · simp only [if_true, true_iff]
      exact ⟨i, by omega, by omega, h⟩
theorem cnt_congr {f g : Int → Bool} : ∀ (k : Nat) (i c : Int), (∀ j, i ≤ j → j < i + k → f j = g j) → cnt f k i c = cnt g k i c
  | 0, _, _, _ => rfl
  | k + 1, i, c, h => by
    unfold cnt
    rw [h i (by omega) (by omega), cnt_congr k (i + 1) _ (fun j h0 h1 => h j (by omega) (by omega))]
/-- the first of 32 rounds finds nothing -/
theorem fnd_32 {f : Int → Bool} (h : f 0 = false) : fnd f 32 0 = fnd f 31 1 := by
  show (if f 0 then 0 else fnd f 31 (0 + 1)) = _
  rw [h]; rfl
theorem cnt_32 {f : Int → Bool} (h : f 0 = false) (c : Int) : cnt f 32 0 c = cnt f 31 1 c := by
  show cnt f 31 (0 + 1) (if f 0 then c + 1 else c) = _
  rw [h]; rfl
theorem anyB_32 {f : Int → Bool} (h : f 0 = false) : anyB f 32 0 = anyB f 31 1 := by
  show (if f 0 then true else anyB f 31 (0 + 1)) = _
  rw [h]; rfl
end FIND
