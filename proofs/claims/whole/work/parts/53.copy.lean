/-! 53.copy: what the copies of a disk hold; frames by elements -/
section COPY
variable {σ τ σ' τ' : mG}
theorem cpAs_out {p q : Nat} : ∀ (k i : Nat) (σ : mG) (r : Nat), (r < p + 3 * i ∨ p + 3 * (i + k) ≤ r) → cpAs p q k i σ r = σ r
  | 0, _, _, _, _ => rfl
  | k + 1, i, σ, r, h => by
    unfold cpAs cpA
    rw [cpAs_out k (i + 1) _ r (by omega), upc_ne _ _ (by omega), upc_ne _ _ (by omega), upc_ne _ _ (by omega)]
theorem cpAs_in {p q : Nat} (hd : p + 36 ≤ q ∨ q + 36 ≤ p) {j : Nat} : ∀ (k i : Nat) (σ : mG), i ≤ j → j < i + k → i + k ≤ 12 →
    cpAs p q k i σ (p + 3 * j) 2 = σ (q + 3 * j) 2 ∧ (∀ x, 0 ≤ x → x < 4 → cpAs p q k i σ (p + 3 * j + 1) x = σ (q + 3 * j + 1) x ∧ cpAs p q k i σ (p + 3 * j + 2) x = σ (q + 3 * j + 2) x)
  | 0, i, σ, h0, h1, _ => by omega
  | k + 1, i, σ, h0, h1, h2 => by
    unfold cpAs
    by_cases e : j = i
    · subst e
      rw [cpAs_out _ _ _ _ (by omega), cpAs_out _ _ _ _ (by omega), cpAs_out _ _ _ _ (by omega)]
      unfold cpA
      refine ⟨by rw [upc_self, upi_self], fun x x0 x1 => ⟨?_, ?_⟩⟩
      · rw [upc_ne _ _ (by omega), upc_ne _ _ (by omega), upc_self]
        unfold mCpy
        rw [if_pos (by omega), show (0 : Int) + (x - 0) = x by omega]
      · rw [upc_ne _ _ (by omega), upc_self]
        unfold mCpy
        rw [if_pos (by omega), show (0 : Int) + (x - 0) = x by omega]
    · have w := cpAs_in hd (j := j) k (i + 1) (cpA σ (p + 3 * i) (q + 3 * i)) (by omega) (by omega) (by omega)
      have co : ∀ r : Nat, ¬ (p + 3 * i ≤ r ∧ r < p + 3 * i + 3) → cpA σ (p + 3 * i) (q + 3 * i) r = σ r := by
        intro r hr
        unfold cpA
        rw [upc_ne _ _ (by omega), upc_ne _ _ (by omega), upc_ne _ _ (by omega)]
      rw [co _ (by omega), co _ (by omega), co _ (by omega)] at w
      exact w
theorem cpD_out1 {r : Nat} (h : r < 65 ∨ 117 < r) : cpD σ 65 12 r = σ r := by
  unfold cpD cpL cpT
  rw [cpAs_out _ _ _ _ (by omega)]
  repeat rw [upc_ne _ _ (by omega)]
theorem cpD_out2 {r : Nat} (h : r < 13 ∨ 64 < r) : cpD σ 12 65 r = σ r := by
  unfold cpD cpL cpT
  rw [cpAs_out _ _ _ _ (by omega)]
  repeat rw [upc_ne _ _ (by omega)]
theorem cpD1_14 {x : Int} (h : 0 ≤ x ∧ x < 32) : cpD σ 65 12 67 x = σ 14 x := by
  unfold cpD cpL cpT
  rw [cpAs_out _ _ _ _ (by omega)]
  simp only [upc_self, upc_ne, ne_eq, Nat.reduceEqDiff, Nat.reduceAdd, not_false_eq_true]
  unfold mCpy
  rw [if_pos (by omega), show (0 : Int) + (x - 0) = x by omega]
theorem cpD2_14 {x : Int} (h : 0 ≤ x ∧ x < 32) : cpD σ 12 65 14 x = σ 67 x := by
  unfold cpD cpL cpT
  rw [cpAs_out _ _ _ _ (by omega)]
  simp only [upc_self, upc_ne, ne_eq, Nat.reduceEqDiff, Nat.reduceAdd, not_false_eq_true]
  unfold mCpy
  rw [if_pos (by omega), show (0 : Int) + (x - 0) = x by omega]
theorem cpD1_15 {x : Int} (h : 0 ≤ x ∧ x < 32) : cpD σ 65 12 68 x = σ 15 x := by
  unfold cpD cpL cpT
  rw [cpAs_out _ _ _ _ (by omega)]
  simp only [upc_self, upc_ne, ne_eq, Nat.reduceEqDiff, Nat.reduceAdd, not_false_eq_true]
  unfold mCpy
  rw [if_pos (by omega), show (0 : Int) + (x - 0) = x by omega]
theorem cpD2_15 {x : Int} (h : 0 ≤ x ∧ x < 32) : cpD σ 12 65 15 x = σ 68 x := by
  unfold cpD cpL cpT
  rw [cpAs_out _ _ _ _ (by omega)]
  simp only [upc_self, upc_ne, ne_eq, Nat.reduceEqDiff, Nat.reduceAdd, not_false_eq_true]
  unfold mCpy
  rw [if_pos (by omega), show (0 : Int) + (x - 0) = x by omega]
theorem cpD1_16 {x : Int} (h : 0 ≤ x ∧ x < 32) : cpD σ 65 12 69 x = σ 16 x := by
  unfold cpD cpL cpT
  rw [cpAs_out _ _ _ _ (by omega)]
  simp only [upc_self, upc_ne, ne_eq, Nat.reduceEqDiff, Nat.reduceAdd, not_false_eq_true]
  unfold mCpy
  rw [if_pos (by omega), show (0 : Int) + (x - 0) = x by omega]
theorem cpD2_16 {x : Int} (h : 0 ≤ x ∧ x < 32) : cpD σ 12 65 16 x = σ 69 x := by
  unfold cpD cpL cpT
  rw [cpAs_out _ _ _ _ (by omega)]
  simp only [upc_self, upc_ne, ne_eq, Nat.reduceEqDiff, Nat.reduceAdd, not_false_eq_true]
  unfold mCpy
  rw [if_pos (by omega), show (0 : Int) + (x - 0) = x by omega]
theorem cpD1_17 {x : Int} (h : 0 ≤ x ∧ x < 32) : cpD σ 65 12 70 x = σ 17 x := by
  unfold cpD cpL cpT
  rw [cpAs_out _ _ _ _ (by omega)]
  simp only [upc_self, upc_ne, ne_eq, Nat.reduceEqDiff, Nat.reduceAdd, not_false_eq_true]
  unfold mCpy
  rw [if_pos (by omega), show (0 : Int) + (x - 0) = x by omega]
theorem cpD2_17 {x : Int} (h : 0 ≤ x ∧ x < 32) : cpD σ 12 65 17 x = σ 70 x := by
  unfold cpD cpL cpT
  rw [cpAs_out _ _ _ _ (by omega)]
  simp only [upc_self, upc_ne, ne_eq, Nat.reduceEqDiff, Nat.reduceAdd, not_false_eq_true]
  unfold mCpy
  rw [if_pos (by omega), show (0 : Int) + (x - 0) = x by omega]
theorem cpD1_18 {x : Int} (h : 0 ≤ x ∧ x < 2048) : cpD σ 65 12 71 x = σ 18 x := by
  unfold cpD cpL cpT
  rw [cpAs_out _ _ _ _ (by omega)]
  simp only [upc_self, upc_ne, ne_eq, Nat.reduceEqDiff, Nat.reduceAdd, not_false_eq_true]
  unfold mCpy
  rw [if_pos (by omega), show (0 : Int) + (x - 0) = x by omega]
theorem cpD2_18 {x : Int} (h : 0 ≤ x ∧ x < 2048) : cpD σ 12 65 18 x = σ 71 x := by
  unfold cpD cpL cpT
  rw [cpAs_out _ _ _ _ (by omega)]
  simp only [upc_self, upc_ne, ne_eq, Nat.reduceEqDiff, Nat.reduceAdd, not_false_eq_true]
  unfold mCpy
  rw [if_pos (by omega), show (0 : Int) + (x - 0) = x by omega]
theorem cpD1_20 {x : Int} (h : 0 ≤ x ∧ x < 128) : cpD σ 65 12 73 x = σ 20 x := by
  unfold cpD cpL cpT
  rw [cpAs_out _ _ _ _ (by omega)]
  simp only [upc_self, upc_ne, ne_eq, Nat.reduceEqDiff, Nat.reduceAdd, not_false_eq_true]
  unfold mCpy
  rw [if_pos (by omega), show (0 : Int) + (x - 0) = x by omega]
theorem cpD2_20 {x : Int} (h : 0 ≤ x ∧ x < 128) : cpD σ 12 65 20 x = σ 73 x := by
  unfold cpD cpL cpT
  rw [cpAs_out _ _ _ _ (by omega)]
  simp only [upc_self, upc_ne, ne_eq, Nat.reduceEqDiff, Nat.reduceAdd, not_false_eq_true]
  unfold mCpy
  rw [if_pos (by omega), show (0 : Int) + (x - 0) = x by omega]
theorem cpD1_21 {x : Int} (h : 0 ≤ x ∧ x < 128) : cpD σ 65 12 74 x = σ 21 x := by
  unfold cpD cpL cpT
  rw [cpAs_out _ _ _ _ (by omega)]
  simp only [upc_self, upc_ne, ne_eq, Nat.reduceEqDiff, Nat.reduceAdd, not_false_eq_true]
  unfold mCpy
  rw [if_pos (by omega), show (0 : Int) + (x - 0) = x by omega]
theorem cpD2_21 {x : Int} (h : 0 ≤ x ∧ x < 128) : cpD σ 12 65 21 x = σ 74 x := by
  unfold cpD cpL cpT
  rw [cpAs_out _ _ _ _ (by omega)]
  simp only [upc_self, upc_ne, ne_eq, Nat.reduceEqDiff, Nat.reduceAdd, not_false_eq_true]
  unfold mCpy
  rw [if_pos (by omega), show (0 : Int) + (x - 0) = x by omega]
theorem cpD1_22 {x : Int} (h : 0 ≤ x ∧ x < 128) : cpD σ 65 12 75 x = σ 22 x := by
  unfold cpD cpL cpT
  rw [cpAs_out _ _ _ _ (by omega)]
  simp only [upc_self, upc_ne, ne_eq, Nat.reduceEqDiff, Nat.reduceAdd, not_false_eq_true]
  unfold mCpy
  rw [if_pos (by omega), show (0 : Int) + (x - 0) = x by omega]
theorem cpD2_22 {x : Int} (h : 0 ≤ x ∧ x < 128) : cpD σ 12 65 22 x = σ 75 x := by
  unfold cpD cpL cpT
  rw [cpAs_out _ _ _ _ (by omega)]
  simp only [upc_self, upc_ne, ne_eq, Nat.reduceEqDiff, Nat.reduceAdd, not_false_eq_true]
  unfold mCpy
  rw [if_pos (by omega), show (0 : Int) + (x - 0) = x by omega]
theorem cpD1_23 {x : Int} (h : 0 ≤ x ∧ x < 128) : cpD σ 65 12 76 x = σ 23 x := by
  unfold cpD cpL cpT
  rw [cpAs_out _ _ _ _ (by omega)]
  simp only [upc_self, upc_ne, ne_eq, Nat.reduceEqDiff, Nat.reduceAdd, not_false_eq_true]
  unfold mCpy
  rw [if_pos (by omega), show (0 : Int) + (x - 0) = x by omega]
theorem cpD2_23 {x : Int} (h : 0 ≤ x ∧ x < 128) : cpD σ 12 65 23 x = σ 76 x := by
  unfold cpD cpL cpT
  rw [cpAs_out _ _ _ _ (by omega)]
  simp only [upc_self, upc_ne, ne_eq, Nat.reduceEqDiff, Nat.reduceAdd, not_false_eq_true]
  unfold mCpy
  rw [if_pos (by omega), show (0 : Int) + (x - 0) = x by omega]
theorem cpD1_24 {x : Int} (h : 0 ≤ x ∧ x < 4) : cpD σ 65 12 77 x = σ 24 x := by
  unfold cpD cpL cpT
  rw [cpAs_out _ _ _ _ (by omega)]
  simp only [upc_self, upc_ne, ne_eq, Nat.reduceEqDiff, Nat.reduceAdd, not_false_eq_true]
  unfold mCpy
  rw [if_pos (by omega), show (0 : Int) + (x - 0) = x by omega]
theorem cpD2_24 {x : Int} (h : 0 ≤ x ∧ x < 4) : cpD σ 12 65 24 x = σ 77 x := by
  unfold cpD cpL cpT
  rw [cpAs_out _ _ _ _ (by omega)]
  simp only [upc_self, upc_ne, ne_eq, Nat.reduceEqDiff, Nat.reduceAdd, not_false_eq_true]
  unfold mCpy
  rw [if_pos (by omega), show (0 : Int) + (x - 0) = x by omega]
theorem cpD1_25 {x : Int} (h : 0 ≤ x ∧ x < 32) : cpD σ 65 12 78 x = σ 25 x := by
  unfold cpD cpL cpT
  rw [cpAs_out _ _ _ _ (by omega)]
  simp only [upc_self, upc_ne, ne_eq, Nat.reduceEqDiff, Nat.reduceAdd, not_false_eq_true]
  unfold mCpy
  rw [if_pos (by omega), show (0 : Int) + (x - 0) = x by omega]
theorem cpD2_25 {x : Int} (h : 0 ≤ x ∧ x < 32) : cpD σ 12 65 25 x = σ 78 x := by
  unfold cpD cpL cpT
  rw [cpAs_out _ _ _ _ (by omega)]
  simp only [upc_self, upc_ne, ne_eq, Nat.reduceEqDiff, Nat.reduceAdd, not_false_eq_true]
  unfold mCpy
  rw [if_pos (by omega), show (0 : Int) + (x - 0) = x by omega]
theorem cpD1_26 {x : Int} (h : 0 ≤ x ∧ x < 4) : cpD σ 65 12 79 x = σ 26 x := by
  unfold cpD cpL cpT
  rw [cpAs_out _ _ _ _ (by omega)]
  simp only [upc_self, upc_ne, ne_eq, Nat.reduceEqDiff, Nat.reduceAdd, not_false_eq_true]
  unfold mCpy
  rw [if_pos (by omega), show (0 : Int) + (x - 0) = x by omega]
theorem cpD2_26 {x : Int} (h : 0 ≤ x ∧ x < 4) : cpD σ 12 65 26 x = σ 79 x := by
  unfold cpD cpL cpT
  rw [cpAs_out _ _ _ _ (by omega)]
  simp only [upc_self, upc_ne, ne_eq, Nat.reduceEqDiff, Nat.reduceAdd, not_false_eq_true]
  unfold mCpy
  rw [if_pos (by omega), show (0 : Int) + (x - 0) = x by omega]
theorem cpD1_27 {x : Int} (h : 0 ≤ x ∧ x < 12) : cpD σ 65 12 80 x = σ 27 x := by
  unfold cpD cpL cpT
  rw [cpAs_out _ _ _ _ (by omega)]
  simp only [upc_self, upc_ne, ne_eq, Nat.reduceEqDiff, Nat.reduceAdd, not_false_eq_true]
  unfold mCpy
  rw [if_pos (by omega), show (0 : Int) + (x - 0) = x by omega]
theorem cpD2_27 {x : Int} (h : 0 ≤ x ∧ x < 12) : cpD σ 12 65 27 x = σ 80 x := by
  unfold cpD cpL cpT
  rw [cpAs_out _ _ _ _ (by omega)]
  simp only [upc_self, upc_ne, ne_eq, Nat.reduceEqDiff, Nat.reduceAdd, not_false_eq_true]
  unfold mCpy
  rw [if_pos (by omega), show (0 : Int) + (x - 0) = x by omega]
theorem cpD1_an {j : Nat} (h : j < 12) : cpD σ 65 12 (82 + 3 * j) 2 = σ (29 + 3 * j) 2 ∧ (∀ x, 0 ≤ x → x < 4 → cpD σ 65 12 (82 + 3 * j + 1) x = σ (29 + 3 * j + 1) x ∧ cpD σ 65 12 (82 + 3 * j + 2) x = σ (29 + 3 * j + 2) x) := by
  unfold cpD cpL cpT
  have w := cpAs_in (p := 65 + 17) (q := 12 + 17) (by omega) (j := j) 12 0 (upc (upc (upc (cpL (cpT σ (65 + 1) (12 + 1)) (65 + 7) (12 + 7)) (65 + 13) (mCpy (cpL (cpT σ (65 + 1) (12 + 1)) (65 + 7) (12 + 7) (12 + 13)) (cpL (cpT σ (65 + 1) (12 + 1)) (65 + 7) (12 + 7) (65 + 13)) 0 0 32)) (65 + 14) (mCpy (cpL (cpT σ (65 + 1) (12 + 1)) (65 + 7) (12 + 7) (12 + 14)) (cpL (cpT σ (65 + 1) (12 + 1)) (65 + 7) (12 + 7) (65 + 14)) 0 0 4)) (65 + 15) (mCpy (cpL (cpT σ (65 + 1) (12 + 1)) (65 + 7) (12 + 7) (12 + 15)) (cpL (cpT σ (65 + 1) (12 + 1)) (65 + 7) (12 + 7) (65 + 15)) 0 0 12)) (by omega) (by omega) (by omega)
  have e : ∀ r : Nat, r < 65 → (upc (upc (upc (cpL (cpT σ (65 + 1) (12 + 1)) (65 + 7) (12 + 7)) (65 + 13) (mCpy (cpL (cpT σ (65 + 1) (12 + 1)) (65 + 7) (12 + 7) (12 + 13)) (cpL (cpT σ (65 + 1) (12 + 1)) (65 + 7) (12 + 7) (65 + 13)) 0 0 32)) (65 + 14) (mCpy (cpL (cpT σ (65 + 1) (12 + 1)) (65 + 7) (12 + 7) (12 + 14)) (cpL (cpT σ (65 + 1) (12 + 1)) (65 + 7) (12 + 7) (65 + 14)) 0 0 4)) (65 + 15) (mCpy (cpL (cpT σ (65 + 1) (12 + 1)) (65 + 7) (12 + 7) (12 + 15)) (cpL (cpT σ (65 + 1) (12 + 1)) (65 + 7) (12 + 7) (65 + 15)) 0 0 12)) r = σ r := by
    intro r hr
    rw [upc_ne _ _ (by omega), upc_ne _ _ (by omega), upc_ne _ _ (by omega)]
    unfold cpL cpT
    repeat rw [upc_ne _ _ (by omega)]
  rw [e _ (by omega), e _ (by omega), e _ (by omega)] at w
  exact w
theorem cpD2_an {j : Nat} (h : j < 12) : cpD σ 12 65 (29 + 3 * j) 2 = σ (82 + 3 * j) 2 ∧ (∀ x, 0 ≤ x → x < 4 → cpD σ 12 65 (29 + 3 * j + 1) x = σ (82 + 3 * j + 1) x ∧ cpD σ 12 65 (29 + 3 * j + 2) x = σ (82 + 3 * j + 2) x) := by
  have w := cpAs_in (p := 12 + 17) (q := 65 + 17) (by omega) (j := j) 12 0 (upc (upc (upc (cpL (cpT σ (12 + 1) (65 + 1)) (12 + 7) (65 + 7)) (12 + 13) (mCpy (cpL (cpT σ (12 + 1) (65 + 1)) (12 + 7) (65 + 7) (65 + 13)) (cpL (cpT σ (12 + 1) (65 + 1)) (12 + 7) (65 + 7) (12 + 13)) 0 0 32)) (12 + 14) (mCpy (cpL (cpT σ (12 + 1) (65 + 1)) (12 + 7) (65 + 7) (65 + 14)) (cpL (cpT σ (12 + 1) (65 + 1)) (12 + 7) (65 + 7) (12 + 14)) 0 0 4)) (12 + 15) (mCpy (cpL (cpT σ (12 + 1) (65 + 1)) (12 + 7) (65 + 7) (65 + 15)) (cpL (cpT σ (12 + 1) (65 + 1)) (12 + 7) (65 + 7) (12 + 15)) 0 0 12)) (by omega) (by omega) (by omega)
  have e : ∀ r : Nat, 65 < r → (upc (upc (upc (cpL (cpT σ (12 + 1) (65 + 1)) (12 + 7) (65 + 7)) (12 + 13) (mCpy (cpL (cpT σ (12 + 1) (65 + 1)) (12 + 7) (65 + 7) (65 + 13)) (cpL (cpT σ (12 + 1) (65 + 1)) (12 + 7) (65 + 7) (12 + 13)) 0 0 32)) (12 + 14) (mCpy (cpL (cpT σ (12 + 1) (65 + 1)) (12 + 7) (65 + 7) (65 + 14)) (cpL (cpT σ (12 + 1) (65 + 1)) (12 + 7) (65 + 7) (12 + 14)) 0 0 4)) (12 + 15) (mCpy (cpL (cpT σ (12 + 1) (65 + 1)) (12 + 7) (65 + 7) (65 + 15)) (cpL (cpT σ (12 + 1) (65 + 1)) (12 + 7) (65 + 7) (12 + 15)) 0 0 12)) r = σ r := by
    intro r hr
    rw [upc_ne _ _ (by omega), upc_ne _ _ (by omega), upc_ne _ _ (by omega)]
    unfold cpL cpT
    repeat rw [upc_ne _ _ (by omega)]
  rw [e _ (by omega), e _ (by omega), e _ (by omega)] at w
  exact w
/-- equal where it counts -/
def ptC (σ σ' : mG) : Prop := (∀ i, 0 ≤ i → i < 32 → σ' 14 i = σ 14 i ∧ σ' 15 i = σ 15 i ∧ σ' 16 i = σ 16 i ∧ σ' 17 i = σ 17 i ∧ σ' 25 i = σ 25 i) ∧ (∀ j, 0 ≤ j → j < 2048 → σ' 18 j = σ 18 j) ∧
  (∀ r, 0 ≤ r → r < 128 → σ' 20 r = σ 20 r ∧ σ' 21 r = σ 21 r ∧ σ' 22 r = σ 22 r ∧ σ' 23 r = σ 23 r) ∧ (∀ c, 0 ≤ c → c < 4 → σ' 24 c = σ 24 c ∧ σ' 26 c = σ 26 c) ∧
  (∀ t, 0 ≤ t → t < 12 → σ' 27 t = σ 27 t ∧ σ' (29 + 3 * t.toNat) 2 = σ (29 + 3 * t.toNat) 2 ∧ ∀ x, 0 ≤ x → x < 4 → σ' (29 + 3 * t.toNat + 1) x = σ (29 + 3 * t.toNat + 1) x ∧ σ' (29 + 3 * t.toNat + 2) x = σ (29 + 3 * t.toNat + 2) x)
def ptM (τ τ' : mG) : Prop := (∀ j, 0 ≤ j → j < 2396 → τ' 197 j = τ 197 j) ∧ (∀ k, 0 ≤ k → k < 8192 → τ' 199 k = τ 199 k) ∧ (∀ c, 0 ≤ c → c < 4 → τ' 201 c = τ 201 c) ∧ τ' 186 18 = τ 186 18 ∧ τ' 186 22 = τ 186 22 ∧ τ' 186 23 = τ 186 23
theorem iTr_pt (h : iTr σ τ) (hc : ptC σ σ') (hm : ptM τ τ') : iTr σ' τ' := by
  obtain ⟨A, B, C, E, F, r, R⟩ := h
  have c1 := hc.1
  have m1 := hm.1
  refine ⟨fun i h0 h1 => ?_, ?_, fun i h0 h1 => ?_, fun i h0 h1 => ?_, fun i h0 h1 => ?_, r, fun i h0 h1 => ?_⟩
  · rw [(c1 i h0 h1).1, m1 _ (by omega) (by omega)]; exact A i h0 h1
  · rw [(c1 0 (by omega) (by omega)).1, (c1 0 (by omega) (by omega)).2.1, (c1 0 (by omega) (by omega)).2.2.1]; exact B
  · rw [(c1 i (by omega) h1).1, (c1 i (by omega) h1).2.1, (c1 i (by omega) h1).2.2.1]; exact C i h0 h1
  · rw [(c1 i (by omega) h1).1, (c1 i (by omega) h1).2.1, (c1 i (by omega) h1).2.2.1, m1 _ (by omega) (by omega), m1 _ (by omega) (by omega)]
    intro w
    obtain ⟨e1, e2, e3, e4, e5, e6⟩ := E i h0 h1 w
    exact ⟨e1, e2, e3, e4, e5, by rw [(c1 _ e4 e5).1]; exact e6⟩
  · rw [m1 _ (by omega) (by omega)]; exact F i h0 h1
  · rw [(c1 i (by omega) h1).1, (c1 i (by omega) h1).2.1]; exact R i h0 h1
theorem iBy_pt (h : iBy σ τ) (hc : ptC σ σ') (hm : ptM τ τ') : iBy σ' τ' := by
  intro i h0 h1
  obtain ⟨a, b, c, e, f⟩ := h i h0 h1
  rw [(hc.1 i h0 h1).1, (hc.1 i h0 h1).2.2.2.1, hm.1 _ (by omega) (by omega)]
  refine ⟨a, b, c, e, fun p h2 h3 => ?_⟩
  rw [hm.1 _ (by omega) (by omega), hc.2.1 _ (by omega) (by omega)]
  exact f p h2 h3
theorem iHa_pt (h : iHa σ τ) (hc : ptC σ σ') (hm : ptM τ τ') : iHa σ' τ' := by
  obtain ⟨a, b⟩ := h
  have m1 := hm.1
  refine ⟨fun c h h0 h1 h2 h3 => ?_, fun j h0 h1 => ?_⟩
  · have w := (b (8 * c + h) (by omega) (by omega)).1
    rw [show 124 + (8 * c + h) = 124 + 8 * c + h by omega] at w
    rw [(hc.1 _ (by omega) (by omega)).2.2.2.2, a c h h0 h1 h2 h3, nodF_fr ⟨h0, h1⟩ ⟨h2, h3⟩ w fun j g0 g1 => m1 j (by omega) (by omega)]
  · rw [hm.2.2.2.1, m1 _ (by omega) (by omega), m1 _ (by omega) (by omega), m1 _ (by omega) (by omega)]; exact b j h0 h1
theorem iLv_pt {g : Int → Int → Int → Int} (h : iLv σ g) (hc : ptC σ σ') : iLv σ' g := by
  intro c m p h0 h1 h2 h3 h4 h5
  have w := h c m p h0 h1 h2 h3 h4 h5
  obtain ⟨r1, r2, r3, r4⟩ := hc.2.2.1 (c * 32 + m) (by omega) (by omega)
  unfold LB at w ⊢
  rw [r1, r2, r3, r4]; exact w
theorem iLv_g {g g' : Int → Int → Int → Int} (h : iLv σ g) (e : ∀ c m p, 0 ≤ c → c < 4 → 0 ≤ m → m < 32 → 0 ≤ p → p < 64 → g' c m p = g c m p) : iLv σ g' := by
  intro c m p h0 h1 h2 h3 h4 h5
  rw [e c m p h0 h1 h2 h3 h4 h5]; exact h c m p h0 h1 h2 h3 h4 h5
theorem iLx_pt (h : iLx σ τ) (hc : ptC σ σ') (hm : ptM τ τ') : iLx σ' τ' := by
  obtain ⟨A, B, P, Q⟩ := h
  obtain ⟨m1, m2, m3, m4, m5, m6⟩ := hm
  refine ⟨iLv_g (iLv_pt A hc) fun c m p h0 h1 h2 h3 h4 h5 => m2 _ (by omega) (by omega), fun c h0 h1 => ?_, fun c m p h0 h1 h2 h3 h4 h5 => ?_, fun c h0 h1 => ?_⟩
  · rw [(hc.2.2.2.1 c h0 h1).1, m3 c h0 h1]; exact B c h0 h1
  · rw [m2 _ (by omega) (by omega), m3 c h0 h1, m5, m6]; exact P c m p h0 h1 h2 h3 h4 h5
  · rw [m3 c h0 h1, m5]; exact Q c h0 h1
theorem iD4_pt (h : iD4 σ τ) (hc : ptC σ σ') (hm : ptM τ τ') : iD4 σ' τ' := ⟨iTr_pt h.1 hc hm, iBy_pt h.2.1 hc hm, iHa_pt h.2.2.1 hc hm, iLx_pt h.2.2.2 hc hm⟩
theorem iAn_pt (h : iAn σ τ) (hc : ptC σ σ') (hm : ∀ j, 0 ≤ j → j < 124 → τ' 197 j = τ 197 j) : iAn σ' τ' := by
  obtain ⟨a, b⟩ := h
  refine ⟨fun c h0 h1 => ?_, fun t h0 h1 => ?_⟩
  · rw [(hc.2.2.2.1 c h0 h1).2, hm c h0 (by omega)]; exact a c h0 h1
  · obtain ⟨c1, c2, c3⟩ := hc.2.2.2.2 t h0 h1
    obtain ⟨b1, b2⟩ := b t h0 h1
    rw [c1, hm (4 + t) (by omega) (by omega)]
    refine ⟨b1, fun w => ?_⟩
    obtain ⟨e1, e2, e3⟩ := b2 w
    unfold ansR
    rw [c2, hm (16 + t) (by omega) (by omega)]
    refine ⟨e1, e2, fun j g0 g1 => ?_⟩
    rw [(c3 j g0 (by omega)).1, (c3 j g0 (by omega)).2, hm (28 + 4 * t + j) (by omega) (by omega), hm (76 + 4 * t + j) (by omega) (by omega)]
    exact e3 j g0 g1
theorem ptC_of (h : ∀ q : Nat, 13 < q → q < 65 → σ' q = σ q) : ptC σ σ' := by
  refine ⟨fun i _ _ => ?_, fun j _ _ => ?_, fun r _ _ => ?_, fun c _ _ => ?_, fun t _ _ => ?_⟩
  · rw [h 14 (by omega) (by omega), h 15 (by omega) (by omega), h 16 (by omega) (by omega), h 17 (by omega) (by omega), h 25 (by omega) (by omega)]; exact ⟨rfl, rfl, rfl, rfl, rfl⟩
  · rw [h 18 (by omega) (by omega)]
  · rw [h 20 (by omega) (by omega), h 21 (by omega) (by omega), h 22 (by omega) (by omega), h 23 (by omega) (by omega)]; exact ⟨rfl, rfl, rfl, rfl⟩
  · rw [h 24 (by omega) (by omega), h 26 (by omega) (by omega)]; exact ⟨rfl, rfl⟩
  · rw [h 27 (by omega) (by omega), h _ (by omega) (by omega), h _ (by omega) (by omega), h _ (by omega) (by omega)]; exact ⟨rfl, rfl, fun _ _ _ => ⟨rfl, rfl⟩⟩
/-- the disk is put back -/
theorem ptC_back {E : mG} (h : ∀ q : Nat, 65 < q → q < 118 → E q = cpD σ 65 12 q) : ptC σ (cpD E 12 65) := by
  refine ⟨fun i h0 h1 => ?_, fun j h0 h1 => ?_, fun r h0 h1 => ?_, fun c h0 h1 => ?_, fun t h0 h1 => ?_⟩
  · rw [cpD2_14 ⟨h0, h1⟩, cpD2_15 ⟨h0, h1⟩, cpD2_16 ⟨h0, h1⟩, cpD2_17 ⟨h0, h1⟩, cpD2_25 ⟨h0, h1⟩, h 67 (by omega) (by omega), h 68 (by omega) (by omega), h 69 (by omega) (by omega), h 70 (by omega) (by omega), h 78 (by omega) (by omega), cpD1_14 ⟨h0, h1⟩, cpD1_15 ⟨h0, h1⟩, cpD1_16 ⟨h0, h1⟩, cpD1_17 ⟨h0, h1⟩, cpD1_25 ⟨h0, h1⟩]
    exact ⟨rfl, rfl, rfl, rfl, rfl⟩
  · rw [cpD2_18 ⟨h0, h1⟩, h 71 (by omega) (by omega), cpD1_18 ⟨h0, h1⟩]
  · rw [cpD2_20 ⟨h0, h1⟩, cpD2_21 ⟨h0, h1⟩, cpD2_22 ⟨h0, h1⟩, cpD2_23 ⟨h0, h1⟩, h 73 (by omega) (by omega), h 74 (by omega) (by omega), h 75 (by omega) (by omega), h 76 (by omega) (by omega), cpD1_20 ⟨h0, h1⟩, cpD1_21 ⟨h0, h1⟩, cpD1_22 ⟨h0, h1⟩, cpD1_23 ⟨h0, h1⟩]
    exact ⟨rfl, rfl, rfl, rfl⟩
  · rw [cpD2_24 ⟨h0, h1⟩, cpD2_26 ⟨h0, h1⟩, h 77 (by omega) (by omega), h 79 (by omega) (by omega), cpD1_24 ⟨h0, h1⟩, cpD1_26 ⟨h0, h1⟩]
    exact ⟨rfl, rfl⟩
  · obtain ⟨a1, a2⟩ := cpD2_an (σ := E) (show t.toNat < 12 by omega)
    obtain ⟨b1, b2⟩ := cpD1_an (σ := σ) (show t.toNat < 12 by omega)
    rw [cpD2_27 ⟨h0, h1⟩, h 80 (by omega) (by omega), cpD1_27 ⟨h0, h1⟩]
    refine ⟨rfl, ?_, fun x x0 x1 => ⟨?_, ?_⟩⟩
    · rw [a1, h _ (by omega) (by omega), b1]
    · rw [(a2 x x0 x1).1, h _ (by omega) (by omega), (b2 x x0 x1).1]
    · rw [(a2 x x0 x1).2, h _ (by omega) (by omega), (b2 x x0 x1).2]
end COPY
