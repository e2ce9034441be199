/-! 70.init: what stands behind the constructors -/
section INIT
variable {σ : mG}
theorem js_14 : jS28 σ 14 = upi (fillF (σ 14) 0 ((32 : Nat) : Int) (-1)) 0 1 := by simp only [jS28, jS27, jS26, jS25, jS24, jS23, jS22, jS21, jS20, jS19, jS18, jS17, jS16, jS15, jS14, jS13, jS12, jS11, jS10, jS9, jS8, jS7, jS6, jS5, jS4, jS3, jS2, jS1, jS0, upc_self, upc_ne, ne_eq, Nat.reduceEqDiff, not_false_eq_true]
theorem js_15 : jS28 σ 15 = fillF (σ 15) 0 ((32 : Nat) : Int) (-1) := by simp only [jS28, jS27, jS26, jS25, jS24, jS23, jS22, jS21, jS20, jS19, jS18, jS17, jS16, jS15, jS14, jS13, jS12, jS11, jS10, jS9, jS8, jS7, jS6, jS5, jS4, jS3, jS2, jS1, jS0, upc_self, upc_ne, ne_eq, Nat.reduceEqDiff, not_false_eq_true]
theorem js_25 : jS28 σ 25 = fillF (σ 25) 0 ((32 : Nat) : Int) (-1) := by simp only [jS28, jS27, jS26, jS25, jS24, jS23, jS22, jS21, jS20, jS19, jS18, jS17, jS16, jS15, jS14, jS13, jS12, jS11, jS10, jS9, jS8, jS7, jS6, jS5, jS4, jS3, jS2, jS1, jS0, upc_self, upc_ne, ne_eq, Nat.reduceEqDiff, not_false_eq_true]
theorem js_10 : jS28 σ 10 = upi (upi (σ 10) 3 1) 4 (-1) := by simp only [jS28, jS27, jS26, jS25, jS24, jS23, jS22, jS21, jS20, jS19, jS18, jS17, jS16, jS15, jS14, jS13, jS12, jS11, jS10, jS9, jS8, jS7, jS6, jS5, jS4, jS3, jS2, jS1, jS0, upc_self, upc_ne, ne_eq, Nat.reduceEqDiff, not_false_eq_true]
theorem js_186 : jS28 σ 186 = upi (upi (upi (σ 186) 19 1) 20 (-1)) 18 1 := by simp only [jS28, jS27, jS26, jS25, jS24, jS23, jS22, jS21, jS20, jS19, jS18, jS17, jS16, jS15, jS14, jS13, jS12, jS11, jS10, jS9, jS8, jS7, jS6, jS5, jS4, jS3, jS2, jS1, jS0, upc_self, upc_ne, ne_eq, Nat.reduceEqDiff, not_false_eq_true]
theorem js_197 : jS28 σ 197 = upi (upi (mF2 (mF1 (σ 197) 32) 32) 220 1) 188 0 := by simp only [jS28, jS27, jS26, jS25, jS24, jS23, jS22, jS21, jS20, jS19, jS18, jS17, jS16, jS15, jS14, jS13, jS12, jS11, jS10, jS9, jS8, jS7, jS6, jS5, jS4, jS3, jS2, jS1, jS0, upc_self, upc_ne, ne_eq, Nat.reduceEqDiff, not_false_eq_true]
theorem js_o {q : Nat} (h : ¬ q = 14 ∧ ¬ q = 15 ∧ ¬ q = 25 ∧ ¬ q = 10 ∧ ¬ q = 186 ∧ ¬ q = 197 ∧ ¬ q = 67 ∧ ¬ q = 68 ∧ ¬ q = 78 ∧ (q < 120 ∨ 184 < q)) : jS28 σ q = σ q := by
  simp only [jS28, jS27, jS26, jS25, jS24, jS23, jS22, jS21, jS20, jS19, jS18, jS17, jS16, jS15, jS14, jS13, jS12, jS11, jS10, jS9, jS8, jS7, jS6, jS5, jS4, jS3, jS2, jS1, jS0]
  repeat rw [upc_ne _ _ (by omega)]
theorem js_z (hz : ∀ k : Nat, 1 ≤ k → ∀ i, σ k i = 0) {q : Nat} (h : 117 < q ∧ q < 186) (i : Int) : jS28 σ q i = 0 := by
  have key : ∀ (τ : mG) (a : Nat), (∀ i, τ q i = 0) → ∀ i, (upc τ a (upi (τ a) 2 0)) q i = 0 := by
    intro τ a ht i
    unfold upc upi
    by_cases e : q = a
    · rw [if_pos e]; split
      · rfl
      · rw [← e]; exact ht i
    · rw [if_neg e]; exact ht i
  have k2 : ∀ (τ : mG) (a : Nat) (f : Int → Int), ¬ q = a → (∀ i, τ q i = 0) → ∀ i, (upc τ a f) q i = 0 := by
    intro τ a f e ht i
    rw [upc_ne _ _ e]; exact ht i
  have z0 : ∀ i, σ q i = 0 := hz q (by omega)
  revert i
  simp only [jS28, jS27, jS26, jS25, jS24, jS23, jS22, jS21, jS20, jS19, jS18, jS17, jS16, jS15, jS14, jS13, jS12, jS11, jS10, jS9, jS8, jS7, jS6, jS5, jS4, jS3, jS2, jS1, jS0]
  repeat first | exact z0 | refine k2 _ _ _ (by omega) ?_ | refine key _ _ ?_
theorem init_abs {P : mG} (v14 : ∀ i, 0 ≤ i → i < 32 → P 14 i = if i = 0 then 1 else -1) (v15 : ∀ i, 0 ≤ i → i < 32 → P 15 i = -1) (v25 : ∀ i, 0 ≤ i → i < 32 → P 25 i = -1)
    (v0 : ∀ q : Nat, 1 ≤ q → (¬ q = 14 ∧ ¬ q = 15 ∧ ¬ q = 25 ∧ ¬ q = 10 ∧ ¬ q = 186 ∧ ¬ q = 197 ∧ ¬ q = 67 ∧ ¬ q = 68 ∧ ¬ q = 78 ∧ (q < 120 ∨ 184 < q)) → ∀ i, P q i = 0) (vz : ∀ {q : Nat}, (117 < q ∧ q < 186) → ∀ i, P q i = 0)
    (w197 : ∀ j, P 197 j = if j = 188 then 0 else if j = 220 then 1 else if 124 ≤ j ∧ j < 156 then -1 else if 252 ≤ j ∧ j < 284 then -1 else if 220 ≤ j ∧ j < 252 then -1 else 0)
    (w186 : ∀ j, P 186 j = if j = 18 then 1 else if j = 20 then -1 else if j = 19 then 1 else 0) (w10 : ∀ j, P 10 j = if j = 4 then -1 else if j = 3 then 1 else 0) : iAll 0 P P := by
  have r10 : P 10 3 = 1 := by rw [w10]; decide
  have a124 : ∀ j, 124 ≤ j → j < 156 → P 197 j = -1 := by
    intro j h0 h1; rw [w197, if_neg (by omega), if_neg (by omega), if_pos (by omega)]
  have a220 : ∀ i, 0 ≤ i → i < 32 → P 197 (220 + i) = if i = 0 then 1 else -1 := by
    intro i h0 h1
    rw [w197, if_neg (by omega)]
    by_cases e : i = 0
    · rw [if_pos (by omega), if_pos e]
    · rw [if_neg (by omega), if_neg (by omega), if_neg (by omega), if_pos (by omega), if_neg e]
  have a252 : ∀ j, 252 ≤ j → j < 284 → P 197 j = -1 := by
    intro j h0 h1; rw [w197, if_neg (by omega), if_neg (by omega), if_neg (by omega), if_pos (by omega)]
  have aZ : ∀ j, (j < 124 ∨ (156 ≤ j ∧ j < 220) ∨ 284 ≤ j) → P 197 j = 0 := by
    intro j h
    rw [w197]
    by_cases e : j = 188
    · rw [if_pos e]
    · rw [if_neg e, if_neg (by omega), if_neg (by omega), if_neg (by omega), if_neg (by omega)]
  have e18 : P 186 18 = 1 := by rw [w186]; decide
  refine ⟨⟨?_, ?_, ?_, ?_⟩, ⟨?_, ?_⟩, ?_, ?_, ?_, ?_, ?_⟩
  · refine ⟨fun i h0 h1 => ?_, ?_, fun i h0 h1 _ => ?_, fun i h0 h1 w => ?_, fun i h0 h1 => ?_, fun _ => 0, fun i h0 h1 w => ?_⟩
    · rw [v14 i h0 h1, a220 i h0 h1]
      split <;> omega
    · rw [v14 0 (by omega) (by omega), v15 0 (by omega) (by omega), v0 16 (by omega) (by omega)]; exact ⟨rfl, rfl, rfl⟩
    · rw [v15 i (by omega) h1, v0 16 (by omega) (by omega)]; exact ⟨rfl, rfl⟩
    · rw [v14 i (by omega) h1, if_neg (by omega)] at w; omega
    · rw [a252 _ (by omega) (by omega)]; omega
    · rw [v14 i (by omega) h1, if_neg (by omega)] at w; omega
  · intro i h0 h1
    rw [v14 i h0 h1, v0 17 (by omega) (by omega), aZ (316 + i) (by omega)]
    refine ⟨by omega, fun _ => rfl, fun w => ?_, by omega, fun p h2 h3 => ?_⟩
    · rfl
    · rw [v0 18 (by omega) (by omega)]
      exact ⟨fun w => by omega, fun _ => rfl⟩
  · refine ⟨fun c h h0 h1 h2 h3 => ?_, fun j h0 h1 => ?_⟩
    · rw [v25 _ (by omega) (by omega)]
      unfold nodF
      have e : P 197 (124 + 8 * c + h) = -1 := a124 _ (by omega) (by omega)
      rw [e, if_neg (by omega)]
    · rw [a124 _ (by omega) (by omega), aZ (156 + j) (by omega), aZ (188 + j) (by omega), e18]; omega
  · refine ⟨fun c h0 h1 => ?_, fun t h0 h1 => ?_⟩
    · rw [v0 26 (by omega) (by omega), aZ c (by omega)]
    · rw [v0 27 (by omega) (by omega), aZ (4 + t) (by omega)]
      exact ⟨rfl, fun w => by omega⟩
  · intro c h0 h1
    have eC : plC c = 118 + 17 * c.toNat := rfl
    rw [vz (by omega) 1, v0 187 (by omega) (by omega)]
    refine ⟨⟨rfl, by omega⟩, fun s g0 g1 => ?_⟩
    have eD : plD c s = 120 + 17 * c.toNat + 5 * s.toNat := rfl
    unfold deskR
    rw [vz (by omega) 4, vz (by omega) 2, v0 190 (by omega) (by omega), v0 192 (by omega) (by omega), v0 188 (by omega) (by omega), v0 191 (by omega) (by omega)]
    exact ⟨rfl, by omega, by omega, Or.inl ⟨rfl, rfl, rfl, rfl⟩⟩
  · have e9 : P 186 9 = 0 := by rw [w186]; decide
    refine ⟨by rw [v0 3 (by omega) (by omega), e9], by rw [e9]; omega, fun g g0 g1 => by rw [e9] at g1; omega⟩
  · have e22 : P 186 22 = 0 := by rw [w186]; decide
    have e19 : P 186 19 = 1 := by rw [w186]; decide
    have e23 : P 186 23 = 0 := by rw [w186]; decide
    have e21 : P 186 21 = 0 := by rw [w186]; decide
    have s5 : P 10 5 = 0 := by rw [w10]; decide
    have s6 : P 10 6 = 0 := by rw [w10]; decide
    have s4 : P 10 4 = -1 := by rw [w10]; decide
    unfold iSc
    rw [e22, e19, e23, e21, e18, s5, s6, s4, r10]
    exact ⟨rfl, by omega, ⟨rfl, Or.inr rfl⟩, rfl, Or.inl ⟨rfl, rfl⟩, by omega⟩
  · refine ⟨fun c h0 h1 => ?_, fun t h0 h1 => ?_, fun g g0 g1 => ?_⟩
    · rw [v0 187 (by omega) (by omega)]; omega
    · rw [v0 190 (by omega) (by omega), aZ (4 + t) (by omega)]; omega
    · rw [w186, if_neg (by decide), if_neg (by decide), if_neg (by decide)] at g1; omega
  · intro x x0 x1
    rw [v0 199 (by omega) (by omega)]; omega
  · intro _
    have e22 : P 186 22 = 0 := by rw [w186]; decide
    refine ⟨fun c m p h0 h1 h2 h3 h4 h5 => ?_, fun c h0 h1 => ?_⟩
    · dsimp only
      unfold LB
      rw [v0 20 (by omega) (by omega), v0 21 (by omega) (by omega), v0 22 (by omega) (by omega), v0 23 (by omega) (by omega), v0 199 (by omega) (by omega), ofInt0, gP_0]
      exact lkR_0 bt_0 bt_0 bt_0 bt_0
    · rw [v0 24 (by omega) (by omega), v0 201 (by omega) (by omega)]; split <;> rfl
  · intro w; rw [r10] at w; omega
theorem init_all (hz : ∀ k : Nat, 1 ≤ k → ∀ i, σ k i = 0) : iAll 0 (jS28 σ) (jS28 σ) := by
  have v14 : ∀ i, 0 ≤ i → i < 32 → jS28 σ 14 i = if i = 0 then 1 else -1 := by
    intro i h0 h1
    rw [js_14]; unfold upi fillF
    by_cases e : i = 0
    · rw [if_pos e, if_pos e]
    · rw [if_neg e, if_neg e, if_pos (by omega)]
  have v15 : ∀ i, 0 ≤ i → i < 32 → jS28 σ 15 i = -1 := by
    intro i h0 h1; rw [js_15]; unfold fillF; rw [if_pos (by omega)]
  have v25 : ∀ i, 0 ≤ i → i < 32 → jS28 σ 25 i = -1 := by
    intro i h0 h1; rw [js_25]; unfold fillF; rw [if_pos (by omega)]
  have v0 : ∀ q : Nat, 1 ≤ q → (¬ q = 14 ∧ ¬ q = 15 ∧ ¬ q = 25 ∧ ¬ q = 10 ∧ ¬ q = 186 ∧ ¬ q = 197 ∧ ¬ q = 67 ∧ ¬ q = 68 ∧ ¬ q = 78 ∧ (q < 120 ∨ 184 < q)) → ∀ i, jS28 σ q i = 0 := by
    intro q h1 h i; rw [js_o h]; exact hz q h1 i
  have w197 : ∀ j, jS28 σ 197 j = if j = 188 then 0 else if j = 220 then 1 else if 124 ≤ j ∧ j < 156 then -1 else if 252 ≤ j ∧ j < 284 then -1 else if 220 ≤ j ∧ j < 252 then -1 else 0 := by
    intro j
    rw [js_197]
    unfold upi mF2 mF1 fillF
    rw [hz 197 (by omega) j]
    repeat' split
    all_goals first | rfl | omega
  have w186 : ∀ j, jS28 σ 186 j = if j = 18 then 1 else if j = 20 then -1 else if j = 19 then 1 else 0 := by
    intro j
    rw [js_186]
    unfold upi
    rw [hz 186 (by omega) j]
  have w10 : ∀ j, jS28 σ 10 j = if j = 4 then -1 else if j = 3 then 1 else 0 := by
    intro j
    rw [js_10]
    unfold upi
    rw [hz 10 (by omega) j]
  exact init_abs v14 v15 v25 v0 (fun {q} h i => js_z hz h i) w197 w186 w10
end INIT
