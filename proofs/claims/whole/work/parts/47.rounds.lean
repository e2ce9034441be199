/-! 47.rounds: a new life, and the steps of a call, of class and reference -/
section RND
variable {σ τ σ' τ' : mG}
def ansR (σ τ : mG) (t : Int) : Prop := σ (29 + 3 * t.toNat) 2 = τ 197 (16 + t) ∧ (0 ≤ τ 197 (16 + t) ∧ τ 197 (16 + t) ≤ 4) ∧
  ∀ j, 0 ≤ j → j < τ 197 (16 + t) → σ (29 + 3 * t.toNat + 1) j = τ 197 (28 + 4 * t + j) ∧ σ (29 + 3 * t.toNat + 2) j = τ 197 (76 + 4 * t + j)
def iAn (σ τ : mG) : Prop := (∀ c, 0 ≤ c → c < 4 → σ 26 c = τ 197 c) ∧ ∀ t, 0 ≤ t → t < 12 → σ 27 t = τ 197 (4 + t) ∧ (1 ≤ σ 27 t → ansR σ τ t)
theorem nl_pair (hD : iD4 σ τ) (hA : iAn σ τ) {c l : Int} (hc : 0 ≤ c ∧ c < 4) : iD4 (begD σ c l) (nlF τ c l) ∧ iAn (begD σ c l) (nlF τ c l) := by
  obtain ⟨hT, hB, hH, hL⟩ := hD
  obtain ⟨A, B, P, Q⟩ := hL
  have n186 : nlF τ c l 186 = τ 186 := by unfold nlF; simp only [upc_self, upc_ne, upi_self, upi_ne, ne_eq, Nat.reduceEqDiff, not_false_eq_true, Int.reduceEq]
  have n197 : ∀ j, ¬ j = c → ¬ (4 + 3 * c ≤ j ∧ j < 4 + 3 * c + 3) → ¬ (16 + 3 * c ≤ j ∧ j < 16 + 3 * c + 3) → ¬ (124 + 8 * c ≤ j ∧ j < 124 + 8 * c + 8) → nlF τ c l 197 j = τ 197 j := by
    intro j h1 h2 h3 h4
    unfold nlF; simp only [upc_self, upc_ne, upi_self, upi_ne, ne_eq, Nat.reduceEqDiff, not_false_eq_true, Int.reduceEq]
    unfold fillF
    rw [if_neg h4, if_neg h3, if_neg h2, upi_ne _ _ (by omega)]
  have n199 : ∀ d m p, 0 ≤ m → m < 32 → 0 ≤ p → p < 64 → nlF τ c l 199 ((32 * d + m) * 64 + p) = if d = c then 0 else τ 199 ((32 * d + m) * 64 + p) := by
    intro d m p h0 h1 h2 h3
    unfold nlF; simp only [upc_self, upc_ne, upi_self, upi_ne, ne_eq, Nat.reduceEqDiff, not_false_eq_true, Int.reduceEq]
    unfold fillF
    by_cases q : d = c
    · rw [if_pos q, if_pos (by omega)]
    · rw [if_neg q, if_neg (by omega)]
  have n201 : nlF τ c l 201 = upi (τ 201) c 0 := by unfold nlF; simp only [upc_self, upc_ne, upi_self, upi_ne, ne_eq, Nat.reduceEqDiff, not_false_eq_true, Int.reduceEq]
  have b20 : ∀ q : Nat, q = 20 ∨ q = 21 ∨ q = 22 ∨ q = 23 → ∀ d m, 0 ≤ m → m < 32 → begD σ c l q (d * 32 + m) = if d = c then 0 else σ q (d * 32 + m) := by
    intro q hq d m h0 h1
    have e : begD σ c l q = fillF (σ q) (c * 32) ((c + 1) * 32) 0 := by
      unfold begD; rcases hq with rfl | rfl | rfl | rfl <;> simp only [upc_self, upc_ne, upi_self, upi_ne, ne_eq, Nat.reduceEqDiff, not_false_eq_true, Int.reduceEq]
    rw [e]
    unfold fillF
    by_cases q : d = c
    · rw [if_pos q, if_pos (by omega)]
    · rw [if_neg q, if_neg (by omega)]
  have b24 : begD σ c l 24 = upi (σ 24) c 0 := by unfold begD; simp only [upc_self, upc_ne, upi_self, upi_ne, ne_eq, Nat.reduceEqDiff, not_false_eq_true, Int.reduceEq]
  have b25 : begD σ c l 25 = fillF (σ 25) (c * 8) (c * 8 + 8) (-1) := by unfold begD; simp only [upc_self, upc_ne, upi_self, upi_ne, ne_eq, Nat.reduceEqDiff, not_false_eq_true, Int.reduceEq]
  have b26 : begD σ c l 26 = upi (σ 26) c l := by unfold begD; simp only [upc_self, upc_ne, upi_self, upi_ne, ne_eq, Nat.reduceEqDiff, not_false_eq_true, Int.reduceEq]
  have b27 : begD σ c l 27 = fillF (σ 27) (c * 3) (c * 3 + 3) 0 := by unfold begD; simp only [upc_self, upc_ne, upi_self, upi_ne, ne_eq, Nat.reduceEqDiff, not_false_eq_true, Int.reduceEq]
  have bo : ∀ q : Nat, q < 20 ∨ 27 < q → begD σ c l q = σ q := by
    intro q hq
    unfold begD
    rw [upc_ne _ _ (by omega), upc_ne _ _ (by omega), upc_ne _ _ (by omega), upc_ne _ _ (by omega), upc_ne _ _ (by omega), upc_ne _ _ (by omega), upc_ne _ _ (by omega), upc_ne _ _ (by omega)]
  refine ⟨⟨?_, ?_, ?_, ?_⟩, ?_, ?_⟩
  · exact iTr_fr hT (bo 14 (by omega)) (bo 15 (by omega)) (bo 16 (by omega)) fun j h0 h1 => n197 j (by omega) (by omega) (by omega) (by omega)
  · exact iBy_fr hB (bo 14 (by omega)) (bo 17 (by omega)) (bo 18 (by omega)) fun j h0 h1 => n197 j (by omega) (by omega) (by omega) (by omega)
  · obtain ⟨H1, H2⟩ := hH
    have nh : ∀ h, 0 ≤ h → h < 8 → nlF τ c l 197 (124 + 8 * c + h) = -1 := by
      intro h h0 h1
      unfold nlF; simp only [upc_self, upc_ne, upi_self, upi_ne, ne_eq, Nat.reduceEqDiff, not_false_eq_true, Int.reduceEq]
      unfold fillF
      rw [if_pos (by omega)]
    constructor
    · intro d h h0 h1 h2 h3
      rw [b25]
      unfold fillF
      by_cases q : d = c
      · subst q
        rw [if_pos (by omega)]
        unfold nodF
        rw [nh h h2 h3, if_neg (by omega)]
      · rw [if_neg (by omega), H1 d h h0 h1 h2 h3]
        unfold nodF
        rw [n197 (124 + 8 * d + h) (by omega) (by omega) (by omega) (by omega), n197 (156 + 8 * d + h) (by omega) (by omega) (by omega) (by omega)]
        by_cases z : 0 ≤ τ 197 (124 + 8 * d + h)
        · rw [n197 (220 + _) (by omega) (by omega) (by omega) (by omega), n197 (188 + _) (by omega) (by omega) (by omega) (by omega)]
        · rw [if_neg (fun w => z w.1), if_neg (fun w => z w.1)]
    · intro j h0 h1
      rw [n186, n197 (156 + j) (by omega) (by omega) (by omega) (by omega), n197 (188 + j) (by omega) (by omega) (by omega) (by omega)]
      refine ⟨?_, (H2 j h0 h1).2⟩
      by_cases q : 124 + 8 * c ≤ 124 + j ∧ 124 + j < 124 + 8 * c + 8
      · rw [show 124 + j = 124 + 8 * c + (j - 8 * c) by omega, nh _ (by omega) (by omega)]; omega
      · rw [n197 (124 + j) (by omega) (by omega) (by omega) q]; exact (H2 j h0 h1).1
  · refine ⟨fun d m p h0 h1 h2 h3 h4 h5 => ?_, fun d h0 h1 => ?_, fun d m p h0 h1 h2 h3 h4 h5 => ?_, fun d h0 h1 => ?_⟩
    · have w := A d m p h0 h1 h2 h3 h4 h5
      show lkR _ _ _ _ (nlF τ c l 199 ((32 * d + m) * 64 + p))
      unfold LB at w ⊢
      rw [b20 20 (by omega) d m h2 h3, b20 21 (by omega) d m h2 h3, b20 22 (by omega) d m h2 h3, b20 23 (by omega) d m h2 h3, n199 d m p h2 h3 h4 h5]
      by_cases q : d = c
      · rw [if_pos q, if_pos q, if_pos q, if_pos q, if_pos q, ofInt0]; exact lkR_0 bt_0 bt_0 bt_0 bt_0
      · rw [if_neg q, if_neg q, if_neg q, if_neg q, if_neg q]; exact w
    · rw [b24, n201]
      by_cases q : d = c
      · rw [q, upi_self, upi_self]
      · rw [upi_ne _ _ q, upi_ne _ _ q]; exact B d h0 h1
    · rw [n199 d m p h2 h3 h4 h5, n201, n186]
      by_cases q : d = c
      · rw [if_pos q]; exact gP_0
      · rw [if_neg q, upi_ne _ _ q]; exact P d m p h0 h1 h2 h3 h4 h5
    · rw [n201, n186]
      by_cases q : d = c
      · rw [q, upi_self]; split <;> rfl
      · rw [upi_ne _ _ q]; exact Q d h0 h1
  · intro d h0 h1
    rw [b26]
    by_cases q : d = c
    · subst q
      rw [upi_self]
      unfold nlF; simp only [upc_self, upc_ne, upi_self, upi_ne, ne_eq, Nat.reduceEqDiff, not_false_eq_true, Int.reduceEq]
      unfold fillF
      rw [if_neg (by omega), if_neg (by omega), if_neg (by omega), show (0 : Int) + d = d by omega, upi_self]
    · rw [upi_ne _ _ q, n197 d q (by omega) (by omega) (by omega)]; exact hA.1 d h0 h1
  · intro t h0 h1
    rw [b27]
    unfold fillF
    obtain ⟨a1, a2⟩ := hA.2 t h0 h1
    by_cases q : c * 3 ≤ t ∧ t < c * 3 + 3
    · rw [if_pos q]
      refine ⟨?_, fun w => by omega⟩
      unfold nlF; simp only [upc_self, upc_ne, upi_self, upi_ne, ne_eq, Nat.reduceEqDiff, not_false_eq_true, Int.reduceEq]
      unfold fillF
      rw [if_neg (by omega), if_neg (by omega), if_pos (by omega)]
    · rw [if_neg q, n197 (4 + t) (by omega) (by omega) (by omega) (by omega)]
      refine ⟨a1, fun w => ?_⟩
      obtain ⟨r1, r2, r3⟩ := a2 w
      unfold ansR
      rw [bo _ (by omega), bo _ (by omega), bo _ (by omega), n197 (16 + t) (by omega) (by omega) (by omega) (by omega)]
      refine ⟨r1, r2, fun j g0 g1 => ?_⟩
      rw [n197 (28 + 4 * t + j) (by omega) (by omega) (by omega) (by omega), n197 (76 + 4 * t + j) (by omega) (by omega) (by omega) (by omega)]
      exact r3 j g0 g1
def apF (σ : mG) (p : Nat) (c v : Int) : mG := upc (upc (upc σ (p + 1) (upi (σ (p + 1)) (σ p 2) c)) (p + 2) (upi (σ (p + 2)) (σ p 2) v)) p (upi (σ p) 2 (σ p 2 + 1))
def clR (σ : mG) (p : Nat) (at' : Int) : mG := apF (stStep σ at').2 p (stStep σ at').1 ((stStep σ at').2 11 12)
def clL (g steps : Int) (p : Nat) : Nat → Int → Int → mG → mG
  | 0, _, _, σ => σ
  | k + 1, i, code, σ => if i < steps ∧ code = 0 then clL g steps p k (i + 1) (stStep σ ((g * 4 + i) * 5)).1 (clR σ p ((g * 4 + i) * 5)) else σ
/-- what the rounds leave -/
def uC2 (p : Nat) (σ σ' : mG) : Prop := (∀ q : Nat, ¬ q = 11 → ¬ q = 14 → ¬ q = 15 → ¬ q = 16 → ¬ q = 17 → ¬ q = 18 → ¬ q = 20 → ¬ q = 21 → ¬ q = 22 → ¬ q = 23 → ¬ q = 24 → ¬ q = 25 → ¬ q = p → ¬ q = p + 1 → ¬ q = p + 2 → σ' q = σ q) ∧ ∀ j, j < 6 → σ' 11 j = σ 11 j
def uM2 (t k : Int) (τ τ' : mG) : Prop := (∀ q : Nat, ¬ q = 186 → ¬ q = 197 → ¬ q = 199 → ¬ q = 201 → τ' q = τ q) ∧ (∀ j, j < 124 → ¬ (28 + 4 * t ≤ j ∧ j < 32 + 4 * t) → ¬ (76 + 4 * t ≤ j ∧ j < 80 + 4 * t) → τ' 197 j = τ 197 j) ∧ (∀ j, ¬ j = 18 → ¬ j = 25 → τ' 186 j = τ 186 j) ∧ (τ 186 18 ≤ τ' 186 18 ∧ τ' 186 18 ≤ τ 186 18 + k)
theorem uC2_tr {p : Nat} {σ'' : mG} (h : uC2 p σ σ') (h' : uC2 p σ' σ'') : uC2 p σ σ'' :=
  ⟨fun q a1 a2 a3 a4 a5 a6 a7 a8 a9 b1 b2 b3 b4 b5 b6 => (h'.1 q a1 a2 a3 a4 a5 a6 a7 a8 a9 b1 b2 b3 b4 b5 b6).trans (h.1 q a1 a2 a3 a4 a5 a6 a7 a8 a9 b1 b2 b3 b4 b5 b6), fun j hj => (h'.2 j hj).trans (h.2 j hj)⟩
theorem uM2_tr {t k l : Int} {τ'' : mG} (h : uM2 t k τ τ') (h' : uM2 t l τ' τ'') : uM2 t (k + l) τ τ'' :=
  ⟨fun q a1 a2 a3 a4 => (h'.1 q a1 a2 a3 a4).trans (h.1 q a1 a2 a3 a4), fun j h1 h2 h3 => (h'.2.1 j h1 h2 h3).trans (h.2.1 j h1 h2 h3), fun j h1 h2 => (h'.2.2.1 j h1 h2).trans (h.2.2.1 j h1 h2), by have := h.2.2.2; have := h'.2.2.2; omega⟩
def iRn (t i : Int) (σ τ : mG) : Prop := iD4 σ τ ∧ iWk σ τ ∧ σ (29 + 3 * t.toNat) 2 = i ∧
  ∀ j, 0 ≤ j → j < i → σ (29 + 3 * t.toNat + 1) j = τ 197 (28 + 4 * t + j) ∧ σ (29 + 3 * t.toNat + 2) j = τ 197 (76 + 4 * t + j)
theorem rn_step {t i g at' : Int} (h : iRn t i σ τ) (ht : 0 ≤ t ∧ t < 12) (hi : 0 ≤ i ∧ i < 4) (e : ∀ k, 0 ≤ k → k < 5 → σ 9 (at' + k) = τ 196 (20 * g + 5 * i + k)) :
    (stStep σ at').1 = (prS τ g i).1 ∧ iRn t (i + 1) (clR σ (29 + 3 * t.toNat) at') (prR τ g t i) ∧ uC2 (29 + 3 * t.toNat) σ (clR σ (29 + 3 * t.toNat) at') ∧ uM2 t 1 τ (prR τ g t i) := by
  obtain ⟨hD, hW, h2, hr⟩ := h
  have sp : spR σ τ (stStep σ at') (prS τ g i) := step_pair hD hW (by have := e 0 (by omega) (by omega); rw [Int.add_zero, Int.add_zero] at this; exact this) (e 1 (by omega) (by omega)) (e 2 (by omega) (by omega)) (e 3 (by omega) (by omega)) (e 4 (by omega) (by omega))
  unfold clR prR
  generalize stStep σ at' = R at *
  generalize prS τ g i = S at *
  obtain ⟨s1, s2, ⟨dT, dB, dH, dL⟩, sc, sm⟩ := sp
  have hW' := iWk_u hW sc sm
  generalize hp : 29 + 3 * t.toNat = p at *
  have p1 : 29 ≤ p ∧ p < 63 := by omega
  have cp : ∀ q : Nat, 29 ≤ q → R.2 q = σ q := fun q hq => sc.1 q (by omega) (by omega) (by omega) (by omega) (by omega) (by omega) (by omega) (by omega) (by omega) (by omega) (by omega) (by omega)
  have co : ∀ q : Nat, ¬ q = p → ¬ q = p + 1 → ¬ q = p + 2 → apF R.2 p R.1 (R.2 11 12) q = R.2 q := by
    intro q a1 a2 a3
    unfold apF
    rw [upc_ne _ _ a1, upc_ne _ _ a3, upc_ne _ _ a2]
  have mo : ∀ j, ¬ j = 28 + 4 * t + i → ¬ j = 76 + 4 * t + i → (upi (upi (S.2 197) (28 + 4 * t + i) S.1) (76 + 4 * t + i) (if S.1 = 0 then S.2 186 25 else 0)) j = S.2 197 j := by
    intro j a1 a2
    rw [upi_ne _ _ a2, upi_ne _ _ a1]
  refine ⟨s1, ⟨⟨?_, ?_, ?_, ?_⟩, ?_, ?_, ?_⟩, ?_, ?_⟩
  · refine iTr_fr dT (co 14 (by omega) (by omega) (by omega)) (co 15 (by omega) (by omega) (by omega)) (co 16 (by omega) (by omega) (by omega)) fun j h0 h1 => ?_
    rw [upc_self]; exact mo j (by omega) (by omega)
  · refine iBy_fr dB (co 14 (by omega) (by omega) (by omega)) (co 17 (by omega) (by omega) (by omega)) (co 18 (by omega) (by omega) (by omega)) fun j h0 h1 => ?_
    rw [upc_self]; exact mo j (by omega) (by omega)
  · refine iHa_fr dH (co 25 (by omega) (by omega) (by omega)) ?_ fun j h0 h1 => ?_
    · rw [upc_ne _ _ (by decide)]
    · rw [upc_self]; exact mo j (by omega) (by omega)
  · refine iLx_fr dL (co 20 (by omega) (by omega) (by omega)) (co 21 (by omega) (by omega) (by omega)) (co 22 (by omega) (by omega) (by omega)) (co 23 (by omega) (by omega) (by omega)) (co 24 (by omega) (by omega) (by omega)) ?_ ?_ ?_ ?_ <;> simp only [upc_self, upc_ne, upi_self, upi_ne, ne_eq, Nat.reduceEqDiff, not_false_eq_true, Int.reduceEq]
  · unfold iWk at hW' ⊢
    rw [co 11 (by omega) (by omega) (by omega), upc_ne _ _ (by decide)]
    exact hW'
  · rw [hp]
    unfold apF
    rw [upc_self, upi_self, cp p (by omega), h2]
  · intro j g0 g1
    rw [hp]
    have a1 : apF R.2 p R.1 (R.2 11 12) (p + 1) = upi (σ (p + 1)) i R.1 := by
      unfold apF
      rw [upc_ne _ _ (by omega), upc_ne _ _ (by omega), upc_self, cp p (by omega), cp (p + 1) (by omega), h2]
    have a2 : apF R.2 p R.1 (R.2 11 12) (p + 2) = upi (σ (p + 2)) i (R.2 11 12) := by
      unfold apF
      rw [upc_ne _ _ (by omega), upc_self, cp p (by omega), cp (p + 2) (by omega), h2]
    rw [a1, a2, upc_self]
    by_cases q : j = i
    · subst q
      rw [upi_self, upi_self, upi_ne _ _ (by omega), upi_self, upi_self]
      exact ⟨s1, s2⟩
    · rw [upi_ne _ _ q, upi_ne _ _ q, mo _ (by omega) (by omega), mo _ (by omega) (by omega), sm.2.1 _ (by omega), sm.2.1 _ (by omega)]
      exact hr j g0 (by omega)
  · refine ⟨fun q a1 a2 a3 a4 a5 a6 a7 a8 a9 b1 b2 b3 b4 b5 b6 => ?_, fun j hj => ?_⟩
    · rw [co q b4 b5 b6]; exact sc.1 q a1 a2 a3 a4 a5 a6 a7 a8 a9 b1 b2 b3
    · rw [co 11 (by omega) (by omega) (by omega)]; exact sc.2 j hj
  · refine ⟨fun q a1 a2 a3 a4 => ?_, fun j h0 h1 h2 => ?_, fun j h0 h1 => ?_, ?_⟩
    · rw [upc_ne _ _ a2]; exact sm.1 q a1 a2 a3 a4
    · rw [upc_self, mo j (by omega) (by omega)]; exact sm.2.1 j h0
    · rw [upc_ne _ _ (by decide)]; exact sm.2.2.1 j h0 h1
    · rw [upc_ne _ _ (by decide)]; have := sm.2.2.2; omega
theorem rn_loop {t g many : Int} (ht : 0 ≤ t ∧ t < 12) (hm : many ≤ 4) : ∀ (k : Nat) (i code more : Int) (σ τ : mG), 0 ≤ i → i + k = many → (more = 1 ↔ code = 0) → (more = 0 ∨ more = 1) → iRn t i σ τ →
    (∀ i k, 0 ≤ i → i < many → 0 ≤ k → k < 5 → σ 9 ((g * 4 + i) * 5 + k) = τ 196 (20 * g + 5 * i + k)) →
    (i ≤ (perF g t many k i more τ).1 ∧ (perF g t many k i more τ).1 ≤ many) ∧ iRn t (perF g t many k i more τ).1 (clL g many (29 + 3 * t.toNat) k i code σ) (perF g t many k i more τ).2 ∧ uC2 (29 + 3 * t.toNat) σ (clL g many (29 + 3 * t.toNat) k i code σ) ∧ uM2 t k τ (perF g t many k i more τ).2 := by
  intro k
  induction k with
  | zero =>
    intro i code more σ τ h0 hi hc hmo hR _
    unfold perF clL
    exact ⟨by omega, hR, ⟨fun _ _ _ _ _ _ _ _ _ _ _ _ _ _ _ _ => rfl, fun _ _ => rfl⟩, fun _ _ _ _ _ => rfl, fun _ _ _ _ => rfl, fun _ _ _ => rfl, Int.le_refl _, by show τ 186 18 ≤ τ 186 18 + ((0 : Nat) : Int); omega⟩
  | succ k ih =>
    intro i code more σ τ h0 hi hc hmo hR hN
    unfold perF clL
    by_cases q : more = 0
    · rw [if_pos (Or.inl q), if_neg (show ¬ (i < many ∧ code = 0) from fun w => by have := hc.mpr w.2; omega)]
      exact ⟨by show i ≤ i ∧ i ≤ many; omega, hR, ⟨fun _ _ _ _ _ _ _ _ _ _ _ _ _ _ _ _ => rfl, fun _ _ => rfl⟩, fun _ _ _ _ _ => rfl, fun _ _ _ _ => rfl, fun _ _ _ => rfl, by show τ 186 18 ≤ τ 186 18 ∧ τ 186 18 ≤ τ 186 18 + _; omega⟩
    · have hc0 := hc.mp (by omega)
      rw [if_neg (show ¬ (more = 0 ∨ many ≤ i) by omega), if_pos (show i < many ∧ code = 0 by omega)]
      obtain ⟨r1, r2, r3, r4⟩ := rn_step (g := g) hR ht (by omega) (at' := (g * 4 + i) * 5) (fun k g0 g1 => hN i k h0 (by omega) g0 g1)
      have p9 : ¬ 9 = 29 + 3 * t.toNat ∧ ¬ 9 = 29 + 3 * t.toNat + 1 ∧ ¬ 9 = 29 + 3 * t.toNat + 2 := by omega
      obtain ⟨w1, w2, w3, w4⟩ := ih (i + 1) (stStep σ ((g * 4 + i) * 5)).1 (if (prS τ g i).1 = 0 then 1 else 0) _ _ (by omega) (by omega) (by rw [r1]; split <;> omega) (by split <;> omega) r2 (fun i k g0 g1 g2 g3 => by
        rw [r3.1 9 (by decide) (by decide) (by decide) (by decide) (by decide) (by decide) (by decide) (by decide) (by decide) (by decide) (by decide) (by decide) p9.1 p9.2.1 p9.2.2, r4.1 196 (by decide) (by decide) (by decide) (by decide)]
        exact hN i k g0 g1 g2 g3)
      refine ⟨by omega, w2, uC2_tr r3 w3, ?_⟩
      have := uM2_tr r4 w4
      rw [show (1 : Int) + (k : Int) = ((k + 1 : Nat) : Int) by omega] at this
      exact this
end RND
