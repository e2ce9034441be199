/-! 54.call: a call that is done, of class and reference -/
section CALL
variable {σ τ σ' τ' : mG}
theorem iD4_dk (h : iD4 σ τ) : dkOk σ := by
  obtain ⟨hT, hB, hH, hL⟩ := h
  refine ⟨fun j h0 h1 => ?_, fun i h0 h1 => (hB i h0 h1).1, fun x h0 h1 => ?_⟩
  · have w := hH.1 (j / 8) (j % 8) (by omega) (by omega) (by omega) (by omega)
    rw [show j / 8 * 8 + j % 8 = j by omega] at w
    rw [w]
    exact nodF_lt (by omega) (by omega) fun j h0 h1 => (hH.2 j h0 h1).1
  · obtain ⟨a1, a2, a3⟩ := hT.1 x h0 h1
    by_cases q0 : x = 0
    · rw [q0, hT.2.1.2.1]; omega
    · by_cases q : σ 14 x = -1
      · rw [(hT.2.2.1 x (by omega) h1 q).1]; omega
      · have := hT.2.2.2.1 x (by omega) h1 (by omega); omega
theorem iD4_md (h : iD4 σ τ) (hw : iWk σ τ) (ht : 0 ≤ τ 186 22 ∧ τ 186 22 ≤ 60000000) (hb : τ 186 18 < 2147483647) : mdOk (upc τ 186 (upi (τ 186) 25 0)) := by
  have h' := fr_25 (v := 0) h
  obtain ⟨hT, hB, hH, hL⟩ := h
  obtain ⟨w1, w2, w3, w4⟩ := hw
  unfold mdOk
  have e1 : (upc τ 186 (upi (τ 186) 25 0)) 197 = τ 197 := by simp only [upc_self, upc_ne, upi_self, upi_ne, ne_eq, Nat.reduceEqDiff, not_false_eq_true, Int.reduceEq]
  have e2 : (upc τ 186 (upi (τ 186) 25 0)) 199 = τ 199 := by simp only [upc_self, upc_ne, upi_self, upi_ne, ne_eq, Nat.reduceEqDiff, not_false_eq_true, Int.reduceEq]
  have e3 : (upc τ 186 (upi (τ 186) 25 0)) 186 24 = τ 186 24 := by simp only [upc_self, upc_ne, upi_self, upi_ne, ne_eq, Nat.reduceEqDiff, not_false_eq_true, Int.reduceEq]
  have e4 : (upc τ 186 (upi (τ 186) 25 0)) 186 18 = τ 186 18 := by simp only [upc_self, upc_ne, upi_self, upi_ne, ne_eq, Nat.reduceEqDiff, not_false_eq_true, Int.reduceEq]
  have e5 : (upc τ 186 (upi (τ 186) 25 0)) 186 22 = τ 186 22 := by simp only [upc_self, upc_ne, upi_self, upi_ne, ne_eq, Nat.reduceEqDiff, not_false_eq_true, Int.reduceEq]
  rw [e1, e2, e3, e4, e5]
  refine ⟨by omega, lx_B hL, hb, fun m h0 h1 => (hB m h0 h1).2.2.2.1, fun j h0 h1 => (hH.2 j h0 h1).1, fun x h0 h1 => ?_, fun t h0 h1 h2 => ?_, by unfold in32; omega⟩
  · have := hT.2.2.2.2.1 x h0 h1
    unfold in32
    omega
  · refine tm_live hT ⟨h0, h1⟩ ?_
    rw [(hT.1 t h0 h1).1]; exact h2
def iRq (t g many i : Int) (σ τ : mG) : Prop := iRn t i σ τ ∧ (∀ i k, 0 ≤ i → i < many → 0 ≤ k → k < 5 → σ 9 ((g * 4 + i) * 5 + k) = τ 196 (20 * g + 5 * i + k)) ∧ σ 8 g = many ∧ (0 ≤ τ 186 22 ∧ τ 186 22 ≤ 60000000) ∧ τ 186 18 ≤ 3000 + i
theorem rq_step {t g many i : Int} (ht : 0 ≤ t ∧ t < 12) (hm : many ≤ 4) (hi : 0 ≤ i ∧ i < many) (h : iRq t g many i σ τ) :
    (stStep σ ((g * 4 + i) * 5)).1 = (prS τ g i).1 ∧ iRq t g many (i + 1) (clR σ (29 + 3 * t.toNat) ((g * 4 + i) * 5)) (prR τ g t i) := by
  obtain ⟨h1, h2, h3, h4, h5⟩ := h
  obtain ⟨r1, r2, r3, r4⟩ := rn_step (g := g) h1 ht (by omega) (at' := (g * 4 + i) * 5) (fun k g0 g1 => h2 i k hi.1 hi.2 g0 g1)
  have p9 : ¬ 9 = 29 + 3 * t.toNat ∧ ¬ 9 = 29 + 3 * t.toNat + 1 ∧ ¬ 9 = 29 + 3 * t.toNat + 2 := by omega
  have p8 : ¬ 8 = 29 + 3 * t.toNat ∧ ¬ 8 = 29 + 3 * t.toNat + 1 ∧ ¬ 8 = 29 + 3 * t.toNat + 2 := by omega
  refine ⟨r1, r2, fun i k g0 g1 g2 g3 => ?_, ?_, ?_, ?_⟩
  · rw [r3.1 9 (by decide) (by decide) (by decide) (by decide) (by decide) (by decide) (by decide) (by decide) (by decide) (by decide) (by decide) (by decide) p9.1 p9.2.1 p9.2.2, r4.1 196 (by decide) (by decide) (by decide) (by decide)]
    exact h2 i k g0 g1 g2 g3
  · rw [r3.1 8 (by decide) (by decide) (by decide) (by decide) (by decide) (by decide) (by decide) (by decide) (by decide) (by decide) (by decide) (by decide) p8.1 p8.2.1 p8.2.2]; exact h3
  · rw [r4.2.2.1 22 (by decide) (by decide)]; exact h4
  · have := r4.2.2.2; omega
/-- the call begins -/
theorem dn_start (hD : iD4 σ τ) (hA : iAn σ τ) {g c s l f : Int} (e4 : σ 4 g = c) (e5 : σ 5 g = s) (e6 : σ 6 g = l) (hc : 0 ≤ c ∧ c < 4) (hs : 0 ≤ s ∧ s < 3) (hf : (f = 0 ∧ ¬ σ 26 c < l) ∨ (f = 1 ∧ σ 26 c < l)) (h5 : σ 10 5 = τ 186 22) (h6 : σ 10 6 = τ 186 23) :
    iRn (3 * c + s) 0 (dc0 σ g) (upc (if f = 0 then τ else nlF τ c l) 186 (upi ((if f = 0 then τ else nlF τ c l) 186) 24 c)) ∧ iAn (dc1 σ g) (if f = 0 then τ else nlF τ c l) ∧ (∀ q : Nat, q < 20 ∨ 27 < q → dc1 σ g q = σ q) ∧
    (∀ q : Nat, ¬ q = 197 → ¬ q = 199 → ¬ q = 201 → (if f = 0 then τ else nlF τ c l) q = τ q) ∧ dcT σ g = 3 * c + s := by
  have et : dcT σ g = 3 * c + s := by unfold dcT; omega
  have key : iD4 (dc1 σ g) (if f = 0 then τ else nlF τ c l) ∧ iAn (dc1 σ g) (if f = 0 then τ else nlF τ c l) ∧ (∀ q : Nat, q < 20 ∨ 27 < q → dc1 σ g q = σ q) ∧ (∀ q : Nat, ¬ q = 197 → ¬ q = 199 → ¬ q = 201 → (if f = 0 then τ else nlF τ c l) q = τ q) := by
    unfold dc1
    rw [e4, e6]
    rcases hf with ⟨rfl, h⟩ | ⟨rfl, h⟩
    · rw [if_neg h, if_pos rfl]; exact ⟨hD, hA, fun _ _ => rfl, fun _ _ _ _ => rfl⟩
    · rw [if_pos h, if_neg (show ¬ (1 : Int) = 0 by decide)]
      obtain ⟨n1, n2⟩ := nl_pair (l := l) hD hA hc
      refine ⟨n1, n2, fun q hq => ?_, fun q h1 h2 h3 => ?_⟩
      · unfold begD
        rw [upc_ne _ _ (by omega), upc_ne _ _ (by omega), upc_ne _ _ (by omega), upc_ne _ _ (by omega), upc_ne _ _ (by omega), upc_ne _ _ (by omega), upc_ne _ _ (by omega), upc_ne _ _ (by omega)]
      · unfold nlF
        rw [upc_ne _ _ h3, upc_ne _ _ h2, upc_ne _ _ h1]
  obtain ⟨k1, k2, k3, k4⟩ := key
  refine ⟨?_, k2, k3, k4, et⟩
  have t186 := k4 186 (by decide) (by decide) (by decide)
  generalize (if f = 0 then τ else nlF τ c l) = T at *
  have p1 : 29 ≤ dcP σ g ∧ dcP σ g < 63 := by unfold dcP; omega
  have ep : 29 + 3 * (3 * c + s).toNat = dcP σ g := by unfold dcP; rw [et]
  have co : ∀ q : Nat, ¬ q = 11 → ¬ q = dcP σ g → dc0 σ g q = dc1 σ g q := by
    intro q a1 a2; unfold dc0; rw [upc_ne _ _ a1, upc_ne _ _ a2]
  have c11 : dc0 σ g 11 = upi (upi (upi (dc1 σ g 11) 3 (σ 4 g)) 4 (dc1 σ g 10 5)) 5 (if dc1 σ g 10 5 < dc1 σ g 10 6 then 1 else 0) := by unfold dc0; rw [upc_self]
  have d5 : dc1 σ g 10 5 = τ 186 22 := by rw [k3 10 (by omega)]; exact h5
  have d6 : dc1 σ g 10 6 = τ 186 23 := by rw [k3 10 (by omega)]; exact h6
  obtain ⟨dT, dB, dH, dL⟩ := k1
  refine ⟨⟨?_, ?_, ?_, ?_⟩, ?_, ?_, fun j g0 g1 => by omega⟩
  · refine iTr_fr dT (co 14 (by omega) (by omega)) (co 15 (by omega) (by omega)) (co 16 (by omega) (by omega)) fun j _ _ => ?_
    simp only [upc_self, upc_ne, upi_self, upi_ne, ne_eq, Nat.reduceEqDiff, not_false_eq_true, Int.reduceEq]
  · refine iBy_fr dB (co 14 (by omega) (by omega)) (co 17 (by omega) (by omega)) (co 18 (by omega) (by omega)) fun j _ _ => ?_
    simp only [upc_self, upc_ne, upi_self, upi_ne, ne_eq, Nat.reduceEqDiff, not_false_eq_true, Int.reduceEq]
  · refine iHa_fr dH (co 25 (by omega) (by omega)) ?_ fun j _ _ => ?_ <;> simp only [upc_self, upc_ne, upi_self, upi_ne, ne_eq, Nat.reduceEqDiff, not_false_eq_true, Int.reduceEq]
  · refine iLx_fr dL (co 20 (by omega) (by omega)) (co 21 (by omega) (by omega)) (co 22 (by omega) (by omega)) (co 23 (by omega) (by omega)) (co 24 (by omega) (by omega)) ?_ ?_ ?_ ?_ <;> simp only [upc_self, upc_ne, upi_self, upi_ne, ne_eq, Nat.reduceEqDiff, not_false_eq_true, Int.reduceEq]
  · unfold iWk
    rw [c11, d5, d6, e4]
    simp only [t186, upc_self, upc_ne, upi_self, upi_ne, ne_eq, Nat.reduceEqDiff, not_false_eq_true, Int.reduceEq]
    refine ⟨hc, trivial, trivial, ?_⟩
    split <;> omega
  · rw [ep]
    unfold dc0
    rw [upc_ne _ _ (by omega), upc_self, upi_self]
/-- the call ends -/
theorem dn_end {X P T C1 : mG} {t m number : Int} (hR : iRn t m X P) (ht : 0 ≤ t ∧ t < 12) (hm : 0 ≤ m ∧ m ≤ 4) (hA : iAn C1 T)
    (hX : ∀ q : Nat, 25 < q → ¬ q = 29 + 3 * t.toNat → ¬ q = 29 + 3 * t.toNat + 1 → ¬ q = 29 + 3 * t.toNat + 2 → X q = C1 q)
    (hP : ∀ j, j < 124 → ¬ (28 + 4 * t ≤ j ∧ j < 32 + 4 * t) → ¬ (76 + 4 * t ≤ j ∧ j < 80 + 4 * t) → P 197 j = T 197 j) :
    iD4 (upc X 27 (upi (X 27) t number)) (upc P 197 (upi (upi (P 197) (4 + t) number) (16 + t) m)) ∧ iAn (upc X 27 (upi (X 27) t number)) (upc P 197 (upi (upi (P 197) (4 + t) number) (16 + t) m)) := by
  obtain ⟨⟨dT, dB, dH, dL⟩, dW, d2, dr⟩ := hR
  have po : ∀ j, ¬ j = 4 + t → ¬ j = 16 + t → (upc P 197 (upi (upi (P 197) (4 + t) number) (16 + t) m)) 197 j = P 197 j := by
    intro j a1 a2; rw [upc_self, upi_ne _ _ a2, upi_ne _ _ a1]
  have xo : ∀ q : Nat, ¬ q = 27 → (upc X 27 (upi (X 27) t number)) q = X q := fun q hq => upc_ne _ _ hq
  refine ⟨⟨?_, ?_, ?_, ?_⟩, fun c h0 h1 => ?_, fun x h0 h1 => ?_⟩
  · refine iTr_fr dT ?_ ?_ ?_ fun j h0 h1 => po j (by omega) (by omega) <;> simp only [upc_self, upc_ne, upi_self, upi_ne, ne_eq, Nat.reduceEqDiff, not_false_eq_true, Int.reduceEq]
  · refine iBy_fr dB ?_ ?_ ?_ fun j h0 h1 => po j (by omega) (by omega) <;> simp only [upc_self, upc_ne, upi_self, upi_ne, ne_eq, Nat.reduceEqDiff, not_false_eq_true, Int.reduceEq]
  · refine iHa_fr dH ?_ ?_ fun j h0 h1 => po j (by omega) (by omega) <;> simp only [upc_self, upc_ne, upi_self, upi_ne, ne_eq, Nat.reduceEqDiff, not_false_eq_true, Int.reduceEq]
  · refine iLx_fr dL ?_ ?_ ?_ ?_ ?_ ?_ ?_ ?_ ?_ <;> simp only [upc_self, upc_ne, upi_self, upi_ne, ne_eq, Nat.reduceEqDiff, not_false_eq_true, Int.reduceEq]
  · rw [po c (by omega) (by omega), upc_ne _ _ (by decide), hX 26 (by omega) (by omega) (by omega) (by omega), hP c (by omega) (by omega) (by omega)]
    exact hA.1 c h0 h1
  · by_cases e : x = t
    · subst e
      rw [upc_self, upi_self, upc_self, upi_ne _ _ (by omega), upi_self]
      refine ⟨rfl, fun _ => ?_⟩
      unfold ansR
      rw [xo _ (by omega), xo _ (by omega), xo _ (by omega), upc_self, upi_self]
      refine ⟨d2, hm, fun j g0 g1 => ?_⟩
      rw [upi_ne _ _ (by omega), upi_ne _ _ (by omega), upi_ne _ _ (by omega), upi_ne _ _ (by omega)]
      exact dr j g0 g1
    · obtain ⟨a1, a2⟩ := hA.2 x h0 h1
      have x27 : (upc X 27 (upi (X 27) t number)) 27 x = C1 27 x := by rw [upc_self, upi_ne _ _ e, hX 27 (by omega) (by omega) (by omega) (by omega)]
      rw [x27, po (4 + x) (by omega) (by omega), hP (4 + x) (by omega) (by omega) (by omega)]
      refine ⟨a1, fun w => ?_⟩
      obtain ⟨r1, r2, r3⟩ := a2 w
      unfold ansR
      rw [xo _ (by omega), xo _ (by omega), xo _ (by omega), po (16 + x) (by omega) (by omega), hP (16 + x) (by omega) (by omega) (by omega), hX _ (by omega) (by omega) (by omega) (by omega), hX _ (by omega) (by omega) (by omega) (by omega), hX _ (by omega) (by omega) (by omega) (by omega)]
      refine ⟨r1, r2, fun j g0 g1 => ?_⟩
      rw [po (28 + 4 * x + j) (by omega) (by omega), po (76 + 4 * x + j) (by omega) (by omega), hP (28 + 4 * x + j) (by omega) (by omega) (by omega), hP (76 + 4 * x + j) (by omega) (by omega) (by omega)]
      exact r3 j g0 g1
end CALL
