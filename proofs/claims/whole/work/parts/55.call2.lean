/-! 55.call2: a call that is done, whole -/
section CALL2
variable {σ τ σ' τ' : mG}
def T0 (τ : mG) (c l f : Int) : mG := if f = 0 then τ else nlF τ c l
def S0 (τ : mG) (c l f : Int) : mG := upc (T0 τ c l f) 186 (upi (T0 τ c l f 186) 24 c)
def P0 (τ : mG) (g c s l f many : Int) : Int × mG := perF g (3 * c + s) many many.toNat 0 1 (S0 τ c l f)
def Fin0 (τ : mG) (g c s l f many number : Int) : mG := upc (P0 τ g c s l f many).2 197 (upi (upi ((P0 τ g c s l f many).2 197) (4 + (3 * c + s)) number) (16 + (3 * c + s)) (P0 τ g c s l f many).1)
theorem dn_all (hD : iD4 σ τ) (hA : iAn σ τ) {g c s l f number many : Int} (e4 : σ 4 g = c) (e5 : σ 5 g = s) (e6 : σ 6 g = l) (e7 : σ 7 g = number) (e8 : σ 8 g = many) (hm : 0 ≤ many ∧ many ≤ 4) (hc : 0 ≤ c ∧ c < 4) (hs : 0 ≤ s ∧ s < 3) (hf : (f = 0 ∧ ¬ σ 26 c < l) ∨ (f = 1 ∧ σ 26 c < l)) (h5 : σ 10 5 = τ 186 22) (h6 : σ 10 6 = τ 186 23)
    (hn : ∀ i k, 0 ≤ i → i < many → 0 ≤ k → k < 5 → σ 9 ((g * 4 + i) * 5 + k) = τ 196 (20 * g + 5 * i + k)) (ht : 0 ≤ τ 186 22 ∧ τ 186 22 ≤ 60000000) (hb : τ 186 18 ≤ 3000) :
    ((0 ≤ (P0 τ g c s l f many).1 ∧ (P0 τ g c s l f many).1 ≤ many) ∧ dcX σ g (dcP σ g) 2 = (P0 τ g c s l f many).1) ∧
    (iD4 (dcE σ g) (Fin0 τ g c s l f many number) ∧ iAn (dcE σ g) (Fin0 τ g c s l f many number)) ∧ dcOk σ g ∧
    (∃ J : Int → mG → Prop, (∀ i τ, 0 ≤ i → i < many → J i τ → mdOk (upc τ 186 (upi (τ 186) 25 0)) ∧ ((prS τ g i).1 = 0 → J (i + 1) (prR τ g (3 * c + s) i))) ∧ J 0 (S0 τ c l f)) ∧
    (∀ q : Nat, q < 11 ∨ 64 < q → dcE σ g q = σ q) ∧ (∀ q : Nat, ¬ q = 186 → ¬ q = 197 → ¬ q = 199 → ¬ q = 201 → (P0 τ g c s l f many).2 q = τ q) ∧ (∀ j, ¬ j = 18 → ¬ j = 24 → ¬ j = 25 → (P0 τ g c s l f many).2 186 j = τ 186 j) ∧
    (τ 186 18 ≤ (P0 τ g c s l f many).2 186 18 ∧ (P0 τ g c s l f many).2 186 18 ≤ τ 186 18 + 4) ∧ lkB ((P0 τ g c s l f many).2 199) ∧ (∀ j, j < 28 → (P0 τ g c s l f many).2 197 j = T0 τ c l f 197 j) := by
  obtain ⟨d1, d2, d3, d4, d5⟩ := dn_start hD hA e4 e5 e6 hc hs hf h5 h6
  have hS0 : upc (if f = 0 then τ else nlF τ c l) 186 (upi ((if f = 0 then τ else nlF τ c l) 186) 24 c) = S0 τ c l f := rfl
  have hT0 : (if f = 0 then τ else nlF τ c l) = T0 τ c l f := rfl
  rw [hS0] at d1
  rw [hT0] at d2 d4
  have t0 : 0 ≤ 3 * c + s ∧ 3 * c + s < 12 := by omega
  have p1 : 29 ≤ dcP σ g ∧ dcP σ g < 63 := by unfold dcP; omega
  have co : ∀ q : Nat, ¬ q = 11 → ¬ q = dcP σ g → dc0 σ g q = dc1 σ g q := by
    intro q a1 a2; unfold dc0; rw [upc_ne _ _ a1, upc_ne _ _ a2]
  have so : ∀ q : Nat, ¬ q = 186 → S0 τ c l f q = T0 τ c l f q := by
    intro q hq; unfold S0; rw [upc_ne _ _ hq]
  have s186 : ∀ j, ¬ j = 24 → S0 τ c l f 186 j = τ 186 j := by
    intro j hj; unfold S0; rw [upc_self, upi_ne _ _ hj, d4 186 (by decide) (by decide) (by decide)]
  have n0 : ∀ i k, 0 ≤ i → i < many → 0 ≤ k → k < 5 → dc0 σ g 9 ((g * 4 + i) * 5 + k) = S0 τ c l f 196 (20 * g + 5 * i + k) := by
    intro i k g0 g1 g2 g3
    rw [co 9 (by omega) (by omega), d3 9 (by omega), so 196 (by decide), d4 196 (by decide) (by decide) (by decide)]
    exact hn i k g0 g1 g2 g3
  have q0 : iRq (3 * c + s) g many 0 (dc0 σ g) (S0 τ c l f) := by
    refine ⟨d1, n0, ?_, ?_, ?_⟩
    · rw [co 8 (by omega) (by omega), d3 8 (by omega)]; exact e8
    · rw [s186 22 (by decide)]; exact ht
    · rw [s186 18 (by decide)]; omega
  have eP : dcP σ g = 29 + 3 * (3 * c + s).toNat := by unfold dcP; rw [d5]
  have eX : dcX σ g = clL g many (29 + 3 * (3 * c + s).toNat) many.toNat 0 0 (dc0 σ g) := by unfold dcX; rw [e8, eP]
  obtain ⟨l1, l2, l3, l4⟩ := rn_loop (g := g) t0 hm.2 many.toNat 0 0 1 (dc0 σ g) (S0 τ c l f) (by omega) (by omega) (by omega) (by omega) d1 n0
  have hP0 : perF g (3 * c + s) many many.toNat 0 1 (S0 τ c l f) = P0 τ g c s l f many := rfl
  rw [hP0] at l1 l2 l4
  rw [← eX] at l2 l3
  rw [← eP] at l3
  have x2 : dcX σ g (dcP σ g) 2 = (P0 τ g c s l f many).1 := by rw [eP]; exact l2.2.2.1
  have cx : ∀ q : Nat, q < 11 ∨ 25 < q → ¬ q = dcP σ g → ¬ q = dcP σ g + 1 → ¬ q = dcP σ g + 2 → dcX σ g q = dc1 σ g q := by
    intro q h0 h1 h2 h3
    rw [l3.1 q (by omega) (by omega) (by omega) (by omega) (by omega) (by omega) (by omega) (by omega) (by omega) (by omega) (by omega) (by omega) h1 h2 h3, co q (by omega) h1]
  have x7 : dcX σ g 7 g = number := by rw [cx 7 (by omega) (by omega) (by omega) (by omega), d3 7 (by omega)]; exact e7
  have eE : dcE σ g = upc (dcX σ g) 27 (upi (dcX σ g 27) (3 * c + s) number) := by unfold dcE; rw [d5, x7]
  have fin := dn_end (number := number) l2 t0 (by omega) d2 (C1 := dc1 σ g) (fun q a0 a1 a2 a3 => cx q (by omega) (by omega) (by omega) (by omega)) (fun j a0 a1 a2 => by
    rw [l4.2.1 j a0 a1 a2, so 197 (by decide)])
  rw [← eE] at fin
  refine ⟨⟨⟨l1.1, l1.2⟩, x2⟩, fin, ?_, ?_, ?_, ?_, ?_, ?_, ?_, ?_⟩
  · refine ⟨by rw [e4]; exact hc, by rw [e5]; exact hs, by rw [e8]; exact hm, by rw [x2]; omega, fun i σ' => ∃ τ', iRq (3 * c + s) g many i σ' τ', ?_, ?_, ⟨_, q0⟩⟩
    · rintro i σ' ⟨τ', h⟩
      rw [h.2.2.1, e8]
    · rintro i σ' g0 g1 ⟨τ', h⟩
      rw [e8] at g1
      obtain ⟨r1, r2⟩ := rq_step t0 hm.2 ⟨g0, g1⟩ h
      obtain ⟨⟨hD', hW', h2', _⟩, _, _, ht', _⟩ := h
      rw [eP]
      refine ⟨hW'.1, iD4_dk hD', ?_, h2', fun _ => ⟨_, r2⟩⟩
      rw [hW'.2.2.1]; unfold in32; omega
  · refine ⟨fun i τ' => ∃ σ', iRq (3 * c + s) g many i σ' τ', ?_, ⟨_, q0⟩⟩
    rintro i τ' g0 g1 ⟨σ', h⟩
    obtain ⟨r1, r2⟩ := rq_step t0 hm.2 ⟨g0, g1⟩ h
    obtain ⟨⟨hD', hW', h2', _⟩, _, _, ht', hb'⟩ := h
    exact ⟨iD4_md hD' hW' ht' (by omega), fun _ => ⟨_, r2⟩⟩
  · intro q hq
    rw [eE, upc_ne _ _ (by omega), cx q (by omega) (by omega) (by omega) (by omega), d3 q (by omega)]
  · intro q h1 h2 h3 h4
    rw [l4.1 q h1 h2 h3 h4, so q h1, d4 q h2 h3 h4]
  · intro j h1 h2 h3
    rw [l4.2.2.1 j h1 h3, s186 j h2]
  · have w := l4.2.2.2
    rw [s186 18 (by decide)] at w
    omega
  · exact lx_B l2.1.2.2.2
  · intro j hj
    rw [l4.2.1 j (by omega) (by omega) (by omega), so 197 (by decide)]
end CALL2
