/-! 58.carry2: carry, of class and reference -/
section CARRY2
variable {σ τ σ' τ' : mG} {k : Int}
/-- an answer comes to its client -/
theorem p_deliver (h : iAll k σ τ) {g : Int} (hg : 0 ≤ g ∧ g < τ 186 9) (ha : τ 195 (5 * g + 3) = τ 197 (4 + crT τ g)) : iAll k (dlF σ g) (ansM τ (crC τ g) (crT τ g) (crL τ g) (crN τ g)) := by
  obtain ⟨⟨q1, q2⟩, q3, ⟨q4, q5⟩, ⟨q6, q7⟩, _⟩ := h.2.1.2.2.2 g hg.1 hg.2
  obtain ⟨hx, hd⟩ := h.2.1.1 (σ 4 g) q2.1 q2.2
  have hd := hd (σ 5 g) q5.1 q5.2
  have et : crT τ g = 3 * σ 4 g + σ 5 g := by unfold crT; rw [q1, q4]
  have ep : dcP σ g = 29 + 3 * (3 * σ 4 g + σ 5 g).toNat := by unfold dcP dcT; rw [show σ 4 g * 3 + σ 5 g = 3 * σ 4 g + σ 5 g by omega]
  have eD : plD (σ 4 g) (σ 5 g) = 120 + 17 * (σ 4 g).toNat + 5 * (σ 5 g).toNat := rfl
  have iff : (σ (plC (σ 4 g)) 1 = σ 6 g ∧ σ (plD (σ 4 g) (σ 5 g)) 2 = 2 ∧ σ (plD (σ 4 g) (σ 5 g)) 4 = σ 7 g) ↔ (τ 187 (crC τ g) = crL τ g ∧ ¬ τ 191 (crT τ g) = 0 ∧ τ 190 (crT τ g) = crN τ g) := by
    rw [et]
    unfold crC crL crN
    rw [← q1, ← q3, ← q6, hx.1, hd.1]
    obtain ⟨_, _, _, b4⟩ := hd
    constructor
    · rintro ⟨a, b, c⟩; exact ⟨a, by rcases b4 with e | e | e | e <;> omega, c⟩
    · rintro ⟨a, b, c⟩; exact ⟨a, by rcases b4 with e | e | e | e <;> omega, c⟩
  unfold dlF ansM
  by_cases q : σ (plC (σ 4 g)) 1 = σ 6 g ∧ σ (plD (σ 4 g) (σ 5 g)) 2 = 2 ∧ σ (plD (σ 4 g) (σ 5 g)) 4 = σ 7 g
  · rw [if_pos q, if_pos (iff.mp q), et, ep]
    obtain ⟨a1, a2⟩ := h.1.2.2.2.2 (3 * σ 4 g + σ 5 g) (by omega) (by omega)
    have hA := a2 (by rw [a1, ← et, ← ha, ← q6]; exact q7)
    have w := cl_take h.2.1.1 q2 q5 q.2.1 hA
    obtain ⟨a, b, c0, e, f1, f2, f3⟩ := h
    have p1 : 29 + 3 * (3 * σ 4 g + σ 5 g).toNat < 63 := by omega
    generalize 29 + 3 * (3 * σ 4 g + σ 5 g).toNat = p at *
    have so : ∀ q : Nat, q < 118 → tkF σ (plD (σ 4 g) (σ 5 g)) p q = σ q := by
      intro q hq
      unfold tkF cpA
      rw [upc_ne _ _ (by omega), upc_ne _ _ (by omega), upc_ne _ _ (by omega), upc_ne _ _ (by omega)]
    have to : ∀ q : Nat, ¬ q = 191 → ¬ q = 192 → ¬ q = 193 → ¬ q = 194 → anF τ (3 * σ 4 g + σ 5 g) q = τ q := by
      intro q h1 h2 h3 h4
      unfold anF
      rw [upc_ne _ _ h4, upc_ne _ _ h3, upc_ne _ _ h2, upc_ne _ _ h1]
    have t6 := to 186 (by decide) (by decide) (by decide) (by decide)
    have t9 := to 199 (by decide) (by decide) (by decide) (by decide)
    have t1 := to 201 (by decide) (by decide) (by decide) (by decide)
    have t7 := to 197 (by decide) (by decide) (by decide) (by decide)
    refine ⟨iDs_fr a (fun q hq => so q (by omega)) t7 (by rw [t6]), ⟨w, iPo_fr b.2 (fun q _ h1 => so q (by omega)) (to 195 (by decide) (by decide) (by decide) (by decide)) (to 196 (by decide) (by decide) (by decide) (by decide)) (by rw [t6])⟩, ?_, iBd_fr e (to 187 (by decide) (by decide) (by decide) (by decide)) (to 190 (by decide) (by decide) (by decide) (by decide)) (to 195 (by decide) (by decide) (by decide) (by decide)) t7 (by rw [t6]), by rw [t9]; exact f1, fun w => ?_, fun w => ?_⟩
    · unfold iSc at *; rw [so 10 (by omega), t6]; exact c0
    · rw [so 10 (by omega)] at w
      exact iLr_fr (f2 w) (so 20 (by omega)) (so 21 (by omega)) (so 22 (by omega)) (so 23 (by omega)) (so 24 (by omega)) t9 t1 (by rw [t6]) (by rw [t6])
    · rw [so 10 (by omega)] at w
      exact iLs_fr (f3 w) (so 20 (by omega)) (so 21 (by omega)) (so 22 (by omega)) (so 23 (by omega)) t9 t1
  · rw [if_neg q, if_neg (fun w => q (iff.mpr w))]; exact h
/-- the reference's state before the steps -/
abbrev sv0 (τ : mG) : mG := savF (psF 4 0 τ) 197 198 199 200 201 202
theorem sv0_o {q : Nat} (h8 : ¬ q = 198) (h9 : ¬ q = 199) (h0 : ¬ q = 200) (h1 : ¬ q = 201) (h2 : ¬ q = 202) : sv0 τ q = τ q := by
  unfold sv0 savF
  rw [upc_ne _ _ h2, upc_ne _ _ h0, upc_ne _ _ h8, psF_out h9 h1]
theorem sv0_D (h : iAll k σ τ) (hr : σ 10 3 = 1) : iD4 σ (sv0 τ) ∧ iAn σ (sv0 τ) := by
  have hx := lr_lx (h.2.2.2.2.2.1 hr) h.2.2.1.2.1.1
  have e7 : sv0 τ 197 = τ 197 := sv0_o (by decide) (by decide) (by decide) (by decide) (by decide)
  have e6 : sv0 τ 186 = τ 186 := sv0_o (by decide) (by decide) (by decide) (by decide) (by decide)
  have e9 : sv0 τ 199 = psF 4 0 τ 199 := by unfold sv0 savF; simp only [upc_self, upc_ne, upi_self, upi_ne, ne_eq, Nat.reduceEqDiff, not_false_eq_true, Int.reduceEq]
  have e1 : sv0 τ 201 = psF 4 0 τ 201 := by unfold sv0 savF; simp only [upc_self, upc_ne, upi_self, upi_ne, ne_eq, Nat.reduceEqDiff, not_false_eq_true, Int.reduceEq]
  have p6 : psF 4 0 τ 186 = τ 186 := psF_out (by decide) (by decide) _ _ _
  obtain ⟨a, b, c, e⟩ := iDs_fr (σ' := σ) (τ' := sv0 τ) h.1 (fun _ _ => rfl) e7 (by rw [e6])
  exact ⟨⟨a, b, c, iLx_fr hx rfl rfl rfl rfl rfl e9 e1 (by rw [e6, p6]) (by rw [e6, p6])⟩, e⟩
/-- a call is done -/
theorem p_done (h : iAll k σ τ) (hk : 0 ≤ k ∧ k ≤ 600) (hr : σ 10 3 = 1) {σ1 : mG} (h1 : ∀ q : Nat, q < 65 ∨ 117 < q → σ1 q = σ q) {g f : Int} (hg : 0 ≤ g ∧ g < τ 186 9)
    (hf : (f = 0 ∧ ¬ τ 197 (crC τ g) < crL τ g) ∨ (f = 1 ∧ τ 197 (crC τ g) < crL τ g)) :
    (dcOk σ1 g ∧ c2Ok τ g (crC τ g) (crT τ g) (crL τ g) f) ∧ dcX σ1 g (dcP σ1 g) 2 = (c2P τ g (crC τ g) (crT τ g) (crL τ g) f).1 ∧
    iAll (k + 1) (dcE σ1 g) (upc (c2P τ g (crC τ g) (crT τ g) (crL τ g) f).2 197 (upi (upi ((c2P τ g (crC τ g) (crT τ g) (crL τ g) f).2 197) (4 + crT τ g) (crN τ g)) (16 + crT τ g) (c2P τ g (crC τ g) (crT τ g) (crL τ g) f).1)) ∧
    (∀ q : Nat, q < 11 ∨ 64 < q → dcE σ1 g q = σ1 q) ∧ (∀ q : Nat, ¬ q = 186 → ¬ q = 197 → ¬ q = 199 → ¬ q = 201 → (c2P τ g (crC τ g) (crT τ g) (crL τ g) f).2 q = sv0 τ q) ∧ (∀ j, ¬ j = 18 → ¬ j = 24 → ¬ j = 25 → (c2P τ g (crC τ g) (crT τ g) (crL τ g) f).2 186 j = τ 186 j) := by
  obtain ⟨sd, sa⟩ := sv0_D h hr
  have ct : crT τ g = 3 * τ 195 (5 * g) + τ 195 (5 * g + 2) := rfl
  have cc : crC τ g = τ 195 (5 * g) := rfl
  obtain ⟨⟨q1, q2⟩, q3, ⟨q4, q5⟩, ⟨q6, q7⟩, ⟨q8, q9⟩, qn⟩ := h.2.1.2.2.2 g hg.1 hg.2
  obtain ⟨c1, c2, c3, c4, c5, c6⟩ := h.2.2.1
  have pt : ptC σ σ1 := ptC_of fun q _ hq => h1 q (by omega)
  have hD : iD4 σ1 (sv0 τ) := iD4_pt sd pt ⟨fun _ _ _ => rfl, fun _ _ _ => rfl, fun _ _ _ => rfl, rfl, rfl, rfl⟩
  have hA : iAn σ1 (sv0 τ) := iAn_pt sa pt fun _ _ _ => rfl
  have e6 : sv0 τ 186 = τ 186 := sv0_o (by decide) (by decide) (by decide) (by decide) (by decide)
  have e196 : sv0 τ 196 = τ 196 := sv0_o (by decide) (by decide) (by decide) (by decide) (by decide)
  have e7 : sv0 τ 197 = τ 197 := sv0_o (by decide) (by decide) (by decide) (by decide) (by decide)
  have l26 : σ1 26 (crC τ g) = τ 197 (crC τ g) := by
    rw [h1 26 (by omega)]
    exact h.1.2.2.2.1 (crC τ g) (by unfold crC; omega) (by unfold crC; omega)
  obtain ⟨⟨d1, d1'⟩, ⟨d2, d3⟩, d4, d5, d6, d7, d8, d9, d10, d11⟩ := dn_all (g := g) (c := crC τ g) (s := τ 195 (5 * g + 2)) (l := crL τ g) (f := f) (number := crN τ g) (many := τ 195 (5 * g + 4)) hD hA
    (by rw [h1 4 (by omega)]; exact q1) (by rw [h1 5 (by omega)]; exact q4) (by rw [h1 6 (by omega)]; exact q3) (by rw [h1 7 (by omega)]; exact q6) (by rw [h1 8 (by omega)]; exact q8) (by omega) (by unfold crC; omega) (by omega) (by rw [l26]; exact hf)
    (by rw [h1 10 (by omega), e6]; exact c1) (by rw [h1 10 (by omega), e6]; exact c4)
    (fun i j g0 g1 g2 g3 => by
      rw [h1 9 (by omega), e196, show (g * 4 + i) * 5 + j = 20 * g + (5 * i + j) by omega, show 20 * g + 5 * i + j = 20 * g + (5 * i + j) by omega]
      exact qn (5 * i + j) (by omega) (by omega)) (by rw [e6]; omega) (by rw [e6]; omega)
  have eP : c2P τ g (crC τ g) (crT τ g) (crL τ g) f = P0 (sv0 τ) g (crC τ g) (τ 195 (5 * g + 2)) (crL τ g) f (τ 195 (5 * g + 4)) := rfl
  have eF : Fin0 (sv0 τ) g (crC τ g) (τ 195 (5 * g + 2)) (crL τ g) f (τ 195 (5 * g + 4)) (crN τ g) = upc (c2P τ g (crC τ g) (crT τ g) (crL τ g) f).2 197 (upi (upi ((c2P τ g (crC τ g) (crT τ g) (crL τ g) f).2 197) (4 + crT τ g) (crN τ g)) (16 + crT τ g) (c2P τ g (crC τ g) (crT τ g) (crL τ g) f).1) := rfl
  rw [eF] at d2 d3
  rw [← eP] at d1 d1' d7 d8 d9 d10 d11
  have s200 : lkB ((c2P τ g (crC τ g) (crT τ g) (crL τ g) f).2 200) := by
    rw [d7 200 (by decide) (by decide) (by decide) (by decide)]
    have e : sv0 τ 200 = cpyF (psF 4 0 τ 199) (psF 4 0 τ 200) 8192 := by unfold sv0 savF; simp only [upc_self, upc_ne, upi_self, upi_ne, ne_eq, Nat.reduceEqDiff, not_false_eq_true, Int.reduceEq]
    rw [e]
    intro x x0 x1
    unfold cpyF
    rw [if_pos ⟨x0, x1⟩]; exact psF_B 4 0 τ h.2.2.2.2.1 x x0 x1
  refine ⟨⟨d4, h.2.2.2.2.1, ⟨by omega, d10, s200⟩, by omega, ?_⟩, d1', ?_, d6, d7, fun j j1 j2 j3 => by rw [d8 j j1 j2 j3, e6]⟩
  · obtain ⟨J, J1, J2⟩ := d5
    exact ⟨J, J1, J2⟩
  · generalize c2P τ g (crC τ g) (crT τ g) (crL τ g) f = P at *
    have po : ∀ q : Nat, ¬ q = 197 → (upc P.2 197 (upi (upi (P.2 197) (4 + crT τ g) (crN τ g)) (16 + crT τ g) P.1)) q = P.2 q := fun q hq => upc_ne _ _ hq
    have eo : ∀ q : Nat, q < 11 ∨ 117 < q → dcE σ1 g q = σ q := fun q hq => by rw [d6 q (by omega), h1 q (by omega)]
    have pj : ∀ j, ¬ j = 18 → ¬ j = 24 → ¬ j = 25 → P.2 186 j = τ 186 j := fun j j1 j2 j3 => by rw [d8 j j1 j2 j3, e6]
    have pm : ∀ q : Nat, 186 < q → q < 197 → P.2 q = τ q := fun q g0 g1 => by rw [d7 q (by omega) (by omega) (by omega) (by omega)]; exact sv0_o (by omega) (by omega) (by omega) (by omega) (by omega)
    refine ⟨⟨d2.1, d2.2.1, d2.2.2.1, d3⟩, iCs_fr h.2.1 (fun q hq => eo q (by omega)) (fun q g0 g1 => by rw [po q (by omega), pm q g0 g1]) (by rw [po 186 (by decide), pj 9 (by decide) (by decide) (by decide)]), ?_, ?_, ?_, fun _ => lx_lr d2.2.2.2, fun w => ?_⟩
    · unfold iSc
      rw [po 186 (by decide), eo 10 (by omega), pj 22 (by decide) (by decide) (by decide), pj 19 (by decide) (by decide) (by decide), pj 23 (by decide) (by decide) (by decide), pj 21 (by decide) (by decide) (by decide), pj 20 (by decide) (by decide) (by decide)]
      rw [e6] at d9
      exact ⟨c1, by omega, c3, c4, c5, by omega⟩
    · obtain ⟨e1, e2, e3⟩ := h.2.2.2.1
      refine ⟨fun x h0 h1 => ?_, fun t h0 h1 => ?_, fun y h0 h1 => ?_⟩
      · rw [po 187 (by decide), pm 187 (by omega) (by omega)]; have := e1 x h0 h1; omega
      · rw [po 190 (by decide), pm 190 (by omega) (by omega)]
        have w := e2 t h0 h1
        refine ⟨by omega, ?_⟩
        rw [upc_self, upi_ne _ _ (by omega)]
        by_cases z : t = crT τ g
        · rw [z, upi_self]; have := e3 g hg.1 hg.2; unfold crN; omega
        · rw [upi_ne _ _ (by omega), d11 _ (by omega)]
          unfold T0
          split
          · rw [e7]; omega
          · unfold nlF
            simp only [upc_self, upc_ne, upi_self, upi_ne, ne_eq, Nat.reduceEqDiff, not_false_eq_true, Int.reduceEq]
            unfold fillF
            rw [if_neg (by unfold crC; omega), if_neg (by unfold crC; omega)]
            split
            · omega
            · rw [upi_ne _ _ (by unfold crC; omega), e7]; omega
      · rw [po 186 (by decide), pj 9 (by decide) (by decide) (by decide)] at h1
        rw [po 195 (by decide), pm 195 (by omega) (by omega)]
        have := e3 y h0 h1; omega
    · rw [po 199 (by decide)]; exact d10
    · rw [eo 10 (by omega)] at w; omega
end CARRY2
