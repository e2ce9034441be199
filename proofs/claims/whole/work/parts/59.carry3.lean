/-! 59.carry3: carry, of class and reference, whole -/
section CARRY3
variable {σ τ σ' τ' : mG} {k : Int}
abbrev fnM0 (τ : mG) (g f : Int) : mG := upc (c2P τ g (crC τ g) (crT τ g) (crL τ g) f).2 197 (upi (upi ((c2P τ g (crC τ g) (crT τ g) (crL τ g) f).2 197) (4 + crT τ g) (crN τ g)) (16 + crT τ g) (c2P τ g (crC τ g) (crT τ g) (crL τ g) f).1)
theorem p_torn (h : iAll k σ τ) (hr : σ 10 3 = 1) {E P : mG} (h6 : ∀ q : Nat, q < 11 ∨ 64 < q → E q = cpD σ 65 12 q) (h7 : ∀ q : Nat, ¬ q = 186 → ¬ q = 197 → ¬ q = 199 → ¬ q = 201 → P q = sv0 τ q) (h8 : ∀ j, ¬ j = 18 → ¬ j = 24 → ¬ j = 25 → P 186 j = τ 186 j) :
    iAll (k + 1) (cpD E 12 65) (upc (savF P 198 197 200 199 202 201) 186 (upi (savF P 198 197 200 199 202 201 186) 18 (psF 4 0 τ 186 18))) := by
  obtain ⟨sd, sa⟩ := sv0_D h hr
  have pt : ptC σ (cpD E 12 65) := ptC_back fun q g0 g1 => h6 q (by omega)
  have p6 : psF 4 0 τ 186 = τ 186 := psF_out (by decide) (by decide) _ _ _
  have p7 : psF 4 0 τ 197 = τ 197 := psF_out (by decide) (by decide) _ _ _
  have e6 : sv0 τ 186 = τ 186 := sv0_o (by decide) (by decide) (by decide) (by decide) (by decide)
  have e7 : sv0 τ 197 = τ 197 := sv0_o (by decide) (by decide) (by decide) (by decide) (by decide)
  have e8 : sv0 τ 198 = cpyF (τ 197) (psF 4 0 τ 198) 2396 := by unfold sv0 savF; simp only [p7, upc_self, upc_ne, upi_self, upi_ne, ne_eq, Nat.reduceEqDiff, not_false_eq_true, Int.reduceEq]
  have e0 : sv0 τ 200 = cpyF (psF 4 0 τ 199) (psF 4 0 τ 200) 8192 := by unfold sv0 savF; simp only [upc_self, upc_ne, upi_self, upi_ne, ne_eq, Nat.reduceEqDiff, not_false_eq_true, Int.reduceEq]
  have e2 : sv0 τ 202 = cpyF (psF 4 0 τ 201) (psF 4 0 τ 202) 4 := by unfold sv0 savF; simp only [upc_self, upc_ne, upi_self, upi_ne, ne_eq, Nat.reduceEqDiff, not_false_eq_true, Int.reduceEq]
  have e9 : sv0 τ 199 = psF 4 0 τ 199 := by unfold sv0 savF; simp only [upc_self, upc_ne, upi_self, upi_ne, ne_eq, Nat.reduceEqDiff, not_false_eq_true, Int.reduceEq]
  have e1 : sv0 τ 201 = psF 4 0 τ 201 := by unfold sv0 savF; simp only [upc_self, upc_ne, upi_self, upi_ne, ne_eq, Nat.reduceEqDiff, not_false_eq_true, Int.reduceEq]
  have b7 : (upc (savF P 198 197 200 199 202 201) 186 (upi (savF P 198 197 200 199 202 201 186) 18 (psF 4 0 τ 186 18))) 197 = cpyF (P 198) (P 197) 2396 := by unfold savF; simp only [upc_self, upc_ne, upi_self, upi_ne, ne_eq, Nat.reduceEqDiff, not_false_eq_true, Int.reduceEq]
  have b9 : (upc (savF P 198 197 200 199 202 201) 186 (upi (savF P 198 197 200 199 202 201 186) 18 (psF 4 0 τ 186 18))) 199 = cpyF (P 200) (P 199) 8192 := by unfold savF; simp only [upc_self, upc_ne, upi_self, upi_ne, ne_eq, Nat.reduceEqDiff, not_false_eq_true, Int.reduceEq]
  have b1 : (upc (savF P 198 197 200 199 202 201) 186 (upi (savF P 198 197 200 199 202 201 186) 18 (psF 4 0 τ 186 18))) 201 = cpyF (P 202) (P 201) 4 := by unfold savF; simp only [upc_self, upc_ne, upi_self, upi_ne, ne_eq, Nat.reduceEqDiff, not_false_eq_true, Int.reduceEq]
  have b6 : (upc (savF P 198 197 200 199 202 201) 186 (upi (savF P 198 197 200 199 202 201 186) 18 (psF 4 0 τ 186 18))) 186 = upi (P 186) 18 (psF 4 0 τ 186 18) := by unfold savF; simp only [upc_self, upc_ne, upi_self, upi_ne, ne_eq, Nat.reduceEqDiff, not_false_eq_true, Int.reduceEq]
  have bo : ∀ q : Nat, 186 < q → q < 197 → (upc (savF P 198 197 200 199 202 201) 186 (upi (savF P 198 197 200 199 202 201 186) 18 (psF 4 0 τ 186 18))) q = τ q := by
    intro q g0 g1
    unfold savF
    rw [upc_ne _ _ (by omega), upc_ne _ _ (by omega), upc_ne _ _ (by omega), upc_ne _ _ (by omega), h7 q (by omega) (by omega) (by omega) (by omega)]
    exact sv0_o (by omega) (by omega) (by omega) (by omega) (by omega)
  generalize (upc (savF P 198 197 200 199 202 201) 186 (upi (savF P 198 197 200 199 202 201 186) 18 (psF 4 0 τ 186 18))) = B at *
  have q7 : ∀ j, 0 ≤ j → j < 2396 → B 197 j = τ 197 j := by
    intro j j0 j1
    rw [b7, h7 198 (by decide) (by decide) (by decide) (by decide), e8]
    unfold cpyF
    rw [if_pos ⟨j0, j1⟩, if_pos ⟨j0, j1⟩]
  have bj : ∀ j, ¬ j = 24 → ¬ j = 25 → B 186 j = τ 186 j := by
    intro j j1 j2
    rw [b6]
    by_cases z : j = 18
    · rw [z, upi_self, p6]
    · rw [upi_ne _ _ z, h8 j z j1 j2]
  have ptm : ptM (sv0 τ) B := by
    refine ⟨fun j j0 j1 => by rw [q7 j j0 j1, e7], fun x x0 x1 => ?_, fun x x0 x1 => ?_, by rw [bj 18 (by decide) (by decide), e6], by rw [bj 22 (by decide) (by decide), e6], by rw [bj 23 (by decide) (by decide), e6]⟩
    · rw [b9, h7 200 (by decide) (by decide) (by decide) (by decide), e0, e9]
      unfold cpyF
      rw [if_pos ⟨x0, x1⟩, if_pos ⟨x0, x1⟩]
    · rw [b1, h7 202 (by decide) (by decide) (by decide) (by decide), e2, e1]
      unfold cpyF
      rw [if_pos ⟨x0, x1⟩, if_pos ⟨x0, x1⟩]
  have dD := iD4_pt sd pt ptm
  have dA := iAn_pt sa pt (τ' := B) fun j j0 j1 => by rw [q7 j j0 (by omega), e7]
  have co : ∀ q : Nat, q < 11 ∨ 117 < q → cpD E 12 65 q = σ q := by
    intro q hq
    rw [cpD_out2 (by omega), h6 q (by omega), cpD_out1 (by omega)]
  obtain ⟨c1, c2, c3, c4, c5, c6⟩ := h.2.2.1
  refine ⟨⟨dD.1, dD.2.1, dD.2.2.1, dA⟩, iCs_fr h.2.1 (fun q hq => co q (by omega)) (fun q g0 g1 => bo q g0 g1) (bj 9 (by decide) (by decide)), ?_, ?_, lx_B dD.2.2.2, fun _ => lx_lr dD.2.2.2, fun w => ?_⟩
  · refine iSc_k ?_
    unfold iSc
    rw [co 10 (by omega), bj 22 (by decide) (by decide), bj 19 (by decide) (by decide), bj 23 (by decide) (by decide), bj 21 (by decide) (by decide), bj 20 (by decide) (by decide), bj 18 (by decide) (by decide)]
    exact ⟨c1, c2, c3, c4, c5, c6⟩
  · obtain ⟨f1, f2, f3⟩ := h.2.2.2.1
    refine ⟨fun x h0 h1 => ?_, fun t h0 h1 => ?_, fun y h0 h1 => ?_⟩
    · rw [bo 187 (by omega) (by omega)]; have := f1 x h0 h1; omega
    · rw [bo 190 (by omega) (by omega), q7 (4 + t) (by omega) (by omega)]; have := f2 t h0 h1; omega
    · rw [bj 9 (by decide) (by decide)] at h1
      rw [bo 195 (by omega) (by omega)]; have := f3 y h0 h1; omega
  · rw [co 10 (by omega)] at w; omega
theorem p_write (h : iAll k σ τ) (hk : 0 ≤ k ∧ k ≤ 600) (hr : σ 10 3 = 1) {g lost f : Int} (hg : 0 ≤ g ∧ g < τ 186 9) (hf : (f = 0 ∧ ¬ τ 197 (crC τ g) < crL τ g) ∨ (f = 1 ∧ τ 197 (crC τ g) < crL τ g)) :
    c2Ok τ g (crC τ g) (crT τ g) (crL τ g) f ∧ ((σ 10 4 = -1 → dcOk σ g) ∧ (¬ σ 10 4 = -1 → dcOk (cpD σ 65 12) g)) ∧ (((wrC σ g).2 10 3 = 0 ∨ (wrC σ g).2 10 3 = 1) ∧ (wrC σ g).2 4 = σ 4 ∧ (wrC σ g).2 5 = σ 5) ∧
    (wrC σ g).1 = (c2F τ g lost (crC τ g) (crT τ g) (crL τ g) (crN τ g) f).1 ∧
    iAll (k + 1) (if ((wrC σ g).1 = 1 ∨ (wrC σ g).1 = 2) ∧ ¬ (wrC σ g).2 10 3 = 0 ∧ lost = 0 then dlF (wrC σ g).2 g else (wrC σ g).2) (c2F τ g lost (crC τ g) (crT τ g) (crL τ g) (crN τ g) f).2 := by
  obtain ⟨⟨a1, a2⟩, a3, a4, a5, a6, a7⟩ := p_done h hk hr (σ1 := σ) (fun _ _ => rfl) hg hf
  obtain ⟨⟨b1, b2⟩, b3, b4, b5, b6, b7⟩ := p_done h hk hr (σ1 := cpD σ 65 12) (fun q hq => cpD_out1 hq) hg hf
  obtain ⟨c1, c2, c3, c4, c5, c6⟩ := h.2.2.1
  have f186 : ∀ j, ¬ j = 18 → ¬ j = 24 → ¬ j = 25 → fnM0 τ g f 186 j = τ 186 j := by
    intro j j1 j2 j3; unfold fnM0; rw [upc_ne _ _ (by decide), a7 j j1 j2 j3]
  have f195 : fnM0 τ g f 195 = τ 195 := by
    unfold fnM0; rw [upc_ne _ _ (by decide), a6 195 (by decide) (by decide) (by decide) (by decide)]
    exact sv0_o (by decide) (by decide) (by decide) (by decide) (by decide)
  refine ⟨a2, ⟨fun _ => a1, fun _ => b1⟩, ?_⟩
  have ec : c2F τ g lost (crC τ g) (crT τ g) (crL τ g) (crN τ g) f = c3F (fnM0 τ g f) lost (crC τ g) (crT τ g) (crL τ g) (crN τ g) (psF 4 0 τ 186 18) (c2P τ g (crC τ g) (crT τ g) (crL τ g) f).1 := rfl
  rw [ec]
  unfold wrC c3F
  rw [f186 21 (by decide) (by decide) (by decide), f186 20 (by decide) (by decide) (by decide)]
  by_cases q : σ 10 4 = -1
  · have z : τ 186 21 = 0 := by omega
    rw [if_pos q, if_neg (not_not_intro z)]
    have e10 : dcE σ g 10 3 = 1 := by rw [a5 10 (by omega)]; exact hr
    refine ⟨⟨Or.inr e10, a5 4 (by omega), a5 5 (by omega)⟩, rfl, ?_⟩
    by_cases ql : lost = 0
    · rw [if_pos ⟨Or.inl rfl, by show ¬ dcE σ g 10 3 = 0; omega, ql⟩]
      dsimp only
      rw [if_pos ql]
      have w := p_deliver a4 (g := g) (by have := f186 9 (by decide) (by decide) (by decide); unfold fnM0 at this; rw [this]; exact hg) (by
        have e5 := f195
        unfold fnM0 at e5
        unfold crT
        rw [e5, upc_self, upi_ne _ _ (by omega), upi_self])
      unfold crC crT crL crN at w ⊢
      have e5 := f195
      unfold fnM0 crC crT crL crN at e5
      rw [e5] at w
      exact w
    · rw [if_neg (fun w => ql w.2.2)]
      dsimp only
      rw [if_neg ql]
      exact a4
  · have z : ¬ τ 186 21 = 0 := by omega
    have e104 : dcE (cpD σ 65 12) g 10 = σ 10 := by rw [b5 10 (by omega), cpD_out1 (by omega)]
    have e20 : τ 186 20 = σ 10 4 := by omega
    rw [if_neg q, if_pos z, b3, e104, e20]
    by_cases q2 : 1 + (c2P τ g (crC τ g) (crT τ g) (crL τ g) f).1 ≤ σ 10 4
    · rw [if_pos q2, if_neg (show ¬ σ 10 4 < 1 + (c2P τ g (crC τ g) (crT τ g) (crL τ g) f).1 by omega)]
      have h0 : hlC (dcE (cpD σ 65 12) g) 10 3 = 0 := by unfold hlC; simp only [upc_self, upc_ne, upi_self, upi_ne, ne_eq, Nat.reduceEqDiff, not_false_eq_true, Int.reduceEq]
      refine ⟨⟨Or.inl h0, ?_, ?_⟩, rfl, ?_⟩
      · show hlC (dcE (cpD σ 65 12) g) 4 = σ 4
        unfold hlC; rw [upc_ne _ _ (by decide), b5 4 (by omega), cpD_out1 (by omega)]
      · show hlC (dcE (cpD σ 65 12) g) 5 = σ 5
        unfold hlC; rw [upc_ne _ _ (by decide), b5 5 (by omega), cpD_out1 (by omega)]
      · rw [if_neg (fun w => w.2.1 h0)]
        exact p_halt b4 (by rw [e104]; exact hr)
    · rw [if_neg q2, if_pos (show σ 10 4 < 1 + (c2P τ g (crC τ g) (crT τ g) (crL τ g) f).1 by omega)]
      have h0 : hlC (cpD (dcE (cpD σ 65 12) g) 12 65) 10 3 = 0 := by unfold hlC; simp only [upc_self, upc_ne, upi_self, upi_ne, ne_eq, Nat.reduceEqDiff, not_false_eq_true, Int.reduceEq]
      have h4 : hlC (cpD (dcE (cpD σ 65 12) g) 12 65) 4 = σ 4 := by
        unfold hlC; rw [upc_ne _ _ (by decide), cpD_out2 (by omega), b5 4 (by omega), cpD_out1 (by omega)]
      have h5 : hlC (cpD (dcE (cpD σ 65 12) g) 12 65) 5 = σ 5 := by
        unfold hlC; rw [upc_ne _ _ (by decide), cpD_out2 (by omega), b5 5 (by omega), cpD_out1 (by omega)]
      dsimp only
      rw [h4, h5]
      refine ⟨⟨Or.inl h0, rfl, rfl⟩, rfl, ?_⟩
      · rw [if_neg (fun w => w.2.1 h0)]
        refine p_halt (p_torn h hr (fun q hq => b5 q hq) (fun q h1 h2 h3 h4 => ?_) (fun j j1 j2 j3 => f186 j j1 j2 j3)) ?_
        · unfold fnM0; rw [upc_ne _ _ h2]; exact a6 q h1 h2 h3 h4
        · rw [cpD_out2 (by omega), e104]; exact hr
theorem p_carry (h : iAll k σ τ) (hk : 0 ≤ k ∧ k ≤ 600) {g lost : Int} (hg : 0 ≤ g ∧ g < τ 186 9) :
    carOk τ g ∧ (fateF σ g = 1 → (σ 10 4 = -1 → dcOk σ g) ∧ (¬ σ 10 4 = -1 → dcOk (cpD σ 65 12) g)) ∧ (((cyW σ g).2 10 3 = 0 ∨ (cyW σ g).2 10 3 = 1) ∧ (cyW σ g).2 4 = σ 4 ∧ (cyW σ g).2 5 = σ 5) ∧
    ((0 ≤ σ 4 g ∧ σ 4 g < 4) ∧ (0 ≤ σ 5 g ∧ σ 5 g < 3) ∧ σ 27 (σ 4 g * 3 + σ 5 g) < 2147483647) ∧
    (cyC σ g lost).1 = (carF τ g lost).1 ∧ iAll (k + 1) (cyC σ g lost).2 (carF τ g lost).2 := by
  obtain ⟨⟨q1, q2⟩, q3, ⟨q4, q5⟩, ⟨q6, q7⟩, ⟨q8, q9⟩, qn⟩ := h.2.1.2.2.2 g hg.1 hg.2
  obtain ⟨c1, c2, ⟨c3, c3'⟩, c4, c5, c6⟩ := h.2.2.1
  have ct : crT τ g = 3 * τ 195 (5 * g) + τ 195 (5 * g + 2) := rfl
  have cc : crC τ g = τ 195 (5 * g) := rfl
  have cl : crL τ g = τ 195 (5 * g + 1) := rfl
  have cn : crN τ g = τ 195 (5 * g + 3) := rfl
  have t0 : 0 ≤ crT τ g ∧ crT τ g < 12 := by omega
  have b := (h.2.2.2.1.2.1 (crT τ g) t0.1 t0.2).2
  have l26 : σ 26 (σ 4 g) = τ 197 (crC τ g) := by rw [h.1.2.2.2.1 (σ 4 g) q2.1 q2.2, q1]
  have l27 : σ 27 (σ 4 g * 3 + σ 5 g) = τ 197 (4 + crT τ g) := by
    rw [show σ 4 g * 3 + σ 5 g = crT τ g by omega]; exact (h.1.2.2.2.2 _ t0.1 t0.2).1
  have an0 : 1 ≤ τ 197 (4 + crT τ g) → 0 ≤ τ 197 (16 + crT τ g) ∧ τ 197 (16 + crT τ g) ≤ 4 := by
    intro w
    obtain ⟨x1, x2⟩ := h.1.2.2.2.2 (crT τ g) t0.1 t0.2
    exact (x2 (by omega)).2.1
  have wr0 := fun (hr : σ 10 3 = 1) (f : Int) (hf : (f = 0 ∧ ¬ τ 197 (crC τ g) < crL τ g) ∨ (f = 1 ∧ τ 197 (crC τ g) < crL τ g)) => p_write (lost := lost) h hk hr hg hf
  have fe : fateF σ g = if τ 186 19 = 0 ∨ crL τ g < τ 197 (crC τ g) ∨ (τ 197 (crC τ g) < crL τ g ∧ ¬ crN τ g = 1) then 0 else
      if crN τ g = (if τ 197 (crC τ g) < crL τ g then 0 else τ 197 (4 + crT τ g)) then 2 else if crN τ g = (if τ 197 (crC τ g) < crL τ g then 0 else τ 197 (4 + crT τ g)) + 1 then 1 else 0 := by
    unfold fateF
    rw [l26, l27, c3, q3, q6]
  refine ⟨⟨by omega, by omega, by unfold in32; omega, fun r1 r2 r3 => (wr0 (by omega) 1 (by omega)).1, fun r1 r2 r3 => (wr0 (by omega) 0 (by omega)).1, fun r1 r2 r3 => an0 (by omega)⟩, ?_, ?_, ⟨q2, q5, by omega⟩, ?_⟩
  · intro hf
    by_cases r1 : τ 186 19 = 0
    · rw [fe, if_pos (Or.inl r1)] at hf; omega
    · exact (wr0 (by omega) (if τ 197 (crC τ g) < crL τ g then 1 else 0) (by split <;> omega)).2.1
  · unfold cyW
    by_cases hf : fateF σ g = 1
    · rw [if_pos hf]
      by_cases r1 : τ 186 19 = 0
      · rw [fe, if_pos (Or.inl r1)] at hf; omega
      · exact (wr0 (by omega) (if τ 197 (crC τ g) < crL τ g then 1 else 0) (by split <;> omega)).2.2.1
    · rw [if_neg hf]; exact ⟨by show σ 10 3 = 0 ∨ σ 10 3 = 1; omega, rfl, rfl⟩
  · unfold cyC cyW carF
    by_cases r1 : τ 186 19 = 0 ∨ crL τ g < τ 197 (crC τ g)
    · have f0 : fateF σ g = 0 := by rw [fe, if_pos (by omega)]
      rw [f0, if_neg (by decide), if_pos r1]
      refine ⟨rfl, ?_⟩
      rw [if_neg (fun w => by have := w.1; dsimp only at this; omega)]
      exact iAll_k h
    · rw [if_neg r1]
      have hr : σ 10 3 = 1 := by omega
      by_cases r2 : τ 197 (crC τ g) < crL τ g
      · rw [if_pos r2] at fe
        rw [if_pos r2]
        by_cases r3 : crN τ g = 1
        · have f1 : fateF σ g = 1 := by rw [fe, if_neg (by omega), if_neg (by omega), if_pos (by omega)]
          rw [if_pos r3, if_pos f1]
          have w := wr0 hr 1 (by omega)
          exact ⟨w.2.2.2.1, w.2.2.2.2⟩
        · have f0 : fateF σ g = 0 := by rw [fe, if_pos (by omega)]
          rw [if_neg r3, f0, if_neg (by decide)]
          refine ⟨rfl, ?_⟩
          rw [if_neg (fun w => by have := w.1; dsimp only at this; omega)]
          exact iAll_k h
      · rw [if_neg r2] at fe
        rw [if_neg r2]
        by_cases r3 : crN τ g = τ 197 (4 + crT τ g) + 1
        · have f1 : fateF σ g = 1 := by rw [fe, if_neg (by omega), if_neg (by omega), if_pos r3]
          rw [if_pos r3, if_pos f1]
          have w := wr0 hr 0 (by omega)
          exact ⟨w.2.2.2.1, w.2.2.2.2⟩
        · rw [if_neg r3]
          by_cases r4 : crN τ g = τ 197 (4 + crT τ g)
          · have f2 : fateF σ g = 2 := by rw [fe, if_neg (by omega), if_pos r4]
            rw [if_pos r4, f2, if_neg (show ¬ (2 : Int) = 1 by decide)]
            refine ⟨rfl, ?_⟩
            by_cases ql : lost = 0
            · rw [if_pos ⟨Or.inr rfl, by show ¬ σ 10 3 = 0; omega, ql⟩]
              dsimp only
              rw [if_pos ql]
              exact iAll_k (p_deliver h hg r4)
            · rw [if_neg (fun w => ql w.2.2)]
              dsimp only
              rw [if_neg ql]
              exact iAll_k h
          · have f0 : fateF σ g = 0 := by rw [fe, if_neg (by omega), if_neg r4, if_neg r3]
            rw [if_neg r4, f0, if_neg (by decide)]
            refine ⟨rfl, ?_⟩
            rw [if_neg (fun w => by have := w.1; dsimp only at this; omega)]
            exact iAll_k h
end CARRY3
