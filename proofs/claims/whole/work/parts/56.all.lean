/-! 56.all: all that class and reference have in common, and the small calls -/
def iSc (k : Int) (σ τ : mG) : Prop := σ 10 5 = τ 186 22 ∧ (0 ≤ τ 186 22 ∧ τ 186 22 ≤ 100000 * k) ∧ (σ 10 3 = τ 186 19 ∧ (τ 186 19 = 0 ∨ τ 186 19 = 1)) ∧ σ 10 6 = τ 186 23 ∧
  ((σ 10 4 = -1 ∧ τ 186 21 = 0) ∨ (0 ≤ σ 10 4 ∧ τ 186 21 = 1 ∧ τ 186 20 = σ 10 4)) ∧ (1 ≤ τ 186 18 ∧ τ 186 18 ≤ 1 + 4 * k)
def iBd (k : Int) (τ : mG) : Prop := (∀ c, 0 ≤ c → c < 4 → τ 187 c ≤ k) ∧ (∀ t, 0 ≤ t → t < 12 → τ 190 t ≤ k ∧ τ 197 (4 + t) ≤ k ∧ 0 ≤ τ 197 (4 + t)) ∧ ∀ g, 0 ≤ g → g < τ 186 9 → τ 195 (5 * g + 3) ≤ k
def iDs (σ τ : mG) : Prop := iTr σ τ ∧ iBy σ τ ∧ iHa σ τ ∧ iAn σ τ
def iCs (σ τ : mG) : Prop := iCl σ τ ∧ iPo σ τ
def iLo (σ τ : mG) : Prop := lkB (τ 199) ∧ (σ 10 3 = 1 → iLr σ τ) ∧ (σ 10 3 = 0 → iLs σ τ)
def iAll (k : Int) (σ τ : mG) : Prop := iDs σ τ ∧ iCs σ τ ∧ iSc k σ τ ∧ iBd k τ ∧ iLo σ τ
section ALL
variable {σ τ σ' τ' : mG} {k : Int}
theorem iSc_k (h : iSc k σ τ) : iSc (k + 1) σ τ := by
  obtain ⟨a, b, c, e, f, g⟩ := h
  exact ⟨a, by omega, c, e, f, by omega⟩
theorem iBd_k (h : iBd k τ) : iBd (k + 1) τ := by
  obtain ⟨a, b, c⟩ := h
  exact ⟨fun x h0 h1 => by have := a x h0 h1; omega, fun t h0 h1 => by have := b t h0 h1; omega, fun g h0 h1 => by have := c g h0 h1; omega⟩
theorem iAll_k (h : iAll k σ τ) : iAll (k + 1) σ τ := ⟨h.1, h.2.1, iSc_k h.2.2.1, iBd_k h.2.2.2.1, h.2.2.2.2⟩
theorem iDs_fr (h : iDs σ τ) (hc : ∀ q : Nat, (13 < q ∧ q < 19) ∨ (24 < q ∧ q < 65) → σ' q = σ q) (h197 : τ' 197 = τ 197) (hb : τ' 186 18 = τ 186 18) : iDs σ' τ' := by
  obtain ⟨a, b, c, e⟩ := h
  refine ⟨iTr_fr a (hc 14 (by omega)) (hc 15 (by omega)) (hc 16 (by omega)) (fun j _ _ => by rw [h197]), iBy_fr b (hc 14 (by omega)) (hc 17 (by omega)) (hc 18 (by omega)) (fun j _ _ => by rw [h197]), iHa_fr c (hc 25 (by omega)) hb (fun j _ _ => by rw [h197]), ?_⟩
  obtain ⟨e1, e2⟩ := e
  refine ⟨fun x h0 h1 => ?_, fun t h0 h1 => ?_⟩
  · rw [hc 26 (by omega), h197]; exact e1 x h0 h1
  · rw [hc 27 (by omega), h197]
    refine ⟨(e2 t h0 h1).1, fun w => ?_⟩
    have w := (e2 t h0 h1).2 w
    unfold ansR at w ⊢
    rw [hc _ (by omega), hc _ (by omega), hc _ (by omega), h197]; exact w
theorem iCs_fr (h : iCs σ τ) (hc : ∀ q : Nat, (2 < q ∧ q < 10) ∨ (117 < q ∧ q < 186) → σ' q = σ q) (hm : ∀ q : Nat, 186 < q → q < 197 → τ' q = τ q) (h9 : τ' 186 9 = τ 186 9) : iCs σ' τ' :=
  ⟨iCl_fr h.1 (fun q h0 h1 => hc q (by omega)) (fun q h0 h1 => hm q (by omega) (by omega)), iPo_fr h.2 (fun q h0 h1 => hc q (by omega)) (hm 195 (by omega) (by omega)) (hm 196 (by omega) (by omega)) h9⟩
theorem iBd_fr (h : iBd k τ) (h187 : τ' 187 = τ 187) (h190 : τ' 190 = τ 190) (h195 : τ' 195 = τ 195) (h197 : τ' 197 = τ 197) (h9 : τ' 186 9 = τ 186 9) : iBd k τ' := by
  unfold iBd at *; rw [h187, h190, h195, h197, h9]; exact h
theorem iAll_thr (h : iAll k σ τ) {v : Int} : iAll k σ (thr τ v) := by
  obtain ⟨a, b, c, e, f1, f2, f3⟩ := h
  have t186 : ∀ j, ¬ j = 0 → thr τ v 186 j = τ 186 j := by intro j hj; unfold thr; rw [upc_self, upi_ne _ _ hj]
  have to : ∀ q : Nat, ¬ q = 186 → thr τ v q = τ q := by intro q hq; unfold thr; rw [upc_ne _ _ hq]
  refine ⟨iDs_fr a (fun _ _ => rfl) (to 197 (by decide)) (t186 18 (by decide)), iCs_fr b (fun _ _ => rfl) (fun q h0 h1 => to q (by omega)) (t186 9 (by decide)), ?_, iBd_fr e (to 187 (by decide)) (to 190 (by decide)) (to 195 (by decide)) (to 197 (by decide)) (t186 9 (by decide)), ?_, fun w => ?_, fun w => ?_⟩
  · unfold iSc at *; rw [t186 22 (by decide), t186 19 (by decide), t186 23 (by decide), t186 21 (by decide), t186 20 (by decide), t186 18 (by decide)]; exact c
  · rw [to 199 (by decide)]; exact f1
  · exact iLr_fr (f2 w) rfl rfl rfl rfl rfl (to 199 (by decide)) (to 201 (by decide)) (t186 22 (by decide)) (t186 23 (by decide))
  · exact iLs_fr (f3 w) rfl rfl rfl rfl (to 199 (by decide)) (to 201 (by decide))
theorem iAll_ps (h : iAll k σ τ) (hr : σ 10 3 = 1) : iAll k σ (psF 4 0 τ) := by
  obtain ⟨a, b, c, e, f1, f2, f3⟩ := h
  have to : ∀ q : Nat, ¬ q = 199 → ¬ q = 201 → psF 4 0 τ q = τ q := fun q h1 h2 => psF_out h1 h2 _ _ _
  have e6 := to 186 (by decide) (by decide)
  have hx := lr_lx (f2 hr) c.2.1.1
  refine ⟨iDs_fr a (fun _ _ => rfl) (to 197 (by decide) (by decide)) (by rw [e6]), iCs_fr b (fun _ _ => rfl) (fun q h0 h1 => to q (by omega) (by omega)) (by rw [e6]), ?_, iBd_fr e (to 187 (by decide) (by decide)) (to 190 (by decide) (by decide)) (to 195 (by decide) (by decide)) (to 197 (by decide) (by decide)) (by rw [e6]), psF_B 4 0 τ f1, fun _ => lx_lr hx, fun w => by omega⟩
  unfold iSc at *; rw [e6]; exact c
theorem p_nodes (h : iAll k σ τ) : cnt (fun i => decide (¬ σ 14 i = -1)) 32 0 0 = cnt (fun i => decide (0 ≤ τ 197 (220 + i))) 32 0 0 := by
  refine cnt_congr _ _ _ fun j h0 h1 => ?_
  have := h.1.1.1 j h0 (by omega)
  rw [decide_eq_decide]; omega
theorem p_node (h : iAll k σ τ) {m w : Int} (hm : 0 ≤ m ∧ m < 32) (hw : 0 ≤ w ∧ w ≤ 3) : nodC σ m w = nodM τ m w := by
  obtain ⟨hT, hB, _⟩ := h.1
  unfold nodC nodM
  have k1 := hT.1 m hm.1 hm.2
  have b1 := hB m hm.1 hm.2
  by_cases q0 : w = 0
  · rw [if_pos q0, if_pos q0]; exact k1.1
  · rw [if_neg q0, if_neg q0]
    by_cases q1 : w = 1
    · rw [if_pos q1, if_pos q1]
      by_cases q : 0 ≤ τ 197 (220 + m) ∧ 0 < m
      · rw [if_pos q]; exact (hT.2.2.2.1 m (by omega) hm.2 (by omega)).1
      · rw [if_neg q]
        by_cases z : m = 0
        · rw [z]; exact hT.2.1.2.1
        · exact (hT.2.2.1 m (by omega) hm.2 (by omega)).1
    · rw [if_neg q1, if_neg q1]
      by_cases q2 : w = 2
      · rw [if_pos q2, if_pos q2]
        by_cases q : 0 ≤ τ 197 (220 + m) ∧ 0 < m
        · rw [if_pos q]; exact (hT.2.2.2.1 m (by omega) hm.2 (by omega)).2.1
        · rw [if_neg q]
          by_cases z : m = 0
          · rw [z]; exact hT.2.1.2.2
          · exact (hT.2.2.1 m (by omega) hm.2 (by omega)).2
      · rw [if_neg q2, if_neg q2]
        by_cases q : τ 197 (220 + m) = 0
        · rw [if_pos q]; exact (b1.2.2.1 (by omega)).symm
        · rw [if_neg q]; exact b1.2.1 (by omega)
theorem sort_eq (h : iLx σ τ) {c m p : Int} (hc : 0 ≤ c ∧ c < 4) (hm : 0 ≤ m ∧ m < 32) (hp : 0 ≤ p ∧ p < 64) : sortF σ c m p = τ 199 ((32 * c + m) * 64 + p) := by
  obtain ⟨w1, w2, w3, w4, w5⟩ := h.1 c m p hc.1 hc.2 hm.1 hm.2 hp.1 hp.2
  dsimp only at w1 w2 w3 w4 w5
  generalize τ 199 ((32 * c + m) * 64 + p) = v at *
  unfold bt at w1 w2 w3 w4
  unfold sortF
  by_cases q2 : v = 2
  · rw [if_pos (w2.mpr q2), q2]
  · rw [if_neg (fun x => q2 (w2.mp x))]
    by_cases q1 : v = 1
    · rw [if_pos (w1.mpr q1), q1]
    · rw [if_neg (fun x => q1 (w1.mp x))]
      by_cases q6 : v = 6
      · rw [if_pos (w4.mpr q6), q6]
      · rw [if_neg (fun x => q6 (w4.mp x))]
        by_cases q5 : v = 5
        · rw [if_pos (w3.mpr q5), q5]
        · rw [if_neg (fun x => q5 (w3.mp x))]; omega
theorem p_lock (h : iAll k σ τ) (hr : σ 10 3 = 1) {c m p : Int} (hc : 0 ≤ c ∧ c < 4) (hm : 0 ≤ m ∧ m < 32) (hp : 0 ≤ p ∧ p < 64) : sortF σ c m p = psF 4 0 τ 199 ((32 * c + m) * 64 + p) :=
  sort_eq (lr_lx (h.2.2.2.2.2.1 hr) h.2.2.1.2.1.1) hc hm hp
theorem p_lease (h : iAll k σ τ) (hr : σ 10 3 = 1) {c : Int} (hc : 0 ≤ c ∧ c < 4) : mMax (σ 24 c - σ 10 5) 0 = (if psF 4 0 τ 201 c = 0 then 0 else psF 4 0 τ 201 c - τ 186 22) := by
  have b := (h.2.2.2.2.2.1 hr).2 c hc.1 hc.2
  have t0 := h.2.2.1.2.1.1
  rw [ps4_201 hc, h.2.2.1.1, b]
  unfold mMax
  by_cases q : τ 201 c ≤ τ 186 22
  · rw [if_pos q, if_pos rfl]; split <;> omega
  · rw [if_neg q, if_neg (show ¬ τ 201 c = 0 by omega)]; split <;> omega
theorem p_time (h : iAll k σ τ) {ms : Int} (hms : 0 ≤ ms ∧ ms ≤ 100000) {v : Int} : iAll (k + 1) (goOnF σ ms) (upc τ 186 (upi (upi (τ 186) 0 v) 22 (τ 186 22 + ms))) := by
  obtain ⟨a, b, c, e, f1, f2, f3⟩ := h
  obtain ⟨c1, c2, c3, c4, c5, c6⟩ := c
  have gq : ∀ q : Nat, ¬ q = 10 → ¬ q = 20 → ¬ q = 21 → ¬ q = 22 → ¬ q = 23 → ¬ q = 24 → goOnF σ ms q = σ q := by
    intro q h1 h2 h3 h4 h5 h6
    unfold goOnF
    dsimp only
    have e1 : endLs (σ 10 5 + ms) 4 0 (upc σ 10 (upi (σ 10) 5 (σ 10 5 + ms))) q = σ q := by rw [endLs_out ⟨h2, h3, h6⟩, upc_ne _ _ h1]
    split
    · rw [upc_ne _ _ h1]
    · split
      · rw [upc_ne _ _ h5, upc_ne _ _ h4, e1]
      · exact e1
  have g10 : goOnF σ ms 10 = upi (σ 10) 5 (σ 10 5 + ms) := by
    unfold goOnF
    dsimp only
    have e1 : endLs (σ 10 5 + ms) 4 0 (upc σ 10 (upi (σ 10) 5 (σ 10 5 + ms))) 10 = upi (σ 10) 5 (σ 10 5 + ms) := by rw [endLs_out (by decide), upc_self]
    split
    · rw [upc_self]
    · split
      · rw [upc_ne _ _ (by decide), upc_ne _ _ (by decide), e1]
      · exact e1
  have t186 : ∀ j, ¬ j = 0 → ¬ j = 22 → (upc τ 186 (upi (upi (τ 186) 0 v) 22 (τ 186 22 + ms))) 186 j = τ 186 j := by
    intro j h1 h2; rw [upc_self, upi_ne _ _ h2, upi_ne _ _ h1]
  have t22 : (upc τ 186 (upi (upi (τ 186) 0 v) 22 (τ 186 22 + ms))) 186 22 = τ 186 22 + ms := by rw [upc_self, upi_self]
  have to : ∀ q : Nat, ¬ q = 186 → (upc τ 186 (upi (upi (τ 186) 0 v) 22 (τ 186 22 + ms))) q = τ q := fun q hq => upc_ne _ _ hq
  refine ⟨iDs_fr a (fun q hq => gq q (by omega) (by omega) (by omega) (by omega) (by omega) (by omega)) (to 197 (by decide)) (t186 18 (by decide) (by decide)), iCs_fr b (fun q hq => gq q (by omega) (by omega) (by omega) (by omega) (by omega) (by omega)) (fun q h0 h1 => to q (by omega)) (t186 9 (by decide) (by decide)), ?_, iBd_k (iBd_fr e (to 187 (by decide)) (to 190 (by decide)) (to 195 (by decide)) (to 197 (by decide)) (t186 9 (by decide) (by decide))), ?_, fun w => ?_, fun w => ?_⟩
  · unfold iSc
    rw [g10, t22, t186 19 (by decide) (by decide), t186 23 (by decide) (by decide), t186 21 (by decide) (by decide), t186 20 (by decide) (by decide), t186 18 (by decide) (by decide), upi_self, upi_ne _ _ (by decide), upi_ne _ _ (by decide), upi_ne _ _ (by decide)]
    exact ⟨by rw [c1], by omega, c3, c4, c5, by omega⟩
  · rw [to 199 (by decide)]; exact f1
  · rw [g10, upi_ne _ _ (by decide)] at w
    refine lk_time (f2 w) (t := τ 186 22 + ms) c2.1 (by omega) ?_ ?_ ?_ (to 199 (by decide)) (to 201 (by decide)) t22 (t186 23 (by decide) (by decide))
    · intro q hq x m x0 x1 m0 m1
      have e1 : goOnF σ ms q = endLs (σ 10 5 + ms) 4 0 (upc σ 10 (upi (σ 10) 5 (σ 10 5 + ms))) q := by
        unfold goOnF
        dsimp only
        rw [if_neg (show ¬ σ 10 3 = 0 by omega)]
        split
        · rw [upc_ne _ _ (by omega), upc_ne _ _ (by omega)]
        · rfl
      rw [e1, endLs_20 hq ⟨m0, m1⟩, upc_ne _ _ (by decide), upc_ne _ _ (by omega), c1]
      by_cases z : σ 24 x ≤ τ 186 22 + ms
      · rw [if_pos z, if_pos (by omega)]
      · rw [if_neg z, if_neg (by omega)]
    · intro q hq x m x0 x1 m0 m1
      have eo : endLs (σ 10 5 + ms) 4 0 (upc σ 10 (upi (σ 10) 5 (σ 10 5 + ms))) q = σ q := by rw [endLs_out (by omega), upc_ne _ _ (by omega)]
      have e22 : endLs (σ 10 5 + ms) 4 0 (upc σ 10 (upi (σ 10) 5 (σ 10 5 + ms))) 22 = σ 22 := by rw [endLs_out (by decide), upc_ne _ _ (by decide)]
      have e23 : endLs (σ 10 5 + ms) 4 0 (upc σ 10 (upi (σ 10) 5 (σ 10 5 + ms))) 23 = σ 23 := by rw [endLs_out (by decide), upc_ne _ _ (by decide)]
      unfold goOnF
      dsimp only
      rw [if_neg (show ¬ σ 10 3 = 0 by omega), c4, c1]
      rw [c1] at eo e22 e23
      by_cases z : τ 186 23 ≤ τ 186 22 + ms
      · rw [if_pos z, if_pos z, e22, e23]
        rcases hq with rfl | rfl
        · rw [upc_ne _ _ (by decide), upc_self]; unfold fillF; rw [if_pos (by omega)]
        · rw [upc_self]; unfold fillF; rw [if_pos (by omega)]
      · rw [if_neg z, if_neg z, eo]
    · intro x x0 x1
      have e1 : goOnF σ ms 24 = endLs (σ 10 5 + ms) 4 0 (upc σ 10 (upi (σ 10) 5 (σ 10 5 + ms))) 24 := by
        unfold goOnF
        dsimp only
        rw [if_neg (show ¬ σ 10 3 = 0 by omega)]
        split
        · rw [upc_ne _ _ (by decide), upc_ne _ _ (by decide)]
        · rfl
      rw [e1, endLs_24, upc_ne _ _ (by decide), c1]
      by_cases z : σ 24 x ≤ τ 186 22 + ms
      · rw [if_pos z, if_pos (by omega)]
      · rw [if_neg z, if_neg (by omega)]
  · rw [g10, upi_ne _ _ (by decide)] at w
    have e1 : ∀ q : Nat, ¬ q = 10 → goOnF σ ms q = σ q := by
      intro q hq
      unfold goOnF
      dsimp only
      rw [if_pos w, upc_ne _ _ hq]
    exact iLs_fr (f3 w) (e1 20 (by decide)) (e1 21 (by decide)) (e1 22 (by decide)) (e1 23 (by decide)) (to 199 (by decide)) (to 201 (by decide))
end ALL
