/-! 41.inv: what class and reference have in common: tree, bytes, handles, locks -/
def iTr (σ τ : mG) : Prop :=
  (∀ i, 0 ≤ i → i < 32 → σ 14 i = τ 197 (220 + i) ∧ -1 ≤ σ 14 i ∧ σ 14 i ≤ 1) ∧
  (σ 14 0 = 1 ∧ σ 15 0 = -1 ∧ σ 16 0 = 0) ∧
  (∀ i, 1 ≤ i → i < 32 → σ 14 i = -1 → σ 15 i = -1 ∧ σ 16 i = 0) ∧
  (∀ i, 1 ≤ i → i < 32 → 0 ≤ σ 14 i → σ 15 i = τ 197 (252 + i) ∧ σ 16 i = τ 197 (284 + i) ∧ ¬ σ 16 i = 0 ∧ 0 ≤ σ 15 i ∧ σ 15 i < 32 ∧ 0 ≤ σ 14 (σ 15 i)) ∧
  (∀ i, 1 ≤ i → i < 32 → -1 ≤ τ 197 (252 + i) ∧ τ 197 (252 + i) < 32) ∧
  (∃ r : Int → Int, ∀ i, 1 ≤ i → i < 32 → 0 ≤ σ 14 i → r (σ 15 i) < r i)
def iBy (σ τ : mG) : Prop := ∀ i, 0 ≤ i → i < 32 → (0 ≤ σ 17 i ∧ σ 17 i ≤ 64) ∧ (¬ σ 14 i = 0 → σ 17 i = 0) ∧ (σ 14 i = 0 → τ 197 (316 + i) = σ 17 i) ∧ (0 ≤ τ 197 (316 + i) ∧ τ 197 (316 + i) ≤ 64) ∧
  ∀ p, 0 ≤ p → p < 64 → (p < σ 17 i → σ 18 (i * 64 + p) = τ 197 (348 + 64 * i + p)) ∧ (σ 17 i ≤ p → σ 18 (i * 64 + p) = 0)
def iHa (σ τ : mG) : Prop :=
  (∀ c h, 0 ≤ c → c < 4 → 0 ≤ h → h < 8 → σ 25 (c * 8 + h) = nodF τ c h) ∧
  (∀ j, 0 ≤ j → j < 32 → (-1 ≤ τ 197 (124 + j) ∧ τ 197 (124 + j) < 32) ∧ τ 197 (156 + j) < τ 186 18 ∧ τ 197 (188 + j) < τ 186 18)
def lkR (s a fs fa : Prop) (v : Int) : Prop := (s ↔ v = 1) ∧ (a ↔ v = 2) ∧ (fs ↔ v = 5) ∧ (fa ↔ v = 6) ∧ (v = 0 ∨ v = 1 ∨ v = 2 ∨ v = 5 ∨ v = 6)
def iLv (σ : mG) (g : Int → Int → Int → Int) : Prop :=
  ∀ c m p, 0 ≤ c → c < 4 → 0 ≤ m → m < 32 → 0 ≤ p → p < 64 → lkR (bt (LB σ 20 (c * 32 + m)) p) (bt (LB σ 21 (c * 32 + m)) p) (bt (LB σ 22 (c * 32 + m)) p) (bt (LB σ 23 (c * 32 + m)) p) (g c m p)
/-- to let the time pass changes nothing -/
def iPs (τ : mG) : Prop :=
  (∀ c m p, 0 ≤ c → c < 4 → 0 ≤ m → m < 32 → 0 ≤ p → p < 64 → gP (τ 201 c ≤ τ 186 22) (τ 186 22 < τ 186 23) (τ 199 ((32 * c + m) * 64 + p)) = τ 199 ((32 * c + m) * 64 + p)) ∧
  ∀ c, 0 ≤ c → c < 4 → (if τ 201 c ≤ τ 186 22 then 0 else τ 201 c) = τ 201 c
def iLx (σ τ : mG) : Prop := iLv σ (fun c m p => τ 199 ((32 * c + m) * 64 + p)) ∧ (∀ c, 0 ≤ c → c < 4 → σ 24 c = τ 201 c) ∧ iPs τ
section IFR
variable {σ σ' τ τ' : mG}
theorem iTr_fr (h : iTr σ τ) (h14 : σ' 14 = σ 14) (h15 : σ' 15 = σ 15) (h16 : σ' 16 = σ 16) (ht : ∀ j, 220 ≤ j → j < 316 → τ' 197 j = τ 197 j) : iTr σ' τ' := by
  obtain ⟨a, b, c, e, f, g⟩ := h
  unfold iTr
  rw [h14, h15, h16]
  refine ⟨fun i h0 h1 => ?_, b, c, fun i h0 h1 => ?_, fun i h0 h1 => ?_, g⟩
  · rw [ht _ (by omega) (by omega)]; exact a i h0 h1
  · rw [ht _ (by omega) (by omega), ht _ (by omega) (by omega)]; exact e i h0 h1
  · rw [ht _ (by omega) (by omega)]; exact f i h0 h1
theorem iBy_fr (h : iBy σ τ) (h14 : σ' 14 = σ 14) (h17 : σ' 17 = σ 17) (h18 : σ' 18 = σ 18) (ht : ∀ j, 316 ≤ j → j < 2396 → τ' 197 j = τ 197 j) : iBy σ' τ' := by
  intro i h0 h1
  rw [h14, h17, h18, ht _ (by omega) (by omega)]
  obtain ⟨a, b, c, e, f⟩ := h i h0 h1
  refine ⟨a, b, c, e, fun p h2 h3 => ?_⟩
  rw [ht _ (by omega) (by omega)]
  exact f p h2 h3
theorem nodF_fr {c h : Int} (hb : 0 ≤ c ∧ c < 4) (hh : 0 ≤ h ∧ h < 8) (hr : -1 ≤ τ 197 (124 + 8 * c + h) ∧ τ 197 (124 + 8 * c + h) < 32) (ht : ∀ j, 124 ≤ j → j < 252 → τ' 197 j = τ 197 j) : nodF τ' c h = nodF τ c h := by
  unfold nodF
  rw [ht (124 + 8 * c + h) (by omega) (by omega), ht (156 + 8 * c + h) (by omega) (by omega)]
  by_cases q : 0 ≤ τ 197 (124 + 8 * c + h)
  · rw [ht _ (by omega) (by omega), ht _ (by omega) (by omega)]
  · rw [if_neg (fun w => q w.1), if_neg (fun w => q w.1)]
theorem iHa_fr (h : iHa σ τ) (h25 : σ' 25 = σ 25) (hb : τ' 186 18 = τ 186 18) (ht : ∀ j, 124 ≤ j → j < 252 → τ' 197 j = τ 197 j) : iHa σ' τ' := by
  obtain ⟨a, b⟩ := h
  refine ⟨fun c h h0 h1 h2 h3 => ?_, fun j h0 h1 => ?_⟩
  · have w := (b (8 * c + h) (by omega) (by omega)).1
    rw [show 124 + (8 * c + h) = 124 + 8 * c + h by omega] at w
    rw [h25, nodF_fr ⟨h0, h1⟩ ⟨h2, h3⟩ w ht]; exact a c h h0 h1 h2 h3
  · rw [hb, ht _ (by omega) (by omega), ht _ (by omega) (by omega), ht _ (by omega) (by omega)]; exact b j h0 h1
theorem iLx_fr (h : iLx σ τ) (h20 : σ' 20 = σ 20) (h21 : σ' 21 = σ 21) (h22 : σ' 22 = σ 22) (h23 : σ' 23 = σ 23) (h24 : σ' 24 = σ 24) (ht : τ' 199 = τ 199) (hs : τ' 201 = τ 201) (hq : τ' 186 22 = τ 186 22) (hr : τ' 186 23 = τ 186 23) : iLx σ' τ' := by
  unfold iLx iLv iPs LB at *
  rw [h20, h21, h22, h23, h24, ht, hs, hq, hr]; exact h
/-- what class and reference find -/
theorem find_eq (h : iTr σ τ) {dr : Int} (hd : 0 ≤ dr) (w : Int) : fndN σ dr w = fnM τ dr w := by
  obtain ⟨a, b, c, e, f, g⟩ := h
  unfold fndN fnM
  rw [fnd_32 (by simp only [decide_eq_false_iff_not]; rw [b.2.1]; omega)]
  refine fnd_congr _ _ fun j h0 h1 => ?_
  have h1 : j < 32 := by omega
  obtain ⟨k1, k2, k3⟩ := a j (by omega) h1
  rw [decide_eq_decide]
  by_cases q : σ 14 j = -1
  · have := (c j h0 h1 q).1
    rw [this]
    constructor <;> intro x <;> omega
  · obtain ⟨e1, e2, e3⟩ := e j h0 h1 (by omega)
    rw [e1, e2]
    constructor
    · intro x; exact ⟨by omega, x.1, x.2⟩
    · intro x; exact x.2
theorem find_spec (h : iTr σ τ) {dr w : Int} : fnM τ dr w = -1 ∨ ((1 ≤ fnM τ dr w ∧ fnM τ dr w < 32) ∧ 0 ≤ σ 14 (fnM τ dr w) ∧ σ 15 (fnM τ dr w) = dr ∧ σ 16 (fnM τ dr w) = w) := by
  rcases fnd_spec (f := fun i => decide (0 ≤ τ 197 (220 + i) ∧ τ 197 (252 + i) = dr ∧ τ 197 (284 + i) = w)) 31 1 with ⟨q, _⟩ | ⟨q1, q2, q3, _⟩
  · exact Or.inl q
  · right
    unfold fnM
    simp only [decide_eq_true_eq] at q3
    generalize fnd (fun i => decide (0 ≤ τ 197 (220 + i) ∧ τ 197 (252 + i) = dr ∧ τ 197 (284 + i) = w)) 31 1 = j at *
    have hj : 1 ≤ j ∧ j < 32 := by omega
    obtain ⟨a, b, c, e, f, g⟩ := h
    obtain ⟨k1, k2, k3⟩ := a j (by omega) (by omega)
    obtain ⟨e1, e2, e3⟩ := e j hj.1 hj.2 (by omega)
    exact ⟨hj, by omega, by rw [e1]; exact q3.2.1, by rw [e2]; exact q3.2.2⟩
theorem nod_live (h : iTr σ τ) (hh : iHa σ τ) {c k : Int} (h0 : 0 ≤ c ∧ c < 4) (h1 : 0 ≤ k ∧ k < 8) : nodF τ c k = -1 ∨ ((0 ≤ nodF τ c k ∧ nodF τ c k < 32) ∧ 0 ≤ σ 14 (nodF τ c k)) := by
  have w := (hh.2 (8 * c + k) (by omega) (by omega)).1
  rw [show 124 + (8 * c + k) = 124 + 8 * c + k by omega] at w
  unfold nodF
  by_cases q : 0 ≤ τ 197 (124 + 8 * c + k) ∧ 0 ≤ τ 197 (220 + τ 197 (124 + 8 * c + k)) ∧ τ 197 (188 + τ 197 (124 + 8 * c + k)) = τ 197 (156 + 8 * c + k)
  · rw [if_pos q]
    right
    refine ⟨⟨q.1, w.2⟩, ?_⟩
    rw [(h.1 _ q.1 w.2).1]; exact q.2.1
  · rw [if_neg q]; exact Or.inl rfl
end IFR
/-- what a step answers and leaves -/
def stP (σ τ : mG) (R S : Int × mG) : Prop :=
  (∃ e, ¬ e = 0 ∧ R = (e, σ) ∧ S = (e, τ)) ∨ (R.1 = 0 ∧ S.1 = 0 ∧ R.2 11 12 = S.2 186 25 ∧ iTr R.2 S.2 ∧ iBy R.2 S.2 ∧ iHa R.2 S.2 ∧ iLx R.2 S.2)
