/-! 51.clients: clients, desks and the post, of class and reference -/
section CLI
variable {σ τ σ' τ' : mG}
def deskR (σ τ : mG) (D : Nat) (t : Int) : Prop :=
  σ D 4 = τ 190 t ∧ 0 ≤ τ 190 t ∧ (0 ≤ τ 192 t ∧ τ 192 t ≤ 4) ∧
  ((σ D 2 = 0 ∧ τ 188 t = 0 ∧ τ 191 t = 0 ∧ τ 192 t = 0) ∨
   (σ D 2 = 1 ∧ σ D 3 = τ 188 t ∧ (1 ≤ τ 188 t ∧ τ 188 t ≤ 4) ∧ τ 191 t = 0 ∧ ∀ j, 0 ≤ j → j < 5 * τ 188 t → σ (D + 1) j = τ 189 (20 * t + j)) ∨
   (σ D 2 = 2 ∧ τ 188 t = 0 ∧ τ 191 t = 1) ∨
   (σ D 2 = 3 ∧ τ 188 t = 0 ∧ τ 191 t = 0 ∧ σ (D + 2) 2 = τ 192 t ∧ ∀ j, 0 ≤ j → j < τ 192 t → σ (D + 3) j = τ 193 (4 * t + j) ∧ σ (D + 4) j = τ 194 (4 * t + j)))
def iCl (σ τ : mG) : Prop := ∀ c, 0 ≤ c → c < 4 → (σ (plC c) 1 = τ 187 c ∧ 0 ≤ τ 187 c) ∧ ∀ s, 0 ≤ s → s < 3 → deskR σ τ (plD c s) (3 * c + s)
def iPo (σ τ : mG) : Prop := σ 3 6 = τ 186 9 ∧ (0 ≤ τ 186 9 ∧ τ 186 9 ≤ 300) ∧ ∀ g, 0 ≤ g → g < τ 186 9 → (σ 4 g = τ 195 (5 * g) ∧ (0 ≤ σ 4 g ∧ σ 4 g < 4)) ∧ σ 6 g = τ 195 (5 * g + 1) ∧ (σ 5 g = τ 195 (5 * g + 2) ∧ (0 ≤ σ 5 g ∧ σ 5 g < 3)) ∧ (σ 7 g = τ 195 (5 * g + 3) ∧ 1 ≤ σ 7 g) ∧
  (σ 8 g = τ 195 (5 * g + 4) ∧ (0 ≤ σ 8 g ∧ σ 8 g ≤ 4)) ∧ ∀ j, 0 ≤ j → j < 5 * σ 8 g → σ 9 (20 * g + j) = τ 196 (20 * g + j)
theorem deskR_fr {D : Nat} {t : Int} (h : deskR σ τ D t) (hs : ∀ q : Nat, D ≤ q → q < D + 5 → σ' q = σ q) (h188 : τ' 188 t = τ 188 t) (h189 : ∀ j, 20 * t ≤ j → j < 20 * t + 20 → τ' 189 j = τ 189 j) (h190 : τ' 190 t = τ 190 t) (h191 : τ' 191 t = τ 191 t) (h192 : τ' 192 t = τ 192 t)
    (h193 : ∀ j, 4 * t ≤ j → j < 4 * t + 4 → τ' 193 j = τ 193 j) (h194 : ∀ j, 4 * t ≤ j → j < 4 * t + 4 → τ' 194 j = τ 194 j) : deskR σ' τ' D t := by
  unfold deskR at h ⊢
  rw [hs D (by omega) (by omega), hs (D + 1) (by omega) (by omega), hs (D + 2) (by omega) (by omega), hs (D + 3) (by omega) (by omega), hs (D + 4) (by omega) (by omega), h188, h190, h191, h192]
  obtain ⟨a, b, c, e⟩ := h
  refine ⟨a, b, c, ?_⟩
  rcases e with e | e | e | e
  · exact Or.inl e
  · refine Or.inr (Or.inl ⟨e.1, e.2.1, e.2.2.1, e.2.2.2.1, fun j g0 g1 => ?_⟩)
    rw [h189 _ (by omega) (by omega)]; exact e.2.2.2.2 j g0 g1
  · exact Or.inr (Or.inr (Or.inl e))
  · refine Or.inr (Or.inr (Or.inr ⟨e.1, e.2.1, e.2.2.1, e.2.2.2.1, fun j g0 g1 => ?_⟩))
    rw [h193 _ (by omega) (by omega), h194 _ (by omega) (by omega)]; exact e.2.2.2.2 j g0 g1
theorem iCl_fr (h : iCl σ τ) (hs : ∀ q : Nat, 118 ≤ q → q < 186 → σ' q = σ q) (ht : ∀ q : Nat, 187 ≤ q → q < 195 → τ' q = τ q) : iCl σ' τ' := by
  intro c h0 h1
  obtain ⟨a, b⟩ := h c h0 h1
  have eC : plC c = 118 + 17 * c.toNat := rfl
  rw [hs _ (by omega) (by omega), ht 187 (by omega) (by omega)]
  refine ⟨a, fun s g0 g1 => ?_⟩
  have eD : plD c s = 120 + 17 * c.toNat + 5 * s.toNat := rfl
  refine deskR_fr (b s g0 g1) (fun q k0 k1 => hs q (by omega) (by omega)) ?_ ?_ ?_ ?_ ?_ ?_ ?_
  · rw [ht 188 (by omega) (by omega)]
  · intro j _ _; rw [ht 189 (by omega) (by omega)]
  · rw [ht 190 (by omega) (by omega)]
  · rw [ht 191 (by omega) (by omega)]
  · rw [ht 192 (by omega) (by omega)]
  · intro j _ _; rw [ht 193 (by omega) (by omega)]
  · intro j _ _; rw [ht 194 (by omega) (by omega)]
theorem iPo_fr (h : iPo σ τ) (hs : ∀ q : Nat, 3 ≤ q → q < 10 → σ' q = σ q) (h195 : τ' 195 = τ 195) (h196 : τ' 196 = τ 196) (h9 : τ' 186 9 = τ 186 9) : iPo σ' τ' := by
  unfold iPo at *
  rw [hs 3 (by omega) (by omega), hs 4 (by omega) (by omega), hs 5 (by omega) (by omega), hs 6 (by omega) (by omega), hs 7 (by omega) (by omega), hs 8 (by omega) (by omega), hs 9 (by omega) (by omega), h195, h196, h9]
  exact h
theorem plD_ne {d x c s : Int} (h0 : 0 ≤ d ∧ d < 4) (h1 : 0 ≤ x ∧ x < 3) (h2 : 0 ≤ c ∧ c < 4) (h3 : 0 ≤ s ∧ s < 3) (h : ¬ (d = c ∧ x = s)) : plD d x + 4 < plD c s ∨ plD c s + 4 < plD d x := by
  unfold plD
  rcases Int.lt_trichotomy d c with w | w | w
  · left; omega
  · subst w
    rcases Int.lt_trichotomy x s with w | w | w
    · left; omega
    · exact absurd ⟨rfl, w⟩ h
    · right; omega
  · right; omega
/-- a client begins a life -/
theorem fgt_out {C q : Nat} : ∀ (k i : Nat) (σ : mG), (∀ j : Nat, i ≤ j → j < i + k → ¬ q = C + 2 + 5 * j) → fgt C k i σ q = σ q
  | 0, i, σ, _ => rfl
  | k + 1, i, σ, h => by
    unfold fgt
    rw [fgt_out k _ _ (fun j h0 h1 => h j (by omega) (by omega)), upc_ne _ _ (h i (by omega) (by omega))]
theorem fgt_in {C j : Nat} : ∀ (k i : Nat) (σ : mG), i ≤ j → j < i + k → fgt C k i σ (C + 2 + 5 * j) = upi (upi (σ (C + 2 + 5 * j)) 2 0) 4 0
  | 0, i, σ, h0, h1 => by omega
  | k + 1, i, σ, h0, h1 => by
    unfold fgt
    by_cases e : j = i
    · subst e
      rw [fgt_out _ _ _ (fun j' w0 w1 => by omega), upc_self]
    · rw [fgt_in k (i + 1) _ (by omega) (by omega), upc_ne _ _ (by omega)]
theorem stM_at {c : Int} {q : Nat} (hq : q = 188 ∨ q = 190 ∨ q = 191 ∨ q = 192) : ∀ (k : Nat) (s : Int) (τ : mG) (j : Int), stM c k s τ q j = if 3 * c + s ≤ j ∧ j < 3 * c + s + k then 0 else τ q j
  | 0, s, τ, j => by unfold stM; rw [if_neg (by omega)]
  | k + 1, s, τ, j => by
    unfold stM
    rw [stM_at hq k]
    have e : (upc (upc (upc (upc τ 188 (upi (τ 188) (3 * c + s) 0)) 190 (upi (τ 190) (3 * c + s) 0)) 191 (upi (τ 191) (3 * c + s) 0)) 192 (upi (τ 192) (3 * c + s) 0)) q = upi (τ q) (3 * c + s) 0 := by
      rcases hq with rfl | rfl | rfl | rfl <;> simp only [upc_self, upc_ne, upi_self, upi_ne, ne_eq, Nat.reduceEqDiff, not_false_eq_true, Int.reduceEq]
    rw [e]
    by_cases w : 3 * c + (s + 1) ≤ j ∧ j < 3 * c + (s + 1) + k
    · rw [if_pos w, if_pos (by omega)]
    · rw [if_neg w]
      by_cases z : j = 3 * c + s
      · rw [z, upi_self, if_pos (by omega)]
      · rw [upi_ne _ _ z, if_neg (by omega)]
theorem stM_out {c : Int} {q : Nat} (hq : ¬ q = 188 ∧ ¬ q = 190 ∧ ¬ q = 191 ∧ ¬ q = 192) : ∀ (k : Nat) (s : Int) (τ : mG), stM c k s τ q = τ q
  | 0, _, _ => rfl
  | k + 1, s, τ => by
    unfold stM
    rw [stM_out hq k, upc_ne _ _ hq.2.2.2, upc_ne _ _ hq.2.2.1, upc_ne _ _ hq.2.1, upc_ne _ _ hq.1]
theorem cl_start (h : iCl σ τ) {c : Int} (hc : 0 ≤ c ∧ c < 4) {v : Int} : iCl (bgF σ c.toNat) (stM c 3 0 (upc (upc τ 186 (upi (τ 186) 0 v)) 187 (upi (τ 187) c (τ 187 c + 1)))) := by
  intro d h0 h1
  obtain ⟨a, b⟩ := h d h0 h1
  refine ⟨?_, fun s g0 g1 => ?_⟩
  · unfold bgF plC
    unfold plC at a
    rw [fgt_out _ _ _ (fun j w0 w1 => by omega), stM_out (by decide)]
    simp only [upc_self]
    by_cases e : d = c
    · subst e; rw [upc_self, upi_self, upi_self]; omega
    · rw [upc_ne _ _ (by omega), upi_ne _ _ e]; exact a
  · have b := b s g0 g1
    by_cases e : d = c
    · subst e
      obtain ⟨b1, b2, b3, b4⟩ := b
      have eD : bgF σ d.toNat (plD d s) = upi (upi (σ (plD d s)) 2 0) 4 0 := by
        unfold bgF plD
        have w := fgt_in (C := 118 + 17 * d.toNat) (j := s.toNat) 3 0 (upc σ (118 + 17 * d.toNat) (upi (σ (118 + 17 * d.toNat)) 1 (σ (118 + 17 * d.toNat) 1 + 1))) (by omega) (by omega)
        rw [show 118 + 17 * d.toNat + 2 + 5 * s.toNat = 120 + 17 * d.toNat + 5 * s.toNat by omega] at w
        rw [w, upc_ne _ _ (by omega)]
      unfold deskR
      rw [eD, stM_at (by omega), stM_at (by omega), stM_at (by omega), stM_at (by omega), if_pos (by omega), if_pos (by omega), if_pos (by omega), if_pos (by omega)]
      refine ⟨?_, by omega, by omega, Or.inl ⟨?_, rfl, rfl, rfl⟩⟩
      · rw [upi_self]
      · rw [upi_ne _ _ (by decide), upi_self]
    · refine deskR_fr b (fun q k0 k1 => ?_) ?_ ?_ ?_ ?_ ?_ ?_ ?_
      · unfold bgF
        unfold plD at k0 k1
        rw [fgt_out _ _ _ (fun j w0 w1 => by omega), upc_ne _ _ (by omega)]
      · rw [stM_at (by omega), if_neg (by omega)]; simp only [upc_self, upc_ne, upi_self, upi_ne, ne_eq, Nat.reduceEqDiff, not_false_eq_true, Int.reduceEq]
      · intro j _ _; rw [stM_out (by decide)]; simp only [upc_self, upc_ne, upi_self, upi_ne, ne_eq, Nat.reduceEqDiff, not_false_eq_true, Int.reduceEq]
      · rw [stM_at (by omega), if_neg (by omega)]; simp only [upc_self, upc_ne, upi_self, upi_ne, ne_eq, Nat.reduceEqDiff, not_false_eq_true, Int.reduceEq]
      · rw [stM_at (by omega), if_neg (by omega)]; simp only [upc_self, upc_ne, upi_self, upi_ne, ne_eq, Nat.reduceEqDiff, not_false_eq_true, Int.reduceEq]
      · rw [stM_at (by omega), if_neg (by omega)]; simp only [upc_self, upc_ne, upi_self, upi_ne, ne_eq, Nat.reduceEqDiff, not_false_eq_true, Int.reduceEq]
      · intro j _ _; rw [stM_out (by decide)]; simp only [upc_self, upc_ne, upi_self, upi_ne, ne_eq, Nat.reduceEqDiff, not_false_eq_true, Int.reduceEq]
      · intro j _ _; rw [stM_out (by decide)]; simp only [upc_self, upc_ne, upi_self, upi_ne, ne_eq, Nat.reduceEqDiff, not_false_eq_true, Int.reduceEq]
/-- a step is added -/
theorem p5_at {f : Int → Int} {i a b c e g j : Int} : p5 f i a b c e g j = if j = i then a else if j = i + 1 then b else if j = i + 2 then c else if j = i + 3 then e else if j = i + 4 then g else f j := by
  unfold p5 upi
  repeat' split
  all_goals first | rfl | omega
theorem cl_step (h : iCl σ τ) {c s o a1 a2 a3 a4 v : Int} (hc : 0 ≤ c ∧ c < 4) (hs : 0 ≤ s ∧ s < 3) (h2 : ¬ σ (plD c s) 2 = 2) (h4 : ¬ (σ (plD c s) 2 = 1 ∧ σ (plD c s) 3 = 4)) :
    iCl (adF σ (plD c s) (if σ (plD c s) 2 = 1 then σ (plD c s) 3 else 0) o a1 a2 a3 a4) (upc (upc (upc τ 186 (upi (τ 186) 0 v)) 188 (upi (τ 188) (3 * c + s) (τ 188 (3 * c + s) + 1))) 189 (p5 (τ 189) (20 * (3 * c + s) + 5 * τ 188 (3 * c + s)) o a1 a2 a3 a4)) ∧
    (if σ (plD c s) 2 = 1 then σ (plD c s) 3 else 0) = τ 188 (3 * c + s) := by
  have hx := (h c hc.1 hc.2).2 s hs.1 hs.2
  have est : (if σ (plD c s) 2 = 1 then σ (plD c s) 3 else 0) = τ 188 (3 * c + s) := by
    obtain ⟨_, _, _, e⟩ := hx
    rcases e with e | e | e | e
    · rw [if_neg (by omega)]; omega
    · rw [if_pos e.1]; exact e.2.1
    · omega
    · rw [if_neg (by omega)]; omega
  refine ⟨?_, est⟩
  rw [est]
  have hb : 0 ≤ τ 188 (3 * c + s) ∧ τ 188 (3 * c + s) < 4 := by
    obtain ⟨_, _, _, e⟩ := hx
    rcases e with e | e | e | e <;> omega
  intro d h0 h1
  obtain ⟨a, b⟩ := h d h0 h1
  have ao : ∀ q : Nat, ¬ q = plD c s → ¬ q = plD c s + 1 → adF σ (plD c s) (τ 188 (3 * c + s)) o a1 a2 a3 a4 q = σ q := by
    intro q k0 k1; unfold adF; rw [upc_ne _ _ k1, upc_ne _ _ k0]
  refine ⟨?_, fun x g0 g1 => ?_⟩
  · rw [ao _ (by unfold plC plD; omega) (by unfold plC plD; omega)]; simp only [upc_self, upc_ne, upi_self, upi_ne, ne_eq, Nat.reduceEqDiff, not_false_eq_true, Int.reduceEq]; exact a
  · by_cases e : d = c ∧ x = s
    · obtain ⟨rfl, rfl⟩ := e
      have eD : adF σ (plD d x) (τ 188 (3 * d + x)) o a1 a2 a3 a4 (plD d x) = upi (upi (σ (plD d x)) 2 1) 3 (τ 188 (3 * d + x) + 1) := by
        unfold adF; rw [upc_ne _ _ (by omega), upc_self]
      have eD1 : adF σ (plD d x) (τ 188 (3 * d + x)) o a1 a2 a3 a4 (plD d x + 1) = p5 (σ (plD d x + 1)) (τ 188 (3 * d + x) * 5) o a1 a2 a3 a4 := by
        unfold adF; rw [upc_self]
      unfold deskR
      rw [eD, eD1]
      simp only [upc_self, upc_ne, upi_self, upi_ne, ne_eq, Nat.reduceEqDiff, not_false_eq_true, Int.reduceEq]
      obtain ⟨b1, b2, b3, b4⟩ := hx
      refine ⟨b1, b2, b3, Or.inr (Or.inl ⟨trivial, trivial, by omega, ?_, fun j k0 k1 => ?_⟩)⟩
      · rcases b4 with e | e | e | e <;> omega
      · rw [p5_at, p5_at]
        by_cases z : j < 5 * τ 188 (3 * d + x)
        · have w : σ (plD d x + 1) j = τ 189 (20 * (3 * d + x) + j) := by
            rcases b4 with e | e | e | e
            · omega
            · exact e.2.2.2.2 j k0 z
            · omega
            · omega
          rw [if_neg (by omega), if_neg (by omega), if_neg (by omega), if_neg (by omega), if_neg (by omega), if_neg (by omega), if_neg (by omega), if_neg (by omega), if_neg (by omega), if_neg (by omega)]
          exact w
        · by_cases z0 : j = 5 * τ 188 (3 * d + x)
          · rw [if_pos (by omega), if_pos (by omega)]
          · rw [if_neg (by omega), if_neg (show ¬ 20 * (3 * d + x) + j = 20 * (3 * d + x) + 5 * τ 188 (3 * d + x) by omega)]
            by_cases z1 : j = 5 * τ 188 (3 * d + x) + 1
            · rw [if_pos (by omega), if_pos (by omega)]
            · rw [if_neg (by omega), if_neg (show ¬ 20 * (3 * d + x) + j = 20 * (3 * d + x) + 5 * τ 188 (3 * d + x) + 1 by omega)]
              by_cases z2 : j = 5 * τ 188 (3 * d + x) + 2
              · rw [if_pos (by omega), if_pos (by omega)]
              · rw [if_neg (by omega), if_neg (show ¬ 20 * (3 * d + x) + j = 20 * (3 * d + x) + 5 * τ 188 (3 * d + x) + 2 by omega)]
                by_cases z3 : j = 5 * τ 188 (3 * d + x) + 3
                · rw [if_pos (by omega), if_pos (by omega)]
                · rw [if_neg (by omega), if_neg (show ¬ 20 * (3 * d + x) + j = 20 * (3 * d + x) + 5 * τ 188 (3 * d + x) + 3 by omega), if_pos (by omega), if_pos (by omega)]
    · refine deskR_fr (b x g0 g1) (fun q k0 k1 => ao q ?_ ?_) ?_ ?_ ?_ ?_ ?_ ?_ ?_
      · have := plD_ne ⟨h0, h1⟩ ⟨g0, g1⟩ hc hs e; omega
      · have := plD_ne ⟨h0, h1⟩ ⟨g0, g1⟩ hc hs e; omega
      · simp only [upc_self, upc_ne, upi_self, upi_ne, ne_eq, Nat.reduceEqDiff, not_false_eq_true, Int.reduceEq]; rw [upi_ne _ _ (by omega)]
      · intro j k0 k1
        simp only [upc_self, upc_ne, upi_self, upi_ne, ne_eq, Nat.reduceEqDiff, not_false_eq_true, Int.reduceEq]
        rw [p5_at, if_neg (by omega), if_neg (by omega), if_neg (by omega), if_neg (by omega), if_neg (by omega)]
      · simp only [upc_self, upc_ne, upi_self, upi_ne, ne_eq, Nat.reduceEqDiff, not_false_eq_true, Int.reduceEq]
      · simp only [upc_self, upc_ne, upi_self, upi_ne, ne_eq, Nat.reduceEqDiff, not_false_eq_true, Int.reduceEq]
      · simp only [upc_self, upc_ne, upi_self, upi_ne, ne_eq, Nat.reduceEqDiff, not_false_eq_true, Int.reduceEq]
      · intro j _ _; simp only [upc_self, upc_ne, upi_self, upi_ne, ne_eq, Nat.reduceEqDiff, not_false_eq_true, Int.reduceEq]
      · intro j _ _; simp only [upc_self, upc_ne, upi_self, upi_ne, ne_eq, Nat.reduceEqDiff, not_false_eq_true, Int.reduceEq]
end CLI
