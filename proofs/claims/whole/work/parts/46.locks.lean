/-! 46.locks: time, stop, boot and a new life, of the locks -/
section LK4
variable {σ τ σ' τ' : mG}
theorem psF_201 {c : Int} : ∀ (k : Nat) (i : Int) (τ : mG), psF k i τ 201 c = if i ≤ c ∧ c < i + k then (if τ 201 c ≤ τ 186 22 then 0 else τ 201 c) else τ 201 c
  | 0, i, τ => by unfold psF; rw [if_neg (by omega)]
  | k + 1, i, τ => by
    unfold psF
    rw [psF_201 k]
    have e1 : ps1 τ i 201 = upi (τ 201) i (if τ 201 i ≤ τ 186 22 then 0 else τ 201 i) := by unfold ps1; simp only [upc_self, upc_ne, upi_self, upi_ne, ne_eq, Nat.reduceEqDiff, not_false_eq_true, Int.reduceEq]
    have e2 : ps1 τ i 186 = τ 186 := by unfold ps1; simp only [upc_self, upc_ne, upi_self, upi_ne, ne_eq, Nat.reduceEqDiff, not_false_eq_true, Int.reduceEq]
    rw [e1, e2]
    by_cases q : c = i
    · subst q; rw [upi_self, if_neg (show ¬ (c + 1 ≤ c ∧ c < c + 1 + (k : Int)) by omega), if_pos (show c ≤ c ∧ c < c + ((k + 1 : Nat) : Int) by omega)]
    · rw [upi_ne _ _ q]
      by_cases w : i + 1 ≤ c ∧ c < i + 1 + k
      · rw [if_pos w, if_pos (show i ≤ c ∧ c < i + ((k + 1 : Nat) : Int) by omega)]
      · rw [if_neg w, if_neg (show ¬ (i ≤ c ∧ c < i + ((k + 1 : Nat) : Int)) by omega)]
theorem psF_199 {c m p : Int} (hm : 0 ≤ m ∧ m < 32) (hp : 0 ≤ p ∧ p < 64) : ∀ (k : Nat) (i : Int) (τ : mG), psF k i τ 199 ((32 * c + m) * 64 + p) = if i ≤ c ∧ c < i + k then gP (τ 201 c ≤ τ 186 22) (τ 186 22 < τ 186 23) (τ 199 ((32 * c + m) * 64 + p)) else τ 199 ((32 * c + m) * 64 + p)
  | 0, i, τ => by unfold psF; rw [if_neg (by omega)]
  | k + 1, i, τ => by
    unfold psF
    rw [psF_199 hm hp k]
    have e1 : ps1 τ i 201 = upi (τ 201) i (if τ 201 i ≤ τ 186 22 then 0 else τ 201 i) := by unfold ps1; simp only [upc_self, upc_ne, upi_self, upi_ne, ne_eq, Nat.reduceEqDiff, not_false_eq_true, Int.reduceEq]
    have e2 : ps1 τ i 186 = τ 186 := by unfold ps1; simp only [upc_self, upc_ne, upi_self, upi_ne, ne_eq, Nat.reduceEqDiff, not_false_eq_true, Int.reduceEq]
    have e3 : ps1 τ i 199 = mapF (τ 199) ((32 * i + 0) * 64 + 0) ((32 * (i + 1) + 0) * 64 + 0) (gP (τ 201 i ≤ τ 186 22) (τ 186 22 < τ 186 23)) := by unfold ps1; simp only [upc_self, upc_ne, upi_self, upi_ne, ne_eq, Nat.reduceEqDiff, not_false_eq_true, Int.reduceEq]
    rw [e1, e2, e3]
    unfold mapF
    by_cases q : c = i
    · subst q; rw [if_neg (show ¬ (c + 1 ≤ c ∧ c < c + 1 + (k : Int)) by omega), if_pos (by omega), if_pos (by omega)]
    · rw [upi_ne _ _ q, if_neg (show ¬ ((32 * i + 0) * 64 + 0 ≤ (32 * c + m) * 64 + p ∧ (32 * c + m) * 64 + p < (32 * (i + 1) + 0) * 64 + 0) by omega)]
      by_cases w : i + 1 ≤ c ∧ c < i + 1 + k
      · rw [if_pos w, if_pos (by omega)]
      · rw [if_neg w, if_neg (by omega)]
theorem ps4_201 {c : Int} (hc : 0 ≤ c ∧ c < 4) : psF 4 0 τ 201 c = if τ 201 c ≤ τ 186 22 then 0 else τ 201 c := by
  rw [psF_201, if_pos (by omega)]
theorem ps4_199 {c m p : Int} (hc : 0 ≤ c ∧ c < 4) (hm : 0 ≤ m ∧ m < 32) (hp : 0 ≤ p ∧ p < 64) : psF 4 0 τ 199 ((32 * c + m) * 64 + p) = gP (τ 201 c ≤ τ 186 22) (τ 186 22 < τ 186 23) (τ 199 ((32 * c + m) * 64 + p)) := by
  rw [psF_199 hm hp, if_pos (by omega)]
/-- while the server runs -/
def iLr (σ τ : mG) : Prop := iLv σ (fun c m p => gP (τ 201 c ≤ τ 186 22) (τ 186 22 < τ 186 23) (τ 199 ((32 * c + m) * 64 + p))) ∧ ∀ c, 0 ≤ c → c < 4 → σ 24 c = if τ 201 c ≤ τ 186 22 then 0 else τ 201 c
/-- while it doesn't -/
def iLs (σ τ : mG) : Prop := (∃ g, iLv σ g ∧ ∀ c m p, 0 ≤ c → c < 4 → 0 ≤ m → m < 32 → 0 ≤ p → p < 64 → τ 199 ((32 * c + m) * 64 + p) = hF (g c m p)) ∧ ∀ c, 0 ≤ c → c < 4 → τ 201 c = 0
theorem gP_2 {a b : Prop} [Decidable a] [Decidable b] {v : Int} : gP a b (gP a b v) = gP a b v := by
  unfold gP
  by_cases h : v < 4
  · rw [if_pos h]
    by_cases q : a
    · rw [if_pos q, if_pos (by omega), if_pos q]
    · rw [if_neg q, if_pos h, if_neg q]
  · rw [if_neg h]
    by_cases q : b
    · rw [if_pos q, if_neg h, if_pos q]
    · rw [if_neg q, if_pos (by omega)]; split <;> rfl
theorem gP_congr {a a' b b' : Prop} [Decidable a] [Decidable b] [Decidable a'] [Decidable b'] (h : a ↔ a') (g : b ↔ b') (v : Int) : gP a b v = gP a' b' v := by
  unfold gP
  simp only [h, g]
theorem lr_lx (h : iLr σ τ) (ht : 0 ≤ τ 186 22) : iLx σ (psF 4 0 τ) := by
  obtain ⟨A, B⟩ := h
  have e : psF 4 0 τ 186 = τ 186 := psF_out (by decide) (by decide) _ _ _
  refine ⟨fun c m p h0 h1 h2 h3 h4 h5 => ?_, fun c h0 h1 => ?_, fun c m p h0 h1 h2 h3 h4 h5 => ?_, fun c h0 h1 => ?_⟩
  · show lkR _ _ _ _ (psF 4 0 τ 199 ((32 * c + m) * 64 + p))
    rw [ps4_199 ⟨h0, h1⟩ ⟨h2, h3⟩ ⟨h4, h5⟩]; exact A c m p h0 h1 h2 h3 h4 h5
  · rw [ps4_201 ⟨h0, h1⟩]; exact B c h0 h1
  · rw [ps4_199 ⟨h0, h1⟩ ⟨h2, h3⟩ ⟨h4, h5⟩, ps4_201 ⟨h0, h1⟩, e]
    refine Eq.trans ?_ gP_2
    apply gP_congr
    · split <;> omega
    · exact Iff.rfl
  · rw [ps4_201 ⟨h0, h1⟩, e]
    by_cases q : τ 201 c ≤ τ 186 22
    · rw [if_pos q, if_pos ht]
    · rw [if_neg q, if_neg q]
theorem lx_lr (h : iLx σ τ) : iLr σ τ := by
  obtain ⟨A, B, P, Q⟩ := h
  refine ⟨fun c m p h0 h1 h2 h3 h4 h5 => ?_, fun c h0 h1 => ?_⟩
  · show lkR _ _ _ _ (gP _ _ _)
    rw [P c m p h0 h1 h2 h3 h4 h5]; exact A c m p h0 h1 h2 h3 h4 h5
  · rw [Q c h0 h1]; exact B c h0 h1
theorem lx_B (h : iLx σ τ) : lkB (τ 199) := by
  intro k h0 h1
  have w := (h.1 (k / 2048) (k / 64 % 32) (k % 64) (by omega) (by omega) (by omega) (by omega) (by omega) (by omega)).2.2.2.2
  have e : (32 * (k / 2048) + k / 64 % 32) * 64 + k % 64 = k := by omega
  simp only [e] at w
  omega
theorem iLr_fr (h : iLr σ τ) (h20 : σ' 20 = σ 20) (h21 : σ' 21 = σ 21) (h22 : σ' 22 = σ 22) (h23 : σ' 23 = σ 23) (h24 : σ' 24 = σ 24) (ht : τ' 199 = τ 199) (hs : τ' 201 = τ 201) (hq : τ' 186 22 = τ 186 22) (hr : τ' 186 23 = τ 186 23) : iLr σ' τ' := by
  unfold iLr iLv LB at *
  rw [h20, h21, h22, h23, h24, ht, hs, hq, hr]; exact h
theorem iLs_fr (h : iLs σ τ) (h20 : σ' 20 = σ 20) (h21 : σ' 21 = σ 21) (h22 : σ' 22 = σ 22) (h23 : σ' 23 = σ 23) (ht : τ' 199 = τ 199) (hs : τ' 201 = τ 201) : iLs σ' τ' := by
  unfold iLs iLv LB at *
  rw [h20, h21, h22, h23, ht, hs]; exact h
/-- the server stops -/
theorem lk_halt (h : iLr σ τ) : iLs σ (haltF τ) := by
  refine ⟨⟨_, h.1, fun c m p h0 h1 h2 h3 h4 h5 => ?_⟩, fun c h0 h1 => ?_⟩
  · unfold haltF; simp only [upc_self, upc_ne, upi_self, upi_ne, ne_eq, Nat.reduceEqDiff, not_false_eq_true, Int.reduceEq]
    unfold mapF
    rw [if_pos (by omega), ps4_199 ⟨h0, h1⟩ ⟨h2, h3⟩ ⟨h4, h5⟩]
  · unfold haltF; simp only [upc_self, upc_ne, upi_self, upi_ne, ne_eq, Nat.reduceEqDiff, not_false_eq_true, Int.reduceEq]
    unfold fillF
    rw [if_pos ⟨h0, h1⟩]
theorem hF_B {v : Int} (h : 0 ≤ v ∧ v ≤ 6) (h3 : ¬ v = 3) (h4 : ¬ v = 4) : 0 ≤ hF v ∧ hF v ≤ 6 := by unfold hF; split <;> omega
theorem ls_B (h : iLs σ τ) : lkB (τ 199) := by
  obtain ⟨⟨g, h, e⟩, _⟩ := h
  intro k h0 h1
  have w := (h (k / 2048) (k / 64 % 32) (k % 64) (by omega) (by omega) (by omega) (by omega) (by omega) (by omega)).2.2.2.2
  have e1 : (32 * (k / 2048) + k / 64 % 32) * 64 + k % 64 = k := by omega
  have e2 := e (k / 2048) (k / 64 % 32) (k % 64) (by omega) (by omega) (by omega) (by omega) (by omega) (by omega)
  rw [e1] at e2
  rw [e2]
  exact hF_B (by omega) (by omega) (by omega)
/-- rows of the class when leases end -/
theorem endLs_out {t : Int} {q : Nat} (hq : ¬ q = 20 ∧ ¬ q = 21 ∧ ¬ q = 24) : ∀ (k : Nat) (i : Int) (σ : mG), endLs t k i σ q = σ q
  | 0, _, _ => rfl
  | k + 1, i, σ => by
    unfold endLs
    rw [endLs_out hq k]
    split
    · unfold endL; rw [upc_ne _ _ hq.2.2, upc_ne _ _ hq.2.1, upc_ne _ _ hq.1]
    · rfl
theorem endLs_24 {t c : Int} : ∀ (k : Nat) (i : Int) (σ : mG), endLs t k i σ 24 c = if i ≤ c ∧ c < i + k ∧ σ 24 c ≤ t then 0 else σ 24 c
  | 0, i, σ => by unfold endLs; rw [if_neg (by omega)]
  | k + 1, i, σ => by
    unfold endLs
    rw [endLs_24 k]
    by_cases q : c = i
    · subst q
      rw [if_neg (by omega)]
      by_cases w : σ 24 c ≤ t
      · rw [if_pos w, if_pos (by omega)]; unfold endL; simp only [upc_self, upc_ne, upi_self, upi_ne, ne_eq, Nat.reduceEqDiff, not_false_eq_true, Int.reduceEq]
      · rw [if_neg w, if_neg (by omega)]
    · have e : (if σ 24 i ≤ t then endL σ i else σ) 24 c = σ 24 c := by
        split
        · unfold endL; simp only [upc_self, upc_ne, upi_self, upi_ne, ne_eq, Nat.reduceEqDiff, not_false_eq_true, Int.reduceEq]; rw [upi_ne _ _ q]
        · rfl
      rw [e]
      by_cases w : i + 1 ≤ c ∧ c < i + 1 + k ∧ σ 24 c ≤ t
      · rw [if_pos w, if_pos (by omega)]
      · rw [if_neg w, if_neg (by omega)]
theorem endLs_20 {t c m : Int} {q : Nat} (hq : q = 20 ∨ q = 21) (hm : 0 ≤ m ∧ m < 32) : ∀ (k : Nat) (i : Int) (σ : mG), endLs t k i σ q (c * 32 + m) = if i ≤ c ∧ c < i + k ∧ σ 24 c ≤ t then 0 else σ q (c * 32 + m)
  | 0, i, σ => by unfold endLs; rw [if_neg (by omega)]
  | k + 1, i, σ => by
    unfold endLs
    rw [endLs_20 hq hm k]
    have e1 : endL σ i q = fillF (σ q) (i * 32) ((i + 1) * 32) 0 := by
      unfold endL; rcases hq with rfl | rfl <;> simp only [upc_self, upc_ne, upi_self, upi_ne, ne_eq, Nat.reduceEqDiff, not_false_eq_true, Int.reduceEq]
    by_cases z : c = i
    · subst z
      rw [if_neg (by omega)]
      by_cases w : σ 24 c ≤ t
      · rw [if_pos w, if_pos (by omega), e1]; unfold fillF; rw [if_pos (by omega)]
      · rw [if_neg w, if_neg (by omega)]
    · have e : (if σ 24 i ≤ t then endL σ i else σ) 24 c = σ 24 c := by
        split
        · unfold endL; simp only [upc_self, upc_ne, upi_self, upi_ne, ne_eq, Nat.reduceEqDiff, not_false_eq_true, Int.reduceEq]; rw [upi_ne _ _ z]
        · rfl
      have e2 : (if σ 24 i ≤ t then endL σ i else σ) q (c * 32 + m) = σ q (c * 32 + m) := by
        split
        · rw [e1]; unfold fillF; rw [if_neg (by omega)]
        · rfl
      rw [e, e2]
      by_cases w : i + 1 ≤ c ∧ c < i + 1 + k ∧ σ 24 c ≤ t
      · rw [if_pos w, if_pos (by omega)]
      · rw [if_neg w, if_neg (by omega)]
/-- time goes on while the server runs -/
theorem lk_time (h : iLr σ τ) {t : Int} (h0 : 0 ≤ τ 186 22) (ht : τ 186 22 ≤ t)
    (h20 : ∀ q : Nat, q = 20 ∨ q = 21 → ∀ c m, 0 ≤ c → c < 4 → 0 ≤ m → m < 32 → σ' q (c * 32 + m) = if σ 24 c ≤ t then 0 else σ q (c * 32 + m))
    (h22 : ∀ q : Nat, q = 22 ∨ q = 23 → ∀ c m, 0 ≤ c → c < 4 → 0 ≤ m → m < 32 → σ' q (c * 32 + m) = if τ 186 23 ≤ t then 0 else σ q (c * 32 + m))
    (h24 : ∀ c, 0 ≤ c → c < 4 → σ' 24 c = if σ 24 c ≤ t then 0 else σ 24 c)
    (e1 : τ' 199 = τ 199) (e2 : τ' 201 = τ 201) (e3 : τ' 186 22 = t) (e4 : τ' 186 23 = τ 186 23) : iLr σ' τ' := by
  obtain ⟨A, B⟩ := h
  refine ⟨fun c m p g0 g1 g2 g3 g4 g5 => ?_, fun c g0 g1 => ?_⟩
  · have w := A c m p g0 g1 g2 g3 g4 g5
    dsimp only at w
    have b := B c g0 g1
    simp only [e1, e2, e3, e4]
    unfold LB at w ⊢
    rw [h20 20 (by omega) c m g0 g1 g2 g3, h20 21 (by omega) c m g0 g1 g2 g3, h22 22 (by omega) c m g0 g1 g2 g3, h22 23 (by omega) c m g0 g1 g2 g3]
    have hov : σ 24 c ≤ t ↔ τ 201 c ≤ t := by rw [b]; split <;> omega
    generalize hv : gP (τ 201 c ≤ τ 186 22) (τ 186 22 < τ 186 23) (τ 199 ((32 * c + m) * 64 + p)) = v at w
    have ev : gP (τ 201 c ≤ t) (t < τ 186 23) (τ 199 ((32 * c + m) * 64 + p)) = gP (τ 201 c ≤ t) (t < τ 186 23) v := by
      rw [← hv]
      unfold gP
      by_cases q : τ 199 ((32 * c + m) * 64 + p) < 4
      · rw [if_pos q, if_pos q]
        by_cases z : τ 201 c ≤ τ 186 22
        · rw [if_pos z, if_pos (by omega), if_pos (by omega), if_pos (by omega)]
        · rw [if_neg z, if_pos q]
      · rw [if_neg q, if_neg q]
        by_cases z : τ 186 22 < τ 186 23
        · rw [if_pos z, if_neg q]
        · rw [if_neg z, if_neg (show ¬ t < τ 186 23 by omega), if_pos (by omega)]; split <;> rfl
    rw [ev]
    obtain ⟨w1, w2, w3, w4, w5⟩ := w
    by_cases q1 : σ 24 c ≤ t
    · rw [if_pos q1, if_pos q1, ofInt0]
      by_cases q2 : τ 186 23 ≤ t
      · rw [if_pos q2, if_pos q2, ofInt0]
        have : gP (τ 201 c ≤ t) (t < τ 186 23) v = 0 := by unfold gP; rw [if_pos (hov.mp q1), if_neg (show ¬ t < τ 186 23 by omega)]; split <;> rfl
        rw [this]; exact lkR_0 bt_0 bt_0 bt_0 bt_0
      · rw [if_neg q2, if_neg q2]
        unfold gP lkR
        rw [if_pos (hov.mp q1), if_pos (show t < τ 186 23 by omega), w3, w4]
        have b0 : ¬ bt 0 p := bt_0
        simp only [b0, false_iff]
        rcases w5 with rfl | rfl | rfl | rfl | rfl <;> decide
    · rw [if_neg q1, if_neg q1]
      by_cases q2 : τ 186 23 ≤ t
      · rw [if_pos q2, if_pos q2, ofInt0]
        unfold gP lkR
        rw [if_neg (fun x => q1 (hov.mpr x)), if_neg (show ¬ t < τ 186 23 by omega), w1, w2]
        have b0 : ¬ bt 0 p := bt_0
        simp only [b0, false_iff]
        rcases w5 with rfl | rfl | rfl | rfl | rfl <;> decide
      · rw [if_neg q2, if_neg q2]
        unfold gP lkR
        rw [if_neg (fun x => q1 (hov.mpr x)), if_pos (show t < τ 186 23 by omega), ite_self]
        exact ⟨w1, w2, w3, w4, w5⟩
  · rw [h24 c g0 g1, e2, e3, B c g0 g1]
    by_cases q : τ 201 c ≤ τ 186 22
    · rw [if_pos q, if_pos (by omega), if_pos (by omega)]
    · rw [if_neg q]
/-- the server begins anew -/
theorem bFs_out {q : Nat} (hq : ¬ q = 22 ∧ ¬ q = 23) : ∀ (k : Nat) (i : Int) (σ : mG), bFs k i σ q = σ q
  | 0, _, _ => rfl
  | k + 1, i, σ => by
    unfold bFs
    rw [bFs_out hq k]
    unfold bF; rw [upc_ne _ _ hq.2, upc_ne _ _ hq.1]
theorem bFs_22 {r : Int} : ∀ (k : Nat) (i : Int) (σ : mG), bFs k i σ 22 r = if i ≤ r ∧ r < i + k then (LB σ 22 r ||| LB σ 20 r).toInt else σ 22 r
  | 0, i, σ => by unfold bFs; rw [if_neg (by omega)]
  | k + 1, i, σ => by
    unfold bFs
    rw [bFs_22 k]
    have e1 : bF σ i 22 = upi (σ 22) i (LB σ 22 i ||| LB σ 20 i).toInt := by unfold bF; simp only [upc_self, upc_ne, upi_self, upi_ne, ne_eq, Nat.reduceEqDiff, not_false_eq_true, Int.reduceEq]
    have e2 : bF σ i 20 = σ 20 := by unfold bF; simp only [upc_self, upc_ne, upi_self, upi_ne, ne_eq, Nat.reduceEqDiff, not_false_eq_true, Int.reduceEq]
    unfold LB
    rw [e1, e2]
    by_cases q : r = i
    · subst q; rw [upi_self, if_neg (by omega), if_pos (by omega)]
    · rw [upi_ne _ _ q]
      by_cases w : i + 1 ≤ r ∧ r < i + 1 + k
      · rw [if_pos w, if_pos (by omega)]
      · rw [if_neg w, if_neg (by omega)]
theorem bFs_23 {r : Int} : ∀ (k : Nat) (i : Int) (σ : mG), bFs k i σ 23 r = if i ≤ r ∧ r < i + k then (LB σ 23 r ||| LB σ 21 r).toInt else σ 23 r
  | 0, i, σ => by unfold bFs; rw [if_neg (by omega)]
  | k + 1, i, σ => by
    unfold bFs
    rw [bFs_23 k]
    have e1 : bF σ i 23 = upi (σ 23) i (LB σ 23 i ||| LB σ 21 i).toInt := by unfold bF; simp only [upc_self, upc_ne, upi_self, upi_ne, ne_eq, Nat.reduceEqDiff, not_false_eq_true, Int.reduceEq]
    have e2 : bF σ i 21 = σ 21 := by unfold bF; simp only [upc_self, upc_ne, upi_self, upi_ne, ne_eq, Nat.reduceEqDiff, not_false_eq_true, Int.reduceEq]
    unfold LB
    rw [e1, e2]
    by_cases q : r = i
    · subst q; rw [upi_self, if_neg (by omega), if_pos (by omega)]
    · rw [upi_ne _ _ q]
      by_cases w : i + 1 ≤ r ∧ r < i + 1 + k
      · rw [if_pos w, if_pos (by omega)]
      · rw [if_neg w, if_neg (by omega)]
theorem endLa_out {q : Nat} (hq : ¬ q = 20 ∧ ¬ q = 21 ∧ ¬ q = 24) : ∀ (k : Nat) (i : Int) (σ : mG), endLa k i σ q = σ q
  | 0, _, _ => rfl
  | k + 1, i, σ => by
    unfold endLa
    rw [endLa_out hq k]
    unfold endL; rw [upc_ne _ _ hq.2.2, upc_ne _ _ hq.2.1, upc_ne _ _ hq.1]
theorem endLa_24 {c : Int} : ∀ (k : Nat) (i : Int) (σ : mG), endLa k i σ 24 c = if i ≤ c ∧ c < i + k then 0 else σ 24 c
  | 0, i, σ => by unfold endLa; rw [if_neg (by omega)]
  | k + 1, i, σ => by
    unfold endLa
    rw [endLa_24 k]
    have e1 : endL σ i 24 = upi (σ 24) i 0 := by unfold endL; simp only [upc_self, upc_ne, upi_self, upi_ne, ne_eq, Nat.reduceEqDiff, not_false_eq_true, Int.reduceEq]
    rw [e1]
    by_cases q : c = i
    · subst q; rw [upi_self, if_neg (by omega), if_pos (by omega)]
    · rw [upi_ne _ _ q]
      by_cases w : i + 1 ≤ c ∧ c < i + 1 + k
      · rw [if_pos w, if_pos (by omega)]
      · rw [if_neg w, if_neg (by omega)]
theorem endLa_20 {c m : Int} {q : Nat} (hq : q = 20 ∨ q = 21) (hm : 0 ≤ m ∧ m < 32) : ∀ (k : Nat) (i : Int) (σ : mG), endLa k i σ q (c * 32 + m) = if i ≤ c ∧ c < i + k then 0 else σ q (c * 32 + m)
  | 0, i, σ => by unfold endLa; rw [if_neg (by omega)]
  | k + 1, i, σ => by
    unfold endLa
    rw [endLa_20 hq hm k]
    have e1 : endL σ i q = fillF (σ q) (i * 32) ((i + 1) * 32) 0 := by
      unfold endL; rcases hq with rfl | rfl <;> simp only [upc_self, upc_ne, upi_self, upi_ne, ne_eq, Nat.reduceEqDiff, not_false_eq_true, Int.reduceEq]
    rw [e1]
    unfold fillF
    by_cases z : c = i
    · subst z; rw [if_neg (show ¬ (c + 1 ≤ c ∧ c < c + 1 + (k : Int)) by omega), if_pos (by omega), if_pos (by omega)]
    · rw [if_neg (show ¬ (i * 32 ≤ c * 32 + m ∧ c * 32 + m < (i + 1) * 32) by omega)]
      by_cases w : i + 1 ≤ c ∧ c < i + 1 + k
      · rw [if_pos w, if_pos (by omega)]
      · rw [if_neg w, if_neg (by omega)]
theorem lk_boot (h : iLs σ τ) (h0 : 0 ≤ τ 186 22)
    (hc : ∀ q : Nat, q = 20 ∨ q = 21 ∨ q = 22 ∨ q = 23 ∨ q = 24 → σ' q = endLa 4 0 (bFs 128 0 σ) q)
    (e1 : τ' 199 = τ 199) (e2 : τ' 201 = τ 201) (e3 : τ' 186 22 = τ 186 22) (e4 : τ' 186 23 = τ 186 22 + 30000) : iLr σ' τ' := by
  obtain ⟨⟨g, A, E⟩, B⟩ := h
  refine ⟨fun c m p g0 g1 g2 g3 g4 g5 => ?_, fun c g0 g1 => ?_⟩
  · have w := A c m p g0 g1 g2 g3 g4 g5
    have hp : 0 ≤ p ∧ p < 64 := ⟨g4, g5⟩
    simp only [e1, e2, e3, e4]
    rw [E c m p g0 g1 g2 g3 g4 g5, B c g0 g1]
    unfold LB at w ⊢
    rw [hc 20 (by omega), hc 21 (by omega), hc 22 (by omega), hc 23 (by omega), endLa_20 (by omega) ⟨g2, g3⟩, endLa_20 (by omega) ⟨g2, g3⟩, endLa_out (by decide), endLa_out (by decide), bFs_22, bFs_23, if_pos (by omega), if_pos (by omega), if_pos (by omega), if_pos (by omega), Int64.ofInt_toInt, Int64.ofInt_toInt, ofInt0]
    unfold LB lkR at *
    rw [bt_or hp, bt_or hp]
    obtain ⟨w1, w2, w3, w4, w5⟩ := w
    rw [w1, w2, w3, w4]
    have b0 : ¬ bt 0 p := bt_0
    simp only [b0, false_iff]
    unfold gP hF
    generalize g c m p = v at *
    have t1 : (0 : Int) ≤ τ 186 22 := h0
    have t2 : τ 186 22 < τ 186 22 + 30000 := by omega
    simp only [t1, t2, if_true]
    rcases w5 with rfl | rfl | rfl | rfl | rfl <;> decide
  · rw [hc 24 (by omega), endLa_24, if_pos (by omega), e2, B c g0 g1]; split <;> rfl
end LK4
