/-! 42.steps1: walk, make, remove -/
section ST1
variable {σ τ σ' τ' : mG}
theorem ha_bind (hT : iTr σ τ) (hH : iHa σ τ) {cl a m : Int} (hc : 0 ≤ cl ∧ cl < 4) (ha : 0 ≤ a ∧ a < 8) (hm : 0 ≤ m ∧ m < 32) (hl : 0 ≤ σ 14 m) (h25 : σ' 25 = upi (σ 25) (cl * 8 + a) m) (h197 : τ' 197 = bndF (τ 197) cl a m) (hb : τ' 186 18 = τ 186 18) : iHa σ' τ' := by
  obtain ⟨A, B⟩ := hH
  have e : ∀ j, ¬ j = 124 + 8 * cl + a → ¬ j = 156 + 8 * cl + a → τ' 197 j = τ 197 j := by intro j x y; rw [h197]; unfold bndF; rw [upi_ne _ _ y, upi_ne _ _ x]
  have e1 : τ' 197 (124 + 8 * cl + a) = m := by rw [h197]; unfold bndF; rw [upi_ne _ _ (by omega), upi_self]
  have e2 : τ' 197 (156 + 8 * cl + a) = τ 197 (188 + m) := by rw [h197]; unfold bndF; rw [upi_self]
  constructor
  · intro c h h0 h1 h2 h3
    by_cases q : c = cl ∧ h = a
    · obtain ⟨rfl, rfl⟩ := q
      rw [h25, upi_self]
      unfold nodF
      rw [e1, e2, e (220 + m) (by omega) (by omega), e (188 + m) (by omega) (by omega), if_pos ⟨hm.1, by rw [← (hT.1 m hm.1 hm.2).1]; exact hl, rfl⟩]
    · rw [h25, upi_ne _ _ (by omega), A c h h0 h1 h2 h3]
      unfold nodF
      rw [e (124 + 8 * c + h) (by omega) (by omega), e (156 + 8 * c + h) (by omega) (by omega)]
      by_cases z : 0 ≤ τ 197 (124 + 8 * c + h)
      · rw [e (220 + _) (by omega) (by omega), e (188 + _) (by omega) (by omega)]
      · rw [if_neg (fun w => z w.1), if_neg (fun w => z w.1)]
  · intro j h0 h1
    rw [hb]
    obtain ⟨b1, b2, b3⟩ := B j h0 h1
    have bm := (B m hm.1 hm.2).2.2
    refine ⟨?_, ?_, ?_⟩
    · by_cases q : 124 + j = 124 + 8 * cl + a
      · rw [q, e1]; omega
      · rw [e _ q (by omega)]; exact b1
    · by_cases q : 156 + j = 156 + 8 * cl + a
      · rw [q, e2]; exact bm
      · rw [e _ (by omega) q]; exact b2
    · rw [e _ (by omega) (by omega)]; exact b3
theorem sp_walk (hT : iTr σ τ) (hB : iBy σ τ) (hH : iHa σ τ) (hL : iLx σ τ) (h3 : (0 ≤ σ 11 3 ∧ σ 11 3 < 4) ∧ σ 11 3 = τ 186 24) {m : Int} (hm : 0 ≤ m ∧ m < 32) (hn : m = σ 11 11) (hk : σ 14 m = 1) : stP σ τ (stWalk σ) (mWalk τ m (σ 11 8) (σ 11 9)) := by
  unfold stWalk mWalk
  rw [← hn, find_eq hT hm.1, if_neg (show ¬ ¬ τ 197 (220 + m) = 1 from not_not_intro (by rw [← (hT.1 m hm.1 hm.2).1, hk])), ← h3.2]
  have fs := find_spec hT (dr := m) (w := σ 11 9)
  generalize fnM τ m (σ 11 9) = f at *
  by_cases q1 : 0 ≤ σ 11 8 ∧ σ 11 8 < 8
  · rw [if_neg (not_not_intro q1), if_neg (not_not_intro q1)]
    by_cases q2 : f = -1
    · rw [if_pos q2, if_pos (by omega)]; exact Or.inl ⟨2, by decide, rfl, rfl⟩
    · rw [if_neg q2, if_neg (by omega)]
      have fs := fs.resolve_left q2
      right
      refine ⟨rfl, rfl, ?_, ?_, ?_, ?_, ?_⟩
      · simp only [upc_self, upc_ne, upi_self, upi_ne, ne_eq, Nat.reduceEqDiff, not_false_eq_true, Int.reduceEq]
      · refine iTr_fr hT ?_ ?_ ?_ fun j h0 h1 => ?_ <;> simp only [upc_self, upc_ne, upi_self, upi_ne, ne_eq, Nat.reduceEqDiff, not_false_eq_true, Int.reduceEq]
        unfold bndF; rw [upi_ne _ _ (by omega), upi_ne _ _ (by omega)]
      · refine iBy_fr hB ?_ ?_ ?_ fun j h0 h1 => ?_ <;> simp only [upc_self, upc_ne, upi_self, upi_ne, ne_eq, Nat.reduceEqDiff, not_false_eq_true, Int.reduceEq]
        unfold bndF; rw [upi_ne _ _ (by omega), upi_ne _ _ (by omega)]
      · refine ha_bind hT hH h3.1 q1 (m := f) (by omega) fs.2.1 ?_ ?_ ?_ <;> simp only [upc_self, upc_ne, upi_self, upi_ne, ne_eq, Nat.reduceEqDiff, not_false_eq_true, Int.reduceEq]
      · refine iLx_fr hL ?_ ?_ ?_ ?_ ?_ ?_ ?_ ?_ ?_ <;> simp only [upc_self, upc_ne, upi_self, upi_ne, ne_eq, Nat.reduceEqDiff, not_false_eq_true, Int.reduceEq]
  · rw [if_pos q1, if_pos q1]; exact Or.inl ⟨6, by decide, rfl, rfl⟩
theorem frM_ge {f : Int → Int} : ∀ (k : Nat) (i : Int), i ≤ frM f k i
  | 0, i => Int.le_refl _
  | k + 1, i => by
    unfold frM
    split
    · have := frM_ge (f := f) k (i + 1); omega
    · exact Int.le_refl _
theorem free_eq (hT : iTr σ τ) : ∀ (k : Nat) (i : Int), 1 ≤ i → i + k = 32 → fnd (fun i => decide (σ 14 i = -1)) k i = if frM (τ 197) k i = 32 then -1 else frM (τ 197) k i
  | 0, i, h0, h1 => by
    unfold fnd frM; rw [if_pos (by omega)]
  | k + 1, i, h0, h1 => by
    unfold fnd frM
    obtain ⟨a1, a2, a3⟩ := hT.1 i (by omega) (by omega)
    by_cases q : σ 14 i = -1
    · rw [if_pos (by rw [decide_eq_true_eq]; exact q), if_neg (show ¬ 0 ≤ τ 197 (220 + i) by omega), if_neg (by omega)]
    · rw [if_neg (by rw [decide_eq_true_eq]; exact q), if_pos (show 0 ≤ τ 197 (220 + i) by omega)]
      exact free_eq hT k (i + 1) (by omega) (by omega)
theorem free_eq' (hT : iTr σ τ) : freeN σ = if frM (τ 197) 31 1 = 32 then -1 else frM (τ 197) 31 1 := by
  unfold freeN
  rw [fnd_32 (by simp only [decide_eq_false_iff_not]; rw [hT.2.1.1]; omega)]
  exact free_eq hT 31 1 (by omega) (by omega)
theorem free_spec (hT : iTr σ τ) : freeN σ = -1 ∨ ((1 ≤ freeN σ ∧ freeN σ < 32) ∧ σ 14 (freeN σ) = -1) := by
  unfold freeN
  rw [fnd_32 (by simp only [decide_eq_false_iff_not]; rw [hT.2.1.1]; omega)]
  rcases fnd_spec (f := fun i => decide (σ 14 i = -1)) 31 1 with ⟨q, _⟩ | ⟨q1, q2, q3, _⟩
  · exact Or.inl q
  · rw [decide_eq_true_eq] at q3
    exact Or.inr ⟨by omega, q3⟩
theorem tr_add (hT : iTr σ τ) {f a m b : Int} (hf : 1 ≤ f ∧ f < 32) (hd : σ 14 f = -1) (hm : 0 ≤ m ∧ m < 32) (hk : 0 ≤ σ 14 m) (ha : a = 0 ∨ a = 1) (hb : ¬ b = 0)
    (h14 : σ' 14 = upi (σ 14) f a) (h15 : σ' 15 = upi (σ 15) f m) (h16 : σ' 16 = upi (σ 16) f b) (t1 : τ' 197 (220 + f) = a) (t2 : τ' 197 (252 + f) = m) (t3 : τ' 197 (284 + f) = b)
    (te : ∀ j, 220 ≤ j → j < 316 → ¬ j = 220 + f → ¬ j = 252 + f → ¬ j = 284 + f → τ' 197 j = τ 197 j) : iTr σ' τ' := by
  obtain ⟨A, B, C, E, F, r, R⟩ := hT
  have hmf : ¬ m = f := fun w => by rw [w] at hk; omega
  unfold iTr
  rw [h14, h15, h16]
  refine ⟨fun i h0 h1 => ?_, ?_, fun i h0 h1 => ?_, fun i h0 h1 => ?_, fun i h0 h1 => ?_, upi r f (r m + 1), fun i h0 h1 => ?_⟩
  · by_cases q : i = f
    · subst q; rw [upi_self, t1]; omega
    · rw [upi_ne _ _ q, te _ (by omega) (by omega) (by omega) (by omega) (by omega)]; exact A i h0 h1
  · rw [upi_ne _ _ (by omega), upi_ne _ _ (by omega), upi_ne _ _ (by omega)]; exact B
  · by_cases q : i = f
    · subst q; rw [upi_self]; omega
    · rw [upi_ne _ _ q, upi_ne _ _ q, upi_ne _ _ q]; exact C i h0 h1
  · by_cases q : i = f
    · subst q; rw [upi_self, upi_self, upi_self, t2, t3, upi_ne _ _ hmf]; exact fun _ => ⟨rfl, rfl, hb, hm.1, hm.2, hk⟩
    · rw [upi_ne _ _ q, upi_ne _ _ q, upi_ne _ _ q, te _ (by omega) (by omega) (by omega) (by omega) (by omega), te _ (by omega) (by omega) (by omega) (by omega) (by omega)]
      intro w
      obtain ⟨e1, e2, e3, e4, e5, e6⟩ := E i h0 h1 w
      refine ⟨e1, e2, e3, e4, e5, ?_⟩
      rw [upi_ne _ _ (fun w => by rw [w] at e6; omega)]; exact e6
  · by_cases q : i = f
    · subst q; rw [t2]; omega
    · rw [te _ (by omega) (by omega) (by omega) (by omega) (by omega)]; exact F i h0 h1
  · by_cases q : i = f
    · subst q; rw [upi_self, upi_self, upi_self, upi_ne _ _ hmf]; omega
    · rw [upi_ne _ _ q, upi_ne _ _ q, upi_ne _ _ q]
      intro w
      have e6 := (E i h0 h1 w).2.2.2.2.2
      rw [upi_ne _ _ (fun w => by rw [w] at e6; omega)]; exact R i h0 h1 w
theorem ha_new (hT : iTr σ τ) (hH : iHa σ τ) {f : Int} (hf : 1 ≤ f ∧ f < 32) (hd : σ 14 f = -1) (h25 : σ' 25 = σ 25) (hb : τ' 186 18 = τ 186 18 + 1) (t1 : τ' 197 (188 + f) = τ 186 18)
    (te : ∀ j, 124 ≤ j → j < 252 → ¬ j = 188 + f → ¬ j = 220 + f → τ' 197 j = τ 197 j) : iHa σ' τ' := by
  obtain ⟨A, B⟩ := hH
  have hd' : τ 197 (220 + f) = -1 := by rw [← (hT.1 f (by omega) hf.2).1]; exact hd
  constructor
  · intro c h h0 h1 h2 h3
    rw [h25, A c h h0 h1 h2 h3]
    unfold nodF
    obtain ⟨b1, b2, b3⟩ := B (8 * c + h) (by omega) (by omega)
    rw [show 124 + (8 * c + h) = 124 + 8 * c + h by omega] at b1
    rw [show 156 + (8 * c + h) = 156 + 8 * c + h by omega] at b2
    rw [te (124 + 8 * c + h) (by omega) (by omega) (by omega) (by omega), te (156 + 8 * c + h) (by omega) (by omega) (by omega) (by omega)]
    by_cases z : 0 ≤ τ 197 (124 + 8 * c + h)
    · by_cases q : τ 197 (124 + 8 * c + h) = f
      · rw [q, t1, if_neg (by omega), if_neg (by omega)]
      · rw [te (220 + _) (by omega) (by omega) (by omega) (by omega), te (188 + _) (by omega) (by omega) (by omega) (by omega)]
    · rw [if_neg (fun w => z w.1), if_neg (fun w => z w.1)]
  · intro j h0 h1
    obtain ⟨b1, b2, b3⟩ := B j h0 h1
    rw [hb, te (124 + j) (by omega) (by omega) (by omega) (by omega), te (156 + j) (by omega) (by omega) (by omega) (by omega)]
    refine ⟨b1, by omega, ?_⟩
    by_cases q : j = f
    · subst q; rw [t1]; omega
    · rw [te (188 + j) (by omega) (by omega) (by omega) (by omega)]; omega
theorem by_new (hB : iBy σ τ) {f a : Int} (hf : 1 ≤ f ∧ f < 32) (hd : σ 14 f = -1) (h14 : σ' 14 = upi (σ 14) f a) (h17 : σ' 17 = σ 17) (h18 : σ' 18 = σ 18) (t1 : τ' 197 (316 + f) = 0) (te : ∀ j, 316 ≤ j → j < 2396 → ¬ j = 316 + f → τ' 197 j = τ 197 j) : iBy σ' τ' := by
  intro i h0 h1
  obtain ⟨b1, b2, b3, b4, b5⟩ := hB i h0 h1
  rw [h14, h17, h18]
  by_cases q : i = f
  · subst q
    have z := b2 (by omega)
    rw [t1, z]
    refine ⟨by omega, fun _ => rfl, fun _ => rfl, by omega, fun p h2 h3 => ⟨fun w => by omega, fun _ => (b5 p h2 h3).2 (by omega)⟩⟩
  · rw [upi_ne _ _ q, te _ (by omega) (by omega) (by omega)]
    refine ⟨b1, b2, b3, b4, fun p h2 h3 => ?_⟩
    rw [te (348 + 64 * i + p) (by omega) (by omega) (by omega)]
    exact b5 p h2 h3
theorem sp_make (hT : iTr σ τ) (hB : iBy σ τ) (hH : iHa σ τ) (hL : iLx σ τ) {m : Int} (hm : 0 ≤ m ∧ m < 32) (hn : m = σ 11 11) (hk : σ 14 m = 1) : stP σ τ (stMake σ) (mMake τ m (σ 11 8) (σ 11 9)) := by
  unfold stMake mMake
  rw [← hn, find_eq hT hm.1, if_neg (show ¬ ¬ τ 197 (220 + m) = 1 from not_not_intro (by rw [← (hT.1 m hm.1 hm.2).1, hk]))]
  have fs := find_spec hT (dr := m) (w := σ 11 9)
  generalize fnM τ m (σ 11 9) = f at *
  by_cases q1 : (¬ σ 11 8 = 0 ∧ ¬ σ 11 8 = 1) ∨ σ 11 9 = 0
  · rw [if_pos q1, if_pos (by omega)]; exact Or.inl ⟨6, by decide, rfl, rfl⟩
  · rw [if_neg q1, if_neg (show ¬ (σ 11 8 < 0 ∨ 1 < σ 11 8 ∨ σ 11 9 = 0) by omega)]
    by_cases q2 : f = -1
    · rw [if_neg (not_not_intro q2), if_neg (show ¬ 0 ≤ f by omega)]
      have f1 := free_eq' hT
      have f2 := free_spec hT
      have fg := frM_ge (f := τ 197) 31 1
      generalize frM (τ 197) 31 1 = e at *
      generalize freeN σ = g at *
      by_cases q3 : e = 32
      · rw [if_pos q3] at f1
        rw [if_pos f1, if_pos q3]; exact Or.inl ⟨5, by decide, rfl, rfl⟩
      · rw [if_neg q3] at f1
        subst f1
        obtain ⟨g1, g2⟩ := f2.resolve_left (by intro w; subst w; omega)
        rw [if_neg (by omega), if_neg q3]
        right
        refine ⟨rfl, rfl, ?_, ?_, ?_, ?_, ?_⟩
        · simp only [upc_self, upc_ne, upi_self, upi_ne, ne_eq, Nat.reduceEqDiff, not_false_eq_true, Int.reduceEq]
        · refine tr_add hT g1 g2 hm (by omega) (a := σ 11 8) (b := σ 11 9) (by omega) (by omega) ?_ ?_ ?_ ?_ ?_ ?_ fun j h0 h1 h2 h3 h4 => ?_ <;> simp only [upc_self, upc_ne, upi_self, upi_ne, ne_eq, Nat.reduceEqDiff, not_false_eq_true, Int.reduceEq]
          · rw [upi_ne _ _ (by omega), upi_ne _ _ (by omega), upi_ne _ _ (by omega), upi_ne _ _ (by omega), upi_self]
          · rw [upi_ne _ _ (by omega), upi_ne _ _ (by omega), upi_ne _ _ (by omega), upi_self]
          · rw [upi_ne _ _ (by omega), upi_ne _ _ (by omega), upi_self]
          · rw [upi_ne _ _ (by omega), upi_ne _ _ (by omega), upi_ne _ _ (by omega), upi_ne _ _ (by omega), upi_ne _ _ (by omega)]
        · refine by_new hB g1 g2 (a := σ 11 8) ?_ ?_ ?_ ?_ fun j h0 h1 h2 => ?_ <;> simp only [upc_self, upc_ne, upi_self, upi_ne, ne_eq, Nat.reduceEqDiff, not_false_eq_true, Int.reduceEq]
          · rw [upi_ne _ _ (by omega), upi_self]
          · rw [upi_ne _ _ (by omega), upi_ne _ _ (by omega), upi_ne _ _ (by omega), upi_ne _ _ (by omega), upi_ne _ _ (by omega)]
        · refine ha_new hT hH g1 g2 ?_ ?_ ?_ fun j h0 h1 h2 h3 => ?_ <;> simp only [upc_self, upc_ne, upi_self, upi_ne, ne_eq, Nat.reduceEqDiff, not_false_eq_true, Int.reduceEq]
          rw [upi_ne _ _ (by omega), upi_ne _ _ (by omega), upi_ne _ _ (by omega), upi_ne _ _ (by omega), upi_ne _ _ (by omega)]
        · refine iLx_fr hL ?_ ?_ ?_ ?_ ?_ ?_ ?_ ?_ ?_ <;> simp only [upc_self, upc_ne, upi_self, upi_ne, ne_eq, Nat.reduceEqDiff, not_false_eq_true, Int.reduceEq]
    · rw [if_pos q2, if_pos (by omega)]; exact Or.inl ⟨3, by decide, rfl, rfl⟩
end ST1
