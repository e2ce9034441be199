/-! 44.steps3: read, write, held, size, lock, unlock, claim, renew, root -/
section ST3
variable {σ τ σ' τ' : mG}
theorem hasO_iff {cl m p l : Int} : ∀ (k : Nat) (c : Int) (b : Bool), hasO τ cl m p l k c b = true ↔ b = true ∨ ∃ i, c ≤ i ∧ i < c + k ∧ ¬ i = cl ∧ 0 ≤ p ∧ p < 64 ∧ l ≤ mAnd (τ 199 ((32 * i + m) * 64 + p)) 3
  | 0, c, b => by
    unfold hasO
    exact ⟨Or.inl, fun h => h.elim id fun ⟨i, h0, h1, _⟩ => by omega⟩
  | k + 1, c, b => by
    unfold hasO
    rw [hasO_iff k (c + 1), Bool.or_eq_true, decide_eq_true_eq]
    constructor
    · rintro ((h | h) | ⟨i, h0, h1, h2⟩)
      · exact Or.inl h
      · exact Or.inr ⟨c, by omega, by omega, h⟩
      · exact Or.inr ⟨i, by omega, by omega, h2⟩
    · rintro (h | ⟨i, h0, h1, h2⟩)
      · exact Or.inl (Or.inl h)
      · by_cases e : i = c
        · subst e; exact Or.inl (Or.inr h2)
        · exact Or.inr ⟨i, by omega, by omega, h2⟩
theorem oth_iff {f : Int → Int64} {cl p : Int} (hp : 0 ≤ p ∧ p < 64) : ∀ (k : Nat) (c : Int) (a : Int64), bt (oth f cl k c a) p ↔ bt a p ∨ ∃ i, c ≤ i ∧ i < c + k ∧ ¬ i = cl ∧ bt (f i) p
  | 0, c, a => by
    unfold oth
    exact ⟨Or.inl, fun h => h.elim id fun ⟨i, h0, h1, _⟩ => by omega⟩
  | k + 1, c, a => by
    unfold oth
    rw [oth_iff hp k (c + 1), bt_or hp]
    constructor
    · rintro ((h | h) | ⟨i, h0, h1, h2⟩)
      · exact Or.inl h
      · by_cases e : c = cl
        · rw [if_pos e] at h; exact absurd h bt_0
        · rw [if_neg e] at h; exact Or.inr ⟨c, by omega, by omega, e, h⟩
      · exact Or.inr ⟨i, by omega, by omega, h2⟩
    · rintro (h | ⟨i, h0, h1, h2, h3⟩)
      · exact Or.inl (Or.inl h)
      · by_cases e : i = c
        · subst e; rw [if_neg h2]; exact Or.inl (Or.inr h3)
        · exact Or.inr ⟨i, by omega, by omega, h2, h3⟩
theorem and3 : mAnd 0 3 = 0 ∧ mAnd 1 3 = 1 ∧ mAnd 2 3 = 2 ∧ mAnd 5 3 = 1 ∧ mAnd 6 3 = 2 := by decide
theorem lkR_2 {s a x y : Prop} {v : Int} (h : lkR s a x y v) : 2 ≤ mAnd v 3 ↔ a ∨ y := by
  obtain ⟨h1, h2, h3, h4, h5⟩ := h
  obtain ⟨a0, a1, a2, a5, a6⟩ := and3
  rw [h2, h4]
  rcases h5 with rfl | rfl | rfl | rfl | rfl <;> omega
theorem lkR_1 {s a x y : Prop} {v : Int} (h : lkR s a x y v) : 1 ≤ mAnd v 3 ↔ (a ∨ y) ∨ s ∨ x := by
  obtain ⟨h1, h2, h3, h4, h5⟩ := h
  obtain ⟨a0, a1, a2, a5, a6⟩ := and3
  rw [h1, h2, h3, h4]
  rcases h5 with rfl | rfl | rfl | rfl | rfl <;> omega
theorem alone_iff (hL : iLx σ τ) {cl m p : Int} (hm : 0 ≤ m ∧ m < 32) (hp : 0 ≤ p ∧ p < 64) : bt (aloneF σ cl m) p ↔ hasO τ cl m p 2 4 0 false = true := by
  unfold aloneF
  rw [oth_iff hp, hasO_iff]
  constructor
  · rintro (h | ⟨i, h0, h1, h2, h3⟩)
    · exact absurd h bt_0
    · rw [bt_or hp] at h3
      exact Or.inr ⟨i, h0, h1, h2, hp.1, hp.2, (lkR_2 (hL.1 i m p h0 (by omega) hm.1 hm.2 hp.1 hp.2)).mpr h3⟩
  · rintro (h | ⟨i, h0, h1, h2, h3, h4, h5⟩)
    · exact absurd h (by decide)
    · exact Or.inr ⟨i, h0, h1, h2, (bt_or hp).mpr ((lkR_2 (hL.1 i m p h0 (by omega) hm.1 hm.2 hp.1 hp.2)).mp h5)⟩
theorem any_iff (hL : iLx σ τ) {cl m p : Int} (hm : 0 ≤ m ∧ m < 32) (hp : 0 ≤ p ∧ p < 64) : bt (anyF σ cl m) p ↔ hasO τ cl m p 1 4 0 false = true := by
  unfold anyF aloneF
  rw [oth_iff hp, oth_iff hp, hasO_iff]
  constructor
  · rintro ((h | ⟨i, h0, h1, h2, h3⟩) | ⟨i, h0, h1, h2, h3⟩)
    · exact absurd h bt_0
    · rw [bt_or hp] at h3
      exact Or.inr ⟨i, h0, h1, h2, hp.1, hp.2, (lkR_1 (hL.1 i m p h0 (by omega) hm.1 hm.2 hp.1 hp.2)).mpr (Or.inl h3)⟩
    · rw [bt_or hp] at h3
      exact Or.inr ⟨i, h0, h1, h2, hp.1, hp.2, (lkR_1 (hL.1 i m p h0 (by omega) hm.1 hm.2 hp.1 hp.2)).mpr (Or.inr h3)⟩
  · rintro (h | ⟨i, h0, h1, h2, h3, h4, h5⟩)
    · exact absurd h (by decide)
    · rcases (lkR_1 (hL.1 i m p h0 (by omega) hm.1 hm.2 hp.1 hp.2)).mp h5 with w | w
      · exact Or.inl (Or.inr ⟨i, h0, h1, h2, (bt_or hp).mpr w⟩)
      · exact Or.inr ⟨i, h0, h1, h2, (bt_or hp).mpr w⟩
theorem hasO_big {cl m p l : Int} (h : 64 ≤ p) : ¬ hasO τ cl m p l 4 0 false = true := by
  rw [hasO_iff]
  rintro (h | ⟨i, h0, h1, h2, h3, h4, h5⟩)
  · exact absurd h (by decide)
  · omega
/-- a row of bits meets a range -/
theorem rng_iff {x : Int64} {f : Int → Bool} {a b : Int} (ha : 0 ≤ a ∧ a ≤ b ∧ b ≤ 64) (h : ∀ p, 0 ≤ p → p < 64 → (bt x p ↔ f p = true)) : ¬ x &&& rngF a (b - 1) = 0 ↔ anyB f (b - a).toNat a = true := by
  rw [and_0, anyB_iff]
  constructor
  · intro w
    apply Classical.byContradiction
    intro n
    apply w
    intro p h0 h1 h2 h3
    rw [bt_rng (by omega) (by omega) ⟨h0, h1⟩] at h2
    exact n ⟨p, by omega, by omega, (h p h0 h1).mp h3⟩
  · rintro ⟨j, h0, h1, h2⟩ w
    exact w j (by omega) (by omega) ((bt_rng (by omega) (by omega) (by omega)).mpr (by omega)) ((h j (by omega) (by omega)).mpr h2)
theorem sp_read (hT : iTr σ τ) (hB : iBy σ τ) (hH : iHa σ τ) (hL : iLx σ τ) (h3 : (0 ≤ σ 11 3 ∧ σ 11 3 < 4) ∧ σ 11 3 = τ 186 24) {m : Int} (hm : 0 ≤ m ∧ m < 32) (hn : m = σ 11 11) (hk : σ 14 m = 0) : stP σ τ (stRead σ) (mRead τ m (σ 11 8)) := by
  unfold stRead mRead
  rw [← hn, ← h3.2, if_neg (show ¬ τ 197 (220 + m) = 1 by rw [← (hT.1 m hm.1 hm.2).1, hk]; decide)]
  by_cases q1 : σ 11 8 < 0
  · rw [if_pos q1, if_pos q1]; exact Or.inl ⟨6, by decide, rfl, rfl⟩
  · rw [if_neg q1, if_neg q1]
    have e : ((0 ≤ σ 11 8 ∧ σ 11 8 < 64) ∧ ¬ aloneF σ (σ 11 3) m &&& mShl 1 (σ 11 8) = 0) ↔ hasO τ (σ 11 3) m (σ 11 8) 2 4 0 false = true := by
      by_cases q : σ 11 8 < 64
      · rw [← alone_iff hL hm (by omega)]; exact ⟨fun w => w.2, fun w => ⟨by omega, w⟩⟩
      · exact ⟨fun w => by omega, fun w => absurd w (hasO_big (by omega))⟩
    by_cases q2 : hasO τ (σ 11 3) m (σ 11 8) 2 4 0 false = true
    · rw [if_pos (e.mpr q2), if_pos q2]; exact Or.inl ⟨9, by decide, rfl, rfl⟩
    · rw [if_neg (fun w => q2 (e.mp w)), if_neg q2]
      obtain ⟨b1, b2, b3, b4, b5⟩ := hB m hm.1 hm.2
      right
      refine ⟨rfl, rfl, ?_, ?_, ?_, ?_, ?_⟩
      · simp only [upc_self, upc_ne, upi_self, upi_ne, ne_eq, Nat.reduceEqDiff, not_false_eq_true, Int.reduceEq]
        unfold byF byM
        rw [b3 hk]
        by_cases q : σ 11 8 < σ 17 m
        · rw [if_pos q, if_pos q]; exact (b5 (σ 11 8) (by omega) (by omega)).1 q
        · rw [if_neg q, if_neg q]
      · refine iTr_fr hT ?_ ?_ ?_ fun j h0 h1 => ?_ <;> simp only [upc_self, upc_ne, upi_self, upi_ne, ne_eq, Nat.reduceEqDiff, not_false_eq_true, Int.reduceEq]
      · refine iBy_fr hB ?_ ?_ ?_ fun j h0 h1 => ?_ <;> simp only [upc_self, upc_ne, upi_self, upi_ne, ne_eq, Nat.reduceEqDiff, not_false_eq_true, Int.reduceEq]
      · refine iHa_fr hH ?_ ?_ fun j h0 h1 => ?_ <;> simp only [upc_self, upc_ne, upi_self, upi_ne, ne_eq, Nat.reduceEqDiff, not_false_eq_true, Int.reduceEq]
      · refine iLx_fr hL ?_ ?_ ?_ ?_ ?_ ?_ ?_ ?_ ?_ <;> simp only [upc_self, upc_ne, upi_self, upi_ne, ne_eq, Nat.reduceEqDiff, not_false_eq_true, Int.reduceEq]
theorem by_put (hB : iBy σ τ) {m a b : Int} (hm : 0 ≤ m ∧ m < 32) (hk : σ 14 m = 0) (ha : 0 ≤ a ∧ a < 64) (h14 : σ' 14 = σ 14) (h17 : σ' 17 = if σ 17 m ≤ a then upi (σ 17) m (a + 1) else σ 17) (h18 : σ' 18 = upi (σ 18) (m * 64 + a) b)
    (ht : τ' 197 = wrF (τ 197) m a b) : iBy σ' τ' := by
  have bm := hB m hm.1 hm.2
  have bs := bm.2.2.1 hk
  intro i h0 h1
  obtain ⟨b1, b2, b3, b4, b5⟩ := hB i h0 h1
  rw [h14, h18, ht]
  unfold wrF
  by_cases q : i = m
  · subst q
    have e17 : σ' 17 i = if σ 17 i ≤ a then a + 1 else σ 17 i := by
      rw [h17]; split
      · rw [upi_self]
      · rfl
    rw [e17, upi_self, bs]
    have hS : (if a < σ 17 i then σ 17 i else a + 1) = (if σ 17 i ≤ a then a + 1 else σ 17 i) := by split <;> split <;> omega
    rw [hS]
    have hS2 : (σ 17 i ≤ a ∧ (if σ 17 i ≤ a then a + 1 else σ 17 i) = a + 1) ∨ (a < σ 17 i ∧ (if σ 17 i ≤ a then a + 1 else σ 17 i) = σ 17 i) := by split <;> omega
    generalize (if σ 17 i ≤ a then a + 1 else σ 17 i) = S at *
    refine ⟨by omega, fun w => absurd hk w, fun _ => rfl, by omega, fun p h2 h3 => ?_⟩
    obtain ⟨c1, c2⟩ := b5 p h2 h3
    by_cases e : p = a
    · subst e
      rw [upi_self, upi_ne _ _ (by omega), upi_self]
      exact ⟨fun _ => rfl, fun w => by omega⟩
    · rw [upi_ne _ _ (by omega), upi_ne _ _ (by omega), upi_ne _ _ (by omega)]
      unfold fillF
      by_cases g : p < σ 17 i
      · rw [if_neg (by omega)]
        exact ⟨fun _ => c1 g, fun w => by omega⟩
      · refine ⟨fun w => ?_, fun _ => c2 (by omega)⟩
        rw [if_pos (by omega)]; exact c2 (by omega)
  · have e17 : σ' 17 i = σ 17 i := by
      rw [h17]; split
      · rw [upi_ne _ _ q]
      · rfl
    rw [e17, upi_ne _ _ (by omega), upi_ne _ _ (by omega)]
    unfold fillF
    rw [if_neg (by omega)]
    refine ⟨b1, b2, b3, b4, fun p h2 h3 => ?_⟩
    rw [upi_ne _ _ (by omega), upi_ne _ _ (by omega), upi_ne _ _ (by omega), if_neg (by omega)]
    exact b5 p h2 h3
theorem wr_ne {g : Int → Int} {m a b j : Int} (h : j < 316) (hm : 0 ≤ m) (ha : 0 ≤ g (316 + m)) (hz : 0 ≤ a) : wrF g m a b j = g j := by
  unfold wrF; rw [upi_ne _ _ (by omega), upi_ne _ _ (by omega)]; unfold fillF; rw [if_neg (by omega)]
theorem sp_put (hT : iTr σ τ) (hB : iBy σ τ) (hH : iHa σ τ) (hL : iLx σ τ) {m : Int} (hm : 0 ≤ m ∧ m < 32) (hn : m = σ 11 11) (hk : σ 14 m = 0) (ha : 0 ≤ σ 11 8 ∧ σ 11 8 < 64) :
    stP σ τ (0, putB σ) (0, upc (upc τ 186 (upi (τ 186) 25 (if σ 11 8 < τ 197 (316 + m) then τ 197 (316 + m) else σ 11 8 + 1))) 197 (wrF (τ 197) m (σ 11 8) (σ 11 9))) := by
  have bm := hB m hm.1 hm.2
  have bs := bm.2.2.1 hk
  right
  refine ⟨rfl, rfl, ?_, ?_, ?_, ?_, ?_⟩
  · unfold putB; simp only
    simp only [upc_self, upc_ne, upi_self, upi_ne, ne_eq, Nat.reduceEqDiff, not_false_eq_true, Int.reduceEq]
    rw [← hn, bs]
    by_cases q : σ 17 m ≤ σ 11 8
    · rw [if_pos q, upi_self, if_neg (by omega)]
    · rw [if_neg q, if_pos (by omega)]
  · refine iTr_fr hT ?_ ?_ ?_ fun j h0 h1 => ?_ <;> simp only [putB, upc_self, upc_ne, upi_self, upi_ne, ne_eq, Nat.reduceEqDiff, not_false_eq_true, Int.reduceEq]
    exact wr_ne (by omega) hm.1 bm.2.2.2.1.1 ha.1
  · refine by_put hB hm hk ha (b := σ 11 9) ?_ ?_ ?_ ?_ <;> simp only [putB, hn, upc_self, upc_ne, ne_eq, Nat.reduceEqDiff, not_false_eq_true]
  · refine iHa_fr hH ?_ ?_ fun j h0 h1 => ?_ <;> simp only [putB, upc_self, upc_ne, upi_self, upi_ne, ne_eq, Nat.reduceEqDiff, not_false_eq_true, Int.reduceEq]
    exact wr_ne (by omega) hm.1 bm.2.2.2.1.1 ha.1
  · refine iLx_fr hL ?_ ?_ ?_ ?_ ?_ ?_ ?_ ?_ ?_ <;> simp only [putB, upc_self, upc_ne, upi_self, upi_ne, ne_eq, Nat.reduceEqDiff, not_false_eq_true, Int.reduceEq]
theorem sp_write (hT : iTr σ τ) (hB : iBy σ τ) (hH : iHa σ τ) (hL : iLx σ τ) (h3 : (0 ≤ σ 11 3 ∧ σ 11 3 < 4) ∧ σ 11 3 = τ 186 24) {m : Int} (hm : 0 ≤ m ∧ m < 32) (hn : m = σ 11 11) (hk : σ 14 m = 0) : stP σ τ (stWrite σ) (mWrite τ m (σ 11 8) (σ 11 9) 0) := by
  have hp := sp_put hT hB hH hL hm hn hk
  unfold stWrite mWrite
  rw [← hn, ← h3.2, if_neg (show ¬ τ 197 (220 + m) = 1 by rw [← (hT.1 m hm.1 hm.2).1, hk]; decide)]
  by_cases q1 : (0 ≤ σ 11 8 ∧ σ 11 8 < 64) ∧ (0 ≤ σ 11 9 ∧ σ 11 9 ≤ 255)
  · rw [if_neg (not_not_intro q1), if_neg (show ¬ (σ 11 8 < 0 ∨ 64 ≤ σ 11 8 ∨ σ 11 9 < 0 ∨ 255 < σ 11 9) by omega)]
    have e := any_iff hL (cl := σ 11 3) hm q1.1
    by_cases q2 : hasO τ (σ 11 3) m (σ 11 8) 1 4 0 false = true
    · rw [if_pos (show ¬ anyF σ (σ 11 3) m &&& mShl 1 (σ 11 8) = 0 from e.mpr q2), if_pos (show (0 : Int) = 0 ∧ hasO τ (σ 11 3) m (σ 11 8) 1 4 0 false = true from ⟨rfl, q2⟩)]; exact Or.inl ⟨9, by decide, rfl, rfl⟩
    · rw [if_neg (show ¬ ¬ anyF σ (σ 11 3) m &&& mShl 1 (σ 11 8) = 0 from fun w => q2 (e.mp w)), if_neg (show ¬ ((0 : Int) = 0 ∧ hasO τ (σ 11 3) m (σ 11 8) 1 4 0 false = true) from fun w => q2 w.2), if_neg (show ¬ (¬ (0 : Int) = 0 ∧ ¬ τ 199 ((32 * σ 11 3 + m) * 64 + σ 11 8) = 2) from fun w => w.1 rfl)]
      exact hp q1.1
  · rw [if_pos q1, if_pos (by omega)]; exact Or.inl ⟨6, by decide, rfl, rfl⟩
theorem sort_2 (hL : iLx σ τ) {c m p : Int} (hc : 0 ≤ c ∧ c < 4) (hm : 0 ≤ m ∧ m < 32) (hp : 0 ≤ p ∧ p < 64) : sortF σ c m p = 2 ↔ τ 199 ((32 * c + m) * 64 + p) = 2 := by
  rw [← (hL.1 c m p hc.1 hc.2 hm.1 hm.2 hp.1 hp.2).2.1]
  unfold sortF bt
  by_cases q : LB σ 21 (c * 32 + m) &&& mShl 1 p = 0
  · rw [if_neg (not_not_intro q)]
    refine ⟨fun w => ?_, fun w => absurd q w⟩
    exfalso
    repeat' split at w
    all_goals omega
  · rw [if_pos q]; exact ⟨fun _ => q, fun _ => rfl⟩
theorem sp_held (hT : iTr σ τ) (hB : iBy σ τ) (hH : iHa σ τ) (hL : iLx σ τ) (h3 : (0 ≤ σ 11 3 ∧ σ 11 3 < 4) ∧ σ 11 3 = τ 186 24) {m : Int} (hm : 0 ≤ m ∧ m < 32) (hn : m = σ 11 11) (hk : σ 14 m = 0) : stP σ τ (stHeld σ) (mWrite τ m (σ 11 8) (σ 11 9) 1) := by
  have hp := sp_put hT hB hH hL hm hn hk
  unfold stHeld mWrite
  rw [← hn, ← h3.2, if_neg (show ¬ τ 197 (220 + m) = 1 by rw [← (hT.1 m hm.1 hm.2).1, hk]; decide)]
  by_cases q1 : (0 ≤ σ 11 8 ∧ σ 11 8 < 64) ∧ (0 ≤ σ 11 9 ∧ σ 11 9 ≤ 255)
  · rw [if_neg (not_not_intro q1), if_neg (show ¬ (σ 11 8 < 0 ∨ 64 ≤ σ 11 8 ∨ σ 11 9 < 0 ∨ 255 < σ 11 9) by omega), if_neg (show ¬ ((1 : Int) = 0 ∧ hasO τ (σ 11 3) m (σ 11 8) 1 4 0 false = true) from fun w => absurd w.1 (by decide))]
    have e := sort_2 hL h3.1 hm q1.1
    by_cases q2 : sortF σ (σ 11 3) m (σ 11 8) = 2
    · rw [if_neg (not_not_intro q2), if_neg (show ¬ (¬ (1 : Int) = 0 ∧ ¬ τ 199 ((32 * σ 11 3 + m) * 64 + σ 11 8) = 2) from fun w => w.2 (e.mp q2))]
      exact hp q1.1
    · rw [if_pos q2, if_pos (show ¬ (1 : Int) = 0 ∧ ¬ τ 199 ((32 * σ 11 3 + m) * 64 + σ 11 8) = 2 from ⟨by decide, fun w => q2 (e.mpr w)⟩)]; exact Or.inl ⟨10, by decide, rfl, rfl⟩
  · rw [if_pos q1, if_pos (by omega)]; exact Or.inl ⟨6, by decide, rfl, rfl⟩
theorem by_rsz (hB : iBy σ τ) {m a : Int} (hm : 0 ≤ m ∧ m < 32) (hk : σ 14 m = 0) (ha : 0 ≤ a ∧ a ≤ 64) (h14 : σ' 14 = σ 14) (h17 : σ' 17 = upi (σ 17) m a) (h18 : σ' 18 = fillF (σ 18) (m * 64 + a) (m * 64 + σ 17 m) 0)
    (ht : τ' 197 = zrF (τ 197) m a) : iBy σ' τ' := by
  have bm := hB m hm.1 hm.2
  have bs := bm.2.2.1 hk
  intro i h0 h1
  obtain ⟨b1, b2, b3, b4, b5⟩ := hB i h0 h1
  rw [h14, h17, h18, ht]
  unfold zrF mMin mMax
  rw [bs]
  by_cases q : i = m
  · subst q
    rw [upi_self, upi_self]
    refine ⟨by omega, fun w => absurd hk w, fun _ => rfl, by omega, fun p h2 h3 => ?_⟩
    obtain ⟨c1, c2⟩ := b5 p h2 h3
    rw [upi_ne _ _ (by omega)]
    unfold fillF
    refine ⟨fun w => ?_, fun w => ?_⟩
    · rw [if_neg (by omega)]
      by_cases g : p < σ 17 i
      · rw [if_neg (by split <;> split <;> omega)]; exact c1 g
      · rw [if_pos (by split <;> split <;> omega)]; exact c2 (by omega)
    · by_cases g : p < σ 17 i
      · rw [if_pos (by omega)]
      · rw [if_neg (by omega)]; exact c2 (by omega)
  · rw [upi_ne _ _ q, upi_ne _ _ (by omega)]
    unfold fillF
    rw [if_neg (by split <;> split <;> omega)]
    refine ⟨b1, b2, b3, b4, fun p h2 h3 => ?_⟩
    rw [upi_ne _ _ (by omega), if_neg (by omega), if_neg (by split <;> split <;> omega)]
    exact b5 p h2 h3
theorem zr_ne {g : Int → Int} {m a j : Int} (h : j < 316) (hm : 0 ≤ m) (ha : 0 ≤ g (316 + m)) (hz : 0 ≤ a) : zrF g m a j = g j := by
  unfold zrF mMin mMax; rw [upi_ne _ _ (by omega)]; unfold fillF; rw [if_neg (by split <;> split <;> omega)]
theorem sp_size (hT : iTr σ τ) (hB : iBy σ τ) (hH : iHa σ τ) (hL : iLx σ τ) (h3 : (0 ≤ σ 11 3 ∧ σ 11 3 < 4) ∧ σ 11 3 = τ 186 24) {m : Int} (hm : 0 ≤ m ∧ m < 32) (hn : m = σ 11 11) (hk : σ 14 m = 0) : stP σ τ (stSize σ) (mSize τ m (σ 11 8)) := by
  have bm := hB m hm.1 hm.2
  have bs := bm.2.2.1 hk
  unfold stSize mSize
  rw [← hn, ← h3.2, if_neg (show ¬ τ 197 (220 + m) = 1 by rw [← (hT.1 m hm.1 hm.2).1, hk]; decide), bs]
  by_cases q1 : 0 ≤ σ 11 8 ∧ σ 11 8 ≤ 64
  · rw [if_neg (not_not_intro q1), if_neg (show ¬ (σ 11 8 < 0 ∨ 64 < σ 11 8) by omega)]
    have e := rng_iff (x := anyF σ (σ 11 3) m) (f := fun p => hasO τ (σ 11 3) m p 1 4 0 false) (a := mMin (σ 11 8) (σ 17 m)) (b := mMax (σ 11 8) (σ 17 m)) (by unfold mMin mMax; split <;> split <;> omega) (fun p h0 h1 => any_iff hL hm ⟨h0, h1⟩)
    by_cases q2 : anyB (fun p => hasO τ (σ 11 3) m p 1 4 0 false) (mMax (σ 11 8) (σ 17 m) - mMin (σ 11 8) (σ 17 m)).toNat (mMin (σ 11 8) (σ 17 m)) = true
    · rw [if_pos (e.mpr q2), if_pos q2]; exact Or.inl ⟨9, by decide, rfl, rfl⟩
    · rw [if_neg (fun w => q2 (e.mp w)), if_neg q2]
      right
      unfold resz
      refine ⟨rfl, rfl, ?_, ?_, ?_, ?_, ?_⟩
      · simp only [upc_self, upc_ne, upi_self, upi_ne, ne_eq, Nat.reduceEqDiff, not_false_eq_true, Int.reduceEq]
      · refine iTr_fr hT ?_ ?_ ?_ fun j h0 h1 => ?_ <;> simp only [upc_self, upc_ne, upi_self, upi_ne, ne_eq, Nat.reduceEqDiff, not_false_eq_true, Int.reduceEq]
        exact zr_ne (by omega) hm.1 bm.2.2.2.1.1 q1.1
      · refine by_rsz hB hm hk q1 ?_ ?_ ?_ ?_ <;> simp only [upc_self, upc_ne, upi_self, upi_ne, ne_eq, Nat.reduceEqDiff, not_false_eq_true, Int.reduceEq]
      · refine iHa_fr hH ?_ ?_ fun j h0 h1 => ?_ <;> simp only [upc_self, upc_ne, upi_self, upi_ne, ne_eq, Nat.reduceEqDiff, not_false_eq_true, Int.reduceEq]
        exact zr_ne (by omega) hm.1 bm.2.2.2.1.1 q1.1
      · refine iLx_fr hL ?_ ?_ ?_ ?_ ?_ ?_ ?_ ?_ ?_ <;> simp only [upc_self, upc_ne, upi_self, upi_ne, ne_eq, Nat.reduceEqDiff, not_false_eq_true, Int.reduceEq]
  · rw [if_pos q1, if_pos (by omega)]; exact Or.inl ⟨6, by decide, rfl, rfl⟩
/-- one row of bits changes -/
theorem lk_row (hL : iLx σ τ) {cl m : Int} {x0 x1 x2 x3 : Int64} (hc : 0 ≤ cl ∧ cl < 4) (hm : 0 ≤ m ∧ m < 32)
    (hne : ∀ q : Nat, q = 20 ∨ q = 21 ∨ q = 22 ∨ q = 23 → ∀ j, ¬ j = cl * 32 + m → σ' q j = σ q j)
    (e0 : LB σ' 20 (cl * 32 + m) = x0) (e1 : LB σ' 21 (cl * 32 + m) = x1) (e2 : LB σ' 22 (cl * 32 + m) = x2) (e3 : LB σ' 23 (cl * 32 + m) = x3)
    (h24 : ∀ c, 0 ≤ c → c < 4 → σ' 24 c = τ' 201 c) (ht : ∀ c, 0 ≤ c → c < 4 → τ' 201 c = τ 201 c ∨ (c = cl ∧ τ 186 22 < τ' 201 c))
    (hq : τ' 186 22 = τ 186 22) (hr : τ' 186 23 = τ 186 23)
    (hg : ∀ c n p, 0 ≤ c → c < 4 → 0 ≤ n → n < 32 → 0 ≤ p → p < 64 → ¬ (c = cl ∧ n = m) → τ' 199 ((32 * c + n) * 64 + p) = τ 199 ((32 * c + n) * 64 + p))
    (hv : ∀ p, 0 ≤ p → p < 64 → lkR (bt x0 p) (bt x1 p) (bt x2 p) (bt x3 p) (τ' 199 ((32 * cl + m) * 64 + p)))
    (hw : ∀ p, 0 ≤ p → p < 64 → τ' 199 ((32 * cl + m) * 64 + p) = τ 199 ((32 * cl + m) * 64 + p) ∨ τ' 199 ((32 * cl + m) * 64 + p) = 0 ∨ (τ' 199 ((32 * cl + m) * 64 + p) < 4 ∧ τ 186 22 < τ' 201 cl)) : iLx σ' τ' := by
  obtain ⟨A, B, P, Q⟩ := hL
  refine ⟨fun c n p h0 h1 h2 h3 h4 h5 => ?_, h24, fun c n p h0 h1 h2 h3 h4 h5 => ?_, fun c h0 h1 => ?_⟩
  · show lkR _ _ _ _ (τ' 199 ((32 * c + n) * 64 + p))
    by_cases e : c = cl ∧ n = m
    · obtain ⟨rfl, rfl⟩ := e
      rw [e0, e1, e2, e3]
      exact hv p h4 h5
    · have w := A c n p h0 h1 h2 h3 h4 h5
      unfold LB at w ⊢
      rw [hne 20 (by omega) _ (by omega), hne 21 (by omega) _ (by omega), hne 22 (by omega) _ (by omega), hne 23 (by omega) _ (by omega), hg c n p h0 h1 h2 h3 h4 h5 e]
      exact w
  · rw [hq, hr]
    have pp := P c n p h0 h1 h2 h3 h4 h5
    have key : ∀ v, gP (τ 201 c ≤ τ 186 22) (τ 186 22 < τ 186 23) v = v → gP (τ' 201 c ≤ τ 186 22) (τ 186 22 < τ 186 23) v = v := by
      intro v hv
      rcases ht c h0 h1 with w | ⟨_, w⟩
      · rw [w]; exact hv
      · unfold gP at hv ⊢
        by_cases z : v < 4
        · rw [if_pos z, if_neg (by omega)]
        · rw [if_neg z] at hv ⊢; exact hv
    by_cases e : c = cl ∧ n = m
    · obtain ⟨rfl, rfl⟩ := e
      rcases hw p h4 h5 with w | w | ⟨w1, w2⟩
      · rw [w]; exact key _ pp
      · rw [w]; exact gP_0
      · unfold gP; rw [if_pos w1, if_neg (by omega)]
    · rw [hg c n p h0 h1 h2 h3 h4 h5 e]; exact key _ pp
  · rw [hq]
    rcases ht c h0 h1 with w | ⟨_, w⟩
    · rw [w]; exact Q c h0 h1
    · rw [if_neg (by omega)]
theorem lk_give (hL : iLx σ τ) (h3 : (0 ≤ σ 11 3 ∧ σ 11 3 < 4) ∧ σ 11 3 = τ 186 24) (h4 : σ 11 4 = τ 186 22) {m a b so : Int} (hm : 0 ≤ m ∧ m < 32) (ha : 0 ≤ a ∧ a ≤ b ∧ b < 64) (hs : so = 1 ∨ so = 2) :
    iLx (rnw (givF σ (σ 11 3) m so (rngF a b))) (upc (upc τ 199 (fillF (τ 199) ((32 * σ 11 3 + m) * 64 + a) ((32 * σ 11 3 + m) * 64 + (b + 1)) so)) 201 (upi (τ 201) (σ 11 3) (τ 186 22 + 30000))) := by
  have A := hL.1
  have B := hL.2.1
  refine lk_row hL h3.1 hm (x0 := if so = 2 then (LB σ 20 (σ 11 3 * 32 + m) &&& (rngF a b ^^^ -1)) else (LB σ 20 (σ 11 3 * 32 + m) &&& (rngF a b ^^^ -1)) ||| rngF a b) (x1 := if so = 2 then (LB σ 21 (σ 11 3 * 32 + m) &&& (rngF a b ^^^ -1)) ||| rngF a b else (LB σ 21 (σ 11 3 * 32 + m) &&& (rngF a b ^^^ -1))) (x2 := LB σ 22 (σ 11 3 * 32 + m) &&& (rngF a b ^^^ -1)) (x3 := LB σ 23 (σ 11 3 * 32 + m) &&& (rngF a b ^^^ -1)) ?_ ?_ ?_ ?_ ?_ ?_ ?_ ?_ ?_ ?_ ?_ ?_
  · intro q hq j hj
    unfold rnw givF
    rcases hq with rfl | rfl | rfl | rfl <;> simp only [upc_self, upc_ne, upi_self, upi_ne, ne_eq, Nat.reduceEqDiff, not_false_eq_true, Int.reduceEq] <;> rw [upi_ne _ _ hj]
  · unfold rnw givF LB; simp only [Int64.ofInt_toInt, upc_self, upc_ne, upi_self, upi_ne, ne_eq, Nat.reduceEqDiff, not_false_eq_true, Int.reduceEq]
  · unfold rnw givF LB; simp only [Int64.ofInt_toInt, upc_self, upc_ne, upi_self, upi_ne, ne_eq, Nat.reduceEqDiff, not_false_eq_true, Int.reduceEq]
  · unfold rnw givF LB; simp only [Int64.ofInt_toInt, upc_self, upc_ne, upi_self, upi_ne, ne_eq, Nat.reduceEqDiff, not_false_eq_true, Int.reduceEq]
  · unfold rnw givF LB; simp only [Int64.ofInt_toInt, upc_self, upc_ne, upi_self, upi_ne, ne_eq, Nat.reduceEqDiff, not_false_eq_true, Int.reduceEq]
  · intro c h0 h1
    unfold rnw givF; simp only [h4, upc_self, upc_ne, upi_self, upi_ne, ne_eq, Nat.reduceEqDiff, not_false_eq_true, Int.reduceEq]
    by_cases e : c = σ 11 3
    · rw [e, upi_self, upi_self]
    · rw [upi_ne _ _ e, upi_ne _ _ e]; exact B c h0 h1
  · intro c h0 h1
    simp only [upc_self, upc_ne, upi_self, upi_ne, ne_eq, Nat.reduceEqDiff, not_false_eq_true, Int.reduceEq]
    by_cases e : c = σ 11 3
    · right; rw [e, upi_self]; exact ⟨rfl, by omega⟩
    · left; rw [upi_ne _ _ e]
  · simp only [upc_self, upc_ne, upi_self, upi_ne, ne_eq, Nat.reduceEqDiff, not_false_eq_true, Int.reduceEq]
  · simp only [upc_self, upc_ne, upi_self, upi_ne, ne_eq, Nat.reduceEqDiff, not_false_eq_true, Int.reduceEq]
  · intro c n p g0 g1 g2 g3 g4 g5 e
    simp only [upc_self, upc_ne, upi_self, upi_ne, ne_eq, Nat.reduceEqDiff, not_false_eq_true, Int.reduceEq]
    unfold fillF; rw [if_neg (by omega)]
  · intro p g4 g5
    simp only [upc_self, upc_ne, upi_self, upi_ne, ne_eq, Nat.reduceEqDiff, not_false_eq_true, Int.reduceEq]
    have w := A (σ 11 3) m p h3.1.1 h3.1.2 hm.1 hm.2 g4 g5
    have hp : 0 ≤ p ∧ p < 64 := ⟨g4, g5⟩
    have hr := bt_rng (a := a) (b := b) (p := p) (by omega) (by omega) hp
    have hfl : fillF (τ 199) ((32 * σ 11 3 + m) * 64 + a) ((32 * σ 11 3 + m) * 64 + (b + 1)) so ((32 * σ 11 3 + m) * 64 + p) = if a ≤ p ∧ p ≤ b then so else τ 199 ((32 * σ 11 3 + m) * 64 + p) := by
      unfold fillF
      by_cases e : a ≤ p ∧ p ≤ b
      · rw [if_pos e, if_pos (by omega)]
      · rw [if_neg e, if_neg (by omega)]
    rw [hfl]
    by_cases e : a ≤ p ∧ p ≤ b
    · rw [if_pos e]
      have hr := hr.mpr e
      rcases hs with rfl | rfl
      · rw [if_neg (show ¬ (1 : Int) = 2 by decide), if_neg (show ¬ (1 : Int) = 2 by decide)]
        unfold lkR
        rw [bt_or hp, bt_an hp, bt_an hp, bt_an hp, bt_an hp]
        simp [hr]
      · rw [if_pos rfl, if_pos rfl]
        unfold lkR
        rw [bt_or hp, bt_an hp, bt_an hp, bt_an hp, bt_an hp]
        simp [hr]
    · rw [if_neg e]
      have hr : ¬ bt (rngF a b) p := fun x => e (hr.mp x)
      rcases hs with rfl | rfl
      · rw [if_neg (show ¬ (1 : Int) = 2 by decide), if_neg (show ¬ (1 : Int) = 2 by decide)]
        unfold lkR at w ⊢
        rw [bt_or hp, bt_an hp, bt_an hp, bt_an hp, bt_an hp]
        simp only [hr, not_false_eq_true, and_true, or_false]
        exact w
      · rw [if_pos rfl, if_pos rfl]
        unfold lkR at w ⊢
        rw [bt_or hp, bt_an hp, bt_an hp, bt_an hp, bt_an hp]
        simp only [hr, not_false_eq_true, and_true, or_false]
        exact w
  · intro p g4 g5
    simp only [upc_self, upc_ne, upi_self, upi_ne, ne_eq, Nat.reduceEqDiff, not_false_eq_true, Int.reduceEq]
    unfold fillF
    by_cases e : a ≤ p ∧ p ≤ b
    · rw [if_pos (by omega)]; right; right; omega
    · rw [if_neg (by omega)]; exact Or.inl rfl
theorem sp_lock (hT : iTr σ τ) (hB : iBy σ τ) (hH : iHa σ τ) (hL : iLx σ τ) (h3 : (0 ≤ σ 11 3 ∧ σ 11 3 < 4) ∧ σ 11 3 = τ 186 24) (h4 : σ 11 4 = τ 186 22) (h5 : σ 11 5 = 0 ↔ ¬ τ 186 22 < τ 186 23) (hv : σ 11 12 = τ 186 25) {m : Int} (hm : 0 ≤ m ∧ m < 32) (hn : m = σ 11 11) (hk : σ 14 m = 0) : stP σ τ (stLock σ) (mLock τ m (σ 11 8) (σ 11 9) (σ 11 10)) := by
  unfold stLock mLock lkOk
  rw [← hn, ← h3.2, if_neg (show ¬ τ 197 (220 + m) = 1 by rw [← (hT.1 m hm.1 hm.2).1, hk]; decide)]
  by_cases q1 : ¬ (0 ≤ σ 11 8 ∧ σ 11 8 ≤ σ 11 9 ∧ σ 11 9 < 64) ∨ ¬ (σ 11 10 = 1 ∨ σ 11 10 = 2)
  · rw [if_pos q1, if_pos (by omega)]; exact Or.inl ⟨6, by decide, rfl, rfl⟩
  · rw [if_neg q1, if_neg (show ¬ (¬ (0 ≤ σ 11 8 ∧ σ 11 8 ≤ σ 11 9 ∧ σ 11 9 < 64) ∨ σ 11 10 < 1 ∨ 2 < σ 11 10) by omega)]
    by_cases q2 : τ 186 22 < τ 186 23
    · rw [if_pos (show ¬ σ 11 5 = 0 from fun w => h5.mp w q2), if_pos q2]; exact Or.inl ⟨11, by decide, rfl, rfl⟩
    · rw [if_neg (not_not_intro (h5.mpr q2)), if_neg q2]
      have e := rng_iff (x := if σ 11 10 = 2 then anyF σ (σ 11 3) m else aloneF σ (σ 11 3) m) (f := fun p => hasO τ (σ 11 3) m p (if σ 11 10 = 2 then 1 else 2) 4 0 false) (a := σ 11 8) (b := σ 11 9 + 1) (by omega) (fun p h0 h1 => by
        by_cases z : σ 11 10 = 2
        · rw [if_pos z, if_pos z]; exact any_iff hL hm ⟨h0, h1⟩
        · rw [if_neg z, if_neg z]; exact alone_iff hL hm ⟨h0, h1⟩)
      rw [show σ 11 9 + 1 - 1 = σ 11 9 by omega] at e
      by_cases q3 : anyB (fun p => hasO τ (σ 11 3) m p (if σ 11 10 = 2 then 1 else 2) 4 0 false) (σ 11 9 + 1 - σ 11 8).toNat (σ 11 8) = true
      · rw [if_pos (e.mpr q3), if_pos q3]; exact Or.inl ⟨9, by decide, rfl, rfl⟩
      · rw [if_neg (fun w => q3 (e.mp w)), if_neg q3]
        right
        refine ⟨rfl, rfl, ?_, ?_, ?_, ?_, ?_⟩
        · unfold rnw givF; simp only [hv, upc_self, upc_ne, upi_self, upi_ne, ne_eq, Nat.reduceEqDiff, not_false_eq_true, Int.reduceEq]
        · refine iTr_fr hT ?_ ?_ ?_ fun j h0 h1 => ?_ <;> simp only [rnw, givF, upc_self, upc_ne, upi_self, upi_ne, ne_eq, Nat.reduceEqDiff, not_false_eq_true, Int.reduceEq]
        · refine iBy_fr hB ?_ ?_ ?_ fun j h0 h1 => ?_ <;> simp only [rnw, givF, upc_self, upc_ne, upi_self, upi_ne, ne_eq, Nat.reduceEqDiff, not_false_eq_true, Int.reduceEq]
        · refine iHa_fr hH ?_ ?_ fun j h0 h1 => ?_ <;> simp only [rnw, givF, upc_self, upc_ne, upi_self, upi_ne, ne_eq, Nat.reduceEqDiff, not_false_eq_true, Int.reduceEq]
        · exact lk_give hL h3 h4 hm (by omega) (by omega)
theorem allC_iff {f : Int → Int} {at' c : Int} : ∀ (k : Nat) (i : Int) (o : Bool), allC f at' c k i o = true ↔ o = true ∧ ∀ j, i ≤ j → j < i + k → f (at' + j) = 4 + c
  | 0, i, o => by
    unfold allC
    exact ⟨fun h => ⟨h, fun j h0 h1 => by omega⟩, fun h => h.1⟩
  | k + 1, i, o => by
    unfold allC
    rw [allC_iff k (i + 1), Bool.and_eq_true, decide_eq_true_eq]
    constructor
    · rintro ⟨⟨h1, h2⟩, h3⟩
      refine ⟨h1, fun j g0 g1 => ?_⟩
      by_cases e : j = i
      · rw [e]; exact h2
      · exact h3 j (by omega) (by omega)
    · rintro ⟨h1, h2⟩
      exact ⟨⟨h1, h2 i (by omega) (by omega)⟩, fun j g0 g1 => h2 j (by omega) (by omega)⟩
theorem sp_claim (hT : iTr σ τ) (hB : iBy σ τ) (hH : iHa σ τ) (hL : iLx σ τ) (h3 : (0 ≤ σ 11 3 ∧ σ 11 3 < 4) ∧ σ 11 3 = τ 186 24) (h4 : σ 11 4 = τ 186 22) (hv : σ 11 12 = τ 186 25) {m : Int} (hm : 0 ≤ m ∧ m < 32) (hn : m = σ 11 11) (hk : σ 14 m = 0) : stP σ τ (stClaim σ) (mClaim τ m (σ 11 8) (σ 11 9) (σ 11 10)) := by
  unfold stClaim mClaim lkOk
  rw [← hn, ← h3.2, if_neg (show ¬ τ 197 (220 + m) = 1 by rw [← (hT.1 m hm.1 hm.2).1, hk]; decide)]
  by_cases q1 : ¬ (0 ≤ σ 11 8 ∧ σ 11 8 ≤ σ 11 9 ∧ σ 11 9 < 64) ∨ ¬ (σ 11 10 = 1 ∨ σ 11 10 = 2)
  · rw [if_pos q1, if_pos (by omega)]; exact Or.inl ⟨6, by decide, rfl, rfl⟩
  · rw [if_neg q1, if_neg (show ¬ (¬ (0 ≤ σ 11 8 ∧ σ 11 8 ≤ σ 11 9 ∧ σ 11 9 < 64) ∨ σ 11 10 < 1 ∨ 2 < σ 11 10) by omega)]
    have e : (if σ 11 10 = 2 then LB σ 23 (σ 11 3 * 32 + m) else LB σ 22 (σ 11 3 * 32 + m)) &&& rngF (σ 11 8) (σ 11 9) = rngF (σ 11 8) (σ 11 9) ↔ allC (τ 199) ((32 * σ 11 3 + m) * 64) (σ 11 10) (σ 11 9 + 1 - σ 11 8).toNat (σ 11 8) (decide (τ 186 22 < τ 186 23)) = true := by
      rw [and_s, allC_iff, decide_eq_true_eq]
      have key : ∀ p, 0 ≤ p → p < 64 → (bt (if σ 11 10 = 2 then LB σ 23 (σ 11 3 * 32 + m) else LB σ 22 (σ 11 3 * 32 + m)) p ↔ τ 199 ((32 * σ 11 3 + m) * 64 + p) = 4 + σ 11 10) := by
        intro p h0 h1
        obtain ⟨w1, w2, w3, w4, w5⟩ := hL.1 (σ 11 3) m p h3.1.1 h3.1.2 hm.1 hm.2 h0 h1
        by_cases z : σ 11 10 = 2
        · rw [if_pos z, z]; exact w4
        · rw [if_neg z, show σ 11 10 = 1 by omega]; exact w3
      constructor
      · intro w
        have w : ∀ j, σ 11 8 ≤ j → j < σ 11 8 + ((σ 11 9 + 1 - σ 11 8).toNat : Int) → τ 199 ((32 * σ 11 3 + m) * 64 + j) = 4 + σ 11 10 := fun j g0 g1 =>
          (key j (by omega) (by omega)).mp (w j (by omega) (by omega) ((bt_rng (by omega) (by omega) (by omega)).mpr (by omega)))
        refine ⟨?_, w⟩
        have w0 := w (σ 11 8) (by omega) (by omega)
        have p0 := hL.2.2.1 (σ 11 3) m (σ 11 8) h3.1.1 h3.1.2 hm.1 hm.2 (by omega) (by omega)
        rw [w0] at p0
        unfold gP at p0
        rw [if_neg (by omega)] at p0
        apply Classical.byContradiction
        intro n
        rw [if_neg n] at p0
        omega
      · rintro ⟨_, w⟩ p h0 h1 hr
        rw [bt_rng (by omega) (by omega) ⟨h0, h1⟩] at hr
        exact (key p h0 h1).mpr (w p (by omega) (by omega))
    by_cases q3 : allC (τ 199) ((32 * σ 11 3 + m) * 64) (σ 11 10) (σ 11 9 + 1 - σ 11 8).toNat (σ 11 8) (decide (τ 186 22 < τ 186 23)) = true
    · rw [if_neg (not_not_intro (e.mpr q3)), if_pos q3]
      right
      refine ⟨rfl, rfl, ?_, ?_, ?_, ?_, ?_⟩
      · unfold rnw givF; simp only [hv, upc_self, upc_ne, upi_self, upi_ne, ne_eq, Nat.reduceEqDiff, not_false_eq_true, Int.reduceEq]
      · refine iTr_fr hT ?_ ?_ ?_ fun j h0 h1 => ?_ <;> simp only [rnw, givF, upc_self, upc_ne, upi_self, upi_ne, ne_eq, Nat.reduceEqDiff, not_false_eq_true, Int.reduceEq]
      · refine iBy_fr hB ?_ ?_ ?_ fun j h0 h1 => ?_ <;> simp only [rnw, givF, upc_self, upc_ne, upi_self, upi_ne, ne_eq, Nat.reduceEqDiff, not_false_eq_true, Int.reduceEq]
      · refine iHa_fr hH ?_ ?_ fun j h0 h1 => ?_ <;> simp only [rnw, givF, upc_self, upc_ne, upi_self, upi_ne, ne_eq, Nat.reduceEqDiff, not_false_eq_true, Int.reduceEq]
      · exact lk_give hL h3 h4 hm (by omega) (by omega)
    · rw [if_pos (fun w => q3 (e.mp w)), if_neg q3]; exact Or.inl ⟨10, by decide, rfl, rfl⟩
theorem sp_unlock (hT : iTr σ τ) (hB : iBy σ τ) (hH : iHa σ τ) (hL : iLx σ τ) (h3 : (0 ≤ σ 11 3 ∧ σ 11 3 < 4) ∧ σ 11 3 = τ 186 24) (hv : σ 11 12 = τ 186 25) {m : Int} (hm : 0 ≤ m ∧ m < 32) (hn : m = σ 11 11) (hk : σ 14 m = 0) : stP σ τ (stUnlock σ) (mUnlock τ m (σ 11 8) (σ 11 9)) := by
  unfold stUnlock mUnlock lkOk
  rw [← hn, ← h3.2, if_neg (show ¬ τ 197 (220 + m) = 1 by rw [← (hT.1 m hm.1 hm.2).1, hk]; decide)]
  by_cases q1 : 0 ≤ σ 11 8 ∧ σ 11 8 ≤ σ 11 9 ∧ σ 11 9 < 64
  · rw [if_neg (not_not_intro q1), if_neg (not_not_intro q1)]
    right
    refine ⟨rfl, rfl, ?_, ?_, ?_, ?_, ?_⟩
    · simp only [hv, upc_self, upc_ne, upi_self, upi_ne, ne_eq, Nat.reduceEqDiff, not_false_eq_true, Int.reduceEq]
    · refine iTr_fr hT ?_ ?_ ?_ fun j h0 h1 => ?_ <;> simp only [upc_self, upc_ne, upi_self, upi_ne, ne_eq, Nat.reduceEqDiff, not_false_eq_true, Int.reduceEq]
    · refine iBy_fr hB ?_ ?_ ?_ fun j h0 h1 => ?_ <;> simp only [upc_self, upc_ne, upi_self, upi_ne, ne_eq, Nat.reduceEqDiff, not_false_eq_true, Int.reduceEq]
    · refine iHa_fr hH ?_ ?_ fun j h0 h1 => ?_ <;> simp only [upc_self, upc_ne, upi_self, upi_ne, ne_eq, Nat.reduceEqDiff, not_false_eq_true, Int.reduceEq]
    · have A := hL.1
      have B := hL.2.1
      refine lk_row hL h3.1 hm (x0 := LB σ 20 (σ 11 3 * 32 + m) &&& (rngF (σ 11 8) (σ 11 9) ^^^ -1)) (x1 := LB σ 21 (σ 11 3 * 32 + m) &&& (rngF (σ 11 8) (σ 11 9) ^^^ -1)) (x2 := LB σ 22 (σ 11 3 * 32 + m)) (x3 := LB σ 23 (σ 11 3 * 32 + m)) ?_ ?_ ?_ ?_ ?_ ?_ ?_ ?_ ?_ ?_ ?_ ?_
      · intro q hq j hj
        rcases hq with rfl | rfl | rfl | rfl <;> simp only [upi_ne _ _ hj, upc_self, upc_ne, upi_self, upi_ne, ne_eq, Nat.reduceEqDiff, not_false_eq_true, Int.reduceEq]
      · unfold LB; simp only [Int64.ofInt_toInt, upc_self, upc_ne, upi_self, upi_ne, ne_eq, Nat.reduceEqDiff, not_false_eq_true, Int.reduceEq]
      · unfold LB; simp only [Int64.ofInt_toInt, upc_self, upc_ne, upi_self, upi_ne, ne_eq, Nat.reduceEqDiff, not_false_eq_true, Int.reduceEq]
      · unfold LB; simp only [upc_self, upc_ne, upi_self, upi_ne, ne_eq, Nat.reduceEqDiff, not_false_eq_true, Int.reduceEq]
      · unfold LB; simp only [upc_self, upc_ne, upi_self, upi_ne, ne_eq, Nat.reduceEqDiff, not_false_eq_true, Int.reduceEq]
      · intro c h0 h1; simp only [upc_self, upc_ne, upi_self, upi_ne, ne_eq, Nat.reduceEqDiff, not_false_eq_true, Int.reduceEq]; exact B c h0 h1
      · intro c h0 h1; left; simp only [upc_self, upc_ne, upi_self, upi_ne, ne_eq, Nat.reduceEqDiff, not_false_eq_true, Int.reduceEq]
      · simp only [upc_self, upc_ne, upi_self, upi_ne, ne_eq, Nat.reduceEqDiff, not_false_eq_true, Int.reduceEq]
      · simp only [upc_self, upc_ne, upi_self, upi_ne, ne_eq, Nat.reduceEqDiff, not_false_eq_true, Int.reduceEq]
      · intro c n p g0 g1 g2 g3 g4 g5 e
        simp only [upc_self, upc_ne, upi_self, upi_ne, ne_eq, Nat.reduceEqDiff, not_false_eq_true, Int.reduceEq]
        unfold mapF; rw [if_neg (by omega)]
      · intro p g4 g5
        simp only [upc_self, upc_ne, upi_self, upi_ne, ne_eq, Nat.reduceEqDiff, not_false_eq_true, Int.reduceEq]
        have w := A (σ 11 3) m p h3.1.1 h3.1.2 hm.1 hm.2 g4 g5
        have hp : 0 ≤ p ∧ p < 64 := ⟨g4, g5⟩
        have hr := bt_rng (a := σ 11 8) (b := σ 11 9) (p := p) (by omega) (by omega) hp
        unfold lkR at w ⊢
        dsimp only at w
        rw [bt_an hp, bt_an hp, hr, w.1, w.2.1, w.2.2.1, w.2.2.2.1]
        have w5 := w.2.2.2.2
        unfold mapF
        by_cases e : σ 11 8 ≤ p ∧ p ≤ σ 11 9
        · rw [if_pos (by omega)]
          dsimp only
          split <;> omega
        · rw [if_neg (by omega)]; omega
      · intro p g4 g5
        simp only [upc_self, upc_ne, upi_self, upi_ne, ne_eq, Nat.reduceEqDiff, not_false_eq_true, Int.reduceEq]
        unfold mapF
        by_cases e : σ 11 8 ≤ p ∧ p ≤ σ 11 9
        · rw [if_pos (by omega)]; dsimp only; split
          · exact Or.inr (Or.inl rfl)
          · exact Or.inl rfl
        · rw [if_neg (by omega)]; exact Or.inl rfl
  · rw [if_pos q1, if_pos q1]; exact Or.inl ⟨6, by decide, rfl, rfl⟩
theorem sp_renew (hT : iTr σ τ) (hB : iBy σ τ) (hH : iHa σ τ) (hL : iLx σ τ) (h3 : (0 ≤ σ 11 3 ∧ σ 11 3 < 4) ∧ σ 11 3 = τ 186 24) (h4 : σ 11 4 = τ 186 22) (hv : σ 11 12 = τ 186 25) : stP σ τ (0, rnw σ) (0, rnM τ) := by
  right
  unfold rnw rnM
  refine ⟨rfl, rfl, ?_, ?_, ?_, ?_, ?_⟩
  · simp only [hv, upc_self, upc_ne, upi_self, upi_ne, ne_eq, Nat.reduceEqDiff, not_false_eq_true, Int.reduceEq]
  · refine iTr_fr hT ?_ ?_ ?_ fun j h0 h1 => ?_ <;> simp only [upc_self, upc_ne, upi_self, upi_ne, ne_eq, Nat.reduceEqDiff, not_false_eq_true, Int.reduceEq]
  · refine iBy_fr hB ?_ ?_ ?_ fun j h0 h1 => ?_ <;> simp only [upc_self, upc_ne, upi_self, upi_ne, ne_eq, Nat.reduceEqDiff, not_false_eq_true, Int.reduceEq]
  · refine iHa_fr hH ?_ ?_ fun j h0 h1 => ?_ <;> simp only [upc_self, upc_ne, upi_self, upi_ne, ne_eq, Nat.reduceEqDiff, not_false_eq_true, Int.reduceEq]
  · have A := hL.1
    have B := hL.2.1
    rw [← h3.2, ← h4]
    refine lk_row hL (cl := σ 11 3) (m := 0) h3.1 (by omega) ?_ rfl rfl rfl rfl ?_ ?_ ?_ ?_ ?_ ?_ ?_
    · intro q hq j hj
      rcases hq with rfl | rfl | rfl | rfl <;> simp only [upc_self, upc_ne, upi_self, upi_ne, ne_eq, Nat.reduceEqDiff, not_false_eq_true, Int.reduceEq]
    · intro c h0 h1
      simp only [upc_self, upc_ne, upi_self, upi_ne, ne_eq, Nat.reduceEqDiff, not_false_eq_true, Int.reduceEq]
      by_cases e : c = σ 11 3
      · rw [e, upi_self, upi_self]
      · rw [upi_ne _ _ e, upi_ne _ _ e]; exact B c h0 h1
    · intro c h0 h1
      simp only [upc_self, upc_ne, upi_self, upi_ne, ne_eq, Nat.reduceEqDiff, not_false_eq_true, Int.reduceEq]
      by_cases e : c = σ 11 3
      · right; rw [e, upi_self]; exact ⟨rfl, by omega⟩
      · left; rw [upi_ne _ _ e]
    · simp only [upc_self, upc_ne, upi_self, upi_ne, ne_eq, Nat.reduceEqDiff, not_false_eq_true, Int.reduceEq]
    · simp only [upc_self, upc_ne, upi_self, upi_ne, ne_eq, Nat.reduceEqDiff, not_false_eq_true, Int.reduceEq]
    · intro c n p g0 g1 g2 g3 g4 g5 e
      simp only [upc_self, upc_ne, upi_self, upi_ne, ne_eq, Nat.reduceEqDiff, not_false_eq_true, Int.reduceEq]
    · intro p g4 g5
      unfold LB
      simp only [upc_self, upc_ne, upi_self, upi_ne, ne_eq, Nat.reduceEqDiff, not_false_eq_true, Int.reduceEq]
      exact A (σ 11 3) 0 p h3.1.1 h3.1.2 (by omega) (by omega) g4 g5
    · intro p g4 g5
      left
      simp only [upc_self, upc_ne, upi_self, upi_ne, ne_eq, Nat.reduceEqDiff, not_false_eq_true, Int.reduceEq]
theorem sp_root (hT : iTr σ τ) (hB : iBy σ τ) (hH : iHa σ τ) (hL : iLx σ τ) (h3 : (0 ≤ σ 11 3 ∧ σ 11 3 < 4) ∧ σ 11 3 = τ 186 24) (hv : σ 11 12 = τ 186 25) (h7 : 0 ≤ σ 11 7 ∧ σ 11 7 < 8) : stP σ τ (0, upc σ 25 (upi (σ 25) (σ 11 3 * 8 + σ 11 7) 0)) (0, upc τ 197 (bndF (τ 197) (σ 11 3) (σ 11 7) 0)) := by
  right
  refine ⟨rfl, rfl, ?_, ?_, ?_, ?_, ?_⟩
  · simp only [hv, upc_self, upc_ne, upi_self, upi_ne, ne_eq, Nat.reduceEqDiff, not_false_eq_true, Int.reduceEq]
  · refine iTr_fr hT ?_ ?_ ?_ fun j h0 h1 => ?_ <;> simp only [upc_self, upc_ne, upi_self, upi_ne, ne_eq, Nat.reduceEqDiff, not_false_eq_true, Int.reduceEq]
    unfold bndF; rw [upi_ne _ _ (by omega), upi_ne _ _ (by omega)]
  · refine iBy_fr hB ?_ ?_ ?_ fun j h0 h1 => ?_ <;> simp only [upc_self, upc_ne, upi_self, upi_ne, ne_eq, Nat.reduceEqDiff, not_false_eq_true, Int.reduceEq]
    unfold bndF; rw [upi_ne _ _ (by omega), upi_ne _ _ (by omega)]
  · refine ha_bind hT hH h3.1 h7 (m := 0) (by omega) (by rw [hT.2.1.1]; decide) ?_ ?_ ?_ <;> simp only [upc_self, upc_ne, upi_self, upi_ne, ne_eq, Nat.reduceEqDiff, not_false_eq_true, Int.reduceEq]
  · refine iLx_fr hL ?_ ?_ ?_ ?_ ?_ ?_ ?_ ?_ ?_ <;> simp only [upc_self, upc_ne, upi_self, upi_ne, ne_eq, Nat.reduceEqDiff, not_false_eq_true, Int.reduceEq]
end ST3
