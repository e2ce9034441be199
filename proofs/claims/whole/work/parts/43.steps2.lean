/-! 43.steps2: remove, move, list -/
section ST2
variable {σ τ σ' τ' : mG}
theorem delN_out {f : Int} {q : Nat} (hq : ¬ q = 20 ∧ ¬ q = 21 ∧ ¬ q = 22 ∧ ¬ q = 23) : ∀ (k : Nat) (i : Int) (σ : mG), delN f k i σ q = σ q
  | 0, _, _ => rfl
  | k + 1, i, σ => by
    unfold delN
    rw [delN_out hq k, upc_ne _ _ hq.2.2.2, upc_ne _ _ hq.2.2.1, upc_ne _ _ hq.2.1, upc_ne _ _ hq.1]
theorem delN_in {f : Int} {q : Nat} (hf : 0 ≤ f ∧ f < 32) (hq : q = 20 ∨ q = 21 ∨ q = 22 ∨ q = 23) {c m : Int} (hm : 0 ≤ m ∧ m < 32) : ∀ (k : Nat) (i : Int) (σ : mG), delN f k i σ q (c * 32 + m) = if m = f ∧ i ≤ c ∧ c < i + k then 0 else σ q (c * 32 + m)
  | 0, i, σ => by unfold delN; rw [if_neg (by omega)]
  | k + 1, i, σ => by
    unfold delN
    rw [delN_in hf hq hm k]
    have e : (upc (upc (upc (upc σ 20 (upi (σ 20) (i * 32 + f) 0)) 21 (upi (σ 21) (i * 32 + f) 0)) 22 (upi (σ 22) (i * 32 + f) 0)) 23 (upi (σ 23) (i * 32 + f) 0)) q = upi (σ q) (i * 32 + f) 0 := by
      rcases hq with rfl | rfl | rfl | rfl <;> simp only [upc_self, upc_ne, upi_self, upi_ne, ne_eq, Nat.reduceEqDiff, not_false_eq_true, Int.reduceEq]
    rw [e]
    by_cases w : m = f ∧ i + 1 ≤ c ∧ c < i + 1 + k
    · rw [if_pos w, if_pos (by omega)]
    · rw [if_neg w]
      by_cases w2 : m = f ∧ c = i
      · obtain ⟨rfl, rfl⟩ := w2; rw [upi_self, if_pos (by omega)]
      · rw [upi_ne _ _ (by omega), if_neg (by omega)]
theorem fr1_at {g : Int → Int} {f c m p : Int} (hf : 0 ≤ f ∧ f < 32) (hm : 0 ≤ m ∧ m < 32) (hp : 0 ≤ p ∧ p < 64) : ∀ (k : Nat) (i : Int) (g : Int → Int), fr1 g f k i ((32 * c + m) * 64 + p) = if m = f ∧ i ≤ c ∧ c < i + k then 0 else g ((32 * c + m) * 64 + p)
  | 0, i, g => by unfold fr1; rw [if_neg (by omega)]
  | k + 1, i, g => by
    unfold fr1
    rw [fr1_at (g := g) hf hm hp k]
    by_cases w : m = f ∧ i + 1 ≤ c ∧ c < i + 1 + k
    · rw [if_pos w, if_pos (by omega)]
    · rw [if_neg w]
      unfold fillF
      by_cases w2 : m = f ∧ c = i
      · rw [if_pos (by omega), if_pos (by omega)]
      · rw [if_neg (by omega), if_neg (by omega)]
theorem lkR_0 {s a x y : Prop} (h1 : ¬ s) (h2 : ¬ a) (h3 : ¬ x) (h4 : ¬ y) : lkR s a x y 0 := by
  unfold lkR
  simp [h1, h2, h3, h4]
theorem tr_del (hT : iTr σ τ) {f : Int} (hf : 1 ≤ f ∧ f < 32) (hc : ∀ i, 1 ≤ i → i < 32 → ¬ σ 15 i = f)
    (h14 : σ' 14 = upi (σ 14) f (-1)) (h15 : σ' 15 = upi (σ 15) f (-1)) (h16 : σ' 16 = upi (σ 16) f 0) (t1 : τ' 197 (220 + f) = -1)
    (te : ∀ j, 220 ≤ j → j < 316 → ¬ j = 220 + f → τ' 197 j = τ 197 j) : iTr σ' τ' := by
  obtain ⟨A, B, C, E, F, r, R⟩ := hT
  unfold iTr
  rw [h14, h15, h16]
  refine ⟨fun i h0 h1 => ?_, ?_, fun i h0 h1 => ?_, fun i h0 h1 => ?_, fun i h0 h1 => ?_, r, fun i h0 h1 => ?_⟩
  · by_cases q : i = f
    · subst q; rw [upi_self, t1]; omega
    · rw [upi_ne _ _ q, te _ (by omega) (by omega) (by omega)]; exact A i h0 h1
  · rw [upi_ne _ _ (by omega), upi_ne _ _ (by omega), upi_ne _ _ (by omega)]; exact B
  · by_cases q : i = f
    · subst q; rw [upi_self, upi_self, upi_self]; exact fun _ => ⟨rfl, rfl⟩
    · rw [upi_ne _ _ q, upi_ne _ _ q, upi_ne _ _ q]; exact C i h0 h1
  · by_cases q : i = f
    · subst q; rw [upi_self]; intro w; omega
    · rw [upi_ne _ _ q, upi_ne _ _ q, upi_ne _ _ q, te _ (by omega) (by omega) (by omega), te _ (by omega) (by omega) (by omega), upi_ne _ _ (hc i h0 h1)]
      exact E i h0 h1
  · rw [te _ (by omega) (by omega) (by omega)]; exact F i h0 h1
  · by_cases q : i = f
    · subst q; rw [upi_self]; intro w; omega
    · rw [upi_ne _ _ q, upi_ne _ _ q]; exact R i h0 h1
theorem by_del (hB : iBy σ τ) {f : Int} (hf : 1 ≤ f ∧ f < 32) (h14 : σ' 14 = upi (σ 14) f (-1)) (h17 : σ' 17 = upi (σ 17) f 0) (h18 : σ' 18 = fillF (σ 18) (f * 64 + 0) (f * 64 + σ 17 f) 0) (te : ∀ j, 316 ≤ j → j < 2396 → τ' 197 j = τ 197 j) : iBy σ' τ' := by
  have bf := (hB f (by omega) hf.2).1
  intro i h0 h1
  obtain ⟨b1, b2, b3, b4, b5⟩ := hB i h0 h1
  rw [h14, h17, h18, te _ (by omega) (by omega)]
  by_cases q : i = f
  · subst q
    rw [upi_self, upi_self]
    refine ⟨by omega, fun _ => rfl, fun w => by omega, b4, fun p h2 h3 => ⟨fun w => by omega, fun _ => ?_⟩⟩
    unfold fillF
    by_cases z : p < σ 17 i
    · rw [if_pos (by omega)]
    · rw [if_neg (by omega)]; exact (b5 p h2 h3).2 (by omega)
  · rw [upi_ne _ _ q, upi_ne _ _ q]
    refine ⟨b1, b2, b3, b4, fun p h2 h3 => ?_⟩
    unfold fillF
    rw [if_neg (by omega), te _ (by omega) (by omega)]
    exact b5 p h2 h3
theorem ha_del (hH : iHa σ τ) {f : Int} (hf : 1 ≤ f ∧ f < 32) (h25 : σ' 25 = unbF (σ 25) f 32) (hb : τ' 186 18 = τ 186 18) (t1 : τ' 197 (220 + f) = -1)
    (te : ∀ j, 124 ≤ j → j < 252 → ¬ j = 220 + f → τ' 197 j = τ 197 j) : iHa σ' τ' := by
  obtain ⟨A, B⟩ := hH
  constructor
  · intro c h h0 h1 h2 h3
    rw [h25]
    unfold unbF
    rw [A c h h0 h1 h2 h3]
    unfold nodF
    have w := (B (8 * c + h) (by omega) (by omega)).1
    rw [show 124 + (8 * c + h) = 124 + 8 * c + h by omega] at w
    rw [te (124 + 8 * c + h) (by omega) (by omega) (by omega), te (156 + 8 * c + h) (by omega) (by omega) (by omega)]
    by_cases z : 0 ≤ τ 197 (124 + 8 * c + h)
    · by_cases q : τ 197 (124 + 8 * c + h) = f
      · rw [q, t1]; repeat' split
        all_goals omega
      · rw [te (220 + _) (by omega) (by omega) (by omega), te (188 + _) (by omega) (by omega) (by omega)]
        repeat' split
        all_goals omega
    · repeat' split
      all_goals omega
  · intro j h0 h1
    rw [hb, te (124 + j) (by omega) (by omega) (by omega), te (156 + j) (by omega) (by omega) (by omega), te (188 + j) (by omega) (by omega) (by omega)]
    exact B j h0 h1
theorem gP_0 {ov gr : Prop} [Decidable ov] [Decidable gr] : gP ov gr 0 = 0 := by
  unfold gP; rw [if_pos (by omega)]; split <;> rfl
theorem ofInt0 : Int64.ofInt 0 = 0 := by decide
theorem lk_del (hL : iLx σ τ) {f : Int} (hf : 0 ≤ f ∧ f < 32) (h20 : ∀ q : Nat, q = 20 ∨ q = 21 ∨ q = 22 ∨ q = 23 → ∀ c m, 0 ≤ c → c < 4 → 0 ≤ m → m < 32 → σ' q (c * 32 + m) = if m = f then 0 else σ q (c * 32 + m)) (h24 : σ' 24 = σ 24)
    (ht : ∀ c m p, 0 ≤ c → c < 4 → 0 ≤ m → m < 32 → 0 ≤ p → p < 64 → τ' 199 ((32 * c + m) * 64 + p) = if m = f then 0 else τ 199 ((32 * c + m) * 64 + p)) (hs : τ' 201 = τ 201) (hq : τ' 186 22 = τ 186 22) (hr : τ' 186 23 = τ 186 23) : iLx σ' τ' := by
  obtain ⟨A, B, P, Q⟩ := hL
  refine ⟨fun c m p h0 h1 h2 h3 h4 h5 => ?_, by rw [h24, hs]; exact B, fun c m p h0 h1 h2 h3 h4 h5 => ?_, by rw [hs, hq]; exact Q⟩
  · have w := A c m p h0 h1 h2 h3 h4 h5
    unfold LB at w ⊢
    show lkR _ _ _ _ (τ' 199 ((32 * c + m) * 64 + p))
    rw [h20 20 (by omega) c m h0 h1 h2 h3, h20 21 (by omega) c m h0 h1 h2 h3, h20 22 (by omega) c m h0 h1 h2 h3, h20 23 (by omega) c m h0 h1 h2 h3, ht c m p h0 h1 h2 h3 h4 h5]
    by_cases q : m = f
    · rw [if_pos q, if_pos q, if_pos q, if_pos q, if_pos q, ofInt0]; exact lkR_0 bt_0 bt_0 bt_0 bt_0
    · rw [if_neg q, if_neg q, if_neg q, if_neg q, if_neg q]; exact w
  · rw [ht c m p h0 h1 h2 h3 h4 h5, hs, hq, hr]
    by_cases q : m = f
    · rw [if_pos q]; exact gP_0
    · rw [if_neg q]; exact P c m p h0 h1 h2 h3 h4 h5
theorem delD_at {f : Int} {q : Nat} (hq : ¬ q = 20 ∧ ¬ q = 21 ∧ ¬ q = 22 ∧ ¬ q = 23) (h25 : ¬ q = 25) : delD σ f q = (upc (upc (upc (upc (upc σ 14 (upi (σ 14) f (-1))) 15 (upi (σ 15) f (-1))) 16 (upi (σ 16) f 0)) 17 (upi (σ 17) f 0)) 18 (fillF (σ 18) (f * 64 + 0) (f * 64 + σ 17 f) 0)) q := by
  unfold delD
  rw [upc_ne _ _ h25, delN_out hq]
theorem sp_remove (hT : iTr σ τ) (hB : iBy σ τ) (hH : iHa σ τ) (hL : iLx σ τ) {m : Int} (hm : 0 ≤ m ∧ m < 32) (hn : m = σ 11 11) (hk : σ 14 m = 1) : stP σ τ (stRemove σ) (mRemove τ m (σ 11 9)) := by
  unfold stRemove mRemove
  rw [← hn, find_eq hT hm.1, if_neg (show ¬ ¬ τ 197 (220 + m) = 1 from not_not_intro (by rw [← (hT.1 m hm.1 hm.2).1, hk]))]
  have fs := find_spec hT (dr := m) (w := σ 11 9)
  generalize fnM τ m (σ 11 9) = f at *
  by_cases q2 : f = -1
  · rw [if_pos q2, if_pos (by omega)]; exact Or.inl ⟨2, by decide, rfl, rfl⟩
  · obtain ⟨f1, f2, f3, f4⟩ := fs.resolve_left q2
    rw [if_neg q2, if_neg (show ¬ f < 0 by omega)]
    have ea : anyB (fun i => decide (σ 15 i = f)) 32 0 = anyB (fun i => decide (0 ≤ τ 197 (220 + i) ∧ τ 197 (252 + i) = f)) 31 1 := by
      rw [anyB_32 (by simp only [decide_eq_false_iff_not]; rw [hT.2.1.2.1]; omega)]
      refine anyB_congr _ _ fun j h0 h1 => ?_
      rw [decide_eq_decide]
      obtain ⟨k1, k2, k3⟩ := hT.1 j (by omega) (by omega)
      by_cases q : σ 14 j = -1
      · rw [(hT.2.2.1 j h0 (by omega) q).1]; constructor <;> intro x <;> omega
      · rw [(hT.2.2.2.1 j h0 (by omega) (by omega)).1]; constructor
        · intro x; exact ⟨by omega, x⟩
        · intro x; exact x.2
    by_cases q3 : anyB (fun i => decide (σ 15 i = f)) 32 0 = true
    · rw [if_pos q3, if_pos (by rw [← ea]; exact q3)]; exact Or.inl ⟨7, by decide, rfl, rfl⟩
    · rw [if_neg q3, if_neg (by rw [← ea]; exact q3)]
      have hc : ∀ i, 1 ≤ i → i < 32 → ¬ σ 15 i = f := fun i h0 h1 w => q3 ((anyB_iff _ _).mpr ⟨i, by omega, by omega, by rw [decide_eq_true_eq]; exact w⟩)
      right
      have n4 : ∀ q : Nat, q = 20 ∨ q = 21 ∨ q = 22 ∨ q = 23 → ¬ q = 25 ∧ ¬ q = 11 ∧ ¬ q = 14 ∧ ¬ q = 15 ∧ ¬ q = 16 ∧ ¬ q = 17 ∧ ¬ q = 18 := by intro q h; omega
      refine ⟨rfl, rfl, ?_, ?_, ?_, ?_, ?_⟩
      · simp only [upc_self, upc_ne, upi_self, upi_ne, ne_eq, Nat.reduceEqDiff, not_false_eq_true, Int.reduceEq]
      · refine tr_del hT f1 hc ?_ ?_ ?_ ?_ fun j h0 h1 h2 => ?_ <;> simp only [upc_self, upc_ne, upi_self, upi_ne, ne_eq, Nat.reduceEqDiff, not_false_eq_true, Int.reduceEq]
        · rw [delD_at (by decide) (by decide)]; simp only [upc_self, upc_ne, upi_self, upi_ne, ne_eq, Nat.reduceEqDiff, not_false_eq_true, Int.reduceEq]
        · rw [delD_at (by decide) (by decide)]; simp only [upc_self, upc_ne, upi_self, upi_ne, ne_eq, Nat.reduceEqDiff, not_false_eq_true, Int.reduceEq]
        · rw [delD_at (by decide) (by decide)]; simp only [upc_self, upc_ne, upi_self, upi_ne, ne_eq, Nat.reduceEqDiff, not_false_eq_true, Int.reduceEq]
        · rw [upi_ne _ _ h2]
      · refine by_del hB f1 ?_ ?_ ?_ fun j h0 h1 => ?_ <;> simp only [upc_self, upc_ne, upi_self, upi_ne, ne_eq, Nat.reduceEqDiff, not_false_eq_true, Int.reduceEq]
        · rw [delD_at (by decide) (by decide)]; simp only [upc_self, upc_ne, upi_self, upi_ne, ne_eq, Nat.reduceEqDiff, not_false_eq_true, Int.reduceEq]
        · rw [delD_at (by decide) (by decide)]; simp only [upc_self, upc_ne, upi_self, upi_ne, ne_eq, Nat.reduceEqDiff, not_false_eq_true, Int.reduceEq]
        · rw [delD_at (by decide) (by decide)]; simp only [upc_self, upc_ne, upi_self, upi_ne, ne_eq, Nat.reduceEqDiff, not_false_eq_true, Int.reduceEq]
        · rw [upi_ne _ _ (by omega)]
      · refine ha_del hH f1 ?_ ?_ ?_ fun j h0 h1 h2 => ?_ <;> simp only [upc_self, upc_ne, upi_self, upi_ne, ne_eq, Nat.reduceEqDiff, not_false_eq_true, Int.reduceEq]
        · unfold delD; rw [upc_self, delN_out (by decide)]; simp only [upc_self, upc_ne, upi_self, upi_ne, ne_eq, Nat.reduceEqDiff, not_false_eq_true, Int.reduceEq]
        · rw [upi_ne _ _ h2]
      · refine lk_del hL (f := f) (by omega) (fun q hq c m h0 h1 h2 h3 => ?_) ?_ (fun c m p h0 h1 h2 h3 h4 h5 => ?_) ?_ ?_ ?_
        · have n := n4 q hq
          show upc (delD σ f) 11 (upi (delD σ f 11) 12 f) q (c * 32 + m) = _
          rw [upc_ne _ _ n.2.1]
          unfold delD
          rw [upc_ne _ _ n.1, delN_in (by omega) hq ⟨h2, h3⟩, upc_ne _ _ n.2.2.2.2.2.2, upc_ne _ _ n.2.2.2.2.2.1, upc_ne _ _ n.2.2.2.2.1, upc_ne _ _ n.2.2.2.1, upc_ne _ _ n.2.2.1]
          by_cases q : m = f
          · rw [if_pos q, if_pos (by omega)]
          · rw [if_neg q, if_neg (by omega)]
        · simp only [upc_self, upc_ne, upi_self, upi_ne, ne_eq, Nat.reduceEqDiff, not_false_eq_true, Int.reduceEq]
          rw [delD_at (by decide) (by decide)]; simp only [upc_self, upc_ne, upi_self, upi_ne, ne_eq, Nat.reduceEqDiff, not_false_eq_true, Int.reduceEq]
        · simp only [upc_self, upc_ne, upi_self, upi_ne, ne_eq, Nat.reduceEqDiff, not_false_eq_true, Int.reduceEq]
          rw [fr1_at (g := τ 199) (by omega) ⟨h2, h3⟩ ⟨h4, h5⟩]
          by_cases q : m = f
          · rw [if_pos q, if_pos (by omega)]
          · rw [if_neg q, if_neg (by omega)]
        · simp only [upc_self, upc_ne, upi_self, upi_ne, ne_eq, Nat.reduceEqDiff, not_false_eq_true, Int.reduceEq]
        · simp only [upc_self, upc_ne, upi_self, upi_ne, ne_eq, Nat.reduceEqDiff, not_false_eq_true, Int.reduceEq]
        · simp only [upc_self, upc_ne, upi_self, upi_ne, ne_eq, Nat.reduceEqDiff, not_false_eq_true, Int.reduceEq]
/-- counting -/
theorem cnt_add {p : Int → Bool} : ∀ (k : Nat) (i c : Int), cnt p k i (c + 1) = cnt p k i c + 1
  | 0, _, _ => rfl
  | k + 1, i, c => by
    unfold cnt
    split
    · exact cnt_add k _ _
    · exact cnt_add k _ _
theorem cnt_le {p : Int → Bool} : ∀ (k : Nat) (i c : Int), c ≤ cnt p k i c ∧ cnt p k i c ≤ c + k
  | 0, _, c => by unfold cnt; omega
  | k + 1, i, c => by
    unfold cnt
    split
    · have := cnt_le (p := p) k (i + 1) (c + 1); omega
    · have := cnt_le (p := p) k (i + 1) c; omega
theorem cnt_mono {p q : Int → Bool} : ∀ (k : Nat) (i c : Int), (∀ j, i ≤ j → j < i + k → p j = true → q j = true) → cnt p k i c ≤ cnt q k i c
  | 0, _, _, _ => Int.le_refl _
  | k + 1, i, c, h => by
    unfold cnt
    have hi := h i (by omega) (by omega)
    cases hp : p i <;> cases hq : q i
    · exact cnt_mono k _ _ fun j h0 h1 => h j (by omega) (by omega)
    · have := cnt_mono (p := p) (q := q) k (i + 1) c fun j h0 h1 => h j (by omega) (by omega)
      simp only [Bool.false_eq_true, if_false, if_true]
      rw [cnt_add]; omega
    · rw [hp, hq] at hi; exact absurd (hi rfl) (by decide)
    · exact cnt_mono k _ _ fun j h0 h1 => h j (by omega) (by omega)
theorem cnt_lt {p q : Int → Bool} : ∀ (k : Nat) (i c : Int), (∀ j, i ≤ j → j < i + k → p j = true → q j = true) → (∃ j, i ≤ j ∧ j < i + k ∧ p j = false ∧ q j = true) → cnt p k i c < cnt q k i c
  | 0, i, _, _, ⟨j, h0, h1, _⟩ => by omega
  | k + 1, i, c, h, ⟨j, h0, h1, h2, h3⟩ => by
    unfold cnt
    have hi := h i (by omega) (by omega)
    have hm := cnt_mono (p := p) (q := q) k (i + 1) c fun j h0 h1 => h j (by omega) (by omega)
    by_cases e : j = i
    · subst e
      rw [h2, h3]
      simp only [Bool.false_eq_true, if_false, if_true]
      rw [cnt_add]; omega
    · have hl := fun c => cnt_lt (p := p) (q := q) k (i + 1) c (fun j h0 h1 => h j (by omega) (by omega)) ⟨j, by omega, by omega, h2, h3⟩
      cases hp : p i <;> cases hq : q i
      · exact hl _
      · simp only [Bool.false_eq_true, if_false, if_true]
        rw [cnt_add]; have := hl c; omega
      · rw [hp, hq] at hi; exact absurd (hi rfl) (by decide)
      · exact hl _
abbrev parM (τ : mG) : Int → Int := fun x => τ 197 (252 + x)
theorem tm_0 {P : Int → Int} {x : Int} (h : x ≤ 0) : ∀ k, tmM P k x
  | 0 => h
  | _ + 1 => Or.inl h
/-- every chain of parents ends -/
theorem tm_live (hT : iTr σ τ) {t : Int} (h0 : 0 ≤ t ∧ t < 32) (hl : 0 ≤ σ 14 t) : tmM (parM τ) 32 t := by
  obtain ⟨A, B, C, E, F, r, R⟩ := hT
  have key : ∀ (k : Nat) (x : Int), 0 ≤ x → x < 32 → 0 ≤ σ 14 x → cnt (fun j => decide (0 ≤ σ 14 j ∧ r j ≤ r x)) 31 1 0 ≤ k → tmM (parM τ) k x := by
    intro k
    induction k with
    | zero =>
      intro x h0 h1 h2 h3
      by_cases e : x = 0
      · exact tm_0 (by omega) 0
      · exfalso
        have w := cnt_lt (p := fun _ => false) (q := fun j => decide (0 ≤ σ 14 j ∧ r j ≤ r x)) 31 1 0 (fun j _ _ h => absurd h (by simp)) ⟨x, by omega, by omega, rfl, by rw [decide_eq_true_eq]; exact ⟨h2, Int.le_refl _⟩⟩
        have w2 := (cnt_le (p := fun _ => false) 31 1 0).1
        omega
    | succ k ih =>
      intro x h0 h1 h2 h3
      by_cases e : x = 0
      · exact tm_0 (by omega) _
      · obtain ⟨e1, e2, e3, e4, e5, e6⟩ := E x (by omega) h1 h2
        have rr := R x (by omega) h1 h2
        right
        show tmM (parM τ) k (τ 197 (252 + x))
        rw [← e1]
        refine ih (σ 15 x) e4 e5 e6 ?_
        have w := cnt_lt (p := fun j => decide (0 ≤ σ 14 j ∧ r j ≤ r (σ 15 x))) (q := fun j => decide (0 ≤ σ 14 j ∧ r j ≤ r x)) 31 1 0 (fun j _ _ h => by
          rw [decide_eq_true_eq] at h ⊢; exact ⟨h.1, by omega⟩) ⟨x, by omega, by omega, by rw [decide_eq_false_iff_not]; omega, by rw [decide_eq_true_eq]; exact ⟨h2, Int.le_refl _⟩⟩
        omega
  refine key 32 t h0.1 h0.2 hl ?_
  have := (cnt_le (p := fun j => decide (0 ≤ σ 14 j ∧ r j ≤ r t)) 31 1 0).2
  omega
theorem li_ind {P : Int → Int} {m : Int} : ∀ (k : Nat) (x : Int), tmM P k x → ∀ a b, k ≤ a → k ≤ b → liM P m a x = liM P m b x := by
  have z : ∀ a x, x ≤ 0 → liM P m a x = false := by
    intro a x h
    cases a
    · rfl
    · unfold liM; rw [if_pos h]
  intro k
  induction k with
  | zero => intro x h a b _ _; rw [z a x h, z b x h]
  | succ k ih =>
    intro x h a b ha hb
    by_cases e : x ≤ 0
    · rw [z a x e, z b x e]
    · obtain ⟨a, rfl⟩ : ∃ a', a = a' + 1 := ⟨a - 1, by omega⟩
      obtain ⟨b, rfl⟩ : ∃ b', b = b' + 1 := ⟨b - 1, by omega⟩
      unfold liM
      rw [ih (P x) (h.resolve_left e) a b (by omega) (by omega)]
theorem lies_m1 {P : Int → Int} {m : Int} : ∀ k, lies P m k (-1) = false
  | 0 => rfl
  | _ + 1 => by unfold lies; rw [if_pos rfl]
theorem lies_eq (hT : iTr σ τ) {m : Int} (hm : 1 ≤ m) : ∀ (k : Nat) (x : Int), 0 ≤ x → x < 32 → 0 ≤ σ 14 x → tmM (parM τ) k x → ∀ a b, k ≤ a → k ≤ b → lies (σ 15) m a x = liM (parM τ) m b x := by
  have z : ∀ b, liM (parM τ) m b 0 = false := by
    intro b
    cases b
    · rfl
    · unfold liM; rw [if_pos (by omega)]
  have y : ∀ a, lies (σ 15) m a 0 = false := by
    intro a
    cases a
    · rfl
    · unfold lies; rw [if_neg (by omega), if_neg (by omega), hT.2.1.2.1, lies_m1]
  intro k
  induction k with
  | zero =>
    intro x h0 h1 h2 h a b _ _
    obtain rfl : x = 0 := by have : x ≤ 0 := h; omega
    rw [z, y]
  | succ k ih =>
    intro x h0 h1 h2 h a b ha hb
    by_cases e : x = 0
    · subst e; rw [z, y]
    · obtain ⟨a, rfl⟩ : ∃ a', a = a' + 1 := ⟨a - 1, by omega⟩
      obtain ⟨b, rfl⟩ : ∃ b', b = b' + 1 := ⟨b - 1, by omega⟩
      obtain ⟨e1, e2, e3, e4, e5, e6⟩ := hT.2.2.2.1 x (by omega) h1 h2
      have h := h.resolve_left (by omega)
      unfold lies liM
      rw [if_neg (show ¬ x = -1 by omega), if_neg (show ¬ x ≤ 0 by omega)]
      have h' : tmM (parM τ) k (σ 15 x) := by rw [e1]; exact h
      have w := ih (σ 15 x) e4 e5 e6 h' a b (by omega) (by omega)
      show (if x = m then true else lies (σ 15) m a (σ 15 x)) = if x = m then true else liM (parM τ) m b (τ 197 (252 + x))
      rw [w, e1]
theorem tr_put (hT : iTr σ τ) {f t c : Int} (hf : 1 ≤ f ∧ f < 32) (hl : 0 ≤ σ 14 f) (ht : 0 ≤ t ∧ t < 32) (hk : 0 ≤ σ 14 t) (hc : ¬ c = 0) (hs : liM (parM τ) f 33 t = false)
    (h14 : σ' 14 = σ 14) (h15 : σ' 15 = upi (σ 15) f t) (h16 : σ' 16 = upi (σ 16) f c) (t2 : τ' 197 (252 + f) = t) (t3 : τ' 197 (284 + f) = c)
    (te : ∀ j, 220 ≤ j → j < 316 → ¬ j = 252 + f → ¬ j = 284 + f → τ' 197 j = τ 197 j) : iTr σ' τ' := by
  have tl := fun {x : Int} => tm_live (t := x) hT
  obtain ⟨A, B, C, E, F, r, R⟩ := hT
  unfold iTr
  rw [h14, h15, h16]
  refine ⟨fun i h0 h1 => ?_, ?_, fun i h0 h1 q => ?_, fun i h0 h1 => ?_, fun i h0 h1 => ?_, fun x => r x + if liM (parM τ) f 33 x = true then (if r t < r f then 0 else r t - r f + 1) else 0, fun i h0 h1 hi => ?_⟩
  · rw [te _ (by omega) (by omega) (by omega) (by omega)]; exact A i h0 h1
  · rw [upi_ne _ _ (by omega), upi_ne _ _ (by omega)]; exact B
  · have n : ¬ i = f := fun w => by rw [w] at q; omega
    rw [upi_ne _ _ n, upi_ne _ _ n]; exact C i h0 h1 q
  · by_cases q : i = f
    · subst q; rw [upi_self, upi_self, t2, t3]; exact fun _ => ⟨rfl, rfl, hc, ht.1, ht.2, hk⟩
    · rw [upi_ne _ _ q, upi_ne _ _ q, te _ (by omega) (by omega) (by omega) (by omega), te _ (by omega) (by omega) (by omega) (by omega)]
      exact E i h0 h1
  · by_cases q : i = f
    · subst q; rw [t2]; omega
    · rw [te _ (by omega) (by omega) (by omega) (by omega)]; exact F i h0 h1
  · by_cases q : i = f
    · subst q
      rw [upi_self]
      have w : liM (parM τ) i 33 i = true := by unfold liM; rw [if_neg (by omega), if_pos rfl]
      simp only [w, hs, Bool.false_eq_true, if_false, if_true]
      split <;> omega
    · rw [upi_ne _ _ q]
      obtain ⟨e1, e2, e3, e4, e5, e6⟩ := E i h0 h1 hi
      have w : liM (parM τ) f 33 i = liM (parM τ) f 33 (σ 15 i) := by
        have u := li_ind (m := f) 32 (σ 15 i) (tl ⟨e4, e5⟩ e6) 32 33 (by omega) (by omega)
        rw [← u, e1]
        show (if i ≤ 0 then false else if i = f then true else liM (parM τ) f 32 (parM τ i)) = _
        rw [if_neg (by omega), if_neg q]
      have rr := R i h0 h1 hi
      simp only [w]
      omega
theorem sp_move (hT : iTr σ τ) (hB : iBy σ τ) (hH : iHa σ τ) (hL : iLx σ τ) (h3 : (0 ≤ σ 11 3 ∧ σ 11 3 < 4) ∧ σ 11 3 = τ 186 24) {m : Int} (hm : 0 ≤ m ∧ m < 32) (hn : m = σ 11 11) : stP σ τ (stMove σ) (mMove τ m (σ 11 8) (σ 11 9) (σ 11 10)) := by
  unfold stMove mMove
  rw [← hn, find_eq hT hm.1, ← h3.2]
  by_cases q1 : 0 ≤ σ 11 8 ∧ σ 11 8 < 8
  · rw [if_neg (not_not_intro q1), if_neg (not_not_intro q1), hH.1 _ _ h3.1.1 h3.1.2 q1.1 q1.2]
    have tl := nod_live hT hH h3.1 q1
    generalize nodF τ (σ 11 3) (σ 11 8) = t at *
    by_cases q2 : t = -1
    · rw [if_pos q2, if_pos (by omega)]; exact Or.inl ⟨1, by decide, rfl, rfl⟩
    · obtain ⟨t1, t2⟩ := tl.resolve_left q2
      rw [if_neg q2, if_neg (show ¬ t < 0 by omega), find_eq hT t1.1, (hT.1 m hm.1 hm.2).1, (hT.1 t t1.1 t1.2).1]
      by_cases q3 : ¬ τ 197 (220 + m) = 1 ∨ ¬ τ 197 (220 + t) = 1
      · rw [if_pos q3, if_pos q3]; exact Or.inl ⟨4, by decide, rfl, rfl⟩
      · rw [if_neg q3, if_neg q3]
        by_cases q4 : σ 11 10 = 0
        · rw [if_pos q4, if_pos q4]; exact Or.inl ⟨6, by decide, rfl, rfl⟩
        · rw [if_neg q4, if_neg q4]
          have fs := find_spec hT (dr := m) (w := σ 11 9)
          have gs := find_spec hT (dr := t) (w := σ 11 10)
          generalize fnM τ m (σ 11 9) = f at *
          generalize fnM τ t (σ 11 10) = g at *
          by_cases q5 : f = -1
          · rw [if_pos q5, if_pos (by omega)]; exact Or.inl ⟨2, by decide, rfl, rfl⟩
          · obtain ⟨f1, f2, f3, f4⟩ := fs.resolve_left q5
            rw [if_neg q5, if_neg (show ¬ f < 0 by omega)]
            by_cases q6 : ¬ g = -1 ∧ ¬ g = f
            · rw [if_pos q6, if_pos (by omega)]; exact Or.inl ⟨3, by decide, rfl, rfl⟩
            · rw [if_neg q6, if_neg (show ¬ (0 ≤ g ∧ ¬ g = f) by omega), lies_eq hT f1.1 32 t t1.1 t1.2 t2 (tm_live hT t1 t2) 32 33 (by omega) (by omega)]
              by_cases q7 : liM (parM τ) f 33 t = true
              · rw [if_pos q7, if_pos q7]; exact Or.inl ⟨8, by decide, rfl, rfl⟩
              · rw [if_neg q7, if_neg q7]
                right
                refine ⟨rfl, rfl, ?_, ?_, ?_, ?_, ?_⟩
                · simp only [upc_self, upc_ne, upi_self, upi_ne, ne_eq, Nat.reduceEqDiff, not_false_eq_true, Int.reduceEq]
                · refine tr_put hT f1 f2 t1 t2 q4 (Bool.eq_false_iff.mpr q7) ?_ ?_ ?_ ?_ ?_ fun j h0 h1 h2 h3 => ?_ <;> simp only [upc_self, upc_ne, upi_self, upi_ne, ne_eq, Nat.reduceEqDiff, not_false_eq_true, Int.reduceEq]
                  · rw [upi_ne _ _ (by omega), upi_self]
                  · rw [upi_ne _ _ (by omega), upi_ne _ _ (by omega)]
                · refine iBy_fr hB ?_ ?_ ?_ fun j h0 h1 => ?_ <;> simp only [upc_self, upc_ne, upi_self, upi_ne, ne_eq, Nat.reduceEqDiff, not_false_eq_true, Int.reduceEq]
                  rw [upi_ne _ _ (by omega), upi_ne _ _ (by omega)]
                · refine iHa_fr hH ?_ ?_ fun j h0 h1 => ?_ <;> simp only [upc_self, upc_ne, upi_self, upi_ne, ne_eq, Nat.reduceEqDiff, not_false_eq_true, Int.reduceEq]
                  rw [upi_ne _ _ (by omega), upi_ne _ _ (by omega)]
                · refine iLx_fr hL ?_ ?_ ?_ ?_ ?_ ?_ ?_ ?_ ?_ <;> simp only [upc_self, upc_ne, upi_self, upi_ne, ne_eq, Nat.reduceEqDiff, not_false_eq_true, Int.reduceEq]
  · rw [if_pos q1, if_pos q1]; exact Or.inl ⟨6, by decide, rfl, rfl⟩
abbrev lsP (τ : mG) (m a : Int) : Int → Bool := fun i => decide (0 ≤ τ 197 (220 + i) ∧ τ 197 (252 + i) = m ∧ lessM (τ 197) m (τ 197 (284 + i)) 31 1 0 = a)
theorem mList_eq {m a : Int} : ∀ (k : Nat) (i : Int), 0 ≤ i → mList τ m a k i = if fnd (lsP τ m a) k i = -1 then (2, τ) else (0, upc τ 186 (upi (τ 186) 25 (τ 197 (284 + fnd (lsP τ m a) k i))))
  | 0, i, _ => by unfold mList fnd; rw [if_pos rfl]
  | k + 1, i, h => by
    unfold mList fnd
    by_cases q : 0 ≤ τ 197 (220 + i) ∧ τ 197 (252 + i) = m ∧ lessM (τ 197) m (τ 197 (284 + i)) 31 1 0 = a
    · rw [if_pos q, if_pos (show lsP τ m a i = true by unfold lsP; rw [decide_eq_true_eq]; exact q), if_neg (by omega)]
    · rw [if_neg q, if_neg (show ¬ lsP τ m a i = true by unfold lsP; rw [decide_eq_true_eq]; exact q)]
      exact mList_eq k (i + 1) (by omega)
theorem sp_list (hT : iTr σ τ) (hB : iBy σ τ) (hH : iHa σ τ) (hL : iLx σ τ) {m : Int} (hm : 0 ≤ m ∧ m < 32) (hn : m = σ 11 11) (hk : σ 14 m = 1) : stP σ τ (stList σ) (if ¬ τ 197 (220 + m) = 1 then (4, τ) else mList τ m (σ 11 8) 31 1) := by
  rw [if_neg (show ¬ ¬ τ 197 (220 + m) = 1 from not_not_intro (by rw [← (hT.1 m hm.1 hm.2).1, hk])), mList_eq _ _ (by omega)]
  unfold stList
  simp only
  rw [← hn]
  have z0 : ¬ σ 15 0 = m := by rw [hT.2.1.2.1]; omega
  have pe : ∀ w j, 1 ≤ j → j < 32 → (σ 15 j = m ∧ σ 16 j < w ↔ 0 ≤ τ 197 (220 + j) ∧ τ 197 (252 + j) = m ∧ τ 197 (284 + j) < w) := by
    intro w j h0 h1
    obtain ⟨k1, k2, k3⟩ := hT.1 j (by omega) (by omega)
    by_cases q : σ 14 j = -1
    · rw [(hT.2.2.1 j h0 (by omega) q).1]; constructor <;> intro x <;> omega
    · obtain ⟨e1, e2, _⟩ := hT.2.2.2.1 j h0 (by omega) (by omega)
      rw [e1, e2]; constructor
      · intro x; exact ⟨by omega, x⟩
      · intro x; exact x.2
  have ce : ∀ w, cnt (fun j => decide (σ 15 j = m ∧ σ 16 j < w)) 32 0 0 = lessM (τ 197) m w 31 1 0 := by
    intro w
    rw [cnt_32 (by simp only [decide_eq_false_iff_not]; exact fun x => z0 x.1)]
    unfold lessM
    exact cnt_congr _ _ _ fun j h0 h1 => by rw [decide_eq_decide]; exact pe w j h0 (by omega)
  have fe : fnd (fun i => decide (σ 15 i = m ∧ cnt (fun j => decide (σ 15 j = m ∧ σ 16 j < σ 16 i)) 32 0 0 = σ 11 8)) 32 0 = fnd (lsP τ m (σ 11 8)) 31 1 := by
    rw [fnd_32 (by simp only [decide_eq_false_iff_not]; exact fun x => z0 x.1)]
    refine fnd_congr _ _ fun j h0 h1 => ?_
    unfold lsP
    rw [decide_eq_decide, ce]
    obtain ⟨k1, k2, k3⟩ := hT.1 j (by omega) (by omega)
    by_cases q : σ 14 j = -1
    · rw [(hT.2.2.1 j h0 (by omega) q).1]; constructor <;> intro x <;> omega
    · obtain ⟨e1, e2, _⟩ := hT.2.2.2.1 j h0 (by omega) (by omega)
      rw [e1, e2]; constructor
      · intro x; exact ⟨by omega, x⟩
      · intro x; exact x.2
  rw [fe]
  rcases fnd_spec (f := lsP τ m (σ 11 8)) 31 1 with ⟨q, _⟩ | ⟨q1, q2, q3, _⟩
  · rw [if_pos q, if_pos q]; exact Or.inl ⟨2, by decide, rfl, rfl⟩
  · generalize fnd (lsP τ m (σ 11 8)) 31 1 = f at *
    rw [if_neg (by omega), if_neg (by omega)]
    unfold lsP at q3
    rw [decide_eq_true_eq] at q3
    obtain ⟨k1, k2, k3⟩ := hT.1 f (by omega) (by omega)
    obtain ⟨e1, e2, _⟩ := hT.2.2.2.1 f q1 (by omega) (by omega)
    right
    refine ⟨rfl, rfl, ?_, ?_, ?_, ?_, ?_⟩
    · simp only [e2, upc_self, upc_ne, upi_self, upi_ne, ne_eq, Nat.reduceEqDiff, not_false_eq_true, Int.reduceEq]
    · refine iTr_fr hT ?_ ?_ ?_ fun j h0 h1 => ?_ <;> simp only [upc_self, upc_ne, upi_self, upi_ne, ne_eq, Nat.reduceEqDiff, not_false_eq_true, Int.reduceEq]
    · refine iBy_fr hB ?_ ?_ ?_ fun j h0 h1 => ?_ <;> simp only [upc_self, upc_ne, upi_self, upi_ne, ne_eq, Nat.reduceEqDiff, not_false_eq_true, Int.reduceEq]
    · refine iHa_fr hH ?_ ?_ fun j h0 h1 => ?_ <;> simp only [upc_self, upc_ne, upi_self, upi_ne, ne_eq, Nat.reduceEqDiff, not_false_eq_true, Int.reduceEq]
    · refine iLx_fr hL ?_ ?_ ?_ ?_ ?_ ?_ ?_ ?_ ?_ <;> simp only [upc_self, upc_ne, upi_self, upi_ne, ne_eq, Nat.reduceEqDiff, not_false_eq_true, Int.reduceEq]
end ST2
