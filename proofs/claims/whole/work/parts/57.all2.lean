/-! 57.all2: stop, boot, start, step, send -/
section ALL2
variable {σ τ σ' τ' : mG} {k : Int}
theorem p_halt (h : iAll k σ τ) (hr : σ 10 3 = 1) : iAll k (hlC σ) (haltF τ) := by
  obtain ⟨a, b, c, e, f1, f2, f3⟩ := h
  obtain ⟨c1, c2, c3, c4, c5, c6⟩ := c
  have so : ∀ q : Nat, ¬ q = 10 → hlC σ q = σ q := fun q hq => upc_ne _ _ hq
  have s10 : hlC σ 10 = upi (upi (σ 10) 3 0) 4 (-1) := by unfold hlC; rw [upc_self]
  have p186 : psF 4 0 τ 186 = τ 186 := psF_out (by decide) (by decide) _ _ _
  have t186 : haltF τ 186 = upi (upi (τ 186) 21 0) 19 0 := by unfold haltF; simp only [p186, upc_self, upc_ne, upi_self, upi_ne, ne_eq, Nat.reduceEqDiff, not_false_eq_true, Int.reduceEq]
  have to : ∀ q : Nat, ¬ q = 186 → ¬ q = 199 → ¬ q = 201 → haltF τ q = τ q := by
    intro q h1 h2 h3
    unfold haltF
    rw [upc_ne _ _ h3, upc_ne _ _ h2, upc_ne _ _ h1, psF_out h2 h3]
  have tj : ∀ j, ¬ j = 19 → ¬ j = 21 → haltF τ 186 j = τ 186 j := by intro j h1 h2; rw [t186, upi_ne _ _ h1, upi_ne _ _ h2]
  have ls := lk_halt (f2 hr)
  refine ⟨iDs_fr a (fun q hq => so q (by omega)) (to 197 (by decide) (by decide) (by decide)) (tj 18 (by decide) (by decide)), iCs_fr b (fun q hq => so q (by omega)) (fun q h0 h1 => to q (by omega) (by omega) (by omega)) (tj 9 (by decide) (by decide)), ?_, iBd_fr e (to 187 (by decide) (by decide) (by decide)) (to 190 (by decide) (by decide) (by decide)) (to 195 (by decide) (by decide) (by decide)) (to 197 (by decide) (by decide) (by decide)) (tj 9 (by decide) (by decide)), ls_B ls, fun w => ?_, fun _ => ?_⟩
  · unfold iSc
    rw [s10, tj 22 (by decide) (by decide), tj 23 (by decide) (by decide), tj 18 (by decide) (by decide), t186]
    simp only [upc_self, upc_ne, upi_self, upi_ne, ne_eq, Nat.reduceEqDiff, not_false_eq_true, Int.reduceEq]
    exact ⟨c1, c2, ⟨trivial, Or.inl trivial⟩, c4, Or.inl ⟨trivial, trivial⟩, c6⟩
  · rw [s10, upi_ne _ _ (by decide), upi_self] at w; omega
  · exact iLs_fr ls (so 20 (by decide)) (so 21 (by decide)) (so 22 (by decide)) (so 23 (by decide)) rfl rfl
theorem p_arm (h : iAll k σ τ) {s v : Int} (hs : 0 ≤ s) : iAll k (upc σ 10 (upi (σ 10) 4 s)) (upc τ 186 (upi (upi (upi (τ 186) 0 v) 21 1) 20 s)) := by
  obtain ⟨a, b, c, e, f1, f2, f3⟩ := h
  obtain ⟨c1, c2, c3, c4, c5, c6⟩ := c
  have so : ∀ q : Nat, ¬ q = 10 → (upc σ 10 (upi (σ 10) 4 s)) q = σ q := fun q hq => upc_ne _ _ hq
  have to : ∀ q : Nat, ¬ q = 186 → (upc τ 186 (upi (upi (upi (τ 186) 0 v) 21 1) 20 s)) q = τ q := fun q hq => upc_ne _ _ hq
  have tj : ∀ j, ¬ j = 0 → ¬ j = 21 → ¬ j = 20 → (upc τ 186 (upi (upi (upi (τ 186) 0 v) 21 1) 20 s)) 186 j = τ 186 j := by intro j h1 h2 h3; rw [upc_self, upi_ne _ _ h3, upi_ne _ _ h2, upi_ne _ _ h1]
  have s3 : (upc σ 10 (upi (σ 10) 4 s)) 10 3 = σ 10 3 := by simp only [upc_self, upc_ne, upi_self, upi_ne, ne_eq, Nat.reduceEqDiff, not_false_eq_true, Int.reduceEq]
  refine ⟨iDs_fr a (fun q hq => so q (by omega)) (to 197 (by decide)) (tj 18 (by decide) (by decide) (by decide)), iCs_fr b (fun q hq => so q (by omega)) (fun q h0 h1 => to q (by omega)) (tj 9 (by decide) (by decide) (by decide)), ?_, iBd_fr e (to 187 (by decide)) (to 190 (by decide)) (to 195 (by decide)) (to 197 (by decide)) (tj 9 (by decide) (by decide) (by decide)), ?_, fun w => ?_, fun w => ?_⟩
  · unfold iSc
    rw [tj 22 (by decide) (by decide) (by decide), tj 23 (by decide) (by decide) (by decide), tj 18 (by decide) (by decide) (by decide), tj 19 (by decide) (by decide) (by decide)]
    simp only [upc_self, upc_ne, upi_self, upi_ne, ne_eq, Nat.reduceEqDiff, not_false_eq_true, Int.reduceEq]
    exact ⟨c1, c2, c3, c4, Or.inr ⟨hs, trivial, trivial⟩, c6⟩
  · rw [to 199 (by decide)]; exact f1
  · rw [s3] at w
    exact iLr_fr (f2 w) (so 20 (by decide)) (so 21 (by decide)) (so 22 (by decide)) (so 23 (by decide)) (so 24 (by decide)) (to 199 (by decide)) (to 201 (by decide)) (tj 22 (by decide) (by decide) (by decide)) (tj 23 (by decide) (by decide) (by decide))
  · rw [s3] at w
    exact iLs_fr (f3 w) (so 20 (by decide)) (so 21 (by decide)) (so 22 (by decide)) (so 23 (by decide)) (to 199 (by decide)) (to 201 (by decide))
theorem p_boot (h : iAll k σ τ) (hr : σ 10 3 = 0) {v : Int} : iAll k (upc (endLa 4 0 (bFs 128 0 σ)) 10 (upi (upi (σ 10) 6 (σ 10 5 + 30000)) 3 1)) (upc τ 186 (upi (upi (upi (τ 186) 0 v) 19 1) 23 (τ 186 22 + 30000))) := by
  obtain ⟨a, b, c, e, f1, f2, f3⟩ := h
  obtain ⟨c1, c2, c3, c4, c5, c6⟩ := c
  have so : ∀ q : Nat, ¬ q = 10 → ¬ q = 20 → ¬ q = 21 → ¬ q = 22 → ¬ q = 23 → ¬ q = 24 → (upc (endLa 4 0 (bFs 128 0 σ)) 10 (upi (upi (σ 10) 6 (σ 10 5 + 30000)) 3 1)) q = σ q := by
    intro q h1 h2 h3 h4 h5 h6
    rw [upc_ne _ _ h1, endLa_out ⟨h2, h3, h6⟩, bFs_out ⟨h4, h5⟩]
  have to : ∀ q : Nat, ¬ q = 186 → (upc τ 186 (upi (upi (upi (τ 186) 0 v) 19 1) 23 (τ 186 22 + 30000))) q = τ q := fun q hq => upc_ne _ _ hq
  have tj : ∀ j, ¬ j = 0 → ¬ j = 19 → ¬ j = 23 → (upc τ 186 (upi (upi (upi (τ 186) 0 v) 19 1) 23 (τ 186 22 + 30000))) 186 j = τ 186 j := by intro j h1 h2 h3; rw [upc_self, upi_ne _ _ h3, upi_ne _ _ h2, upi_ne _ _ h1]
  have t23 : (upc τ 186 (upi (upi (upi (τ 186) 0 v) 19 1) 23 (τ 186 22 + 30000))) 186 23 = τ 186 22 + 30000 := by rw [upc_self, upi_self]
  refine ⟨iDs_fr a (fun q hq => so q (by omega) (by omega) (by omega) (by omega) (by omega) (by omega)) (to 197 (by decide)) (tj 18 (by decide) (by decide) (by decide)), iCs_fr b (fun q hq => so q (by omega) (by omega) (by omega) (by omega) (by omega) (by omega)) (fun q h0 h1 => to q (by omega)) (tj 9 (by decide) (by decide) (by decide)), ?_, iBd_fr e (to 187 (by decide)) (to 190 (by decide)) (to 195 (by decide)) (to 197 (by decide)) (tj 9 (by decide) (by decide) (by decide)), ?_, fun _ => ?_, fun w => ?_⟩
  · unfold iSc
    rw [tj 22 (by decide) (by decide) (by decide), t23, tj 18 (by decide) (by decide) (by decide), tj 21 (by decide) (by decide) (by decide), tj 20 (by decide) (by decide) (by decide)]
    simp only [upc_self, upc_ne, upi_self, upi_ne, ne_eq, Nat.reduceEqDiff, not_false_eq_true, Int.reduceEq]
    exact ⟨c1, c2, ⟨trivial, Or.inr trivial⟩, by rw [c1], c5, c6⟩
  · rw [to 199 (by decide)]; exact f1
  · exact lk_boot (f3 hr) c2.1 (fun q hq => upc_ne _ _ (by omega)) (to 199 (by decide)) (to 201 (by decide)) (tj 22 (by decide) (by decide) (by decide)) t23
  · rw [upc_self, upi_self] at w; omega
theorem p_start (h : iAll k σ τ) {c : Int} (hc : 0 ≤ c ∧ c < 4) {v : Int} : iAll (k + 1) (bgF σ c.toNat) (stM c 3 0 (upc (upc τ 186 (upi (τ 186) 0 v)) 187 (upi (τ 187) c (τ 187 c + 1)))) := by
  obtain ⟨a, b, c0, e, f1, f2, f3⟩ := h
  have so : ∀ q : Nat, q < 118 → bgF σ c.toNat q = σ q := by
    intro q hq
    unfold bgF
    rw [fgt_out _ _ _ (fun j w0 w1 => by omega), upc_ne _ _ (by omega)]
  have to : ∀ q : Nat, ¬ q = 186 → ¬ q = 187 → ¬ q = 188 → ¬ q = 190 → ¬ q = 191 → ¬ q = 192 → (stM c 3 0 (upc (upc τ 186 (upi (τ 186) 0 v)) 187 (upi (τ 187) c (τ 187 c + 1)))) q = τ q := by
    intro q h1 h2 h3 h4 h5 h6
    rw [stM_out ⟨h3, h4, h5, h6⟩, upc_ne _ _ h2, upc_ne _ _ h1]
  have tj : ∀ j, ¬ j = 0 → (stM c 3 0 (upc (upc τ 186 (upi (τ 186) 0 v)) 187 (upi (τ 187) c (τ 187 c + 1)))) 186 j = τ 186 j := by
    intro j hj; rw [stM_out (by decide), upc_ne _ _ (by decide), upc_self, upi_ne _ _ hj]
  have t7 := to 197 (by decide) (by decide) (by decide) (by decide) (by decide) (by decide)
  have t9 := to 199 (by decide) (by decide) (by decide) (by decide) (by decide) (by decide)
  have t1 := to 201 (by decide) (by decide) (by decide) (by decide) (by decide) (by decide)
  refine ⟨iDs_fr a (fun q hq => so q (by omega)) t7 (tj 18 (by decide)), ⟨cl_start b.1 hc, iPo_fr b.2 (fun q h0 h1 => so q (by omega)) (to 195 (by decide) (by decide) (by decide) (by decide) (by decide) (by decide)) (to 196 (by decide) (by decide) (by decide) (by decide) (by decide) (by decide)) (tj 9 (by decide))⟩, ?_, ?_, ?_, fun w => ?_, fun w => ?_⟩
  · refine iSc_k ?_
    unfold iSc at *
    rw [so 10 (by omega), tj 22 (by decide), tj 19 (by decide), tj 23 (by decide), tj 21 (by decide), tj 20 (by decide), tj 18 (by decide)]; exact c0
  · obtain ⟨e1, e2, e3⟩ := e
    refine ⟨fun x h0 h1 => ?_, fun t h0 h1 => ?_, fun g h0 h1 => ?_⟩
    · rw [stM_out (by decide), upc_self]
      by_cases z : x = c
      · subst z; rw [upi_self]; have := e1 x h0 h1; omega
      · rw [upi_ne _ _ z]; have := e1 x h0 h1; omega
    · rw [stM_at (by omega), t7, upc_ne _ _ (by decide), upc_ne _ _ (by decide)]
      have := e2 t h0 h1
      have k0 : 0 ≤ τ 190 t := by
        obtain ⟨_, q⟩ := b.1 (t / 3) (by omega) (by omega)
        have := (q (t % 3) (by omega) (by omega)).2.1
        rw [show 3 * (t / 3) + t % 3 = t by omega] at this
        exact this
      refine ⟨?_, by omega⟩
      split <;> omega
    · rw [tj 9 (by decide)] at h1
      rw [to 195 (by decide) (by decide) (by decide) (by decide) (by decide) (by decide)]
      have := e3 g h0 h1; omega
  · rw [t9]; exact f1
  · rw [so 10 (by omega)] at w
    exact iLr_fr (f2 w) (so 20 (by omega)) (so 21 (by omega)) (so 22 (by omega)) (so 23 (by omega)) (so 24 (by omega)) t9 t1 (tj 22 (by decide)) (tj 23 (by decide))
  · rw [so 10 (by omega)] at w
    exact iLs_fr (f3 w) (so 20 (by omega)) (so 21 (by omega)) (so 22 (by omega)) (so 23 (by omega)) t9 t1
/-- where only clients, desks, the post and thrown change -/
theorem all_cl (h : iAll k σ τ) (hcs : iCs σ' τ') (so : ∀ q : Nat, 9 < q → q < 118 → σ' q = σ q) (to : ∀ q : Nat, 196 < q → τ' q = τ q) (tj : ∀ j, ¬ j = 0 → ¬ j = 9 → τ' 186 j = τ 186 j) (hb : iBd (k + 1) τ') : iAll (k + 1) σ' τ' := by
  obtain ⟨a, b, c0, e, f1, f2, f3⟩ := h
  refine ⟨iDs_fr a (fun q hq => so q (by omega) (by omega)) (to 197 (by decide)) (tj 18 (by decide) (by decide)), hcs, ?_, hb, ?_, fun w => ?_, fun w => ?_⟩
  · refine iSc_k ?_
    unfold iSc at *
    rw [so 10 (by omega) (by omega), tj 22 (by decide) (by decide), tj 19 (by decide) (by decide), tj 23 (by decide) (by decide), tj 21 (by decide) (by decide), tj 20 (by decide) (by decide), tj 18 (by decide) (by decide)]; exact c0
  · rw [to 199 (by decide)]; exact f1
  · rw [so 10 (by omega) (by omega)] at w
    exact iLr_fr (f2 w) (so 20 (by omega) (by omega)) (so 21 (by omega) (by omega)) (so 22 (by omega) (by omega)) (so 23 (by omega) (by omega)) (so 24 (by omega) (by omega)) (to 199 (by decide)) (to 201 (by decide)) (tj 22 (by decide) (by decide)) (tj 23 (by decide) (by decide))
  · rw [so 10 (by omega) (by omega)] at w
    exact iLs_fr (f3 w) (so 20 (by omega) (by omega)) (so 21 (by omega) (by omega)) (so 22 (by omega) (by omega)) (so 23 (by omega) (by omega)) (to 199 (by decide)) (to 201 (by decide))
theorem p_step (h : iAll k σ τ) {c s o a1 a2 a3 a4 v : Int} (hc : 0 ≤ c ∧ c < 4) (hs : 0 ≤ s ∧ s < 3) (h2 : ¬ σ (plD c s) 2 = 2) (h4 : ¬ (σ (plD c s) 2 = 1 ∧ σ (plD c s) 3 = 4)) :
    iAll (k + 1) (adF σ (plD c s) (if σ (plD c s) 2 = 1 then σ (plD c s) 3 else 0) o a1 a2 a3 a4) (upc (upc (upc τ 186 (upi (τ 186) 0 v)) 188 (upi (τ 188) (3 * c + s) (τ 188 (3 * c + s) + 1))) 189 (p5 (τ 189) (20 * (3 * c + s) + 5 * τ 188 (3 * c + s)) o a1 a2 a3 a4)) ∧
    (if σ (plD c s) 2 = 1 then σ (plD c s) 3 else 0) = τ 188 (3 * c + s) := by
  obtain ⟨w1, w2⟩ := cl_step (o := o) (a1 := a1) (a2 := a2) (a3 := a3) (a4 := a4) (v := v) h.2.1.1 hc hs h2 h4
  refine ⟨?_, w2⟩
  have eD : plD c s = 120 + 17 * c.toNat + 5 * s.toNat := rfl
  have so : ∀ q : Nat, q < 118 → adF σ (plD c s) (if σ (plD c s) 2 = 1 then σ (plD c s) 3 else 0) o a1 a2 a3 a4 q = σ q := by
    intro q hq; unfold adF; rw [upc_ne _ _ (by omega), upc_ne _ _ (by omega)]
  refine all_cl h ⟨w1, iPo_fr h.2.1.2 (fun q _ h1 => so q (by omega)) ?_ ?_ ?_⟩ (fun q _ h1 => so q h1) (fun q hq => ?_) (fun j h0 _ => ?_) (iBd_k (iBd_fr h.2.2.2.1 ?_ ?_ ?_ ?_ ?_))
  · simp only [upc_self, upc_ne, upi_self, upi_ne, ne_eq, Nat.reduceEqDiff, not_false_eq_true, Int.reduceEq]
  · simp only [upc_self, upc_ne, upi_self, upi_ne, ne_eq, Nat.reduceEqDiff, not_false_eq_true, Int.reduceEq]
  · simp only [upc_self, upc_ne, upi_self, upi_ne, ne_eq, Nat.reduceEqDiff, not_false_eq_true, Int.reduceEq]
  · rw [upc_ne _ _ (by omega), upc_ne _ _ (by omega), upc_ne _ _ (by omega)]
  · simp only [upc_self, upc_ne, upi_self, upi_ne, ne_eq, Nat.reduceEqDiff, not_false_eq_true, Int.reduceEq]; rw [upi_ne _ _ h0]
  · simp only [upc_self, upc_ne, upi_self, upi_ne, ne_eq, Nat.reduceEqDiff, not_false_eq_true, Int.reduceEq]
  · simp only [upc_self, upc_ne, upi_self, upi_ne, ne_eq, Nat.reduceEqDiff, not_false_eq_true, Int.reduceEq]
  · simp only [upc_self, upc_ne, upi_self, upi_ne, ne_eq, Nat.reduceEqDiff, not_false_eq_true, Int.reduceEq]
  · simp only [upc_self, upc_ne, upi_self, upi_ne, ne_eq, Nat.reduceEqDiff, not_false_eq_true, Int.reduceEq]
  · simp only [upc_self, upc_ne, upi_self, upi_ne, ne_eq, Nat.reduceEqDiff, not_false_eq_true, Int.reduceEq]
theorem p_send (h : iAll k σ τ) {c s v : Int} (hc : 0 ≤ c ∧ c < 4) (hs : 0 ≤ s ∧ s < 3) (h1 : σ (plD c s) 2 = 1) (hN : σ 3 6 < 300) :
    iAll (k + 1) (putF (opD σ (plD c s)) (plD c s) c s (σ (plC c) 1)) (sndF (thr τ v) c s (3 * c + s)) := by
  obtain ⟨w1, w2⟩ := cl_send (v := v) h.2.1.1 h.2.1.2 hc hs h1 hN
  have eD : plD c s = 120 + 17 * c.toNat + 5 * s.toNat := rfl
  have r187 : sndF (thr τ v) c s (3 * c + s) 187 = τ 187 := by unfold sndF thr; simp only [upc_self, upc_ne, upi_self, upi_ne, ne_eq, Nat.reduceEqDiff, not_false_eq_true, Int.reduceEq]
  have r190 : sndF (thr τ v) c s (3 * c + s) 190 = upi (τ 190) (3 * c + s) (τ 190 (3 * c + s) + 1) := by unfold sndF thr; simp only [upc_self, upc_ne, upi_self, upi_ne, ne_eq, Nat.reduceEqDiff, not_false_eq_true, Int.reduceEq]
  have r195 : sndF (thr τ v) c s (3 * c + s) 195 = p5 (τ 195) (5 * τ 186 9) c (τ 187 c) s (τ 190 (3 * c + s) + 1) (τ 188 (3 * c + s)) := by unfold sndF thr; simp only [upc_self, upc_ne, upi_self, upi_ne, ne_eq, Nat.reduceEqDiff, not_false_eq_true, Int.reduceEq]
  have r9 : sndF (thr τ v) c s (3 * c + s) 186 9 = τ 186 9 + 1 := by unfold sndF thr; simp only [upc_self, upc_ne, upi_self, upi_ne, ne_eq, Nat.reduceEqDiff, not_false_eq_true, Int.reduceEq]
  have r197 : sndF (thr τ v) c s (3 * c + s) 197 = τ 197 := by unfold sndF thr; simp only [upc_self, upc_ne, upi_self, upi_ne, ne_eq, Nat.reduceEqDiff, not_false_eq_true, Int.reduceEq]
  obtain ⟨e1, e2, e3⟩ := h.2.2.2.1
  have n0 := e2 (3 * c + s) (by omega) (by omega)
  refine all_cl h ⟨w1, w2⟩ (fun q h0 h1 => ?_) (fun q hq => ?_) (fun j h0 h9 => ?_) ⟨fun x h0 h1 => ?_, fun t h0 h1 => ?_, fun g h0 h1 => ?_⟩
  · unfold putF opD
    rw [upc_ne _ _ (by omega), upc_ne _ _ (by omega), upc_ne _ _ (by omega), upc_ne _ _ (by omega), upc_ne _ _ (by omega), upc_ne _ _ (by omega), upc_ne _ _ (by omega), upc_ne _ _ (by omega)]
  · unfold sndF thr
    rw [upc_ne _ _ (by omega), upc_ne _ _ (by omega), upc_ne _ _ (by omega), upc_ne _ _ (by omega), upc_ne _ _ (by omega), upc_ne _ _ (by omega), upc_ne _ _ (by omega), upc_ne _ _ (by omega)]
  · unfold sndF thr
    simp only [upc_self, upc_ne, upi_self, upi_ne, ne_eq, Nat.reduceEqDiff, not_false_eq_true, Int.reduceEq]; rw [upi_ne _ _ h9, upi_ne _ _ h0]
  · rw [r187]; have := e1 x h0 h1; omega
  · rw [r190, r197]
    have := e2 t h0 h1
    refine ⟨?_, by omega⟩
    by_cases z : t = 3 * c + s
    · rw [z, upi_self]; omega
    · rw [upi_ne _ _ z]; omega
  · rw [r195, p5_at]
    rw [r9] at h1
    by_cases z : g = τ 186 9
    · rw [if_neg (by omega), if_neg (by omega), if_neg (by omega), if_pos (by omega)]; omega
    · rw [if_neg (by omega), if_neg (by omega), if_neg (by omega), if_neg (by omega), if_neg (by omega)]
      have := e3 g h0 (by omega); omega
end ALL2
