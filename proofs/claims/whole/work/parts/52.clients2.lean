/-! 52.clients2: send, deliver, code, value, of class and reference -/
section CLI2
variable {σ τ σ' τ' : mG}
theorem cl_send (h : iCl σ τ) (hP : iPo σ τ) {c s v : Int} (hc : 0 ≤ c ∧ c < 4) (hs : 0 ≤ s ∧ s < 3) (h1 : σ (plD c s) 2 = 1) (hN : σ 3 6 < 300) :
    iCl (putF (opD σ (plD c s)) (plD c s) c s (σ (plC c) 1)) (sndF (thr τ v) c s (3 * c + s)) ∧ iPo (putF (opD σ (plD c s)) (plD c s) c s (σ (plC c) 1)) (sndF (thr τ v) c s (3 * c + s)) := by
  obtain ⟨hx, hd⟩ := h c hc.1 hc.2
  obtain ⟨b1, b2, b3, b4⟩ := hd s hs.1 hs.2
  have b4 : σ (plD c s) 3 = τ 188 (3 * c + s) ∧ (1 ≤ τ 188 (3 * c + s) ∧ τ 188 (3 * c + s) ≤ 4) ∧ ∀ j, 0 ≤ j → j < 5 * τ 188 (3 * c + s) → σ (plD c s + 1) j = τ 189 (20 * (3 * c + s) + j) := by
    rcases b4 with e | e | e | e
    · omega
    · exact ⟨e.2.1, e.2.2.1, e.2.2.2.2⟩
    · omega
    · omega
  have eD : plD c s = 120 + 17 * c.toNat + 5 * s.toNat := rfl
  have po : ∀ q : Nat, 9 < q → putF (opD σ (plD c s)) (plD c s) c s (σ (plC c) 1) q = opD σ (plD c s) q := by
    intro q hq
    unfold putF
    rw [upc_ne _ _ (by omega), upc_ne _ _ (by omega), upc_ne _ _ (by omega), upc_ne _ _ (by omega), upc_ne _ _ (by omega), upc_ne _ _ (by omega), upc_ne _ _ (by omega)]
  have oo : ∀ q : Nat, ¬ q = plD c s → opD σ (plD c s) q = σ q := fun q hq => upc_ne _ _ hq
  have od : opD σ (plD c s) (plD c s) = upi (upi (σ (plD c s)) 2 2) 4 (σ (plD c s) 4 + 1) := by unfold opD; rw [upc_self]
  have r187 : sndF (thr τ v) c s (3 * c + s) 187 = τ 187 := by unfold sndF thr; simp only [upc_self, upc_ne, upi_self, upi_ne, ne_eq, Nat.reduceEqDiff, not_false_eq_true, Int.reduceEq]
  have r188 : sndF (thr τ v) c s (3 * c + s) 188 = upi (τ 188) (3 * c + s) 0 := by unfold sndF thr; simp only [upc_self, upc_ne, upi_self, upi_ne, ne_eq, Nat.reduceEqDiff, not_false_eq_true, Int.reduceEq]
  have r189 : sndF (thr τ v) c s (3 * c + s) 189 = τ 189 := by unfold sndF thr; simp only [upc_self, upc_ne, upi_self, upi_ne, ne_eq, Nat.reduceEqDiff, not_false_eq_true, Int.reduceEq]
  have r190 : sndF (thr τ v) c s (3 * c + s) 190 = upi (τ 190) (3 * c + s) (τ 190 (3 * c + s) + 1) := by unfold sndF thr; simp only [upc_self, upc_ne, upi_self, upi_ne, ne_eq, Nat.reduceEqDiff, not_false_eq_true, Int.reduceEq]
  have r191 : sndF (thr τ v) c s (3 * c + s) 191 = upi (τ 191) (3 * c + s) 1 := by unfold sndF thr; simp only [upc_self, upc_ne, upi_self, upi_ne, ne_eq, Nat.reduceEqDiff, not_false_eq_true, Int.reduceEq]
  have r192 : sndF (thr τ v) c s (3 * c + s) 192 = upi (τ 192) (3 * c + s) 0 := by unfold sndF thr; simp only [upc_self, upc_ne, upi_self, upi_ne, ne_eq, Nat.reduceEqDiff, not_false_eq_true, Int.reduceEq]
  have r193 : sndF (thr τ v) c s (3 * c + s) 193 = τ 193 := by unfold sndF thr; simp only [upc_self, upc_ne, upi_self, upi_ne, ne_eq, Nat.reduceEqDiff, not_false_eq_true, Int.reduceEq]
  have r194 : sndF (thr τ v) c s (3 * c + s) 194 = τ 194 := by unfold sndF thr; simp only [upc_self, upc_ne, upi_self, upi_ne, ne_eq, Nat.reduceEqDiff, not_false_eq_true, Int.reduceEq]
  have r195 : sndF (thr τ v) c s (3 * c + s) 195 = p5 (τ 195) (5 * τ 186 9) c (τ 187 c) s (τ 190 (3 * c + s) + 1) (τ 188 (3 * c + s)) := by unfold sndF thr; simp only [upc_self, upc_ne, upi_self, upi_ne, ne_eq, Nat.reduceEqDiff, not_false_eq_true, Int.reduceEq]
  have r196 : sndF (thr τ v) c s (3 * c + s) 196 = gsF (τ 189) (τ 196) (20 * (3 * c + s)) (20 * τ 186 9) (5 * τ 188 (3 * c + s)) := by unfold sndF thr; simp only [upc_self, upc_ne, upi_self, upi_ne, ne_eq, Nat.reduceEqDiff, not_false_eq_true, Int.reduceEq]
  have r186 : sndF (thr τ v) c s (3 * c + s) 186 9 = τ 186 9 + 1 := by unfold sndF thr; simp only [upc_self, upc_ne, upi_self, upi_ne, ne_eq, Nat.reduceEqDiff, not_false_eq_true, Int.reduceEq]
  constructor
  · intro d h0 h1
    obtain ⟨a, b⟩ := h d h0 h1
    have eC : plC d = 118 + 17 * d.toNat := rfl
    refine ⟨?_, fun x g0 g1 => ?_⟩
    · rw [po _ (by omega), oo _ (by omega), r187]; exact a
    · have eX : plD d x = 120 + 17 * d.toNat + 5 * x.toNat := rfl
      by_cases e : d = c ∧ x = s
      · obtain ⟨rfl, rfl⟩ := e
        unfold deskR
        rw [po _ (by omega), po _ (by omega), po _ (by omega), po _ (by omega), po _ (by omega), od, r188, r190, r191, r192]
        simp only [upc_self, upc_ne, upi_self, upi_ne, ne_eq, Nat.reduceEqDiff, not_false_eq_true, Int.reduceEq]
        refine ⟨by rw [b1], by omega, by omega, Or.inr (Or.inr (Or.inl ⟨trivial, trivial, trivial⟩))⟩
      · have ne := plD_ne ⟨h0, h1⟩ ⟨g0, g1⟩ hc hs e
        refine deskR_fr (b x g0 g1) (fun q k0 k1 => ?_) ?_ ?_ ?_ ?_ ?_ ?_ ?_
        · rw [po _ (by omega), oo _ (by omega)]
        · rw [r188, upi_ne _ _ (by omega)]
        · intro j _ _; rw [r189]
        · rw [r190, upi_ne _ _ (by omega)]
        · rw [r191, upi_ne _ _ (by omega)]
        · rw [r192, upi_ne _ _ (by omega)]
        · intro j _ _; rw [r193]
        · intro j _ _; rw [r194]
  · obtain ⟨p1, p2, p3⟩ := hP
    have n3 : opD σ (plD c s) 3 6 = σ 3 6 := by rw [oo 3 (by omega)]
    have c3 : putF (opD σ (plD c s)) (plD c s) c s (σ (plC c) 1) 3 = upi (σ 3) 6 (σ 3 6 + 1) := by unfold putF; simp only [upc_self, upc_ne, upi_self, upi_ne, ne_eq, Nat.reduceEqDiff, not_false_eq_true, Int.reduceEq]; rw [oo 3 (by omega)]
    have c4 : putF (opD σ (plD c s)) (plD c s) c s (σ (plC c) 1) 4 = upi (σ 4) (σ 3 6) c := by unfold putF; simp only [upc_self, upc_ne, upi_self, upi_ne, ne_eq, Nat.reduceEqDiff, not_false_eq_true, Int.reduceEq]; rw [n3, oo 4 (by omega)]
    have c5 : putF (opD σ (plD c s)) (plD c s) c s (σ (plC c) 1) 5 = upi (σ 5) (σ 3 6) s := by unfold putF; simp only [upc_self, upc_ne, upi_self, upi_ne, ne_eq, Nat.reduceEqDiff, not_false_eq_true, Int.reduceEq]; rw [n3, oo 5 (by omega)]
    have c6 : putF (opD σ (plD c s)) (plD c s) c s (σ (plC c) 1) 6 = upi (σ 6) (σ 3 6) (σ (plC c) 1) := by unfold putF; simp only [upc_self, upc_ne, upi_self, upi_ne, ne_eq, Nat.reduceEqDiff, not_false_eq_true, Int.reduceEq]; rw [n3, oo 6 (by omega)]
    have c7 : putF (opD σ (plD c s)) (plD c s) c s (σ (plC c) 1) 7 = upi (σ 7) (σ 3 6) (σ (plD c s) 4 + 1) := by unfold putF; simp only [upc_self, upc_ne, upi_self, upi_ne, ne_eq, Nat.reduceEqDiff, not_false_eq_true, Int.reduceEq]; rw [n3, oo 7 (by omega), od, upi_self]
    have c8 : putF (opD σ (plD c s)) (plD c s) c s (σ (plC c) 1) 8 = upi (σ 8) (σ 3 6) (σ (plD c s) 3) := by unfold putF; simp only [upc_self, upc_ne, upi_self, upi_ne, ne_eq, Nat.reduceEqDiff, not_false_eq_true, Int.reduceEq]; rw [n3, oo 8 (by omega), od, upi_ne _ _ (by decide), upi_ne _ _ (by decide)]
    have c9 : putF (opD σ (plD c s)) (plD c s) c s (σ (plC c) 1) 9 = mCpy (σ (plD c s + 1)) (σ 9) 0 ((σ 3 6 * 4 + 0) * 5) 20 := by unfold putF; simp only [upc_self, upc_ne, upi_self, upi_ne, ne_eq, Nat.reduceEqDiff, not_false_eq_true, Int.reduceEq]; rw [n3, oo 9 (by omega), oo _ (by omega)]
    unfold iPo
    rw [c3, c4, c5, c6, c7, c8, c9, r186, r195, r196]
    refine ⟨by rw [upi_self, p1], by omega, fun g g0 g1 => ?_⟩
    by_cases e : g = τ 186 9
    · rw [p1, ← e, upi_self, upi_self, upi_self, upi_self, upi_self, p5_at, p5_at, p5_at, p5_at, p5_at, if_pos rfl, if_neg (by omega), if_pos rfl, if_neg (show ¬ 5 * g + 2 = 5 * g by omega), if_neg (show ¬ 5 * g + 2 = 5 * g + 1 by omega), if_pos rfl,
        if_neg (show ¬ 5 * g + 3 = 5 * g by omega), if_neg (show ¬ 5 * g + 3 = 5 * g + 1 by omega), if_neg (show ¬ 5 * g + 3 = 5 * g + 2 by omega), if_pos rfl,
        if_neg (show ¬ 5 * g + 4 = 5 * g by omega), if_neg (show ¬ 5 * g + 4 = 5 * g + 1 by omega), if_neg (show ¬ 5 * g + 4 = 5 * g + 2 by omega), if_neg (show ¬ 5 * g + 4 = 5 * g + 3 by omega), if_pos rfl]
      refine ⟨⟨rfl, hc⟩, hx.1, ⟨rfl, hs⟩, ⟨by rw [b1], by omega⟩, ⟨b4.1, by omega⟩, fun j k0 k1 => ?_⟩
      unfold mCpy gsF
      rw [b4.1] at k1
      rw [if_pos (by omega), if_pos (by omega), show (0 : Int) + (20 * g + j - (g * 4 + 0) * 5) = j by omega, show 20 * (3 * c + s) + (20 * g + j - 20 * g) = 20 * (3 * c + s) + j by omega]
      exact b4.2.2 j k0 k1
    · obtain ⟨q1, q2, q3, q4, q5, q6⟩ := p3 g g0 (by omega)
      rw [p1, upi_ne _ _ e, upi_ne _ _ e, upi_ne _ _ e, upi_ne _ _ e, upi_ne _ _ e]
      have pe : ∀ k, 0 ≤ k → k < 5 → p5 (τ 195) (5 * τ 186 9) c (τ 187 c) s (τ 190 (3 * c + s) + 1) (τ 188 (3 * c + s)) (5 * g + k) = τ 195 (5 * g + k) := by
        intro k k0 k1
        rw [p5_at, if_neg (by omega), if_neg (by omega), if_neg (by omega), if_neg (by omega), if_neg (by omega)]
      have pe0 := pe 0 (by omega) (by omega)
      rw [Int.add_zero] at pe0
      rw [pe0, pe 1 (by omega) (by omega), pe 2 (by omega) (by omega), pe 3 (by omega) (by omega), pe 4 (by omega) (by omega)]
      refine ⟨q1, q2, q3, q4, q5, fun j k0 k1 => ?_⟩
      unfold mCpy gsF
      rw [if_neg (by omega), if_neg (by omega)]
      exact q6 j k0 k1
theorem plC_ne {d c s : Int} (h0 : 0 ≤ d ∧ d < 4) (h2 : 0 ≤ c ∧ c < 4) (h3 : 0 ≤ s ∧ s < 3) : plC d < plD c s ∨ plD c s + 4 < plC d := by
  unfold plD plC
  rcases Int.lt_trichotomy d c with w | w | w
  · left; omega
  · subst w; left; omega
  · right; omega
theorem cl_take (h : iCl σ τ) {c s : Int} (hc : 0 ≤ c ∧ c < 4) (hs : 0 ≤ s ∧ s < 3) (h2 : σ (plD c s) 2 = 2) (hA : ansR σ τ (3 * c + s)) : iCl (tkF σ (plD c s) (29 + 3 * (3 * c + s).toNat)) (anF τ (3 * c + s)) := by
  obtain ⟨hx, hd⟩ := h c hc.1 hc.2
  obtain ⟨b1, b2, b3, b4⟩ := hd s hs.1 hs.2
  obtain ⟨A1, A2, A3⟩ := hA
  have eD : plD c s = 120 + 17 * c.toNat + 5 * s.toNat := rfl
  have eP : 29 + 3 * (3 * c + s).toNat < 63 := by omega
  generalize hp : 29 + 3 * (3 * c + s).toNat = p at *
  have to : ∀ q : Nat, ¬ (plD c s ≤ q ∧ q < plD c s + 5) → tkF σ (plD c s) p q = σ q := by
    intro q hq
    unfold tkF cpA
    rw [upc_ne _ _ (by omega), upc_ne _ _ (by omega), upc_ne _ _ (by omega), upc_ne _ _ (by omega)]
  have t0 : tkF σ (plD c s) p (plD c s) = upi (σ (plD c s)) 2 3 := by
    unfold tkF cpA
    rw [upc_self, upc_ne _ _ (by omega), upc_ne _ _ (by omega), upc_ne _ _ (by omega)]
  have t2 : tkF σ (plD c s) p (plD c s + 2) = upi (σ (plD c s + 2)) 2 (σ p 2) := by
    unfold tkF cpA
    rw [upc_ne _ _ (by omega), upc_self]
  have t3 : tkF σ (plD c s) p (plD c s + 3) = mCpy (σ (p + 1)) (σ (plD c s + 2 + 1)) 0 0 4 := by
    unfold tkF cpA
    rw [upc_ne _ _ (by omega), upc_ne _ _ (by omega), upc_ne _ _ (by omega), show plD c s + 3 = plD c s + 2 + 1 from rfl, upc_self]
  have t4 : tkF σ (plD c s) p (plD c s + 4) = mCpy (σ (p + 2)) (σ (plD c s + 2 + 2)) 0 0 4 := by
    unfold tkF cpA
    rw [upc_ne _ _ (by omega), upc_ne _ _ (by omega), show plD c s + 4 = plD c s + 2 + 2 from rfl, upc_self]
  have r187 : anF τ (3 * c + s) 187 = τ 187 := by unfold anF; simp only [upc_self, upc_ne, upi_self, upi_ne, ne_eq, Nat.reduceEqDiff, not_false_eq_true, Int.reduceEq]
  have r188 : anF τ (3 * c + s) 188 = τ 188 := by unfold anF; simp only [upc_self, upc_ne, upi_self, upi_ne, ne_eq, Nat.reduceEqDiff, not_false_eq_true, Int.reduceEq]
  have r189 : anF τ (3 * c + s) 189 = τ 189 := by unfold anF; simp only [upc_self, upc_ne, upi_self, upi_ne, ne_eq, Nat.reduceEqDiff, not_false_eq_true, Int.reduceEq]
  have r190 : anF τ (3 * c + s) 190 = τ 190 := by unfold anF; simp only [upc_self, upc_ne, upi_self, upi_ne, ne_eq, Nat.reduceEqDiff, not_false_eq_true, Int.reduceEq]
  have r191 : anF τ (3 * c + s) 191 = upi (τ 191) (3 * c + s) 0 := by unfold anF; simp only [upc_self, upc_ne, upi_self, upi_ne, ne_eq, Nat.reduceEqDiff, not_false_eq_true, Int.reduceEq]
  have r192 : anF τ (3 * c + s) 192 = upi (τ 192) (3 * c + s) (τ 197 (16 + (3 * c + s))) := by unfold anF; simp only [upc_self, upc_ne, upi_self, upi_ne, ne_eq, Nat.reduceEqDiff, not_false_eq_true, Int.reduceEq]
  have r193 : anF τ (3 * c + s) 193 = gsF (τ 197) (τ 193) (28 + 4 * (3 * c + s)) (4 * (3 * c + s)) (τ 197 (16 + (3 * c + s))) := by unfold anF; simp only [upc_self, upc_ne, upi_self, upi_ne, ne_eq, Nat.reduceEqDiff, not_false_eq_true, Int.reduceEq]
  have r194 : anF τ (3 * c + s) 194 = gsF (τ 197) (τ 194) (76 + 4 * (3 * c + s)) (4 * (3 * c + s)) (τ 197 (16 + (3 * c + s))) := by unfold anF; simp only [upc_self, upc_ne, upi_self, upi_ne, ne_eq, Nat.reduceEqDiff, not_false_eq_true, Int.reduceEq]
  intro d h0 h1
  obtain ⟨a, b⟩ := h d h0 h1
  have eC : plC d = 118 + 17 * d.toNat := rfl
  refine ⟨?_, fun x g0 g1 => ?_⟩
  · have ne := plC_ne (s := s) ⟨h0, h1⟩ hc hs
    rw [to _ (by omega), r187]; exact a
  · have eX : plD d x = 120 + 17 * d.toNat + 5 * x.toNat := rfl
    by_cases e : d = c ∧ x = s
    · obtain ⟨rfl, rfl⟩ := e
      unfold deskR
      rw [t0, t2, t3, t4, r188, r190, r191, r192, r193, r194, A1]
      simp only [upc_self, upc_ne, upi_self, upi_ne, ne_eq, Nat.reduceEqDiff, not_false_eq_true, Int.reduceEq]
      have z8 : τ 188 (3 * d + x) = 0 := by rcases b4 with e | e | e | e <;> omega
      refine ⟨b1, b2, A2, Or.inr (Or.inr (Or.inr ⟨trivial, z8, trivial, trivial, fun j k0 k1 => ?_⟩))⟩
      unfold mCpy gsF
      rw [if_pos (by omega), if_pos (by omega), if_pos (by omega), if_pos (by omega), show (0 : Int) + (j - 0) = j by omega, show 28 + 4 * (3 * d + x) + (4 * (3 * d + x) + j - 4 * (3 * d + x)) = 28 + 4 * (3 * d + x) + j by omega, show 76 + 4 * (3 * d + x) + (4 * (3 * d + x) + j - 4 * (3 * d + x)) = 76 + 4 * (3 * d + x) + j by omega]
      exact A3 j k0 k1
    · have ne := plD_ne ⟨h0, h1⟩ ⟨g0, g1⟩ hc hs e
      refine deskR_fr (b x g0 g1) (fun q k0 k1 => to q (by omega)) ?_ ?_ ?_ ?_ ?_ ?_ ?_
      · rw [r188]
      · intro j _ _; rw [r189]
      · rw [r190]
      · rw [r191, upi_ne _ _ (by omega)]
      · rw [r192, upi_ne _ _ (by omega)]
      · intro j _ _; rw [r193]; unfold gsF; rw [if_neg (by omega)]
      · intro j _ _; rw [r194]; unfold gsF; rw [if_neg (by omega)]
theorem cl_code (h : iCl σ τ) {c s i : Int} (hc : 0 ≤ c ∧ c < 4) (hs : 0 ≤ s ∧ s < 3) :
    (if σ (plD c s) 2 = 2 then -2 else if σ (plD c s) 2 = 3 ∧ 0 ≤ i ∧ i < σ (plD c s + 2) 2 then σ (plD c s + 2 + 1) i else -1) =
    (if ¬ τ 191 (3 * c + s) = 0 then -2 else if τ 191 (3 * c + s) = 0 ∧ τ 188 (3 * c + s) = 0 ∧ 0 ≤ i ∧ i < τ 192 (3 * c + s) then τ 193 (4 * (3 * c + s) + i) else -1) := by
  obtain ⟨b1, b2, b3, b4⟩ := (h c hc.1 hc.2).2 s hs.1 hs.2
  rcases b4 with e | e | e | e
  · rw [if_neg (by omega), if_neg (by omega), if_neg (by omega), if_neg (by omega)]
  · rw [if_neg (by omega), if_neg (by omega), if_neg (by omega), if_neg (by omega)]
  · rw [if_pos (by omega), if_pos (by omega)]
  · rw [if_neg (show ¬ σ (plD c s) 2 = 2 by omega), if_neg (show ¬ ¬ τ 191 (3 * c + s) = 0 by omega), e.2.2.2.1]
    by_cases q : 0 ≤ i ∧ i < τ 192 (3 * c + s)
    · rw [if_pos ⟨e.1, q⟩, if_pos ⟨e.2.2.1, e.2.1, q⟩]; exact (e.2.2.2.2 i q.1 q.2).1
    · rw [if_neg (fun w => q w.2), if_neg (fun w => q w.2.2)]
theorem cl_value (h : iCl σ τ) {c s i : Int} (hc : 0 ≤ c ∧ c < 4) (hs : 0 ≤ s ∧ s < 3) :
    (if σ (plD c s) 2 = 3 ∧ 0 ≤ i ∧ i < σ (plD c s + 2) 2 then σ (plD c s + 2 + 2) i else -1) =
    (if τ 191 (3 * c + s) = 0 ∧ τ 188 (3 * c + s) = 0 ∧ 0 ≤ i ∧ i < τ 192 (3 * c + s) then τ 194 (4 * (3 * c + s) + i) else -1) := by
  obtain ⟨b1, b2, b3, b4⟩ := (h c hc.1 hc.2).2 s hs.1 hs.2
  rcases b4 with e | e | e | e
  · rw [if_neg (by omega), if_neg (by omega)]
  · rw [if_neg (by omega), if_neg (by omega)]
  · rw [if_neg (by omega), if_neg (by omega)]
  · rw [e.2.2.2.1]
    by_cases q : 0 ≤ i ∧ i < τ 192 (3 * c + s)
    · rw [if_pos ⟨e.1, q⟩, if_pos ⟨e.2.2.1, e.2.1, q⟩]; exact (e.2.2.2.2 i q.1 q.2).2
    · rw [if_neg (fun w => q w.2), if_neg (fun w => q w.2.2)]
end CLI2
