/-! 45.steps4: one step of class and reference -/
def iD4 (σ τ : mG) : Prop := iTr σ τ ∧ iBy σ τ ∧ iHa σ τ ∧ iLx σ τ
def iWk (σ τ : mG) : Prop := (0 ≤ σ 11 3 ∧ σ 11 3 < 4) ∧ σ 11 3 = τ 186 24 ∧ σ 11 4 = τ 186 22 ∧ (σ 11 5 = 0 ↔ ¬ τ 186 22 < τ 186 23)
/-- what a step of the class leaves -/
def uC (σ σ' : mG) : Prop := (∀ q : Nat, ¬ q = 11 → ¬ q = 14 → ¬ q = 15 → ¬ q = 16 → ¬ q = 17 → ¬ q = 18 → ¬ q = 20 → ¬ q = 21 → ¬ q = 22 → ¬ q = 23 → ¬ q = 24 → ¬ q = 25 → σ' q = σ q) ∧ ∀ j, j < 6 → σ' 11 j = σ 11 j
def uM (τ τ' : mG) : Prop := (∀ q : Nat, ¬ q = 186 → ¬ q = 197 → ¬ q = 199 → ¬ q = 201 → τ' q = τ q) ∧ (∀ j, j < 124 → τ' 197 j = τ 197 j) ∧ (∀ j, ¬ j = 18 → ¬ j = 25 → τ' 186 j = τ 186 j) ∧ (τ' 186 18 = τ 186 18 ∨ τ' 186 18 = τ 186 18 + 1)
section ST4
variable {σ τ σ' τ' : mG}
theorem uC_rfl : uC σ σ := ⟨fun _ _ _ _ _ _ _ _ _ _ _ _ _ => rfl, fun _ _ => rfl⟩
theorem uM_rfl : uM τ τ := ⟨fun _ _ _ _ _ => rfl, fun _ _ => rfl, fun _ _ _ => rfl, Or.inl rfl⟩
def ucP (σ : mG) (R : Int × mG) : Prop := uC σ R.2
def umP (τ : mG) (R : Int × mG) : Prop := uM τ R.2
theorem uC_op : uC σ (stOp σ).2 := by
  show ucP σ (stOp σ)
  have hl : ucP σ (stList σ) := by
    unfold stList
    dsimp only
    refine pIte (P := ucP σ) (fun _ => uC_rfl) (fun _ => ⟨fun q h11 _ _ _ _ _ _ _ _ _ _ _ => upc_ne _ _ h11, fun j hj => ?_⟩)
    dsimp only
    rw [upc_self, upi_ne _ _ (by omega)]
  unfold stOp stWalk stMake stRemove stMove stRead stWrite stHeld stSize stLock stUnlock stClaim
  repeat' first
    | exact hl
    | refine pIte (P := ucP σ) (fun _ => ?_) (fun _ => ?_)
    | exact uC_rfl
    | (refine ⟨fun q h11 h14 h15 h16 h17 h18 h20 h21 h22 h23 h24 h25 => ?_, fun j hj => ?_⟩
       · first
         | (simp only [putB, resz, rnw, givF, upc, if_neg h11, if_neg h14, if_neg h15, if_neg h16, if_neg h17, if_neg h18, if_neg h20, if_neg h21, if_neg h22, if_neg h23, if_neg h24, if_neg h25]; done)
         | (dsimp only
            rw [upc_ne _ _ h11, delD_at ⟨h20, h21, h22, h23⟩ h25]; simp only [upc, if_neg h14, if_neg h15, if_neg h16, if_neg h17, if_neg h18])
       · have h12 : ¬ j = 12 := by omega
         first
         | (simp only [putB, resz, rnw, givF, upc_self, upc_ne, ne_eq, Nat.reduceEqDiff, not_false_eq_true, upi_ne _ _ h12]; done)
         | (dsimp only
            rw [upc_self, upi_ne _ _ h12, delD_at (by decide) (by decide)]; simp only [upc_ne, ne_eq, Nat.reduceEqDiff, not_false_eq_true]))
theorem uM_op {m o a b c : Int} (hc : 0 ≤ τ 186 24) (hm : 0 ≤ m) (hs : 0 ≤ τ 197 (316 + m)) : uM τ (mOp τ m o a b c).2 := by
  show umP τ (mOp τ m o a b c)
  have hf := frM_ge (f := τ 197) 31 1
  have hl : umP τ (mList τ m a 31 1) := by
    rw [mList_eq _ _ (by omega)]
    refine pIte (P := umP τ) (fun _ => uM_rfl) (fun _ => ⟨fun q h1 _ _ _ => upc_ne _ _ h1, fun j hj => ?_, fun j h1 h2 => ?_, Or.inl ?_⟩)
    · simp only [upc_self, upc_ne, upi_self, upi_ne, ne_eq, Nat.reduceEqDiff, not_false_eq_true, Int.reduceEq]
    · simp only [upc_self, upc_ne, upi_self, upi_ne, ne_eq, Nat.reduceEqDiff, not_false_eq_true, Int.reduceEq]; rw [upi_ne _ _ h2]
    · simp only [upc_self, upc_ne, upi_self, upi_ne, ne_eq, Nat.reduceEqDiff, not_false_eq_true, Int.reduceEq]
  unfold mOp mWalk mMake mRemove mMove mRead mWrite mSize mLock mUnlock mClaim
  repeat' first
    | exact hl
    | refine pIte (P := umP τ) (fun _ => ?_) (fun _ => ?_)
    | exact uM_rfl
    | (refine ⟨fun q h1 h2 h3 h4 => ?_, fun j hj => ?_, fun j h1 h2 => ?_, ?_⟩
       · simp only [upc, if_neg h1, if_neg h2, if_neg h3, if_neg h4]
       · simp only [upc_self, upc_ne, ne_eq, Nat.reduceEqDiff, not_false_eq_true]
         try first
         | exact wr_ne (by omega) hm hs (by omega)
         | exact zr_ne (by omega) hm hs (by omega)
         | (unfold bndF; rw [upi_ne _ _ (by omega), upi_ne _ _ (by omega)])
         | (repeat rw [upi_ne _ _ (by omega)])
       · simp only [upc_self, upc_ne, ne_eq, Nat.reduceEqDiff, not_false_eq_true, upi_ne _ _ h1, upi_ne _ _ h2]
       · simp only [upc_self, upc_ne, upi_self, upi_ne, ne_eq, Nat.reduceEqDiff, Int.reduceEq, not_false_eq_true, true_or, or_true])
theorem uC_tr {σ''} (h : uC σ σ') (h' : uC σ' σ'') : uC σ σ'' :=
  ⟨fun q a1 a2 a3 a4 a5 a6 a7 a8 a9 b1 b2 b3 => (h'.1 q a1 a2 a3 a4 a5 a6 a7 a8 a9 b1 b2 b3).trans (h.1 q a1 a2 a3 a4 a5 a6 a7 a8 a9 b1 b2 b3), fun j hj => (h'.2 j hj).trans (h.2 j hj)⟩
theorem uC_11 {f : Int → Int} (h : ∀ j, j < 6 → f j = σ 11 j) : uC σ (upc σ 11 f) :=
  ⟨fun q a1 _ _ _ _ _ _ _ _ _ _ _ => upc_ne _ _ a1, fun j hj => by rw [upc_self]; exact h j hj⟩
theorem uM_25 {v : Int} (h : uM (upc τ 186 (upi (τ 186) 25 v)) τ') : uM τ τ' := by
  obtain ⟨a, b, c, e⟩ := h
  refine ⟨fun q h1 h2 h3 h4 => ?_, fun j hj => ?_, fun j h1 h2 => ?_, ?_⟩
  · rw [a q h1 h2 h3 h4, upc_ne _ _ h1]
  · rw [b j hj, upc_ne _ _ (by decide)]
  · rw [c j h1 h2, upc_self, upi_ne _ _ h2]
  · rw [upc_self, upi_ne _ _ (by decide)] at e; exact e
theorem iWk_u (h : iWk σ τ) (hc : uC σ σ') (hm : uM τ τ') : iWk σ' τ' := by
  obtain ⟨a, b, c, e⟩ := h
  unfold iWk
  rw [hc.2 3 (by decide), hc.2 4 (by decide), hc.2 5 (by decide), hm.2.2.1 24 (by decide) (by decide), hm.2.2.1 22 (by decide) (by decide), hm.2.2.1 23 (by decide) (by decide)]
  exact ⟨a, b, c, e⟩
theorem fr_11 {f : Int → Int} (h : iD4 σ τ) : iD4 (upc σ 11 f) τ := by
  obtain ⟨a, b, c, e⟩ := h
  refine ⟨iTr_fr a ?_ ?_ ?_ fun _ _ _ => rfl, iBy_fr b ?_ ?_ ?_ fun _ _ _ => rfl, iHa_fr c ?_ rfl fun _ _ _ => rfl, iLx_fr e ?_ ?_ ?_ ?_ ?_ rfl rfl rfl rfl⟩ <;> simp only [upc_self, upc_ne, upi_self, upi_ne, ne_eq, Nat.reduceEqDiff, not_false_eq_true, Int.reduceEq]
theorem fr_25 {v : Int} (h : iD4 σ τ) : iD4 σ (upc τ 186 (upi (τ 186) 25 v)) := by
  obtain ⟨a, b, c, e⟩ := h
  refine ⟨iTr_fr a rfl rfl rfl fun _ _ _ => ?_, iBy_fr b rfl rfl rfl fun _ _ _ => ?_, iHa_fr c rfl ?_ fun _ _ _ => ?_, iLx_fr e rfl rfl rfl rfl rfl ?_ ?_ ?_ ?_⟩ <;> simp only [upc_self, upc_ne, upi_self, upi_ne, ne_eq, Nat.reduceEqDiff, not_false_eq_true, Int.reduceEq]
theorem kind_dir {m o a b c : Int} (h : ¬ τ 197 (220 + m) = 1) (ho : o = 1 ∨ o = 2 ∨ o = 3 ∨ o = 9) : mOp τ m o a b c = (4, τ) := by
  rcases ho with rfl | rfl | rfl | rfl
  · rw [mOp_1 rfl]; unfold mWalk; rw [if_pos h]
  · rw [mOp_2 rfl]; unfold mMake; rw [if_pos h]
  · rw [mOp_3 rfl]; unfold mRemove; rw [if_pos h]
  · rw [mOp_9 rfl, if_pos h]
theorem kind_file {m o a b c : Int} (h : τ 197 (220 + m) = 1) (ho : ¬ (o = 1 ∨ o = 2 ∨ o = 3 ∨ o = 9 ∨ o = 4)) : mOp τ m o a b c = (4, τ) := by
  unfold mOp mRead mWrite mSize mLock mUnlock mClaim
  rw [if_neg (by omega), if_neg (by omega), if_neg (by omega), if_neg (by omega)]
  simp only [if_pos h, if_neg (show ¬ o = 9 by omega), ite_self]
/-- class and reference answer alike and stay alike -/
def spR (σ τ : mG) (R S : Int × mG) : Prop := R.1 = S.1 ∧ R.2 11 12 = (if S.1 = 0 then S.2 186 25 else 0) ∧ iD4 R.2 S.2 ∧ uC σ R.2 ∧ uM τ S.2
theorem spR_of {R S : Int × mG} (hD : iD4 σ τ) (h : stP σ τ R S) (h0 : σ 11 12 = 0) (hc : uC σ R.2) (hm : uM τ S.2) : spR σ τ R S := by
  rcases h with ⟨e, he, rfl, rfl⟩ | ⟨a1, a2, a3, a4⟩
  · exact ⟨rfl, by simp only [if_neg he]; exact h0, hD, uC_rfl, uM_rfl⟩
  · refine ⟨by rw [a1, a2], ?_, a4, hc, hm⟩
    rw [if_pos a2]; exact a3
theorem op_pair (hD : iD4 σ τ) (hW : iWk σ τ) (hv : σ 11 12 = 0) (hv' : τ 186 25 = 0) {m : Int} (hn : m = σ 11 11) (hm : 0 ≤ m ∧ m < 32) (hl : 0 ≤ σ 14 m) (h0 : ¬ σ 11 6 = 0) (h12 : ¬ σ 11 6 = 12)
    (hK : σ 11 6 = 4 ∨ σ 14 m = (if σ 11 6 = 1 ∨ σ 11 6 = 2 ∨ σ 11 6 = 3 ∨ σ 11 6 = 9 then 1 else 0)) : spR σ τ (stOp σ) (mOp τ m (σ 11 6) (σ 11 8) (σ 11 9) (σ 11 10)) := by
  have hD' := hD
  obtain ⟨hT, hB, hH, hL⟩ := hD
  obtain ⟨w1, w2, w3, w4⟩ := hW
  have hvv : σ 11 12 = τ 186 25 := by rw [hv, hv']
  refine spR_of hD' ?_ hv uC_op (uM_op (by omega) hm.1 (hB m hm.1 hm.2).2.2.2.1.1)
  have cases : σ 11 6 = 1 ∨ σ 11 6 = 2 ∨ σ 11 6 = 3 ∨ σ 11 6 = 4 ∨ σ 11 6 = 5 ∨ σ 11 6 = 6 ∨ σ 11 6 = 7 ∨ σ 11 6 = 8 ∨ σ 11 6 = 9 ∨ σ 11 6 = 10 ∨ σ 11 6 = 11 ∨ (σ 11 6 < 0 ∨ 12 < σ 11 6) := by omega
  rcases cases with q | q | q | q | q | q | q | q | q | q | q | q
  · rw [stOp_1 q, mOp_1 q]
    rw [if_pos (by omega)] at hK
    exact sp_walk hT hB hH hL ⟨w1, w2⟩ hm hn (by omega)
  · rw [stOp_2 q, mOp_2 q]
    rw [if_pos (by omega)] at hK
    exact sp_make hT hB hH hL hm hn (by omega)
  · rw [stOp_3 q, mOp_3 q]
    rw [if_pos (by omega)] at hK
    exact sp_remove hT hB hH hL hm hn (by omega)
  · rw [stOp_4 q, mOp_4 q]
    exact sp_move hT hB hH hL ⟨w1, w2⟩ hm hn
  · rw [stOp_5 q, mOp_5 q]
    rw [if_neg (by omega)] at hK
    exact sp_read hT hB hH hL ⟨w1, w2⟩ hm hn (by omega)
  · rw [stOp_6 q, mOp_6 q]
    rw [if_neg (by omega)] at hK
    exact sp_write hT hB hH hL ⟨w1, w2⟩ hm hn (by omega)
  · rw [stOp_7 q, mOp_7 q]
    rw [if_neg (by omega)] at hK
    exact sp_held hT hB hH hL ⟨w1, w2⟩ hm hn (by omega)
  · rw [stOp_8 q, mOp_8 q]
    rw [if_neg (by omega)] at hK
    exact sp_size hT hB hH hL ⟨w1, w2⟩ hm hn (by omega)
  · rw [stOp_9 q, mOp_9 q]
    rw [if_pos (by omega)] at hK
    exact sp_list hT hB hH hL hm hn (by omega)
  · rw [stOp_10 q, mOp_10 q]
    rw [if_neg (by omega)] at hK
    exact sp_lock hT hB hH hL ⟨w1, w2⟩ w3 w4 hvv hm hn (by omega)
  · rw [stOp_11 q, mOp_11 q]
    rw [if_neg (by omega)] at hK
    exact sp_unlock hT hB hH hL ⟨w1, w2⟩ hvv hm hn (by omega)
  · rw [stOp_d q, mOp_d (by omega)]
    rw [if_neg (by omega)] at hK
    exact sp_claim hT hB hH hL ⟨w1, w2⟩ w3 hvv hm hn (by omega)
theorem spR_u {σ0 τ0 : mG} {R S : Int × mG} (hc : uC σ0 σ) (hm : ∀ τ', uM τ τ' → uM τ0 τ') (h : spR σ τ R S) : spR σ0 τ0 R S :=
  ⟨h.1, h.2.1, h.2.2.1, uC_tr hc h.2.2.2.1, hm _ h.2.2.2.2⟩
theorem step_pair (hD : iD4 σ τ) (hW : iWk σ τ) {at' o h a b c : Int} (e0 : σ 9 at' = o) (e1 : σ 9 (at' + 1) = h) (e2 : σ 9 (at' + 2) = a) (e3 : σ 9 (at' + 3) = b) (e4 : σ 9 (at' + 4) = c) :
    spR σ τ (stStep σ at') (mStep (upc τ 186 (upi (τ 186) 25 0)) o h a b c) := by
  have hu : uC σ (ldF σ at') := by
    unfold ldF
    refine uC_11 fun j hj => ?_
    rw [upi_ne _ _ (by omega), upi_ne _ _ (by omega), upi_ne _ _ (by omega), upi_ne _ _ (by omega), upi_ne _ _ (by omega), upi_ne _ _ (by omega)]
  refine spR_u (σ := ldF σ at') (τ := upc τ 186 (upi (τ 186) 25 0)) hu (fun _ w => uM_25 w) ?_
  have hD1 : iD4 (ldF σ at') (upc τ 186 (upi (τ 186) 25 0)) := fr_25 (fr_11 hD)
  have hW1 : iWk (ldF σ at') (upc τ 186 (upi (τ 186) 25 0)) := iWk_u hW hu (uM_25 (v := 0) uM_rfl)
  have f6 : ldF σ at' 11 6 = o := by unfold ldF; simp only [e0, upc_self, upc_ne, upi_self, upi_ne, ne_eq, Nat.reduceEqDiff, not_false_eq_true, Int.reduceEq]
  have f7 : ldF σ at' 11 7 = h := by unfold ldF; simp only [e1, upc_self, upc_ne, upi_self, upi_ne, ne_eq, Nat.reduceEqDiff, not_false_eq_true, Int.reduceEq]
  have f8 : ldF σ at' 11 8 = a := by unfold ldF; simp only [e2, upc_self, upc_ne, upi_self, upi_ne, ne_eq, Nat.reduceEqDiff, not_false_eq_true, Int.reduceEq]
  have f9 : ldF σ at' 11 9 = b := by unfold ldF; simp only [e3, upc_self, upc_ne, upi_self, upi_ne, ne_eq, Nat.reduceEqDiff, not_false_eq_true, Int.reduceEq]
  have f10 : ldF σ at' 11 10 = c := by unfold ldF; simp only [e4, upc_self, upc_ne, upi_self, upi_ne, ne_eq, Nat.reduceEqDiff, not_false_eq_true, Int.reduceEq]
  have f12 : ldF σ at' 11 12 = 0 := by unfold ldF; simp only [upc_self, upc_ne, upi_self, upi_ne, ne_eq, Nat.reduceEqDiff, not_false_eq_true, Int.reduceEq]
  have g25 : (upc τ 186 (upi (τ 186) 25 0)) 186 25 = 0 := by simp only [upc_self, upc_ne, upi_self, upi_ne, ne_eq, Nat.reduceEqDiff, not_false_eq_true, Int.reduceEq]
  unfold stStep
  generalize ldF σ at' = σ1 at *
  generalize upc τ 186 (upi (τ 186) 25 0) = τ1 at *
  subst f6 f7 f8 f9 f10
  obtain ⟨w1, w2, w3, w4⟩ := hW1
  unfold mStep
  by_cases q1 : 0 ≤ σ1 11 7 ∧ σ1 11 7 < 8
  · rw [if_neg (not_not_intro q1)]
    by_cases q2 : σ1 11 6 = 0
    · have er : stRef σ1 = (0, σ1) := by unfold stRef; rw [if_neg (not_not_intro q1), if_pos (Or.inl q2)]
      rw [er, if_neg (not_not_intro rfl), if_pos q2]
      refine spR_of hD1 ?_ f12 uC_op ?_
      · rw [stOp_0 q2, ← w2]
        exact sp_root hD1.1 hD1.2.1 hD1.2.2.1 hD1.2.2.2 ⟨w1, w2⟩ (by rw [f12, g25]) q1
      · refine ⟨fun q h1 h2 h3 h4 => upc_ne _ _ h2, fun j hj => ?_, fun j h1 h2 => ?_, ?_⟩
        · simp only [upc_self, upc_ne, upi_self, upi_ne, ne_eq, Nat.reduceEqDiff, not_false_eq_true, Int.reduceEq]
          unfold bndF; rw [upi_ne _ _ (by omega), upi_ne _ _ (by omega)]
        · simp only [upc_self, upc_ne, upi_self, upi_ne, ne_eq, Nat.reduceEqDiff, not_false_eq_true, Int.reduceEq]
        · left; simp only [upc_self, upc_ne, upi_self, upi_ne, ne_eq, Nat.reduceEqDiff, not_false_eq_true, Int.reduceEq]
    · by_cases q3 : σ1 11 6 = 12
      · have er : stRef σ1 = (0, σ1) := by unfold stRef; rw [if_neg (not_not_intro q1), if_pos (Or.inr q3)]
        rw [er, if_neg (not_not_intro rfl), if_neg q2, if_pos q3]
        refine spR_of hD1 ?_ f12 uC_op ?_
        · rw [stOp_12 q3]
          exact sp_renew hD1.1 hD1.2.1 hD1.2.2.1 hD1.2.2.2 ⟨w1, w2⟩ w3 (by rw [f12, g25])
        · unfold rnM
          refine ⟨fun q h1 h2 h3 h4 => upc_ne _ _ h4, fun j hj => ?_, fun j h1 h2 => ?_, ?_⟩
          · simp only [upc_self, upc_ne, upi_self, upi_ne, ne_eq, Nat.reduceEqDiff, not_false_eq_true, Int.reduceEq]
          · simp only [upc_self, upc_ne, upi_self, upi_ne, ne_eq, Nat.reduceEqDiff, not_false_eq_true, Int.reduceEq]
          · left; simp only [upc_self, upc_ne, upi_self, upi_ne, ne_eq, Nat.reduceEqDiff, not_false_eq_true, Int.reduceEq]
      · rw [if_neg q2, if_neg q3]
        have eh := hD1.2.2.1.1 _ _ w1.1 w1.2 q1.1 q1.2
        have nl := nod_live hD1.1 hD1.2.2.1 w1 q1
        rw [← w2]
        generalize hm : nodF τ1 (σ1 11 3) (σ1 11 7) = m at *
        have u2 : uC σ1 (upc σ1 11 (upi (σ1 11) 11 m)) := uC_11 fun j hj => upi_ne _ _ (by omega)
        have D2 : iD4 (upc σ1 11 (upi (σ1 11) 11 m)) τ1 := fr_11 hD1
        have W2 : iWk (upc σ1 11 (upi (σ1 11) 11 m)) τ1 := iWk_u ⟨w1, w2, w3, w4⟩ u2 uM_rfl
        by_cases q4 : m = -1
        · have er : stRef σ1 = (1, upc σ1 11 (upi (σ1 11) 11 m)) := by
            unfold stRef; rw [if_neg (not_not_intro q1), if_neg (by omega), eh, if_pos q4]
          rw [er, if_pos (show ¬ (1 : Int) = 0 by decide), if_pos (show m < 0 by omega)]
          exact ⟨rfl, by show _ = if (1 : Int) = 0 then _ else (0 : Int); simp only [f12, if_false, upc_self, upc_ne, upi_self, upi_ne, ne_eq, Nat.reduceEqDiff, not_false_eq_true, Int.reduceEq], D2, u2, uM_rfl⟩
        · obtain ⟨m1, m2⟩ := nl.resolve_left q4
          rw [if_neg (show ¬ m < 0 by omega)]
          have k3 := hD1.1.1 m m1.1 m1.2
          by_cases q5 : σ1 11 6 = 4 ∨ σ1 14 m = (if σ1 11 6 = 1 ∨ σ1 11 6 = 2 ∨ σ1 11 6 = 3 ∨ σ1 11 6 = 9 then 1 else 0)
          · have er : stRef σ1 = (0, upc σ1 11 (upi (σ1 11) 11 m)) := by
              unfold stRef; rw [if_neg (not_not_intro q1), if_neg (by omega), eh, if_neg q4, if_pos q5]
            rw [er, if_neg (not_not_intro rfl)]
            refine spR_u u2 (fun _ w => w) ?_
            have w := op_pair D2 W2 (m := m) (by simp only [f12, upc_self, upc_ne, upi_self, upi_ne, ne_eq, Nat.reduceEqDiff, not_false_eq_true, Int.reduceEq]) g25 (by simp only [upc_self, upc_ne, upi_self, upi_ne, ne_eq, Nat.reduceEqDiff, not_false_eq_true, Int.reduceEq]) m1 (by simp only [upc_self, upc_ne, upi_self, upi_ne, ne_eq, Nat.reduceEqDiff, not_false_eq_true, Int.reduceEq]; exact m2) (by simp only [upc_self, upc_ne, upi_self, upi_ne, ne_eq, Nat.reduceEqDiff, not_false_eq_true, Int.reduceEq]; exact q2) (by simp only [upc_self, upc_ne, upi_self, upi_ne, ne_eq, Nat.reduceEqDiff, not_false_eq_true, Int.reduceEq]; exact q3) (by simp only [upc_self, upc_ne, upi_self, upi_ne, ne_eq, Nat.reduceEqDiff, not_false_eq_true, Int.reduceEq]; exact q5)
            simp only [upc_self, upi_ne, ne_eq, Int.reduceEq, not_false_eq_true] at w
            exact w
          · have er : stRef σ1 = (4, upc σ1 11 (upi (σ1 11) 11 m)) := by
              unfold stRef; rw [if_neg (not_not_intro q1), if_neg (by omega), eh, if_neg q4, if_neg q5]
            rw [er, if_pos (show ¬ (4 : Int) = 0 by decide)]
            have em : mOp τ1 m (σ1 11 6) (σ1 11 8) (σ1 11 9) (σ1 11 10) = (4, τ1) := by
              by_cases q6 : σ1 11 6 = 1 ∨ σ1 11 6 = 2 ∨ σ1 11 6 = 3 ∨ σ1 11 6 = 9
              · rw [if_pos q6] at q5
                exact kind_dir (by omega) q6
              · rw [if_neg q6] at q5
                exact kind_file (by omega) (by omega)
            rw [em]
            exact ⟨rfl, by show _ = if (4 : Int) = 0 then _ else (0 : Int); simp only [f12, if_false, upc_self, upc_ne, upi_self, upi_ne, ne_eq, Nat.reduceEqDiff, not_false_eq_true, Int.reduceEq], D2, u2, uM_rfl⟩
  · have er : stRef σ1 = (6, σ1) := by unfold stRef; rw [if_pos q1]
    rw [er, if_pos (show ¬ (6 : Int) = 0 by decide), if_pos q1]
    exact ⟨rfl, by show _ = if (6 : Int) = 0 then _ else (0 : Int); simp only [f12, if_false, upc_self, upc_ne, upi_self, upi_ne, ne_eq, Nat.reduceEqDiff, not_false_eq_true, Int.reduceEq], hD1, uC_rfl, uM_rfl⟩
end ST4
