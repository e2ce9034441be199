/-! 62.frames: what the calls of the class leave of the reference, and the other way -/
section FR
variable {σ τ σ' τ' : mG} {k : Int}
theorem iAll_r (h : iAll k σ τ) (ht0 : ∀ q : Nat, 185 < q → q < 203 → τ' q = τ q) : iAll k σ τ' := by
  have ht : ∀ q : Nat, 185 < q ∧ q < 203 → τ' q = τ q := fun q hq => ht0 q hq.1 hq.2
  obtain ⟨a, b, c, e, f1, f2, f3⟩ := h
  have e6 := ht 186 (by omega)
  refine ⟨iDs_fr a (fun _ _ => rfl) (ht 197 (by omega)) (by rw [e6]), iCs_fr b (fun _ _ => rfl) (fun q h0 h1 => ht q (by omega)) (by rw [e6]), ?_, iBd_fr e (ht 187 (by omega)) (ht 190 (by omega)) (ht 195 (by omega)) (ht 197 (by omega)) (by rw [e6]), by rw [ht 199 (by omega)]; exact f1, fun w => ?_, fun w => ?_⟩
  · unfold iSc at *; rw [e6]; exact c
  · exact iLr_fr (f2 w) rfl rfl rfl rfl rfl (ht 199 (by omega)) (ht 201 (by omega)) (by rw [e6]) (by rw [e6])
  · exact iLs_fr (f3 w) rfl rfl rfl rfl (ht 199 (by omega)) (ht 201 (by omega))
theorem iAll_c (h : iAll k σ τ) (hc : ∀ q : Nat, q < 186 → σ' q = σ q) : iAll k σ' τ := by
  obtain ⟨a, b, c, e, f1, f2, f3⟩ := h
  have e10 := hc 10 (by omega)
  refine ⟨iDs_fr a (fun q hq => hc q (by omega)) rfl rfl, iCs_fr b (fun q hq => hc q (by omega)) (fun _ _ _ => rfl) rfl, ?_, e, f1, fun w => ?_, fun w => ?_⟩
  · unfold iSc at *; rw [e10]; exact c
  · rw [e10] at w
    exact iLr_fr (f2 w) (hc 20 (by omega)) (hc 21 (by omega)) (hc 22 (by omega)) (hc 23 (by omega)) (hc 24 (by omega)) rfl rfl rfl rfl
  · rw [e10] at w
    exact iLs_fr (f3 w) (hc 20 (by omega)) (hc 21 (by omega)) (hc 22 (by omega)) (hc 23 (by omega)) rfl rfl
/-- out's number does not count -/
theorem iAll_o (h : iAll k σ τ) {f f' : Int → Int} : iAll k (upc σ 203 f) (upc τ 203 f') := by
  exact iAll_r (iAll_c h fun q hq => upc_ne _ _ (by omega)) fun q h0 h1 => upc_ne _ _ (by omega)
theorem goOn_r {ms : Int} {q : Nat} (hq : 185 < q ∨ q = 0) : goOnF σ ms q = σ q := by
  unfold goOnF
  dsimp only
  have e1 : endLs (σ 10 5 + ms) 4 0 (upc σ 10 (upi (σ 10) 5 (σ 10 5 + ms))) q = σ q := by rw [endLs_out (by omega), upc_ne _ _ (by omega)]
  split
  · rw [upc_ne _ _ (by omega)]
  · split
    · rw [upc_ne _ _ (by omega), upc_ne _ _ (by omega), e1]
    · exact e1
theorem bg_r {c : Int} (hc : 0 ≤ c ∧ c < 4) {q : Nat} (hq : 185 < q ∨ q = 0) : bgF σ c.toNat q = σ q := by
  unfold bgF
  rw [fgt_out _ _ _ (fun j w0 w1 => by omega), upc_ne _ _ (by omega)]
theorem ad_r {c s v o a1 a2 a3 a4 : Int} (hc : 0 ≤ c ∧ c < 4) (hs : 0 ≤ s ∧ s < 3) {q : Nat} (hq : 185 < q ∨ q = 0) : adF σ (plD c s) v o a1 a2 a3 a4 q = σ q := by
  have eD : plD c s = 120 + 17 * c.toNat + 5 * s.toNat := rfl
  unfold adF; rw [upc_ne _ _ (by omega), upc_ne _ _ (by omega)]
theorem put_r {c s l : Int} (hc : 0 ≤ c ∧ c < 4) (hs : 0 ≤ s ∧ s < 3) {q : Nat} (hq : 185 < q ∨ q = 0) : putF (opD σ (plD c s)) (plD c s) c s l q = σ q := by
  have eD : plD c s = 120 + 17 * c.toNat + 5 * s.toNat := rfl
  unfold putF opD
  rw [upc_ne _ _ (by omega), upc_ne _ _ (by omega), upc_ne _ _ (by omega), upc_ne _ _ (by omega), upc_ne _ _ (by omega), upc_ne _ _ (by omega), upc_ne _ _ (by omega), upc_ne _ _ (by omega)]
theorem boot_r {f : Int → Int} {q : Nat} (hq : 185 < q ∨ q = 0) : (upc (endLa 4 0 (bFs 128 0 σ)) 10 f) q = σ q := by
  rw [upc_ne _ _ (by omega), endLa_out (by omega), bFs_out (by omega)]
theorem dl_r {g : Int} (h4 : 0 ≤ σ 4 g ∧ σ 4 g < 4) (h5 : 0 ≤ σ 5 g ∧ σ 5 g < 3) {q : Nat} (hq : 185 < q ∨ q = 0) : dlF σ g q = σ q := by
  unfold dlF
  have eD : plD (σ 4 g) (σ 5 g) = 120 + 17 * (σ 4 g).toNat + 5 * (σ 5 g).toNat := rfl
  split
  · unfold tkF cpA
    rw [upc_ne _ _ (by omega), upc_ne _ _ (by omega), upc_ne _ _ (by omega), upc_ne _ _ (by omega)]
  · rfl
theorem clL_r {g steps : Int} {p : Nat} (hp : 28 < p ∧ p < 63) {q : Nat} (hq : 185 < q ∨ q = 0) : ∀ (k : Nat) (i code : Int) (σ : mG), clL g steps p k i code σ q = σ q
  | 0, _, _, _ => rfl
  | k + 1, i, code, σ => by
    unfold clL
    split
    · rw [clL_r hp hq k]
      unfold clR apF
      rw [upc_ne _ _ (by omega), upc_ne _ _ (by omega), upc_ne _ _ (by omega), stStep_fr (by omega)]
    · rfl
theorem dcE_r {g : Int} (h4 : 0 ≤ σ 4 g ∧ σ 4 g < 4) (h5 : 0 ≤ σ 5 g ∧ σ 5 g < 3) {q : Nat} (hq : 185 < q ∨ q = 0) : dcE σ g q = σ q := by
  have ep : dcP σ g = 29 + 3 * (σ 4 g * 3 + σ 5 g).toNat := rfl
  unfold dcE dcX
  rw [upc_ne _ _ (by omega), clL_r (by omega) hq]
  unfold dc0
  rw [upc_ne _ _ (by omega), upc_ne _ _ (by omega)]
  unfold dc1 begD
  split
  · rw [upc_ne _ _ (by omega), upc_ne _ _ (by omega), upc_ne _ _ (by omega), upc_ne _ _ (by omega), upc_ne _ _ (by omega), upc_ne _ _ (by omega), upc_ne _ _ (by omega), upc_ne _ _ (by omega)]
  · rfl
theorem wr_r {g : Int} (h4 : 0 ≤ σ 4 g ∧ σ 4 g < 4) (h5 : 0 ≤ σ 5 g ∧ σ 5 g < 3) {q : Nat} (hq : 185 < q ∨ q = 0) : (wrC σ g).2 q = σ q := by
  have e4 : cpD σ 65 12 4 = σ 4 := cpD_out1 (by omega)
  have e5 : cpD σ 65 12 5 = σ 5 := cpD_out1 (by omega)
  have eq : cpD σ 65 12 q = σ q := cpD_out1 (by omega)
  have ed : dcE (cpD σ 65 12) g q = σ q := by rw [dcE_r (by rw [e4]; exact h4) (by rw [e5]; exact h5) hq, eq]
  unfold wrC
  by_cases q1 : σ 10 4 = -1
  · rw [if_pos q1]; exact dcE_r h4 h5 hq
  · rw [if_neg q1]
    by_cases q2 : 1 + dcX (cpD σ 65 12) g (dcP (cpD σ 65 12) g) 2 ≤ dcE (cpD σ 65 12) g 10 4
    · rw [if_pos q2]
      dsimp only
      unfold hlC
      rw [upc_ne _ _ (by omega), ed]
    · rw [if_neg q2]
      dsimp only
      unfold hlC
      rw [upc_ne _ _ (by omega), cpD_out2 (by omega), ed]
theorem cy_r {g lost : Int} (h4 : 0 ≤ σ 4 g ∧ σ 4 g < 4) (h5 : 0 ≤ σ 5 g ∧ σ 5 g < 3) (hw : (cyW σ g).2 4 = σ 4 ∧ (cyW σ g).2 5 = σ 5) {q : Nat} (hq : 185 < q ∨ q = 0) : (cyC σ g lost).2 q = σ q := by
  have ew : (cyW σ g).2 q = σ q := by
    unfold cyW
    split
    · exact wr_r h4 h5 hq
    · rfl
  unfold cyC
  dsimp only
  split
  · rw [dl_r (by rw [hw.1]; exact h4) (by rw [hw.2]; exact h5) hq, ew]
  · exact ew
/-- the reference's functions leave the class's cells -/
theorem thr_c {v : Int} {q : Nat} (hq : q < 186) : thr τ v q = τ q := upc_ne _ _ (by omega)
theorem ps_c {q : Nat} (hq : q < 186) : psF 4 0 τ q = τ q := psF_out (by omega) (by omega) _ _ _
theorem halt_c {q : Nat} (hq : q < 186) : haltF τ q = τ q := by
  unfold haltF
  rw [upc_ne _ _ (by omega), upc_ne _ _ (by omega), upc_ne _ _ (by omega), ps_c hq]
theorem stM_c {c : Int} {f g : Int → Int} {q : Nat} (hq : q < 186) : stM c 3 0 (upc (upc τ 186 f) 187 g) q = τ q := by
  rw [stM_out (by omega), upc_ne _ _ (by omega), upc_ne _ _ (by omega)]
theorem snd_c {c s t v : Int} {q : Nat} (hq : q < 186) : sndF (thr τ v) c s t q = τ q := by
  unfold sndF
  rw [upc_ne _ _ (by omega), upc_ne _ _ (by omega), upc_ne _ _ (by omega), upc_ne _ _ (by omega), upc_ne _ _ (by omega), upc_ne _ _ (by omega), upc_ne _ _ (by omega), thr_c hq]
theorem ans_c {c t l m : Int} {q : Nat} (hq : q < 186) : ansM τ c t l m q = τ q := by
  unfold ansM anF
  split
  · rw [upc_ne _ _ (by omega), upc_ne _ _ (by omega), upc_ne _ _ (by omega), upc_ne _ _ (by omega)]
  · rfl
def mcP (τ : mG) (R : Int × mG) : Prop := ∀ q : Nat, q < 186 → R.2 q = τ q
theorem mOp_c {m o a b c : Int} : mcP τ (mOp τ m o a b c) := by
  have hl : mcP τ (mList τ m a 31 1) := by
    rw [mList_eq _ _ (by omega)]
    exact pIte (P := mcP τ) (fun _ _ _ => rfl) (fun _ q hq => upc_ne _ _ (by omega))
  unfold mOp mWalk mMake mRemove mMove mRead mWrite mSize mLock mUnlock mClaim
  repeat' first
    | exact hl
    | refine pIte (P := mcP τ) (fun _ => ?_) (fun _ => ?_)
    | exact fun _ _ => rfl
    | (intro q hq
       dsimp only
       repeat rw [upc_ne _ _ (by omega)])
theorem mStep_c {o h a b c : Int} : mcP τ (mStep τ o h a b c) := by
  unfold mStep rnM
  repeat' first
    | exact mOp_c
    | refine pIte (P := mcP τ) (fun _ => ?_) (fun _ => ?_)
    | exact fun _ _ => rfl
    | (intro q hq
       dsimp only
       repeat rw [upc_ne _ _ (by omega)])
theorem prR_c {g t i : Int} {q : Nat} (hq : q < 186) : prR τ g t i q = τ q := by
  unfold prR prS
  rw [upc_ne _ _ (by omega), mStep_c q hq, upc_ne _ _ (by omega)]
theorem perF_c {g t many : Int} {q : Nat} (hq : q < 186) : ∀ (k : Nat) (i more : Int) (τ : mG), (perF g t many k i more τ).2 q = τ q
  | 0, _, _, _ => rfl
  | k + 1, i, more, τ => by
    unfold perF
    split
    · rfl
    · rw [perF_c hq k, prR_c hq]
theorem sav_c {a b c d e f : Nat} (hb : 185 < b) (hd : 185 < d) (hf : 185 < f) {q : Nat} (hq : q < 186) : savF τ a b c d e f q = τ q := by
  unfold savF
  rw [upc_ne _ _ (by omega), upc_ne _ _ (by omega), upc_ne _ _ (by omega)]
theorem c3F_c {lost c t l m b0 dn : Int} {q : Nat} (hq : q < 186) : (c3F τ lost c t l m b0 dn).2 q = τ q := by
  have w : mcP τ (c3F τ lost c t l m b0 dn) := by
    unfold c3F
    refine pIte (P := mcP τ) (fun _ => pIte (P := mcP τ) (fun _ q hq => ?_) (fun _ q hq => halt_c hq)) (fun _ q hq => ?_)
    · dsimp only
      rw [halt_c hq, upc_ne _ _ (by omega), sav_c (by omega) (by omega) (by omega) hq]
    · dsimp only
      split
      · exact ans_c hq
      · rfl
  exact w q hq
theorem c2F_c {g lost c t l m f : Int} {q : Nat} (hq : q < 186) : (c2F τ g lost c t l m f).2 q = τ q := by
  unfold c2F
  rw [c3F_c hq, upc_ne _ _ (by omega)]
  unfold c2P
  rw [perF_c hq]
  unfold c2S
  rw [upc_ne _ _ (by omega)]
  split
  · rw [sav_c (by omega) (by omega) (by omega) hq, ps_c hq]
  · unfold nlF
    rw [upc_ne _ _ (by omega), upc_ne _ _ (by omega), upc_ne _ _ (by omega), sav_c (by omega) (by omega) (by omega) hq, ps_c hq]
theorem car_c {g lost : Int} {q : Nat} (hq : q < 186) : (carF τ g lost).2 q = τ q := by
  have w : mcP τ (carF τ g lost) := by
    unfold carF
    repeat' first
      | exact fun q hq => c2F_c hq
      | exact fun _ _ => rfl
      | refine pIte (P := mcP τ) (fun _ => ?_) (fun _ => ?_)
      | (intro q hq
         dsimp only
         split
         · exact ans_c hq
         · rfl)
  exact w q hq
end FR
