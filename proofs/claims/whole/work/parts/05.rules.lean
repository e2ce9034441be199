/-! 05.rules: printed by wip/whole/prog/rules2.py: instructions that touch no heap -/
section MCr
variable {L fr lo : Nat} {M : mcM} {pc : Nat} {ls : List (Option mV)} {st : List mV} {ρ : mP} {σ : mG} {n z : Nat} {Φ : mcPost}
theorem mc_iconst {i : Int} (hc : mcCode M pc = some (.iconst i, 1)) (k : mcE L fr lo M (pc + 1) ls (mi i :: st) ρ σ n z Φ) : mcE L fr lo M (pc) ls (st) ρ σ n z Φ := by
  intro xs p l e s0 H0 b sc dC dI tyc F s m args below meth c hW A n0 z0 H locs LS h1 h2 h3 hR hl hS
  exact lv_iconst F.1 A.2.2.2.1 (mc_dec hc) rfl (k xs p l e s0 H0 b sc dC dI tyc F s m args below meth c hW A n0 z0 H locs LS h1 h2 h3 hR hl hS)
theorem mc_bipush {i : Int} (hc : mcCode M pc = some (.bipush i, 2)) (hv : (Int8.ofInt i).toInt32 = Int32.ofInt i) (k : mcE L fr lo M (pc + 2) ls (mi i :: st) ρ σ n z Φ) : mcE L fr lo M (pc) ls (st) ρ σ n z Φ := by
  intro xs p l e s0 H0 b sc dC dI tyc F s m args below meth c hW A n0 z0 H locs LS h1 h2 h3 hR hl hS
  exact lv_bipush F.1 A.2.2.2.1 (mc_dec hc) hv (k xs p l e s0 H0 b sc dC dI tyc F s m args below meth c hW A n0 z0 H locs LS h1 h2 h3 hR hl hS)
theorem mc_sipush {i : Int} (hc : mcCode M pc = some (.sipush i, 3)) (hv : (Int16.ofInt i).toInt32 = Int32.ofInt i) (k : mcE L fr lo M (pc + 3) ls (mi i :: st) ρ σ n z Φ) : mcE L fr lo M (pc) ls (st) ρ σ n z Φ := by
  intro xs p l e s0 H0 b sc dC dI tyc F s m args below meth c hW A n0 z0 H locs LS h1 h2 h3 hR hl hS
  exact lv_sipush F.1 A.2.2.2.1 (mc_dec hc) hv (k xs p l e s0 H0 b sc dC dI tyc F s m args below meth c hW A n0 z0 H locs LS h1 h2 h3 hR hl hS)
theorem mc_lconst {i : Fin 2} (hc : mcCode M pc = some (.lconst i, 1)) (k : mcE L fr lo M (pc + 1) ls (ml (Int64.ofNat (i : Nat)) :: st) ρ σ n z Φ) : mcE L fr lo M (pc) ls (st) ρ σ n z Φ := by
  intro xs p l e s0 H0 b sc dC dI tyc F s m args below meth c hW A n0 z0 H locs LS h1 h2 h3 hR hl hS
  exact lv_lconst F.1 A.2.2.2.1 (mc_dec hc) rfl (k xs p l e s0 H0 b sc dC dI tyc F s m args below meth c hW A n0 z0 H locs LS h1 h2 h3 hR hl hS)
theorem mc_iadd {x y : Int} (hc : mcCode M pc = some (.iadd, 1)) (k : mcE L fr lo M (pc + 1) ls (mi (x + y) :: st) ρ σ n z Φ) : mcE L fr lo M (pc) ls (mi y :: mi x :: st) ρ σ n z Φ := by
  intro xs p l e s0 H0 b sc dC dI tyc F s m args below meth c hW A n0 z0 H locs LS h1 h2 h3 hR hl hS
  refine lv_iadd F.1 A.2.2.2.1 (mc_dec hc) ?_
  have k := k xs p l e s0 H0 b sc dC dI tyc F s m args below meth c hW A n0 z0 H locs LS h1 h2 h3 hR hl hS
  simp only [List.map_cons, mcVal, Int32.ofInt_add] at k
  exact k
theorem mc_isub {x y : Int} (hc : mcCode M pc = some (.isub, 1)) (k : mcE L fr lo M (pc + 1) ls (mi (x - y) :: st) ρ σ n z Φ) : mcE L fr lo M (pc) ls (mi y :: mi x :: st) ρ σ n z Φ := by
  intro xs p l e s0 H0 b sc dC dI tyc F s m args below meth c hW A n0 z0 H locs LS h1 h2 h3 hR hl hS
  refine lv_isub F.1 A.2.2.2.1 (mc_dec hc) ?_
  have k := k xs p l e s0 H0 b sc dC dI tyc F s m args below meth c hW A n0 z0 H locs LS h1 h2 h3 hR hl hS
  simp only [List.map_cons, mcVal, Int32.ofInt_sub] at k
  exact k
theorem mc_imul {x y : Int} (hc : mcCode M pc = some (.imul, 1)) (k : mcE L fr lo M (pc + 1) ls (mi (x * y) :: st) ρ σ n z Φ) : mcE L fr lo M (pc) ls (mi y :: mi x :: st) ρ σ n z Φ := by
  intro xs p l e s0 H0 b sc dC dI tyc F s m args below meth c hW A n0 z0 H locs LS h1 h2 h3 hR hl hS
  refine lv_imul F.1 A.2.2.2.1 (mc_dec hc) ?_
  have k := k xs p l e s0 H0 b sc dC dI tyc F s m args below meth c hW A n0 z0 H locs LS h1 h2 h3 hR hl hS
  simp only [List.map_cons, mcVal, Int32.ofInt_mul] at k
  exact k
theorem mc_iand {x y : Int} (hc : mcCode M pc = some (.iand, 1)) (k : mcE L fr lo M (pc + 1) ls (mi (mAnd x y) :: st) ρ σ n z Φ) : mcE L fr lo M (pc) ls (mi y :: mi x :: st) ρ σ n z Φ := by
  intro xs p l e s0 H0 b sc dC dI tyc F s m args below meth c hW A n0 z0 H locs LS h1 h2 h3 hR hl hS
  refine lv_iand F.1 A.2.2.2.1 (mc_dec hc) ?_
  have k := k xs p l e s0 H0 b sc dC dI tyc F s m args below meth c hW A n0 z0 H locs LS h1 h2 h3 hR hl hS
  simp only [List.map_cons, mcVal, mAnd, Int32.ofInt_toInt] at k
  exact k
theorem mc_ladd {x y : Int64} (hc : mcCode M pc = some (.ladd, 1)) (k : mcE L fr lo M (pc + 1) ls (ml (x + y) :: st) ρ σ n z Φ) : mcE L fr lo M (pc) ls (ml y :: ml x :: st) ρ σ n z Φ := by
  intro xs p l e s0 H0 b sc dC dI tyc F s m args below meth c hW A n0 z0 H locs LS h1 h2 h3 hR hl hS
  exact lv_ladd F.1 A.2.2.2.1 (mc_dec hc) (k xs p l e s0 H0 b sc dC dI tyc F s m args below meth c hW A n0 z0 H locs LS h1 h2 h3 hR hl hS)
theorem mc_lsub {x y : Int64} (hc : mcCode M pc = some (.lsub, 1)) (k : mcE L fr lo M (pc + 1) ls (ml (x - y) :: st) ρ σ n z Φ) : mcE L fr lo M (pc) ls (ml y :: ml x :: st) ρ σ n z Φ := by
  intro xs p l e s0 H0 b sc dC dI tyc F s m args below meth c hW A n0 z0 H locs LS h1 h2 h3 hR hl hS
  exact lv_lsub F.1 A.2.2.2.1 (mc_dec hc) (k xs p l e s0 H0 b sc dC dI tyc F s m args below meth c hW A n0 z0 H locs LS h1 h2 h3 hR hl hS)
theorem mc_land {x y : Int64} (hc : mcCode M pc = some (.land, 1)) (k : mcE L fr lo M (pc + 1) ls (ml (x &&& y) :: st) ρ σ n z Φ) : mcE L fr lo M (pc) ls (ml y :: ml x :: st) ρ σ n z Φ := by
  intro xs p l e s0 H0 b sc dC dI tyc F s m args below meth c hW A n0 z0 H locs LS h1 h2 h3 hR hl hS
  exact lv_land F.1 A.2.2.2.1 (mc_dec hc) (k xs p l e s0 H0 b sc dC dI tyc F s m args below meth c hW A n0 z0 H locs LS h1 h2 h3 hR hl hS)
theorem mc_lor {x y : Int64} (hc : mcCode M pc = some (.lor, 1)) (k : mcE L fr lo M (pc + 1) ls (ml (x ||| y) :: st) ρ σ n z Φ) : mcE L fr lo M (pc) ls (ml y :: ml x :: st) ρ σ n z Φ := by
  intro xs p l e s0 H0 b sc dC dI tyc F s m args below meth c hW A n0 z0 H locs LS h1 h2 h3 hR hl hS
  exact lv_lor F.1 A.2.2.2.1 (mc_dec hc) (k xs p l e s0 H0 b sc dC dI tyc F s m args below meth c hW A n0 z0 H locs LS h1 h2 h3 hR hl hS)
theorem mc_lxor {x y : Int64} (hc : mcCode M pc = some (.lxor, 1)) (k : mcE L fr lo M (pc + 1) ls (ml (x ^^^ y) :: st) ρ σ n z Φ) : mcE L fr lo M (pc) ls (ml y :: ml x :: st) ρ σ n z Φ := by
  intro xs p l e s0 H0 b sc dC dI tyc F s m args below meth c hW A n0 z0 H locs LS h1 h2 h3 hR hl hS
  exact lv_lxor F.1 A.2.2.2.1 (mc_dec hc) (k xs p l e s0 H0 b sc dC dI tyc F s m args below meth c hW A n0 z0 H locs LS h1 h2 h3 hR hl hS)
theorem mc_sh_amt {y : Int} (h0 : 0 ≤ y) (h1 : y < 64) : (Int32.ofInt y).toInt64 &&& 63 = Int64.ofInt y := by
  obtain ⟨k, rfl⟩ := Int.eq_ofNat_of_zero_le h0
  have hk : k < 64 := by omega
  have : ∀ k : Fin 64, (Int32.ofInt ((k.val : Nat) : Int)).toInt64 &&& 63 = Int64.ofInt ((k.val : Nat) : Int) := by decide +kernel
  exact this ⟨k, hk⟩
theorem mc_sh_amt2 {y : Int} (h0 : 0 ≤ y) (h1 : y < 64) : (Int32.ofInt y).toInt64.toUInt64 &&& Int64.toUInt64 63 = (Int64.ofInt y).toUInt64 := by
  obtain ⟨k, rfl⟩ := Int.eq_ofNat_of_zero_le h0
  have hk : k < 64 := by omega
  have : ∀ k : Fin 64, (Int32.ofInt ((k.val : Nat) : Int)).toInt64.toUInt64 &&& Int64.toUInt64 63 = (Int64.ofInt ((k.val : Nat) : Int)).toUInt64 := by decide +kernel
  exact this ⟨k, hk⟩
theorem mc_lshl {x : Int64} {y : Int} (hc : mcCode M pc = some (.lshl, 1)) (h : 0 ≤ y ∧ y < 64) (k : mcE L fr lo M (pc + 1) ls (ml (mShl x y) :: st) ρ σ n z Φ) : mcE L fr lo M (pc) ls (mi y :: ml x :: st) ρ σ n z Φ := by
  intro xs p l e s0 H0 b sc dC dI tyc F s m args below meth c hW A n0 z0 H locs LS h1 h2 h3 hR hl hS
  exact lv_lshl F.1 A.2.2.2.1 (mc_dec hc) (by rw [mc_sh_amt h.1 h.2]; rfl) (k xs p l e s0 H0 b sc dC dI tyc F s m args below meth c hW A n0 z0 H locs LS h1 h2 h3 hR hl hS)
theorem mc_lushr {x : Int64} {y : Int} (hc : mcCode M pc = some (.lushr, 1)) (h : 0 ≤ y ∧ y < 64) (k : mcE L fr lo M (pc + 1) ls (ml (mShr x y) :: st) ρ σ n z Φ) : mcE L fr lo M (pc) ls (mi y :: ml x :: st) ρ σ n z Φ := by
  intro xs p l e s0 H0 b sc dC dI tyc F s m args below meth c hW A n0 z0 H locs LS h1 h2 h3 hR hl hS
  exact lv_lushr F.1 A.2.2.2.1 (mc_dec hc) (by rw [mc_sh_amt2 h.1 h.2]; rfl) (k xs p l e s0 H0 b sc dC dI tyc F s m args below meth c hW A n0 z0 H locs LS h1 h2 h3 hR hl hS)
theorem mc_i2l {x : Int} (hc : mcCode M pc = some (.i2l, 1)) (k : mcE L fr lo M (pc + 1) ls (ml (Int32.ofInt x).toInt64 :: st) ρ σ n z Φ) : mcE L fr lo M (pc) ls (mi x :: st) ρ σ n z Φ := by
  intro xs p l e s0 H0 b sc dC dI tyc F s m args below meth c hW A n0 z0 H locs LS h1 h2 h3 hR hl hS
  exact lv_i2l F.1 A.2.2.2.1 (mc_dec hc) rfl (k xs p l e s0 H0 b sc dC dI tyc F s m args below meth c hW A n0 z0 H locs LS h1 h2 h3 hR hl hS)
theorem mc_i8 {x : Int} (h : -128 ≤ x ∧ x < 128) : (Int32.ofInt x).toInt8.toInt32 = Int32.ofInt x := by
  have h2 : ∀ k : Fin 256, (Int32.ofInt ((k.val : Nat) - 128 : Int)).toInt8.toInt32 = Int32.ofInt ((k.val : Nat) - 128 : Int) := by decide +kernel
  have h3 := h2 ⟨(x + 128).toNat, by omega⟩
  have e : (((x + 128).toNat : Nat) : Int) - 128 = x := by omega
  simp only [e] at h3
  exact h3
theorem mc_i2b {x : Int} (hc : mcCode M pc = some (.i2b, 1)) (h : -128 ≤ x ∧ x < 128) (k : mcE L fr lo M (pc + 1) ls (mi x :: st) ρ σ n z Φ) : mcE L fr lo M (pc) ls (mi x :: st) ρ σ n z Φ := by
  intro xs p l e s0 H0 b sc dC dI tyc F s m args below meth c hW A n0 z0 H locs LS h1 h2 h3 hR hl hS
  exact lv_i2b F.1 A.2.2.2.1 (mc_dec hc) (mc_i8 h) (k xs p l e s0 H0 b sc dC dI tyc F s m args below meth c hW A n0 z0 H locs LS h1 h2 h3 hR hl hS)
theorem mCmp_eq (x y : Int64) : lg_cmp x y = Int32.ofInt (mCmp x y) := by
  unfold lg_cmp mCmp
  by_cases h1 : y < x
  · simp [h1]
  · by_cases h2 : x = y <;> simp [h1, h2]
theorem mc_lcmp {x y : Int64} (hc : mcCode M pc = some (.lcmp, 1)) (k : mcE L fr lo M (pc + 1) ls (mi (mCmp x y) :: st) ρ σ n z Φ) : mcE L fr lo M (pc) ls (ml y :: ml x :: st) ρ σ n z Φ := by
  intro xs p l e s0 H0 b sc dC dI tyc F s m args below meth c hW A n0 z0 H locs LS h1 h2 h3 hR hl hS
  refine W.lcmp F.1 A.2.2.2.1 (mc_dec hc) ?_
  rw [mCmp_eq]
  exact k xs p l e s0 H0 b sc dC dI tyc F s m args below meth c hW A n0 z0 H locs LS h1 h2 h3 hR hl hS
theorem mc_dup {v : mV} (hc : mcCode M pc = some (.dup, 1)) (hv : mcCat v = 1) (k : mcE L fr lo M (pc + 1) ls (v :: v :: st) ρ σ n z Φ) : mcE L fr lo M (pc) ls (v :: st) ρ σ n z Φ := by
  intro xs p l e s0 H0 b sc dC dI tyc F s m args below meth c hW A n0 z0 H locs LS h1 h2 h3 hR hl hS
  exact lv_dup F.1 A.2.2.2.1 (mc_dec hc) (by rw [mcVal_cat]; exact hv) (k xs p l e s0 H0 b sc dC dI tyc F s m args below meth c hW A n0 z0 H locs LS h1 h2 h3 hR hl hS)
theorem mc_pop {v : mV} (hc : mcCode M pc = some (.pop, 1)) (hv : mcCat v = 1) (k : mcE L fr lo M (pc + 1) ls (st) ρ σ n z Φ) : mcE L fr lo M (pc) ls (v :: st) ρ σ n z Φ := by
  intro xs p l e s0 H0 b sc dC dI tyc F s m args below meth c hW A n0 z0 H locs LS h1 h2 h3 hR hl hS
  exact lv_pop F.1 A.2.2.2.1 (mc_dec hc) (by rw [mcVal_cat]; exact hv) (k xs p l e s0 H0 b sc dC dI tyc F s m args below meth c hW A n0 z0 H locs LS h1 h2 h3 hR hl hS)
theorem mc_dup2 {u v : mV} (hc : mcCode M pc = some (.dup2, 1)) (hu : mcCat u = 1) (hv : mcCat v = 1) (k : mcE L fr lo M (pc + 1) ls (u :: v :: u :: v :: st) ρ σ n z Φ) : mcE L fr lo M (pc) ls (u :: v :: st) ρ σ n z Φ := by
  intro xs p l e s0 H0 b sc dC dI tyc F s m args below meth c hW A n0 z0 H locs LS h1 h2 h3 hR hl hS
  exact lv_dup2_11 F.1 A.2.2.2.1 (mc_dec hc) (by rw [mcVal_cat]; exact hu) (by rw [mcVal_cat]; exact hv) (k xs p l e s0 H0 b sc dC dI tyc F s m args below meth c hW A n0 z0 H locs LS h1 h2 h3 hR hl hS)
theorem mc_iload_n {j : Fin 4} {x : Int} (hc : mcCode M pc = some (.iload_n j, 1)) (hv : ls[(j : Nat)]? = some (some (mi x))) (k : mcE L fr lo M (pc + 1) ls (mi x :: st) ρ σ n z Φ) : mcE L fr lo M (pc) ls (st) ρ σ n z Φ := by
  intro xs p l e s0 H0 b sc dC dI tyc F s m args below meth c hW A n0 z0 H locs LS h1 h2 h3 hR hl hS
  exact lv_iload_n F.1 A.2.2.2.1 (mc_dec hc) rfl (hl.2.2.2 _ _ hv) (k xs p l e s0 H0 b sc dC dI tyc F s m args below meth c hW A n0 z0 H locs LS h1 h2 h3 hR hl hS)
theorem mc_iload {i : Nat} {x : Int} (hc : mcCode M pc = some (.iload i, 2)) (hv : ls[i]? = some (some (mi x))) (k : mcE L fr lo M (pc + 2) ls (mi x :: st) ρ σ n z Φ) : mcE L fr lo M (pc) ls (st) ρ σ n z Φ := by
  intro xs p l e s0 H0 b sc dC dI tyc F s m args below meth c hW A n0 z0 H locs LS h1 h2 h3 hR hl hS
  exact lv_iload F.1 A.2.2.2.1 (mc_dec hc) (hl.2.2.2 _ _ hv) (k xs p l e s0 H0 b sc dC dI tyc F s m args below meth c hW A n0 z0 H locs LS h1 h2 h3 hR hl hS)
theorem mc_lload_n {j : Fin 4} {x : Int64} (hc : mcCode M pc = some (.lload_n j, 1)) (hv : ls[(j : Nat)]? = some (some (ml x))) (k : mcE L fr lo M (pc + 1) ls (ml x :: st) ρ σ n z Φ) : mcE L fr lo M (pc) ls (st) ρ σ n z Φ := by
  intro xs p l e s0 H0 b sc dC dI tyc F s m args below meth c hW A n0 z0 H locs LS h1 h2 h3 hR hl hS
  exact lv_lload_n F.1 A.2.2.2.1 (mc_dec hc) rfl (hl.2.2.2 _ _ hv) (k xs p l e s0 H0 b sc dC dI tyc F s m args below meth c hW A n0 z0 H locs LS h1 h2 h3 hR hl hS)
theorem mc_lload {i : Nat} {x : Int64} (hc : mcCode M pc = some (.lload i, 2)) (hv : ls[i]? = some (some (ml x))) (k : mcE L fr lo M (pc + 2) ls (ml x :: st) ρ σ n z Φ) : mcE L fr lo M (pc) ls (st) ρ σ n z Φ := by
  intro xs p l e s0 H0 b sc dC dI tyc F s m args below meth c hW A n0 z0 H locs LS h1 h2 h3 hR hl hS
  exact lv_lload F.1 A.2.2.2.1 (mc_dec hc) (hl.2.2.2 _ _ hv) (k xs p l e s0 H0 b sc dC dI tyc F s m args below meth c hW A n0 z0 H locs LS h1 h2 h3 hR hl hS)
theorem mc_aload_n {j : Fin 4} {x : Nat} (hc : mcCode M pc = some (.aload_n j, 1)) (hv : ls[(j : Nat)]? = some (some (mr x))) (k : mcE L fr lo M (pc + 1) ls (mr x :: st) ρ σ n z Φ) : mcE L fr lo M (pc) ls (st) ρ σ n z Φ := by
  intro xs p l e s0 H0 b sc dC dI tyc F s m args below meth c hW A n0 z0 H locs LS h1 h2 h3 hR hl hS
  exact lv_aload_n F.1 A.2.2.2.1 (mc_dec hc) rfl (hl.2.2.2 _ _ hv) (k xs p l e s0 H0 b sc dC dI tyc F s m args below meth c hW A n0 z0 H locs LS h1 h2 h3 hR hl hS)
theorem mc_aload {i : Nat} {x : Nat} (hc : mcCode M pc = some (.aload i, 2)) (hv : ls[i]? = some (some (mr x))) (k : mcE L fr lo M (pc + 2) ls (mr x :: st) ρ σ n z Φ) : mcE L fr lo M (pc) ls (st) ρ σ n z Φ := by
  intro xs p l e s0 H0 b sc dC dI tyc F s m args below meth c hW A n0 z0 H locs LS h1 h2 h3 hR hl hS
  exact lv_aload F.1 A.2.2.2.1 (mc_dec hc) (hl.2.2.2 _ _ hv) (k xs p l e s0 H0 b sc dC dI tyc F s m args below meth c hW A n0 z0 H locs LS h1 h2 h3 hR hl hS)
def mcAs (b sc : Nat) (ls : List (Option mV)) : List (Nat × Value) := (List.range ls.length).filterMap fun i => match ls[i]? with
  | some (some v) => some (i, mcVal b sc v)
  | _ => none
theorem mcAs_mem {b sc : Nat} {ls : List (Option mV)} {q : Nat × Value} : q ∈ mcAs b sc ls ↔ ∃ v, ls[q.1]? = some (some v) ∧ q.2 = mcVal b sc v := by
  unfold mcAs
  rw [List.mem_filterMap]
  constructor
  · rintro ⟨i, -, h⟩
    split at h
    · rename_i v hv
      cases h
      exact ⟨v, hv, rfl⟩
    · cases h
  · rintro ⟨v, hv, e⟩
    refine ⟨q.1, List.mem_range.mpr (List.getElem?_eq_some_iff.mp hv).1, ?_⟩
    rw [hv]
    exact congrArg some (Prod.ext rfl e.symm)
theorem mcL.has {b sc : Nat} {LS : Array Slot} {nL : Nat} {ls : List (Option mV)} (h : mcL b sc LS nL ls) : lv_has LS nL (mcAs b sc ls) :=
  ⟨h.1, h.2.2.1, fun q hq => by
    obtain ⟨v, hv, e⟩ := mcAs_mem.mp hq
    rw [e]
    exact h.2.2.2 _ _ hv⟩
theorem mcS1_len (ls : List (Option mV)) (i : Nat) (v : mV) : (mcS1 ls i v).length = ls.length := by
  unfold mcS1
  rw [List.length_set]
  split
  · rfl
  · split
    · exact List.length_set
    · rfl
theorem mcS1_get {ls : List (Option mV)} {i : Nat} {v : mV} {j : Nat} {w : mV} (h : (mcS1 ls i v)[j]? = some (some w)) : (j = i ∧ w = v) ∨ (j ≠ i ∧ ls[j]? = some (some w) ∧ ¬ (j + 1 = i ∧ mcCat w = 2)) := by
  unfold mcS1 at h
  by_cases hj : j = i
  · subst hj
    rw [List.getElem?_set] at h
    simp at h
    exact Or.inl ⟨rfl, h.2.symm⟩
  · rw [List.getElem?_set_ne (fun q => hj q.symm)] at h
    cases i with
    | zero => exact Or.inr ⟨hj, h, fun q => by omega⟩
    | succ i =>
      dsimp only at h
      split at h
      · rename_i x hx
        by_cases hji : j = i
        · subst hji
          rw [List.getElem?_set] at h
          simp at h
        · rw [List.getElem?_set_ne (fun q => hji q.symm)] at h
          exact Or.inr ⟨hj, h, fun q => by omega⟩
      · rename_i hx
        refine Or.inr ⟨hj, h, fun q => ?_⟩
        have e : j = i := by omega
        subst e
        rcases w with y | y | y
        · simp [mcCat] at q
        · exact hx y h
        · simp [mcCat] at q
theorem mcL.store1 {b sc : Nat} {LS LS' : Array Slot} {nL : Nat} {ls : List (Option mV)} {i : Nat} {v : mV} (h : mcL b sc LS nL ls) (h' : lv_has LS' nL ((i, mcVal b sc v) :: (mcAs b sc ls).filter (fun q => !(q.1 == i) && !(q.1 + 1 == i && q.2.category == 2)))) : mcL b sc LS' nL (mcS1 ls i v) := by
  refine ⟨h'.1, (mcS1_len ls i v).trans h.2.1, h'.2.1, fun j w hw => ?_⟩
  rcases mcS1_get hw with ⟨rfl, rfl⟩ | ⟨hj, hl, hc⟩
  · exact h'.2.2 (_, _) List.mem_cons_self
  · refine h'.2.2 (j, mcVal b sc w) (List.mem_cons_of_mem _ (List.mem_filter.mpr ⟨mcAs_mem.mpr ⟨w, hl, rfl⟩, ?_⟩))
    simp only [mcVal_cat]
    by_cases e : j + 1 = i
    · have : ¬ mcCat w = 2 := fun q => hc ⟨e, q⟩
      simp [hj, this]
    · simp [hj, e]
theorem mcL.store2 {b sc : Nat} {LS LS' : Array Slot} {nL : Nat} {ls : List (Option mV)} {i : Nat} {v : mV} (h : mcL b sc LS nL ls) (h' : lv_has LS' nL ((i, mcVal b sc v) :: (mcAs b sc ls).filter (fun q => !(q.1 == i) && (!(q.1 == i + 1) && !(q.1 + 1 == i && q.2.category == 2))))) : mcL b sc LS' nL (mcS2 ls i v) := by
  refine ⟨h'.1, ?_, h'.2.1, fun j w hw => ?_⟩
  · unfold mcS2; rw [List.length_set, mcS1_len]; exact h.2.1
  · unfold mcS2 at hw
    by_cases e1 : j = i + 1
    · subst e1
      rw [List.getElem?_set] at hw
      simp at hw
    · rw [List.getElem?_set_ne (fun q => e1 q.symm)] at hw
      rcases mcS1_get hw with ⟨rfl, rfl⟩ | ⟨hj, hl, hc⟩
      · exact h'.2.2 (_, _) List.mem_cons_self
      · refine h'.2.2 (j, mcVal b sc w) (List.mem_cons_of_mem _ (List.mem_filter.mpr ⟨mcAs_mem.mpr ⟨w, hl, rfl⟩, ?_⟩))
        simp only [mcVal_cat]
        by_cases e : j + 1 = i
        · have : ¬ mcCat w = 2 := fun q => hc ⟨e, q⟩
          simp [hj, this]
          omega
        · simp [hj, e, e1]
theorem mc_istore_n {j : Fin 4} {x : Int} (hc : mcCode M pc = some (.istore_n j, 1)) (hi : (j : Nat) < M.2.2.1) (k : mcE L fr lo M (pc + 1) (mcS1 ls j (mi x)) (st) ρ σ n z Φ) : mcE L fr lo M (pc) ls (mi x :: st) ρ σ n z Φ := by
  intro xs p l e s0 H0 b sc dC dI tyc F s m args below meth c hW A n0 z0 H locs LS h1 h2 h3 hR hl hS
  exact lv_istore_n F.1 A.2.2.2.1 (mc_dec hc) rfl hl.has hi rfl fun ls1 hs => (k xs p l e s0 H0 b sc dC dI tyc F s m args below meth c hW A n0 z0 H locs ls1 h1 h2 h3 hR (hl.store1 (v := mi x) hs) hS)
theorem mc_istore {i : Nat} {x : Int} (hc : mcCode M pc = some (.istore i, 2)) (hi : i < M.2.2.1) (k : mcE L fr lo M (pc + 2) (mcS1 ls i (mi x)) (st) ρ σ n z Φ) : mcE L fr lo M (pc) ls (mi x :: st) ρ σ n z Φ := by
  intro xs p l e s0 H0 b sc dC dI tyc F s m args below meth c hW A n0 z0 H locs LS h1 h2 h3 hR hl hS
  exact lv_istore F.1 A.2.2.2.1 (mc_dec hc) hl.has hi rfl fun ls1 hs => (k xs p l e s0 H0 b sc dC dI tyc F s m args below meth c hW A n0 z0 H locs ls1 h1 h2 h3 hR (hl.store1 (v := mi x) hs) hS)
theorem mc_astore_n {j : Fin 4} {x : Nat} (hc : mcCode M pc = some (.astore_n j, 1)) (hi : (j : Nat) < M.2.2.1) (k : mcE L fr lo M (pc + 1) (mcS1 ls j (mr x)) (st) ρ σ n z Φ) : mcE L fr lo M (pc) ls (mr x :: st) ρ σ n z Φ := by
  intro xs p l e s0 H0 b sc dC dI tyc F s m args below meth c hW A n0 z0 H locs LS h1 h2 h3 hR hl hS
  exact lv_astore_n F.1 A.2.2.2.1 (mc_dec hc) rfl hl.has hi rfl fun ls1 hs => (k xs p l e s0 H0 b sc dC dI tyc F s m args below meth c hW A n0 z0 H locs ls1 h1 h2 h3 hR (hl.store1 (v := mr x) hs) hS)
theorem mc_astore {i : Nat} {x : Nat} (hc : mcCode M pc = some (.astore i, 2)) (hi : i < M.2.2.1) (k : mcE L fr lo M (pc + 2) (mcS1 ls i (mr x)) (st) ρ σ n z Φ) : mcE L fr lo M (pc) ls (mr x :: st) ρ σ n z Φ := by
  intro xs p l e s0 H0 b sc dC dI tyc F s m args below meth c hW A n0 z0 H locs LS h1 h2 h3 hR hl hS
  exact lv_astore F.1 A.2.2.2.1 (mc_dec hc) hl.has hi rfl fun ls1 hs => (k xs p l e s0 H0 b sc dC dI tyc F s m args below meth c hW A n0 z0 H locs ls1 h1 h2 h3 hR (hl.store1 (v := mr x) hs) hS)
theorem mc_lstore_n {j : Fin 4} {x : Int64} (hc : mcCode M pc = some (.lstore_n j, 1)) (hi : (j : Nat) + 1 < M.2.2.1) (k : mcE L fr lo M (pc + 1) (mcS2 ls j (ml x)) (st) ρ σ n z Φ) : mcE L fr lo M (pc) ls (ml x :: st) ρ σ n z Φ := by
  intro xs p l e s0 H0 b sc dC dI tyc F s m args below meth c hW A n0 z0 H locs LS h1 h2 h3 hR hl hS
  exact lv_lstore_n F.1 A.2.2.2.1 (mc_dec hc) rfl hl.has hi rfl fun ls1 hs => (k xs p l e s0 H0 b sc dC dI tyc F s m args below meth c hW A n0 z0 H locs ls1 h1 h2 h3 hR (hl.store2 (v := ml x) hs) hS)
theorem mc_lstore {i : Nat} {x : Int64} (hc : mcCode M pc = some (.lstore i, 2)) (hi : i + 1 < M.2.2.1) (k : mcE L fr lo M (pc + 2) (mcS2 ls i (ml x)) (st) ρ σ n z Φ) : mcE L fr lo M (pc) ls (ml x :: st) ρ σ n z Φ := by
  intro xs p l e s0 H0 b sc dC dI tyc F s m args below meth c hW A n0 z0 H locs LS h1 h2 h3 hR hl hS
  exact lv_lstore F.1 A.2.2.2.1 (mc_dec hc) hl.has hi rfl fun ls1 hs => (k xs p l e s0 H0 b sc dC dI tyc F s m args below meth c hW A n0 z0 H locs ls1 h1 h2 h3 hR (hl.store2 (v := ml x) hs) hS)
theorem mc_iinc {i : Nat} {q x : Int} (hc : mcCode M pc = some (.iinc i q, 3)) (hv : ls[i]? = some (some (mi x))) (hi : i < M.2.2.1) (k : mcE L fr lo M (pc + 3) (mcS1 ls i (mi (x + q))) (st) ρ σ n z Φ) : mcE L fr lo M (pc) ls (st) ρ σ n z Φ := by
  intro xs p l e s0 H0 b sc dC dI tyc F s m args below meth c hW A n0 z0 H locs LS h1 h2 h3 hR hl hS
  obtain ⟨kk, hkk⟩ := List.mem_iff_getElem?.mp (mcAs_mem (b := b) (sc := sc) (q := (i, .int (Int32.ofInt x))) |>.mpr ⟨mi x, hv, rfl⟩)
  exact lv_iinc F.1 A.2.2.2.1 (mc_dec hc) hl.has hkk (by rw [← Int32.ofInt_add]) hi rfl fun ls1 hs => (k xs p l e s0 H0 b sc dC dI tyc F s m args below meth c hW A n0 z0 H locs ls1 h1 h2 h3 hR (hl.store1 (v := mi (x + q)) hs) hS)
theorem mc_tg {pc : Nat} {off : Int} (h : 0 ≤ (pc : Int) + off) : (pc : Int) + off = ((mcTg pc off : Nat) : Int) := by unfold mcTg; omega
theorem mc_if_eq {x : Int} {off : Int} (hc : mcCode M pc = some (.ifCond .eq off, 3)) (ht : 0 ≤ (pc : Int) + off) (hx : in32 x) (kt : x = 0 → mcE L fr lo M (mcTg pc off) ls (st) ρ σ n z Φ) (kf : ¬ x = 0 → mcE L fr lo M (pc + 3) ls (st) ρ σ n z Φ) : mcE L fr lo M (pc) ls (mi x :: st) ρ σ n z Φ := by
  intro xs p l e s0 H0 b sc dC dI tyc F s m args below meth c hW A n0 z0 H locs LS h1 h2 h3 hR hl hS
  exact lv_if_eq F.1 A.2.2.2.1 (mc_dec hc) (mc_tg ht) (fun q => kt ((i32_eq hx in32_0).mp q) xs p l e s0 H0 b sc dC dI tyc F s m args below meth c hW A n0 z0 H locs LS h1 h2 h3 hR hl hS) (fun q => kf (fun w => q ((i32_eq hx in32_0).mpr w)) xs p l e s0 H0 b sc dC dI tyc F s m args below meth c hW A n0 z0 H locs LS h1 h2 h3 hR hl hS)
theorem mc_icmp_eq {x y : Int} {off : Int} (hc : mcCode M pc = some (.if_icmp .eq off, 3)) (ht : 0 ≤ (pc : Int) + off) (hx : in32 x) (hy : in32 y) (kt : x = y → mcE L fr lo M (mcTg pc off) ls (st) ρ σ n z Φ) (kf : ¬ x = y → mcE L fr lo M (pc + 3) ls (st) ρ σ n z Φ) : mcE L fr lo M (pc) ls (mi y :: mi x :: st) ρ σ n z Φ := by
  intro xs p l e s0 H0 b sc dC dI tyc F s m args below meth c hW A n0 z0 H locs LS h1 h2 h3 hR hl hS
  exact lv_icmp_eq F.1 A.2.2.2.1 (mc_dec hc) (mc_tg ht) (fun q => kt ((i32_eq hx hy).mp q) xs p l e s0 H0 b sc dC dI tyc F s m args below meth c hW A n0 z0 H locs LS h1 h2 h3 hR hl hS) (fun q => kf (fun w => q ((i32_eq hx hy).mpr w)) xs p l e s0 H0 b sc dC dI tyc F s m args below meth c hW A n0 z0 H locs LS h1 h2 h3 hR hl hS)
theorem mc_if_ne {x : Int} {off : Int} (hc : mcCode M pc = some (.ifCond .ne off, 3)) (ht : 0 ≤ (pc : Int) + off) (hx : in32 x) (kt : ¬ x = 0 → mcE L fr lo M (mcTg pc off) ls (st) ρ σ n z Φ) (kf : x = 0 → mcE L fr lo M (pc + 3) ls (st) ρ σ n z Φ) : mcE L fr lo M (pc) ls (mi x :: st) ρ σ n z Φ := by
  intro xs p l e s0 H0 b sc dC dI tyc F s m args below meth c hW A n0 z0 H locs LS h1 h2 h3 hR hl hS
  exact lv_if_ne F.1 A.2.2.2.1 (mc_dec hc) (mc_tg ht) (fun q => kt (fun w => q ((i32_eq hx in32_0).mpr w)) xs p l e s0 H0 b sc dC dI tyc F s m args below meth c hW A n0 z0 H locs LS h1 h2 h3 hR hl hS) (fun q => kf ((i32_eq hx in32_0).mp q) xs p l e s0 H0 b sc dC dI tyc F s m args below meth c hW A n0 z0 H locs LS h1 h2 h3 hR hl hS)
theorem mc_icmp_ne {x y : Int} {off : Int} (hc : mcCode M pc = some (.if_icmp .ne off, 3)) (ht : 0 ≤ (pc : Int) + off) (hx : in32 x) (hy : in32 y) (kt : ¬ x = y → mcE L fr lo M (mcTg pc off) ls (st) ρ σ n z Φ) (kf : x = y → mcE L fr lo M (pc + 3) ls (st) ρ σ n z Φ) : mcE L fr lo M (pc) ls (mi y :: mi x :: st) ρ σ n z Φ := by
  intro xs p l e s0 H0 b sc dC dI tyc F s m args below meth c hW A n0 z0 H locs LS h1 h2 h3 hR hl hS
  exact lv_icmp_ne F.1 A.2.2.2.1 (mc_dec hc) (mc_tg ht) (fun q => kt (fun w => q ((i32_eq hx hy).mpr w)) xs p l e s0 H0 b sc dC dI tyc F s m args below meth c hW A n0 z0 H locs LS h1 h2 h3 hR hl hS) (fun q => kf ((i32_eq hx hy).mp q) xs p l e s0 H0 b sc dC dI tyc F s m args below meth c hW A n0 z0 H locs LS h1 h2 h3 hR hl hS)
theorem mc_if_lt {x : Int} {off : Int} (hc : mcCode M pc = some (.ifCond .lt off, 3)) (ht : 0 ≤ (pc : Int) + off) (hx : in32 x) (kt : x < 0 → mcE L fr lo M (mcTg pc off) ls (st) ρ σ n z Φ) (kf : ¬ x < 0 → mcE L fr lo M (pc + 3) ls (st) ρ σ n z Φ) : mcE L fr lo M (pc) ls (mi x :: st) ρ σ n z Φ := by
  intro xs p l e s0 H0 b sc dC dI tyc F s m args below meth c hW A n0 z0 H locs LS h1 h2 h3 hR hl hS
  exact lv_if_lt F.1 A.2.2.2.1 (mc_dec hc) (mc_tg ht) (fun q => kt ((i32_lt hx in32_0).mp q) xs p l e s0 H0 b sc dC dI tyc F s m args below meth c hW A n0 z0 H locs LS h1 h2 h3 hR hl hS) (fun q => kf (fun w => q ((i32_lt hx in32_0).mpr w)) xs p l e s0 H0 b sc dC dI tyc F s m args below meth c hW A n0 z0 H locs LS h1 h2 h3 hR hl hS)
theorem mc_icmp_lt {x y : Int} {off : Int} (hc : mcCode M pc = some (.if_icmp .lt off, 3)) (ht : 0 ≤ (pc : Int) + off) (hx : in32 x) (hy : in32 y) (kt : x < y → mcE L fr lo M (mcTg pc off) ls (st) ρ σ n z Φ) (kf : ¬ x < y → mcE L fr lo M (pc + 3) ls (st) ρ σ n z Φ) : mcE L fr lo M (pc) ls (mi y :: mi x :: st) ρ σ n z Φ := by
  intro xs p l e s0 H0 b sc dC dI tyc F s m args below meth c hW A n0 z0 H locs LS h1 h2 h3 hR hl hS
  exact lv_icmp_lt F.1 A.2.2.2.1 (mc_dec hc) (mc_tg ht) (fun q => kt ((i32_lt hx hy).mp q) xs p l e s0 H0 b sc dC dI tyc F s m args below meth c hW A n0 z0 H locs LS h1 h2 h3 hR hl hS) (fun q => kf (fun w => q ((i32_lt hx hy).mpr w)) xs p l e s0 H0 b sc dC dI tyc F s m args below meth c hW A n0 z0 H locs LS h1 h2 h3 hR hl hS)
theorem mc_if_ge {x : Int} {off : Int} (hc : mcCode M pc = some (.ifCond .ge off, 3)) (ht : 0 ≤ (pc : Int) + off) (hx : in32 x) (kt : 0 ≤ x → mcE L fr lo M (mcTg pc off) ls (st) ρ σ n z Φ) (kf : ¬ 0 ≤ x → mcE L fr lo M (pc + 3) ls (st) ρ σ n z Φ) : mcE L fr lo M (pc) ls (mi x :: st) ρ σ n z Φ := by
  intro xs p l e s0 H0 b sc dC dI tyc F s m args below meth c hW A n0 z0 H locs LS h1 h2 h3 hR hl hS
  exact lv_if_ge F.1 A.2.2.2.1 (mc_dec hc) (mc_tg ht) (fun q => kt ((i32_le in32_0 hx).mp q) xs p l e s0 H0 b sc dC dI tyc F s m args below meth c hW A n0 z0 H locs LS h1 h2 h3 hR hl hS) (fun q => kf (fun w => q ((i32_le in32_0 hx).mpr w)) xs p l e s0 H0 b sc dC dI tyc F s m args below meth c hW A n0 z0 H locs LS h1 h2 h3 hR hl hS)
theorem mc_icmp_ge {x y : Int} {off : Int} (hc : mcCode M pc = some (.if_icmp .ge off, 3)) (ht : 0 ≤ (pc : Int) + off) (hx : in32 x) (hy : in32 y) (kt : y ≤ x → mcE L fr lo M (mcTg pc off) ls (st) ρ σ n z Φ) (kf : ¬ y ≤ x → mcE L fr lo M (pc + 3) ls (st) ρ σ n z Φ) : mcE L fr lo M (pc) ls (mi y :: mi x :: st) ρ σ n z Φ := by
  intro xs p l e s0 H0 b sc dC dI tyc F s m args below meth c hW A n0 z0 H locs LS h1 h2 h3 hR hl hS
  exact lv_icmp_ge F.1 A.2.2.2.1 (mc_dec hc) (mc_tg ht) (fun q => kt ((i32_le hy hx).mp q) xs p l e s0 H0 b sc dC dI tyc F s m args below meth c hW A n0 z0 H locs LS h1 h2 h3 hR hl hS) (fun q => kf (fun w => q ((i32_le hy hx).mpr w)) xs p l e s0 H0 b sc dC dI tyc F s m args below meth c hW A n0 z0 H locs LS h1 h2 h3 hR hl hS)
theorem mc_if_gt {x : Int} {off : Int} (hc : mcCode M pc = some (.ifCond .gt off, 3)) (ht : 0 ≤ (pc : Int) + off) (hx : in32 x) (kt : 0 < x → mcE L fr lo M (mcTg pc off) ls (st) ρ σ n z Φ) (kf : ¬ 0 < x → mcE L fr lo M (pc + 3) ls (st) ρ σ n z Φ) : mcE L fr lo M (pc) ls (mi x :: st) ρ σ n z Φ := by
  intro xs p l e s0 H0 b sc dC dI tyc F s m args below meth c hW A n0 z0 H locs LS h1 h2 h3 hR hl hS
  exact lv_if_gt F.1 A.2.2.2.1 (mc_dec hc) (mc_tg ht) (fun q => kt ((i32_lt in32_0 hx).mp q) xs p l e s0 H0 b sc dC dI tyc F s m args below meth c hW A n0 z0 H locs LS h1 h2 h3 hR hl hS) (fun q => kf (fun w => q ((i32_lt in32_0 hx).mpr w)) xs p l e s0 H0 b sc dC dI tyc F s m args below meth c hW A n0 z0 H locs LS h1 h2 h3 hR hl hS)
theorem mc_icmp_gt {x y : Int} {off : Int} (hc : mcCode M pc = some (.if_icmp .gt off, 3)) (ht : 0 ≤ (pc : Int) + off) (hx : in32 x) (hy : in32 y) (kt : y < x → mcE L fr lo M (mcTg pc off) ls (st) ρ σ n z Φ) (kf : ¬ y < x → mcE L fr lo M (pc + 3) ls (st) ρ σ n z Φ) : mcE L fr lo M (pc) ls (mi y :: mi x :: st) ρ σ n z Φ := by
  intro xs p l e s0 H0 b sc dC dI tyc F s m args below meth c hW A n0 z0 H locs LS h1 h2 h3 hR hl hS
  exact lv_icmp_gt F.1 A.2.2.2.1 (mc_dec hc) (mc_tg ht) (fun q => kt ((i32_lt hy hx).mp q) xs p l e s0 H0 b sc dC dI tyc F s m args below meth c hW A n0 z0 H locs LS h1 h2 h3 hR hl hS) (fun q => kf (fun w => q ((i32_lt hy hx).mpr w)) xs p l e s0 H0 b sc dC dI tyc F s m args below meth c hW A n0 z0 H locs LS h1 h2 h3 hR hl hS)
theorem mc_if_le {x : Int} {off : Int} (hc : mcCode M pc = some (.ifCond .le off, 3)) (ht : 0 ≤ (pc : Int) + off) (hx : in32 x) (kt : x ≤ 0 → mcE L fr lo M (mcTg pc off) ls (st) ρ σ n z Φ) (kf : ¬ x ≤ 0 → mcE L fr lo M (pc + 3) ls (st) ρ σ n z Φ) : mcE L fr lo M (pc) ls (mi x :: st) ρ σ n z Φ := by
  intro xs p l e s0 H0 b sc dC dI tyc F s m args below meth c hW A n0 z0 H locs LS h1 h2 h3 hR hl hS
  exact lv_if_le F.1 A.2.2.2.1 (mc_dec hc) (mc_tg ht) (fun q => kt ((i32_le hx in32_0).mp q) xs p l e s0 H0 b sc dC dI tyc F s m args below meth c hW A n0 z0 H locs LS h1 h2 h3 hR hl hS) (fun q => kf (fun w => q ((i32_le hx in32_0).mpr w)) xs p l e s0 H0 b sc dC dI tyc F s m args below meth c hW A n0 z0 H locs LS h1 h2 h3 hR hl hS)
theorem mc_icmp_le {x y : Int} {off : Int} (hc : mcCode M pc = some (.if_icmp .le off, 3)) (ht : 0 ≤ (pc : Int) + off) (hx : in32 x) (hy : in32 y) (kt : x ≤ y → mcE L fr lo M (mcTg pc off) ls (st) ρ σ n z Φ) (kf : ¬ x ≤ y → mcE L fr lo M (pc + 3) ls (st) ρ σ n z Φ) : mcE L fr lo M (pc) ls (mi y :: mi x :: st) ρ σ n z Φ := by
  intro xs p l e s0 H0 b sc dC dI tyc F s m args below meth c hW A n0 z0 H locs LS h1 h2 h3 hR hl hS
  exact lv_icmp_le F.1 A.2.2.2.1 (mc_dec hc) (mc_tg ht) (fun q => kt ((i32_le hx hy).mp q) xs p l e s0 H0 b sc dC dI tyc F s m args below meth c hW A n0 z0 H locs LS h1 h2 h3 hR hl hS) (fun q => kf (fun w => q ((i32_le hx hy).mpr w)) xs p l e s0 H0 b sc dC dI tyc F s m args below meth c hW A n0 z0 H locs LS h1 h2 h3 hR hl hS)
theorem mc_goto {off : Int} (hc : mcCode M pc = some (.goto off, 3)) (ht : 0 ≤ (pc : Int) + off) (k : mcE L fr lo M (mcTg pc off) ls (st) ρ σ n z Φ) : mcE L fr lo M (pc) ls (st) ρ σ n z Φ := by
  intro xs p l e s0 H0 b sc dC dI tyc F s m args below meth c hW A n0 z0 H locs LS h1 h2 h3 hR hl hS
  exact lv_goto F.1 A.2.2.2.1 (mc_dec hc) (mc_tg ht) (k xs p l e s0 H0 b sc dC dI tyc F s m args below meth c hW A n0 z0 H locs LS h1 h2 h3 hR hl hS)
theorem mcTs_get {x : Int} {pc : Nat} {f : Nat → Prop} : ∀ {offs : List Int} {lo : Int}, mcTs x lo pc offs f → ∀ (j : Nat) (o : Int), offs[j]? = some o → x = lo + j → f (mcTg pc o)
  | [], _, _, j, o, h, _ => by simp at h
  | t :: r, lo, hs, 0, o, h, e => by
    simp at h; subst h
    exact hs.1 (by omega)
  | t :: r, lo, hs, j + 1, o, h, e => mcTs_get hs.2 j o (by simpa using h) (by omega)
theorem mc_tableswitch {x dflt lw hi : Int} {offs : Array Int} {len : Nat} (hc : mcCode M pc = some (.tableswitch dflt lw hi offs, len)) (hx : in32 x) (ho : offs.size = (hi - lw + 1).toNat) (hd : 0 ≤ (pc : Int) + dflt) (hall : ∀ o ∈ offs.toList, 0 ≤ (pc : Int) + o)
    (k1 : mcTs x lw pc offs.toList fun t => mcE L fr lo M t ls st ρ σ n z Φ) (k2 : x < lw ∨ hi < x → mcE L fr lo M (mcTg pc dflt) ls st ρ σ n z Φ) : mcE L fr lo M pc ls (mi x :: st) ρ σ n z Φ := by
  intro xs p l e s0 H0 b sc dC dI tyc F s m args below meth c hW A n0 z0 H locs LS h1 h2 h3 hR hl hS
  by_cases h : x < lw ∨ hi < x
  · exact lv_tableOut F.1 A.2.2.2.1 (mc_dec hc) (by rw [in32_toInt hx]; exact h) (mc_tg hd) (k2 h xs p l e s0 H0 b sc dC dI tyc F s m args below meth c hW A n0 z0 H locs LS h1 h2 h3 hR hl hS)
  · have hj : (x - lw).toNat < offs.size := by omega
    have hg : offs[(x - lw).toNat]? = some offs[(x - lw).toNat] := Array.getElem?_eq_getElem hj
    have hm : offs[(x - lw).toNat] ∈ offs.toList := Array.getElem_mem_toList hj
    refine lv_tableIn F.1 A.2.2.2.1 (mc_dec hc) (by rw [in32_toInt hx]; omega) (by rw [in32_toInt hx]; omega) (by rw [in32_toInt hx]; exact hg) (mc_tg (hall _ hm)) ?_
    exact mcTs_get k1 (x - lw).toNat _ (by rw [Array.getElem?_toList]; exact hg) (by omega) xs p l e s0 H0 b sc dC dI tyc F s m args below meth c hW A n0 z0 H locs LS h1 h2 h3 hR hl hS
theorem mc_ireturn {x : Int} (hc : mcCode M pc = some (.ireturn, 1)) (hr : M.2.2.2.1 = some .int) (hΦ : Φ (.inl (some (mi x))) ρ σ n z) : mcE L fr lo M pc ls [mi x] ρ σ n z Φ := by
  intro xs p l e s0 H0 b sc dC dI tyc F s m args below meth c hW A n0 z0 H locs LS h1 h2 h3 hR hl hS
  intro T hT X
  have hret := A.2.2.2.2.2.1.trans hr
  obtain ⟨fs, hleave, hrun, hended, hWe, hsame⟩ := X.leave (v := some (.int (Int32.ofInt x))) (fun q => by rw [hret] at q; cases q) A.2.2.2.2.2.2.1
  have hmeth' : T.vm.method? m = some meth := X.method'
  have hb : c.code = M.2.1 := A.2.2.2.1
  have hdg := mc_dec hc
  have hexec := F.1
  refine ⟨T.setFrames fs, ?_, .inl (some (mi x)), ρ, σ, n, z, locs, hrun, hended, hWe, hsame, h3, h1, h2, by show mcR L xs b sc dC dI tyc ρ σ n z H0 T.heap; rw [hT]; exact hR, trivial, hΦ⟩
  jvm_step X.here [X.here.top, hexec, hb, hdg, hmeth', hret, narrow, mcVal, List.map_cons, List.map_nil]
  (try refine ⟨rfl, ?_⟩); (try refine ⟨rfl, ?_⟩)
  first | (intro acts; rw [hleave _ acts rfl rfl rfl]) | rw [hleave _ _ rfl rfl rfl]
  exact Steps.refl _
theorem mc_lreturn {x : Int64} (hc : mcCode M pc = some (.lreturn, 1)) (hr : M.2.2.2.1 = some .long) (hΦ : Φ (.inl (some (ml x))) ρ σ n z) : mcE L fr lo M pc ls [ml x] ρ σ n z Φ := by
  intro xs p l e s0 H0 b sc dC dI tyc F s m args below meth c hW A n0 z0 H locs LS h1 h2 h3 hR hl hS
  intro T hT X
  have hret := A.2.2.2.2.2.1.trans hr
  obtain ⟨fs, hleave, hrun, hended, hWe, hsame⟩ := X.leave (v := some (.long x)) (fun q => by rw [hret] at q; cases q) A.2.2.2.2.2.2.1
  have hmeth' : T.vm.method? m = some meth := X.method'
  have hb : c.code = M.2.1 := A.2.2.2.1
  have hdg := mc_dec hc
  have hexec := F.1
  refine ⟨T.setFrames fs, ?_, .inl (some (ml x)), ρ, σ, n, z, locs, hrun, hended, hWe, hsame, h3, h1, h2, by show mcR L xs b sc dC dI tyc ρ σ n z H0 T.heap; rw [hT]; exact hR, trivial, hΦ⟩
  jvm_step X.here [X.here.top, hexec, hb, hdg, hmeth', hret, narrow, mcVal, List.map_cons, List.map_nil]
  (try refine ⟨rfl, ?_⟩); (try refine ⟨rfl, ?_⟩)
  first | (intro acts; rw [hleave _ acts rfl rfl rfl]) | rw [hleave _ _ rfl rfl rfl]
  exact Steps.refl _
theorem mc_narrow_z {x : Int} (h : x = 0 ∨ x = 1) : narrow .boolean (.int (Int32.ofInt x)) = .int (Int32.ofInt x) := by
  rcases h with rfl | rfl <;> rfl
theorem mc_zreturn {x : Int} (hc : mcCode M pc = some (.ireturn, 1)) (hr : M.2.2.2.1 = some .boolean) (hx : x = 0 ∨ x = 1) (hΦ : Φ (.inl (some (mi x))) ρ σ n z) : mcE L fr lo M pc ls [mi x] ρ σ n z Φ := by
  intro xs p l e s0 H0 b sc dC dI tyc F s m args below meth c hW A n0 z0 H locs LS h1 h2 h3 hR hl hS
  intro T hT X
  have hret := A.2.2.2.2.2.1.trans hr
  obtain ⟨fs, hleave, hrun, hended, hWe, hsame⟩ := X.leave (v := some (.int (Int32.ofInt x))) (fun q => by rw [hret] at q; cases q) A.2.2.2.2.2.2.1
  have hmeth' : T.vm.method? m = some meth := X.method'
  have hb : c.code = M.2.1 := A.2.2.2.1
  have hdg := mc_dec hc
  have hexec := F.1
  refine ⟨T.setFrames fs, ?_, .inl (some (mi x)), ρ, σ, n, z, locs, hrun, hended, hWe, hsame, h3, h1, h2, by show mcR L xs b sc dC dI tyc ρ σ n z H0 T.heap; rw [hT]; exact hR, trivial, hΦ⟩
  have hnz := mc_narrow_z hx
  jvm_step X.here [X.here.top, hexec, hb, hdg, hmeth', hret, hnz, mcVal, List.map_cons, List.map_nil]
  (try refine ⟨rfl, ?_⟩); (try refine ⟨rfl, ?_⟩)
  first | (intro acts; rw [hleave _ acts rfl rfl rfl]) | rw [hleave _ _ rfl rfl rfl]
  exact Steps.refl _
theorem mc_return_ (hc : mcCode M pc = some (.return_, 1)) (hr : M.2.2.2.1 = none) (hΦ : Φ (.inl none) ρ σ n z) : mcE L fr lo M pc ls [] ρ σ n z Φ := by
  intro xs p l e s0 H0 b sc dC dI tyc F s m args below meth c hW A n0 z0 H locs LS h1 h2 h3 hR hl hS
  intro T hT X
  have hret := A.2.2.2.2.2.1.trans hr
  obtain ⟨fs, hleave, hrun, hended, hWe, hsame⟩ := X.leave (v := none) (fun q => by rfl) A.2.2.2.2.2.2.1
  have hmeth' : T.vm.method? m = some meth := X.method'
  have hb : c.code = M.2.1 := A.2.2.2.1
  have hdg := mc_dec hc
  have hexec := F.1
  refine ⟨T.setFrames fs, ?_, .inl none, ρ, σ, n, z, locs, hrun, hended, hWe, hsame, h3, h1, h2, by show mcR L xs b sc dC dI tyc ρ σ n z H0 T.heap; rw [hT]; exact hR, trivial, hΦ⟩
  jvm_step X.here [X.here.top, hexec, hb, hdg, hmeth', hret, List.map_nil]
  (try refine ⟨rfl, ?_⟩); (try refine ⟨rfl, ?_⟩)
  first | (intro acts; rw [hleave _ acts rfl rfl rfl]) | rw [hleave _ _ rfl rfl rfl]
  exact Steps.refl _
end MCr
