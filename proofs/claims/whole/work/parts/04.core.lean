/-! 04.core: one judgement mcE over the kit's W, with all of the machine hidden in it -/
def mcAd (b sc k : Nat) : Nat := if k = 0 then sc else b + k
def mcVal (b sc : Nat) : mV → Value
  | .inl x => .int (Int32.ofInt x)
  | .inr (.inl x) => .long x
  | .inr (.inr a) => .ref (mcAd b sc a)
def mcO (b sc : Nat) : mcOut → Outcome
  | .inl v => .returned (v.map (mcVal b sc))
  | .inr (_, a) => .threw (b + a)
/-- what a thrown thing is -/
def mcOx (s0 : State) (b : Nat) (H : Heap) : mcOut → Prop
  | .inl _ => True
  | .inr (k, a) => (∃ cell : Cell, H[b + a]? = some cell ∧ cell.vm = .none ∧ s0.vm.findClass (mcXn k) = some cell.cls ∧ 1 ≤ a) ∧ (k = 0 ∨ k = 1)
def mcFv (b sc : Nat) (kd : Nat) (ρ : mP) (σ : mG) (k : Nat) (i : Nat) : Value := if kd = 1 then va_rf ((ρ k i).map (mcAd b sc)) else .int (Int32.ofInt (σ k i))
def mcEl (b sc : Nat) (t : Nat) (ρ : mP) (σ : mG) (k : Nat) (j : Nat) : Value :=
  if t = 1 then .long (Int64.ofInt (σ k j)) else if t < 4 then .int (Int32.ofInt (σ k j)) else va_rf ((ρ k j).map (mcAd b sc))
def mcAt1 (b sc : Nat) (dC : Nat → ClassId) (dI : Nat → Nat → Nat) (tyc : Nat → ClassId) (H : Heap) (ρ : mP) (σ : mG) (k : Nat) : mSh → Prop
  | .inl (t, len) => t < mcNT ∧ H[b + k]? = some (arrV (tyc t) len (mcEl b sc t ρ σ k))
  | .inr ci => ∃ (r : vw_C) (kd : List Nat), mcCl[ci]? = some r ∧ mcKd[ci]? = some kd ∧ kd.length = r.2.2 ∧ t_OB (b + k) (dC ci) r.2.2 (dI ci) H (fun i => mcFv b sc (kd.getD i 0) ρ σ k i)
def mcRng (L : Nat) (σ : mG) : Prop := ∀ (k : Nat) (i : Int), (∀ len, mcSk L k ≠ some (.inl (1, len))) → in32 (σ k i)
/-- the heap: what was there at the law's start stands as it did; place k (1 ≤ k < n) is the cell b + k; place 0 is the script -/
def mcR (L : Nat) (xs : Nat → Int32) (b sc : Nat) (dC : Nat → ClassId) (dI : Nat → Nat → Nat) (tyc : Nat → ClassId) (ρ : mP) (σ : mG) (n z : Nat) (H0 H : Heap) : Prop :=
  (1 ≤ n ∧ n ≤ 601025 ∧ z ≤ 7293034) ∧ H.size = b + n ∧ (∀ q : Nat, q < b + 1 → H[q]? = H0[q]?) ∧ (∀ j : Nat, j < L → xs j = Int32.ofInt (σ 0 j)) ∧ mcRng L σ ∧ (∀ k, n ≤ k → ∀ i, σ k i = 0 ∧ ρ k i = none) ∧ (∀ k (cell : Cell), 1 ≤ k → k < n → H[b + k]? = some cell → cell.vm = .none) ∧
  ∀ k sh, 1 ≤ k → k < n → mcSk L k = some sh → mcAt1 b sc dC dI tyc H ρ σ k sh
def mcL (b sc : Nat) (LS : Array Slot) (nL : Nat) (ls : List (Option mV)) : Prop :=
  LS.size = nL ∧ ls.length = nL ∧ lv_wf LS ∧ ∀ (i : Nat) (v : mV), ls[i]? = some (some v) → LS[i]? = some (.val (mcVal b sc v))
/-- what stands fixed from the law's start on: the machine, the tables' words, the script, the array classes -/
def mcFix (L : Nat) (xs : Nat → Int32) (p : Program) (l : Launch) (s0 : State) (H0 : Heap) (b sc : Nat) (dC : Nat → ClassId) (dI : Nat → Nat → Nat) (tyc : Nat → ClassId) : Prop :=
  p.tables.exec = Jvm.exec ∧ l.flags = pinnedFlags ++ [noTraceFlag] ∧ (∀ w ∈ lw_tbl, ∀ (a : Array Value) (U : State), s0.WarmedH U.vm → (∀ q : Nat, q < b + 1 → U.heap[q]? = H0[q]?) → w.before a U = true) ∧ va_X sc L xs s0 H0 ∧ H0.size = b + 1 ∧
  va_K (dC, dI) mcCl [] s0 ∧ (∀ t, t < mcNT → ArrOfT s0 (tyc t) (mcTy t) ∧ va_RA s0 (tyc t) (mcTy t)) ∧ (∃ a0, (Jvm.Cond.and given_1 narrow_1).before a0 s0 = true) ∧ s0.heap = H0
/-- M is the method that runs -/
def mcMt (M : mcM) (s : State) (m : MethodId) (meth : Method) (c : Code) : Prop :=
  s.methodNamed? M.1 = some m ∧ s.vm.method? m = some meth ∧ meth.code = some c ∧ c.code = M.2.1 ∧ c.maxLocals = M.2.2.1 ∧ meth.sig.returnType = M.2.2.2.1 ∧ meth.locks = false ∧
  c.exceptionTable.toList.map (fun h => (h.startPc, h.endPc, h.handlerPc, h.catchType)) = M.2.2.2.2 ∧ s.vm.findClass M.1.cls = some m.cls
/-- the heap at the method's entry: what was there at the law's start, and own cells -/
def mcHs (b : Nat) (H0 : Heap) (s : State) : Prop := (∀ q : Nat, q < b + 1 → s.heap[q]? = H0[q]?) ∧ ∀ (q : Nat) (cell : Cell), b + 1 ≤ q → s.heap[q]? = some cell → cell.vm = .none
def mcQ (L : Nat) (xs : Nat → Int32) (s0 : State) (H0 : Heap) (b sc : Nat) (dC : Nat → ClassId) (dI : Nat → Nat → Nat) (tyc : Nat → ClassId) (s : State) (below : List Frame) (n0 z0 : Nat) (Φ : mcPost) : State → Prop := fun t =>
  ∃ (o : mcOut) (ρ : mP) (σ : mG) (n z : Nat) (Lc : List Loc), t.status = .running ∧ Ended t below (mcO b sc o) ∧ s.WarmedH t.vm ∧ s.sameButNew ({ t with vm := s.vm } : State) Lc (n - n0) (z - z0) ∧ (∀ q ∈ Lc, b + 1 ≤ q.base) ∧
    n0 ≤ n ∧ z0 ≤ z ∧ mcR L xs b sc dC dI tyc ρ σ n z H0 t.heap ∧ mcOx s0 b t.heap o ∧ Φ o ρ σ n z
def mcRm (fr lo n0 z0 : Nat) : Room := { frames := fr, cells := 601025 - n0, slots := 7293034 - z0, locals := lo }
/-- THE JUDGEMENT: from pc of method M, with these locals, stack and heap, with fr frames and lo words of stack left, the method ends, and its end has Φ -/
def mcE (L : Nat) (fr lo : Nat) (M : mcM) (pc : Nat) (ls : List (Option mV)) (st : List mV) (ρ : mP) (σ : mG) (n z : Nat) (Φ : mcPost) : Prop :=
  ∀ (xs : Nat → Int32) (p : Program) (l : Launch) (e : Env) (s0 : State) (H0 : Heap) (b sc : Nat) (dC : Nat → ClassId) (dI : Nat → Nat → Nat) (tyc : Nat → ClassId), mcFix L xs p l s0 H0 b sc dC dI tyc →
  ∀ (s : State) (m : MethodId) (args : Array Value) (below : List Frame) (meth : Method) (c : Code), s0.WarmedH s.vm → mcMt M s m meth c →
  ∀ (n0 z0 : Nat) (H : Heap) (locs : List Loc) (LS : Array Slot), n0 ≤ n → z0 ≤ z → (∀ q ∈ locs, b + 1 ≤ q.base) → mcR L xs b sc dC dI tyc ρ σ n z H0 H → mcL b sc LS M.2.2.1 ls → mcHs b H0 s →
    W p l e (mcRm fr lo n0 z0) s m args below meth c H locs (n - n0) (z - z0) (mcQ L xs s0 H0 b sc dC dI tyc s below n0 z0 Φ) (F0 m pc LS (st.map (mcVal b sc)))
theorem mc_dec {M : mcM} {pc : Nat} {x : Instr × Nat} (h : mcCode M pc = some x) : decode M.2.1 pc = .ok x := by
  unfold mcCode at h
  split at h
  · cases h; assumption
  · cases h
theorem mcVal_cat (b sc : Nat) (v : mV) : (mcVal b sc v).category = mcCat v := by
  rcases v with x | x | x <;> rfl
theorem in32_toInt {x : Int} (h : in32 x) : (Int32.ofInt x).toInt = x := by
  rw [Int32.toInt_ofInt]
  unfold in32 at h
  exact Int.bmod_eq_of_le (by simpa using h.1) (by simpa using h.2)
theorem i32_lt {x y : Int} (hx : in32 x) (hy : in32 y) : (Int32.ofInt x < Int32.ofInt y) ↔ x < y := by
  rw [Int32.lt_iff_toInt_lt, in32_toInt hx, in32_toInt hy]
theorem i32_le {x y : Int} (hx : in32 x) (hy : in32 y) : (Int32.ofInt x ≤ Int32.ofInt y) ↔ x ≤ y := by
  rw [Int32.le_iff_toInt_le, in32_toInt hx, in32_toInt hy]
theorem i32_eq {x y : Int} (hx : in32 x) (hy : in32 y) : (Int32.ofInt x = Int32.ofInt y) ↔ x = y := by
  constructor
  · intro h; rw [← in32_toInt hx, ← in32_toInt hy, h]
  · intro h; rw [h]
theorem i32_zero : (0 : Int32) = Int32.ofInt 0 := rfl
theorem in32_0 : in32 0 := by unfold in32; omega
theorem i32_clamp {x : Int} (hx : in32 x) (h0 : 0 ≤ x) : (Int32.ofInt x).toNatClampNeg = x.toNat := by
  show (Int32.ofInt x).toInt.toNat = _
  rw [in32_toInt hx]
theorem i32_in {x : Int} {len : Nat} (hx : in32 x) (h0 : 0 ≤ x) (hl : x < len) : vp_in (Int32.ofInt x) len := by
  rintro (h | h)
  · rw [i32_zero, i32_lt hx in32_0] at h; omega
  · rw [i32_clamp hx h0] at h; omega
/-- fewer known locals -/
theorem mc_weak {L fr lo : Nat} {M : mcM} {pc : Nat} {ls : List (Option mV)} {st : List mV} {ρ : mP} {σ : mG} {n z : Nat} {Φ : mcPost} {ls' : List (Option mV)} (hlen : ls'.length = ls.length) (hs : ∀ (i : Nat) (v : mV), ls'[i]? = some (some v) → ls[i]? = some (some v)) (k : mcE L fr lo M pc ls' st ρ σ n z Φ) : mcE L fr lo M pc ls st ρ σ n z Φ := by
  intro xs p l e s0 H0 b sc dC dI tyc F s m args below meth c hW A n0 z0 H locs LS h1 h2 h3 hR hl hS
  exact k xs p l e s0 H0 b sc dC dI tyc F s m args below meth c hW A n0 z0 H locs LS h1 h2 h3 hR ⟨hl.1, hlen.trans hl.2.1, hl.2.2.1, fun i v q => hl.2.2.2 i v (hs i v q)⟩ hS
/-- an end is enough for every wider one -/
theorem mc_conseq {L fr lo : Nat} {M : mcM} {pc : Nat} {ls : List (Option mV)} {st : List mV} {ρ : mP} {σ : mG} {n z : Nat} {Φ Ψ : mcPost} (hΦ : ∀ o ρ σ n z, Ψ o ρ σ n z → Φ o ρ σ n z) (k : mcE L fr lo M pc ls st ρ σ n z Ψ) : mcE L fr lo M pc ls st ρ σ n z Φ := by
  intro xs p l e s0 H0 b sc dC dI tyc F s m args below meth c hW A n0 z0 H locs LS h1 h2 h3 hR hl hS T hT X
  obtain ⟨t, a, o, ρ', σ', n', z', Lc, q1, q2, q3, q4, q5, q6, q7, q8, q9, q10⟩ := k xs p l e s0 H0 b sc dC dI tyc F s m args below meth c hW A n0 z0 H locs LS h1 h2 h3 hR hl hS T hT X
  exact ⟨t, a, o, ρ', σ', n', z', Lc, q1, q2, q3, q4, q5, q6, q7, q8, q9, hΦ _ _ _ _ _ q10⟩
/-- the ranges may be taken as known -/
theorem mc_rng {L fr lo : Nat} {M : mcM} {pc : Nat} {ls : List (Option mV)} {st : List mV} {ρ : mP} {σ : mG} {n z : Nat} {Φ : mcPost} (k : mcRng L σ → 1 ≤ n → n ≤ 601025 → z ≤ 7293034 → mcE L fr lo M pc ls st ρ σ n z Φ) : mcE L fr lo M pc ls st ρ σ n z Φ := by
  intro xs p l e s0 H0 b sc dC dI tyc F s m args below meth c hW A n0 z0 H locs LS h1 h2 h3 hR hl hS
  exact k hR.2.2.2.2.1 hR.1.1 hR.1.2.1 hR.1.2.2 xs p l e s0 H0 b sc dC dI tyc F s m args below meth c hW A n0 z0 H locs LS h1 h2 h3 hR hl hS
/-- the judgement at a method's entry alone: nothing is written yet, the heap is the entry's -/
def mcE0 (L : Nat) (fr lo : Nat) (M : mcM) (ls : List (Option mV)) (ρ : mP) (σ : mG) (n z : Nat) (Φ : mcPost) : Prop :=
  ∀ (xs : Nat → Int32) (p : Program) (l : Launch) (e : Env) (s0 : State) (H0 : Heap) (b sc : Nat) (dC : Nat → ClassId) (dI : Nat → Nat → Nat) (tyc : Nat → ClassId), mcFix L xs p l s0 H0 b sc dC dI tyc →
  ∀ (s : State) (m : MethodId) (args : Array Value) (below : List Frame) (meth : Method) (c : Code), s0.WarmedH s.vm → mcMt M s m meth c →
  ∀ (LS : Array Slot), mcR L xs b sc dC dI tyc ρ σ n z H0 s.heap → mcL b sc LS M.2.2.1 ls → mcHs b H0 s →
    W p l e (mcRm fr lo n z) s m args below meth c s.heap [] 0 0 (mcQ L xs s0 H0 b sc dC dI tyc s below n z Φ) (F0 m 0 LS [])
theorem mcE.at0 {L fr lo : Nat} {M : mcM} {ls : List (Option mV)} {ρ : mP} {σ : mG} {n z : Nat} {Φ : mcPost} (k : mcE L fr lo M 0 ls [] ρ σ n z Φ) : mcE0 L fr lo M ls ρ σ n z Φ := by
  intro xs p l e s0 H0 b sc dC dI tyc F s m args below meth c hW A LS hR hl hS
  have h := k xs p l e s0 H0 b sc dC dI tyc F s m args below meth c hW A n z s.heap [] LS (Nat.le_refl _) (Nat.le_refl _) (fun q hq => by cases hq) hR hl hS
  rw [Nat.sub_self, Nat.sub_self] at h
  exact h
