/-! 06.heap: rules of instructions on the heap -/
section MCh
variable {L fr lo : Nat} {M : mcM} {pc : Nat} {ls : List (Option mV)} {st : List mV} {ρ : mP} {σ : mG} {n z : Nat} {Φ : mcPost}
theorem mcAt1.congr {b sc : Nat} {dC : Nat → ClassId} {dI : Nat → Nat → Nat} {tyc : Nat → ClassId} {H H1 : Heap} {ρ' : mP} {σ' : mG} {k : Nat} {sh : mSh} (hc : mcAt1 b sc dC dI tyc H ρ σ k sh) (hρ : ρ' k = ρ k) (hσ : σ' k = σ k) (hq : H1[b + k]? = H[b + k]?) : mcAt1 b sc dC dI tyc H1 ρ' σ' k sh := by
  rcases sh with ⟨t, len⟩ | ci
  · refine ⟨hc.1, hq.trans (hc.2.trans ?_)⟩
    congr 2
    funext j
    unfold mcEl
    rw [hρ, hσ]
  · obtain ⟨r, kd, h1, h2, h3, h4⟩ := hc
    refine ⟨r, kd, h1, h2, h3, (h4.kept hq).to fun i _ => ?_⟩
    unfold mcFv
    rw [hρ, hσ]
theorem mcAt1.vm {b sc : Nat} {dC : Nat → ClassId} {dI : Nat → Nat → Nat} {tyc : Nat → ClassId} {H : Heap} {k : Nat} {sh : mSh} (hc : mcAt1 b sc dC dI tyc H ρ σ k sh) {cell : Cell} (h : H[b + k]? = some cell) : cell.vm = .none := by
  rcases sh with ⟨t, len⟩ | ci
  · cases h.symm.trans hc.2; rfl
  · obtain ⟨r, kd, h1, h2, h3, cell', q1, q2, q3, q4⟩ := hc
    cases h.symm.trans q1; exact q3
/-- one cell is written -/
theorem mcR.up {xs : Nat → Int32} {b sc : Nat} {dC : Nat → ClassId} {dI : Nat → Nat → Nat} {tyc : Nat → ClassId} {H0 H H1 : Heap} {ρ' : mP} {σ' : mG} {a : Nat} {sh0 : mSh} (hR : mcR L xs b sc dC dI tyc ρ σ n z H0 H) (ha : 1 ≤ a) (han : a < n) (hs0 : mcSk L a = some sh0) (hz : H1.size = H.size) (ho : ∀ q : Nat, q ≠ b + a → H1[q]? = H[q]?)
    (hρ : ∀ k, k ≠ a → ρ' k = ρ k) (hσ : ∀ k, k ≠ a → σ' k = σ k) (hr : mcRng L σ') (hc : ∀ sh, mcSk L a = some sh → mcAt1 b sc dC dI tyc H1 ρ' σ' a sh) : mcR L xs b sc dC dI tyc ρ' σ' n z H0 H1 := by
  obtain ⟨r1, r2, r3, r4, r5, r6, r8, r7⟩ := hR
  refine ⟨r1, hz.trans r2, fun q hq => (ho q (by omega)).trans (r3 q hq), fun j hj => ?_, hr, fun k hk i => ?_, fun k cell h1 h2 h3 => ?_, fun k sh h1 h2 h3 => ?_⟩
  · rw [hσ 0 (by omega)]; exact r4 j hj
  · rw [hσ k (by omega), hρ k (by omega)]; exact r6 k hk i
  · by_cases e : k = a
    · subst e; exact (hc _ hs0).vm h3
    · rw [ho (b + k) (by omega)] at h3; exact r8 k cell h1 h2 h3
  · by_cases e : k = a
    · subst e; exact hc sh h3
    · exact (r7 k sh h1 h2 h3).congr (hρ k e) (hσ k e) (ho (b + k) (by omega))
/-- one cell is made -/
theorem mcR.push {xs : Nat → Int32} {b sc : Nat} {dC : Nat → ClassId} {dI : Nat → Nat → Nat} {tyc : Nat → ClassId} {H0 H H1 : Heap} {z' : Nat} (hR : mcR L xs b sc dC dI tyc ρ σ n z H0 H) (hn : n + 1 ≤ 601025) (hz' : z' ≤ 7293034) (hz : H1.size = H.size + 1) (ho : ∀ q : Nat, q < H.size → H1[q]? = H[q]?)
    (hv : ∀ cell : Cell, H1[b + n]? = some cell → cell.vm = .none) (hc : ∀ sh, mcSk L n = some sh → mcAt1 b sc dC dI tyc H1 ρ σ n sh) : mcR L xs b sc dC dI tyc ρ σ (n + 1) z' H0 H1 := by
  obtain ⟨r1, r2, r3, r4, r5, r6, r8, r7⟩ := hR
  refine ⟨⟨by omega, by omega, hz'⟩, by omega, fun q hq => (ho q (by omega)).trans (r3 q hq), r4, r5, fun k hk i => r6 k (by omega) i, fun k cell h1 h2 h3 => ?_, fun k sh h1 h2 h3 => ?_⟩
  · by_cases e : k = n
    · subst e; exact hv cell h3
    · rw [ho (b + k) (by omega)] at h3; exact r8 k cell h1 (by omega) h3
  · by_cases e : k = n
    · subst e; exact hc sh h3
    · exact (r7 k sh h1 (by omega) h3).congr rfl rfl (ho (b + k) (by omega))
theorem mcAd_pos {b sc a : Nat} (h : 1 ≤ a) : mcAd b sc a = b + a := by
  unfold mcAd
  rw [if_neg (by omega)]
theorem mcWords {xs : Nat → Int32} {p : Program} {l : Launch} {s0 : State} {H0 : Heap} {b sc : Nat} {dC : Nat → ClassId} {dI : Nat → Nat → Nat} {tyc : Nat → ClassId} (F : mcFix L xs p l s0 H0 b sc dC dI tyc) {s : State} (hW : s0.WarmedH s.vm) (hS : mcHs b H0 s) (args : Array Value) : ∀ w ∈ lw_tbl, w.before args s = true := fun w q => F.2.2.1 w q args s hW hS.1
theorem mcKnow {xs : Nat → Int32} {p : Program} {l : Launch} {s0 : State} {H0 : Heap} {b sc : Nat} {dC : Nat → ClassId} {dI : Nat → Nat → Nat} {tyc : Nat → ClassId} (F : mcFix L xs p l s0 H0 b sc dC dI tyc) {s : State} (hW : s0.WarmedH s.vm) : va_K (dC, dI) mcCl [] s := va_K.moved hW.alike F.2.2.2.2.2.1
theorem mcArrs {xs : Nat → Int32} {p : Program} {l : Launch} {s0 : State} {H0 : Heap} {b sc : Nat} {dC : Nat → ClassId} {dI : Nat → Nat → Nat} {tyc : Nat → ClassId} (F : mcFix L xs p l s0 H0 b sc dC dI tyc) {s : State} (hW : s0.WarmedH s.vm) {t : Nat} (ht : t < mcNT) : ArrOfT s (tyc t) (mcTy t) ∧ va_RA s (tyc t) (mcTy t) :=
  ⟨arrOfT_moved hW.alike (F.2.2.2.2.2.2.1 t ht).1, va_RA.moved hW.alike (F.2.2.2.2.2.2.1 t ht).2⟩
/-- facts of a class, checked once by program -/
def mcFty (T : u_T) (k : Nat) : FieldType := (parseFieldDescriptor (T k).2.2.1).getD .int
def mcKdOk (ty : FieldType) (kd : Nat) : Bool := match ty with
  | .int => kd == 0
  | .boolean => kd == 2
  | .object _ => kd == 1
  | .array _ => kd == 1
  | _ => false
def mcClB (ci : Nat) : Bool := match mcCl[ci]?, mcClW[ci]?, mcKd[ci]? with
  | some (C, T, N), some ws, some kd => (ws.length == N) && ((List.range N).all fun k => decide (lw_tbl[ws.getD k 0]? = some (u_lay C T k))) && (kd.length == N) &&
    ((List.range N).all fun k => decide ((T k).1 = C) && (parseFieldDescriptor (T k).2.2.1).isSome && mcKdOk (mcFty T k) (kd.getD k 0)) &&
    ((List.range N).all fun x => (List.range N).all fun y => x == y || !decide ((T x).2.1 = (T y).2.1))
  | _, _, _ => false
theorem mcClB_all : ((List.range 11).all mcClB) = true := by decide +kernel
theorem mc_cls {ci : Nat} {C : String} {T : u_T} {N : Nat} {kd : List Nat} (h : mcCl[ci]? = some (C, T, N)) (hk : mcKd[ci]? = some kd) :
    (∀ w ∈ u_ws C T N, w ∈ lw_tbl) ∧ kd.length = N ∧ (∀ k, k < N → (T k).1 = C ∧ parseFieldDescriptor (T k).2.2.1 = some (mcFty T k) ∧ mcKdOk (mcFty T k) (kd.getD k 0) = true) ∧ ∀ x, x < N → ∀ y, y < N → x ≠ y → (T x).2.1 ≠ (T y).2.1 := by
  have hlt : ci < 11 := (List.getElem?_eq_some_iff.mp h).1
  have hb := List.all_eq_true.mp mcClB_all ci (List.mem_range.mpr hlt)
  unfold mcClB at hb
  rw [h, hk] at hb
  split at hb
  · rename_i C' T' N' ws kd' h1 h2 h3
    cases h1
    cases h3
    simp only [Bool.and_eq_true, List.all_eq_true, List.mem_range, decide_eq_true_eq, beq_iff_eq, Bool.or_eq_true, Bool.not_eq_true', decide_eq_false_iff_not] at hb
    obtain ⟨⟨⟨⟨b1, b2⟩, b3⟩, b4⟩, b5⟩ := hb
    refine ⟨fun w hw => ?_, b3, fun k hk => ⟨(b4 k hk).1.1, ?_, (b4 k hk).2⟩, fun x hx y hy hne => (b5 x hx y hy).resolve_left hne⟩
    · obtain ⟨k, hk, rfl⟩ := List.mem_map.mp hw
      exact List.mem_of_getElem? (b2 k (List.mem_range.mp hk))
    · obtain ⟨ty, hty⟩ := Option.isSome_iff_exists.mp (b4 k hk).1.2
      unfold mcFty
      rw [hty]; rfl
  · cases hb
/-- what a field's entry means -/
def mcFd (M : mcM) (idx ci k kd : Nat) : Prop := ∃ (C : String) (T : u_T) (N : Nat) (kdl : List Nat), mcCl[ci]? = some (C, T, N) ∧ mcKd[ci]? = some kdl ∧ k < N ∧ kdl.getD k 0 = kd ∧ Cond.fieldLink M.1.cls idx C (T k).2.1 (T k).2.2.1 ∈ lw_tbl
theorem mc_getK {idx ci k kd a : Nat} {v : mV} (hc : mcCode M pc = some (.getfield idx, 3)) (hf : mcFd M idx ci k kd) (ha : 1 ≤ a) (han : a < n) (hs : mcSk L a = some (.inr ci)) (hv : ∀ b sc, mcFv b sc kd ρ σ a k = mcVal b sc v)
    (kk : mcE L fr lo M (pc + 3) ls (v :: st) ρ σ n z Φ) : mcE L fr lo M pc ls (mr a :: st) ρ σ n z Φ := by
  intro xs p l e s0 H0 b sc dC dI tyc F s m args below meth c hW A n0 z0 H locs LS h1 h2 h3 hR hl hS
  obtain ⟨C, T, N, kdl, hcl, hkd, hk, hkk, hlink⟩ := hf
  obtain ⟨r, kdl', hr, hkd', hlen, cell, q1, q2, q3, q4⟩ := hR.2.2.2.2.2.2.2 a _ ha han hs
  cases hr.symm.trans hcl
  cases hkd'.symm.trans hkd
  obtain ⟨hin, -, hty, -⟩ := mc_cls hcl hkd
  have hts := mcWords F hW hS args
  obtain ⟨hSl, hfc, kC, hkC, hkind⟩ := (mcKnow F hW).1 ci _ hcl
  obtain ⟨cf, kf, fi, f, hi, hsl⟩ := hSl k hk
  have hi' : s.fieldFound? C (T k).2.1 (T k).2.2.1 = some (cf, kf, fi, f) := by rw [← (hty k hk).1]; exact hi
  refine W.getf F.1 A.2.2.2.1 A.2.2.2.2.2.2.2.2 (hts _ hlink) hi' (u_facts hfc hkC (u_lays hts hin hk) hi).1 q1 (by rw [q3]; exact fun h => by cases h) (v := mcVal b sc v) ?_ rfl (by rw [List.map_cons]; simp only [mcVal, mcAd_pos ha, F0]) (mc_dec hc) (kk xs p l e s0 H0 b sc dC dI tyc F s m args below meth c hW A n0 z0 H locs LS h1 h2 h3 hR hl hS)
  rw [hsl, q4 k hk]
  show some (mcFv b sc (kdl.getD k 0) ρ σ a k) = _
  rw [hkk, hv]
theorem mc_getI {idx ci k kd a : Nat} (hc : mcCode M pc = some (.getfield idx, 3)) (hf : mcFd M idx ci k kd) (hkd : kd ≠ 1) (ha : 1 ≤ a) (han : a < n) (hs : mcSk L a = some (.inr ci))
    (kk : in32 (σ a k) → mcE L fr lo M (pc + 3) ls (mi (σ a k) :: st) ρ σ n z Φ) : mcE L fr lo M pc ls (mr a :: st) ρ σ n z Φ :=
  mc_rng fun hr _ _ _ => mc_getK hc hf ha han hs (fun b sc => by unfold mcFv; rw [if_neg hkd]; rfl) (kk (hr a k fun len h => by rw [hs] at h; cases h))
theorem mc_getR {idx ci k a t : Nat} (hc : mcCode M pc = some (.getfield idx, 3)) (hf : mcFd M idx ci k 1) (ha : 1 ≤ a) (han : a < n) (hs : mcSk L a = some (.inr ci)) (ht : ρ a k = some t)
    (kk : mcE L fr lo M (pc + 3) ls (mr t :: st) ρ σ n z Φ) : mcE L fr lo M pc ls (mr a :: st) ρ σ n z Φ :=
  mc_getK hc hf ha han hs (fun b sc => by unfold mcFv; rw [if_pos rfl, ht]; rfl) kk
theorem mcRng.upi {a : Nat} {i x : Int} (h : mcRng L σ) (hx : (∀ len, mcSk L a ≠ some (.inl (1, len))) → in32 x) : mcRng L (upc σ a (upi (σ a) i x)) := by
  intro k j hk
  by_cases e : k = a
  · subst e
    rw [upc_self]
    by_cases e2 : j = i
    · subst e2; rw [upi_self]; exact hx hk
    · rw [upi_ne _ _ e2]; exact h k j hk
  · rw [upc_ne _ _ e]; exact h k j hk
/-- a field that is no final one -/
def mcFdN (M : mcM) (idx ci k kd : Nat) : Prop := mcFd M idx ci k kd ∧ ∀ C T N, mcCl[ci]? = some (C, T, N) → (T k).2.2.2 = false
/-- a final field, in the constructor of its own class -/
def mcFdF (M : mcM) (idx ci k kd : Nat) : Prop := mcFd M idx ci k kd ∧ M.1.name = "<init>" ∧ ∀ C T N, mcCl[ci]? = some (C, T, N) → (T k).2.2.2 = true ∧ C = M.1.cls
theorem mc_putI {idx ci k kd a : Nat} {x : Int} (hc : mcCode M pc = some (.putfield idx, 3)) (hf : mcFdN M idx ci k kd) (hkd : kd ≠ 1) (ha : 1 ≤ a) (han : a < n) (hs : mcSk L a = some (.inr ci)) (hx : in32 x) (hz : kd = 2 → x = 0 ∨ x = 1)
    (kk : mcE L fr lo M (pc + 3) ls st ρ (upc σ a (upi (σ a) k x)) n z Φ) : mcE L fr lo M pc ls (mi x :: mr a :: st) ρ σ n z Φ := by
  intro xs p l e s0 H0 b sc dC dI tyc F s m args below meth c hW A n0 z0 H locs LS h1 h2 h3 hR hl hS
  obtain ⟨⟨C, T, N, kdl, hcl, hkdl, hk, hkk, hlink⟩, hfin⟩ := hf
  obtain ⟨r, kdl', hr, hkd', hlen, cell, q1, q2, q3, q4⟩ := hR.2.2.2.2.2.2.2 a _ ha han hs
  cases hr.symm.trans hcl
  cases hkd'.symm.trans hkdl
  obtain ⟨hin, -, hty, hnm⟩ := mc_cls hcl hkdl
  have hts := mcWords F hW hS args
  have hap := va_apart (own := M.1.cls) (D := (dC, dI)) (tys := []) hts hin (mcFty T) (fun k hk => (hty k hk).2.1) hnm (mcKnow F hW) hcl
  obtain ⟨hSl, hfc, kC, hkC, hkind⟩ := (mcKnow F hW).1 ci _ hcl
  obtain ⟨cf, kf, fi, f, hi, hsl⟩ := hSl k hk
  have hi' : s.fieldFound? C (T k).2.1 (T k).2.2.1 = some (cf, kf, fi, f) := by rw [← (hty k hk).1]; exact hi
  have hlay := hts _ (hin _ (u_in_lay hk))
  unfold u_lay at hlay
  rw [if_neg (by rw [hfin _ _ _ hcl]; decide)] at hlay
  have hst := (u_facts hfc hkC (u_lays hts hin hk) hi).1
  have hko := (hty k hk).2.2
  rw [hkk] at hko
  have hnf : narrow (mcFty T k) (.int (Int32.ofInt x)) = .int (Int32.ofInt x) ∧ fits (mcFty T k) (.int (Int32.ofInt x)) = true := by
    generalize mcFty T k = ty at hko
    cases ty <;> simp [mcKdOk] at hko
    all_goals first | exact absurd hko hkd | (subst hko; rcases hz rfl with rfl | rfl <;> exact ⟨rfl, rfl⟩) | exact ⟨rfl, rfl⟩
  have h6 := u_store hfc hkC hkind hlay hi (hty k hk).2.1 hnf.1 hnf.2
  refine W.putK (v := .int (Int32.ofInt x)) (rest := st.map (mcVal b sc)) F.1 A.2.2.2.1 (f := f) ⟨A.2.2.2.2.2.2.2.2, hts _ hlink, ⟨_, _, _, hi'⟩, hst⟩ (by rw [q2]; exact h6) q1 q3 (by rw [hsl]; exact k2_hasslot (q4 k hk)) rfl (by rw [List.map_cons, List.map_cons]; simp only [mcVal, mcAd_pos ha, F0]) (mc_dec hc) fun H' e1 e2 e3 => ?_
  rw [hsl] at e1 ⊢
  refine kk xs p l e s0 H0 b sc dC dI tyc F s m args below meth c hW A n0 z0 H' _ LS h1 h2 ?_ ?_ hl hS
  · intro q hq
    rcases List.mem_append.mp hq with hq | hq
    · exact h3 q hq
    · rw [List.mem_singleton.mp hq]; show b + 1 ≤ b + a; omega
  · refine hR.up ha han hs e2 e3 (fun _ _ => rfl) (fun k hk => upc_ne _ _ hk) (hR.2.2.2.2.1.upi fun _ => hx) fun sh hsh => ?_
    cases hs.symm.trans hsh
    refine ⟨(C, T, N), kdl, hcl, hkdl, hlen, ⟨_, e1, q2, q3, ?_⟩⟩
    have hts2 := t_set q4 hap hk (.int (Int32.ofInt x))
    intro j hj
    rw [hts2 j hj]
    show some (updV _ k _ j) = _
    unfold updV mcFv
    dsimp only
    by_cases ej : j = k
    · subst ej
      rw [if_pos rfl, hkk, if_neg hkd, upc_self, upi_self]
    · rw [if_neg ej, upc_self, upi_ne _ _ (by omega)]
theorem mc_putR {idx ci k a t : Nat} (hc : mcCode M pc = some (.putfield idx, 3)) (hf : mcFdF M idx ci k 1) (ha : 1 ≤ a) (han : a < n) (hs : mcSk L a = some (.inr ci))
    (kk : mcE L fr lo M (pc + 3) ls st (upc ρ a (upi (ρ a) k (some t))) σ n z Φ) : mcE L fr lo M pc ls (mr t :: mr a :: st) ρ σ n z Φ := by
  intro xs p l e s0 H0 b sc dC dI tyc F s m args below meth c hW A n0 z0 H locs LS h1 h2 h3 hR hl hS
  obtain ⟨⟨C, T, N, kdl, hcl, hkdl, hk, hkk, hlink⟩, hinit, hfin⟩ := hf
  obtain ⟨r, kdl', hr, hkd', hlen, cell, q1, q2, q3, q4⟩ := hR.2.2.2.2.2.2.2 a _ ha han hs
  cases hr.symm.trans hcl
  cases hkd'.symm.trans hkdl
  obtain ⟨hin, -, hty, hnm⟩ := mc_cls hcl hkdl
  have hts := mcWords F hW hS args
  have hap := va_apart (own := M.1.cls) (D := (dC, dI)) (tys := []) hts hin (mcFty T) (fun k hk => (hty k hk).2.1) hnm (mcKnow F hW) hcl
  obtain ⟨hSl, hfc, kC, hkC, hkind⟩ := (mcKnow F hW).1 ci _ hcl
  obtain ⟨cf, kf, fi, f, hi, hsl⟩ := hSl k hk
  have hi' : s.fieldFound? C (T k).2.1 (T k).2.2.1 = some (cf, kf, fi, f) := by rw [← (hty k hk).1]; exact hi
  have hlay := hts _ (hin _ (u_in_lay hk))
  unfold u_lay at hlay
  rw [if_pos (hfin _ _ _ hcl).1] at hlay
  have hst := (u_facts hfc hkC (u_lays hts hin hk) hi).1
  have hcf : m.cls = cf := by
    obtain ⟨_, _, c', _, _, _, -, -, hf', -, -, -, hown2, -⟩ := Cond.laysFinal_spec hlay
    have e1 : c' = cf := by have := hi.symm.trans hf'; simp at this; exact this.1.symm
    rw [(hty k hk).1, (hfin _ _ _ hcl).2] at hown2
    rw [← e1]; exact Option.some.inj (A.2.2.2.2.2.2.2.2.symm.trans hown2)
  have hko := (hty k hk).2.2
  rw [hkk] at hko
  have hnf : narrow (mcFty T k) (.ref (mcAd b sc t)) = .ref (mcAd b sc t) ∧ fits (mcFty T k) (.ref (mcAd b sc t)) = true := by
    generalize mcFty T k = ty at hko
    cases ty <;> simp [mcKdOk] at hko <;> exact ⟨rfl, rfl⟩
  have h6 := u_fits hfc hkC hkind (Or.inr hlay) hi (hty k hk).2.1 hnf.1 hnf.2
  have hname : meth.name = "<init>" := by rw [(name_of_methodNamed A.1 A.2.1).1]; exact hinit
  refine W.putFinK (v := .ref (mcAd b sc t)) (rest := st.map (mcVal b sc)) F.1 A.2.2.2.1 A.2.2.2.2.2.2.2.2 (hts _ hlink) hi' hst hcf hname (by rw [q2]; exact h6) q1 q3 (by rw [hsl]; exact k2_hasslot (q4 k hk)) rfl (by rw [List.map_cons, List.map_cons]; simp only [mcVal, mcAd_pos ha, F0]) (mc_dec hc) fun H' e1 e2 e3 => ?_
  rw [hsl] at e1 ⊢
  refine kk xs p l e s0 H0 b sc dC dI tyc F s m args below meth c hW A n0 z0 H' _ LS h1 h2 ?_ ?_ hl hS
  · intro q hq
    rcases List.mem_append.mp hq with hq | hq
    · exact h3 q hq
    · rw [List.mem_singleton.mp hq]; show b + 1 ≤ b + a; omega
  · refine hR.up ha han hs e2 e3 (fun k hk => upc_ne _ _ hk) (fun _ _ => rfl) hR.2.2.2.2.1 fun sh hsh => ?_
    cases hs.symm.trans hsh
    refine ⟨(C, T, N), kdl, hcl, hkdl, hlen, ⟨_, e1, q2, q3, ?_⟩⟩
    have hts2 := t_set q4 hap hk (.ref (mcAd b sc t))
    intro j hj
    rw [hts2 j hj]
    show some (updV _ k _ j) = _
    unfold updV mcFv
    dsimp only
    by_cases ej : j = k
    · subst ej
      rw [if_pos rfl, hkk, if_pos rfl, upc_self, upi_self]; rfl
    · rw [if_neg ej, upc_self, upi_ne _ _ (by omega)]
end MCh
