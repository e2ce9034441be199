/-! 11.eval: printed by wip/whole/prog/eval.py: the state behind the constructors (references fixed), an evaluator of weakest preconditions over it -/
abbrev cPost : Type := mcOut → mG → Nat → Nat → Prop
abbrev cCont : Type := Nat → List (Option mV) → List mV → mG → Nat → Nat → Prop
def cLift (Φ : cPost) : mcPost := fun o ρ σ n z => ρ = mcRho ∧ 204 ≤ n ∧ Φ o σ n z
/-- THE JUDGEMENT behind the constructors: d frames (and 40 words for each) are left -/
def cE (L d : Nat) (M : mcM) (pc : Nat) (ls : List (Option mV)) (st : List mV) (σ : mG) (n z : Nat) (Φ : cPost) : Prop := ∀ fr lo, d ≤ fr → 40 * d ≤ lo → 204 ≤ n → mcE L fr lo M pc ls st mcRho σ n z (cLift Φ)
theorem cE_mono {L d d' : Nat} {M : mcM} {pc : Nat} {ls : List (Option mV)} {st : List mV} {σ : mG} {n z : Nat} {Φ : cPost} (h : d ≤ d') (k : cE L d M pc ls st σ n z Φ) : cE L d' M pc ls st σ n z Φ := fun fr lo h1 h2 h3 => k fr lo (by omega) (by omega) h3
theorem cE_conseq {L d : Nat} {M : mcM} {pc : Nat} {ls : List (Option mV)} {st : List mV} {σ : mG} {n z : Nat} {Φ Ψ : cPost} (h : ∀ o σ n z, Ψ o σ n z → Φ o σ n z) (k : cE L d M pc ls st σ n z Ψ) : cE L d M pc ls st σ n z Φ := fun fr lo h1 h2 h3 => mc_conseq (fun o ρ σ n z q => ⟨q.1, q.2.1, h o σ n z q.2.2⟩) (k fr lo h1 h2 h3)
theorem cE_rng {L d : Nat} {M : mcM} {pc : Nat} {ls : List (Option mV)} {st : List mV} {σ : mG} {n z : Nat} {Φ : cPost} (k : mcRng L σ → 204 ≤ n → n ≤ 601025 → z ≤ 7293034 → cE L d M pc ls st σ n z Φ) : cE L d M pc ls st σ n z Φ := fun fr lo h1 h2 h3 => mc_rng fun r _ q1 q2 => k r h3 q1 q2 fr lo h1 h2 h3
def cThr (M : mcM) (Φ : cPost) (nx : cCont) (pc : Nat) (ls : List (Option mV)) (kd a : Nat) (σ : mG) (n z : Nat) : Prop := match mcHf M.2.2.2.2 pc kd with
  | some h => nx h ls [mr a] σ n z
  | none => M.2.2.2.2 = [] ∧ Φ (.inr (kd, a)) σ n z
/-- what comes behind a call -/
def cNx (M : mcM) (Φ : cPost) (nx : cCont) (pc : Nat) (ls : List (Option mV)) (st : List mV) : cPost := fun o σ n z => match o with
  | .inl v => nx (pc + 3) ls (v.toList ++ st) σ n z
  | .inr (kd, a) => cThr M Φ nx pc ls kd a σ n z
theorem mcPI_spec {st : List mV} {k : Int → List mV → Prop} (h : mcPI st k) : ∃ x r, st = mi x :: r ∧ k x r := by
  rcases st with _ | ⟨x | x | x, r⟩
  · exact h.elim
  · exact ⟨x, r, rfl, h⟩
  · exact h.elim
  · exact h.elim
theorem mcPL_spec {st : List mV} {k : Int64 → List mV → Prop} (h : mcPL st k) : ∃ x r, st = ml x :: r ∧ k x r := by
  rcases st with _ | ⟨x | x | x, r⟩
  · exact h.elim
  · exact h.elim
  · exact ⟨x, r, rfl, h⟩
  · exact h.elim
theorem mcPR_spec {st : List mV} {k : Nat → List mV → Prop} (h : mcPR st k) : ∃ x r, st = mr x :: r ∧ k x r := by
  rcases st with _ | ⟨x | x | x, r⟩
  · exact h.elim
  · exact h.elim
  · exact h.elim
  · exact ⟨x, r, rfl, h⟩
theorem mcP1_spec {st : List mV} {k : mV → List mV → Prop} (h : mcP1 st k) : ∃ x r, st = x :: r ∧ k x r := by
  rcases st with _ | ⟨x, r⟩
  · exact h.elim
  · exact ⟨x, r, rfl, h⟩
theorem mcGI_spec {ls : List (Option mV)} {i : Nat} {k : Int → Prop} (h : mcGI ls i k) : ∃ x, ls[i]? = some (some (mi x)) ∧ k x := by
  unfold mcGI at h
  split at h
  · exact ⟨_, by assumption, h⟩
  · exact h.elim
theorem mcGL_spec {ls : List (Option mV)} {i : Nat} {k : Int64 → Prop} (h : mcGL ls i k) : ∃ x, ls[i]? = some (some (ml x)) ∧ k x := by
  unfold mcGL at h
  split at h
  · exact ⟨_, by assumption, h⟩
  · exact h.elim
theorem mcGR_spec {ls : List (Option mV)} {i : Nat} {k : Nat → Prop} (h : mcGR ls i k) : ∃ x, ls[i]? = some (some (mr x)) ∧ k x := by
  unfold mcGR at h
  split at h
  · exact ⟨_, by assumption, h⟩
  · exact h.elim
/-- a field's number, a field's reference, an array's element -/
def cGi (L : Nat) (σ : mG) (a ci k : Nat) (f : Int → Prop) : Prop := match mcSk L a with
  | some (.inr c) => c = ci ∧ (in32 (σ a k) → f (σ a k))
  | _ => False
def cGr (L : Nat) (a ci k : Nat) (f : Nat → Prop) : Prop := match mcSk L a, mcRho a k with
  | some (.inr c), some t => c = ci ∧ f t
  | _, _ => False
def cPf (L : Nat) (a ci kd : Nat) (x : Int) (f : Prop) : Prop := match mcSk L a with
  | some (.inr c) => c = ci ∧ in32 x ∧ (kd = 2 → x = 0 ∨ x = 1) ∧ f
  | _ => False
def cAl (L : Nat) (σ : mG) (a : Nat) (x : Int) (ok : Nat → Bool) (f : Int → Prop) : Prop := match mcSk L a with
  | some (.inl (t, len)) => ok t = true ∧ (0 ≤ x ∧ x < len) ∧ (in32 (σ a x) → f (σ a x))
  | _ => False
def cAL (L : Nat) (σ : mG) (a : Nat) (x : Int) (f : Int64 → Prop) : Prop := match mcSk L a with
  | some (.inl (t, len)) => t = 1 ∧ (0 ≤ x ∧ x < len) ∧ f (Int64.ofInt (σ a x))
  | _ => False
def cAa (L : Nat) (a : Nat) (x : Int) (f : Nat → Prop) : Prop := match mcSk L a with
  | some (.inl (t, len)) => 4 ≤ t ∧ (0 ≤ x ∧ x < len) ∧ (match mcRho a x with
    | some u => f u
    | none => False)
  | _ => False
def cAn (L : Nat) (a : Nat) (f : Nat → Prop) : Prop := match mcSk L a with
  | some (.inl (_, len)) => f len
  | _ => False
/-- a store into an array -/
def cAs (L : Nat) (a : Nat) (x : Int) (c : Nat → Prop) (f : Prop) : Prop := a ≠ 0 ∧ match mcSk L a with
  | some (.inl (t, len)) => c t ∧ (0 ≤ x ∧ x < len) ∧ f
  | _ => False
def cBs (v : Int) (t : Nat) : Prop := match t with
  | 2 => v = 0 ∨ v = 1
  | 3 => -128 ≤ v ∧ v < 128
  | _ => False
def cTs (x lo : Int) : List Nat → (Nat → Prop) → Prop
  | [], _ => True
  | t :: r, f => (x = lo → f t) ∧ cTs x (lo + 1) r f
def cCp (L : Nat) (st : List mV) (σ : mG) (f : List mV → mG → Prop) : Prop := mcPI st fun k st => mcPI st fun dp st => mcPR st fun a st => mcPI st fun sp st => mcPR st fun a0 st => a ≠ 0 ∧ a0 ≠ 0 ∧ match mcSk L a, mcSk L a0 with
  | some (.inl (t, n1)), some (.inl (t0, n0)) => (t = 0 ∨ t = 1) ∧ t0 = t ∧ 0 ≤ sp ∧ 0 ≤ dp ∧ 0 ≤ k ∧ sp + k ≤ n0 ∧ dp + k ≤ n1 ∧ f st (upc σ a (mCpy (σ a0) (σ a) sp dp k))
  | _, _ => False
/-- a call: of vs, the stack st left -/
def cCall (L d : Nat) (M : mcM) (Φ : cPost) (nx : cCont) (pc : Nat) (ls : List (Option mV)) (st : List mV) (σ : mG) (n z : Nat) (M' : mcM) (nl : Nat) (vs : List mV) : Prop :=
  1 ≤ d ∧ mcCats st ≤ 9 ∧ mcCats vs ≤ nl ∧ cE L (d - 1) M' 0 (mcEnt M'.2.2.1 vs) [] σ n z (cNx M Φ nx pc ls st)
def cRecv (L ci : Nat) (vs : List mV) (f : Prop) : Prop := match vs with
  | .inr (.inr a) :: _ => (match mcSk L a with
    | some (.inr c) => c = ci ∧ f
    | _ => False)
  | _ => False
def cSt (k : Nat) (l : List mcM) (A B C : Prop) (D : Nat → mcM → Prop) (f : mcM → Prop) : Prop := match l with
  | [] => (match k with
    | 2 => B
    | 3 => C
    | _ => A)
  | M' :: _ => (match k with
    | 4 => D 0 M'
    | 5 => D 1 M'
    | _ => f M')
def cVi (l : List mcM) (f : mcM → Prop) : Prop := match l with
  | [] => False
  | M' :: _ => f M'
def mMax (x y : Int) : Int := if x < y then y else x
def mMin (x y : Int) : Int := if y < x then y else x
def cIf2 (cc : ClassFile.Cond) (x y : Int) (A B : Prop) : Prop := match cc with
  | .eq => (x = y → A) ∧ (¬ x = y → B)
  | .ne => (¬ x = y → A) ∧ (x = y → B)
  | .lt => (x < y → A) ∧ (¬ x < y → B)
  | .ge => (y ≤ x → A) ∧ (¬ y ≤ x → B)
  | .gt => (y < x → A) ∧ (¬ y < x → B)
  | .le => (x ≤ y → A) ∧ (¬ x ≤ y → B)
def cIf1 (cc : ClassFile.Cond) (x : Int) (A B : Prop) : Prop := match cc with
  | .eq => (x = 0 → A) ∧ (¬ x = 0 → B)
  | .ne => (¬ x = 0 → A) ∧ (x = 0 → B)
  | .lt => (x < 0 → A) ∧ (¬ x < 0 → B)
  | .ge => (0 ≤ x → A) ∧ (¬ 0 ≤ x → B)
  | .gt => (0 < x → A) ∧ (¬ 0 < x → B)
  | .le => (x ≤ 0 → A) ∧ (¬ x ≤ 0 → B)
theorem mcFdB_spec {M : mcM} {idx ci k kd w : Nat} (h : mcFdB M idx ci k kd w = true) : mcFd M idx ci k kd := by
  unfold mcFdB at h
  split at h
  · rename_i C T N kdl h1 h2
    simp only [Bool.and_eq_true, decide_eq_true_eq, beq_iff_eq] at h
    exact ⟨C, T, N, kdl, h1, h2, h.1.1, h.1.2, List.mem_of_getElem? h.2⟩
  · cases h
theorem mcNfB_spec {ci k : Nat} (h : mcNfB ci k = true) : ∀ C T N, mcCl[ci]? = some (C, T, N) → (T k).2.2.2 = false := by
  intro C T N hc
  unfold mcNfB at h
  rw [hc] at h
  simpa using h
theorem mcSk_pos {L a : Nat} {ci : Nat} (h : mcSk L a = some (.inr ci)) : 1 ≤ a := by
  cases a with
  | zero => cases h
  | succ a => omega
theorem mcSk_lt {L a n : Nat} {sh : mSh} (h : mcSk L a = some sh) (hn : 204 ≤ n) : a < n := by
  cases a with
  | zero => omega
  | succ a =>
    have h' : mcSkL[a]? = some sh := h
    have : a < mcSkL.length := (List.getElem?_eq_some_iff.mp h').1
    have e : mcSkL.length = 203 := by decide +kernel
    omega
theorem cTs_mono {x : Int} {pc : Nat} {f g : Nat → Prop} (hfg : ∀ t, f t → g t) : ∀ {offs : List Int} {lo : Int}, cTs x lo (offs.map fun o => mcTg pc o) f → mcTs x lo pc offs g
  | [], _, _ => trivial
  | o :: r, lo, h => ⟨fun q => hfg _ (h.1 q), cTs_mono hfg h.2⟩
theorem mcCdB_spec {M' : mcM} {wi wc : Nat} (h : mcCdB M' wi wc = true) : mcCd M' := by
  unfold mcCdB at h
  simp only [Bool.and_eq_true, Bool.or_eq_true, Bool.not_eq_true', decide_eq_true_eq, decide_eq_false_iff_not] at h
  obtain ⟨⟨⟨⟨h1, h2⟩, h3⟩, h4⟩, h5⟩ := h
  exact ⟨h1, List.mem_of_getElem? h2, ⟨h3, h4⟩, h5.imp (fun q => ⟨List.mem_of_getElem? q.1, q.2⟩) List.mem_of_getElem?⟩
theorem mcArB_spec {M' : mcM} {k : Nat} (h : mcArB M' k = true) : mcArity M' k := by
  intro sig hs
  unfold mcArB at h
  rw [hs] at h
  simpa using h
section CS0
variable {L fr lo : Nat} {M : mcM} {pc : Nat} {ls : List (Option mV)} {st : List mV} {ρ : mP} {σ : mG} {n z : Nat} {Φ : mcPost}
theorem mc_ldc {i : Nat} (hc : mcCode M pc = some (.ldc i, 2)) (hw : Cond.constant M.1.cls i 100000 ∈ lw_tbl) (k : mcE L fr lo M (pc + 2) ls (mi 100000 :: st) ρ σ n z Φ) : mcE L fr lo M pc ls st ρ σ n z Φ := by
  intro xs p l e s0 H0 b sc dC dI tyc F s m args below meth c hW A n0 z0 H locs LS h1 h2 h3 hR hl hS
  exact lv_ldc F.1 A.2.2.2.1 A.2.2.2.2.2.2.2.2 (mcWords F hW hS args _ hw) (mc_dec hc) (k xs p l e s0 H0 b sc dC dI tyc F s m args below meth c hW A n0 z0 H locs LS h1 h2 h3 hR hl hS)
theorem mc_ldc2 {i : Nat} (hc : mcCode M pc = some (.ldc2_w i, 3)) (hw : Cond.constantLong M.1.cls i (-1) ∈ lw_tbl) (k : mcE L fr lo M (pc + 3) ls (ml (-1) :: st) ρ σ n z Φ) : mcE L fr lo M pc ls st ρ σ n z Φ := by
  intro xs p l e s0 H0 b sc dC dI tyc F s m args below meth c hW A n0 z0 H locs LS h1 h2 h3 hR hl hS
  exact lv_ldc2 F.1 A.2.2.2.1 A.2.2.2.2.2.2.2.2 (mcWords F hW hS args _ hw) (mc_dec hc) (k xs p l e s0 H0 b sc dC dI tyc F s m args below meth c hW A n0 z0 H locs LS h1 h2 h3 hR hl hS)
end CS0
/-- the weakest precondition of one instruction -/
def cS (L d : Nat) (M : mcM) (Φ : cPost) (nx : cCont) (e : mcEn) (ls : List (Option mV)) (st : List mV) (σ : mG) (n z : Nat) : Prop := match e with
  | (pc, _, ins, _, ax) => match ins with
    | .iconst i => nx (pc + 1) ls (mi i :: st) σ n z
    | .bipush i => nx (pc + 2) ls (mi i :: st) σ n z
    | .sipush i => nx (pc + 3) ls (mi i :: st) σ n z
    | .lconst i => nx (pc + 1) ls (ml (Int64.ofNat (i : Nat)) :: st) σ n z
    | .ldc i => nx (pc + 2) ls (mi 100000 :: st) σ n z
    | .ldc2_w i => nx (pc + 3) ls (ml (-1) :: st) σ n z
    | .iadd  => mcPI st fun y st => mcPI st fun x st => nx (pc + 1) ls (mi (x + y) :: st) σ n z
    | .isub  => mcPI st fun y st => mcPI st fun x st => nx (pc + 1) ls (mi (x - y) :: st) σ n z
    | .imul  => mcPI st fun y st => mcPI st fun x st => nx (pc + 1) ls (mi (x * y) :: st) σ n z
    | .iand  => mcPI st fun y st => mcPI st fun x st => nx (pc + 1) ls (mi (mAnd x y) :: st) σ n z
    | .ladd  => mcPL st fun y st => mcPL st fun x st => nx (pc + 1) ls (ml (x + y) :: st) σ n z
    | .lsub  => mcPL st fun y st => mcPL st fun x st => nx (pc + 1) ls (ml (x - y) :: st) σ n z
    | .land  => mcPL st fun y st => mcPL st fun x st => nx (pc + 1) ls (ml (x &&& y) :: st) σ n z
    | .lor  => mcPL st fun y st => mcPL st fun x st => nx (pc + 1) ls (ml (x ||| y) :: st) σ n z
    | .lxor  => mcPL st fun y st => mcPL st fun x st => nx (pc + 1) ls (ml (x ^^^ y) :: st) σ n z
    | .lcmp  => mcPL st fun y st => mcPL st fun x st => nx (pc + 1) ls (mi (mCmp x y) :: st) σ n z
    | .lshl  => mcPI st fun y st => mcPL st fun x st => (0 ≤ y ∧ y < 64) ∧ nx (pc + 1) ls (ml (mShl x y) :: st) σ n z
    | .lushr  => mcPI st fun y st => mcPL st fun x st => (0 ≤ y ∧ y < 64) ∧ nx (pc + 1) ls (ml (mShr x y) :: st) σ n z
    | .i2l  => mcPI st fun x st => nx (pc + 1) ls (ml (Int32.ofInt x).toInt64 :: st) σ n z
    | .i2b  => mcPI st fun x st => (-128 ≤ x ∧ x < 128) ∧ nx (pc + 1) ls (mi x :: st) σ n z
    | .dup  => mcP1 st fun v st => mcCat v = 1 ∧ nx (pc + 1) ls (v :: v :: st) σ n z
    | .pop  => mcP1 st fun v st => mcCat v = 1 ∧ nx (pc + 1) ls (st) σ n z
    | .dup2  => mcP1 st fun u st => mcP1 st fun v st => mcCat u = 1 ∧ mcCat v = 1 ∧ nx (pc + 1) ls (u :: v :: u :: v :: st) σ n z
    | .iload_n j => mcGI ls j fun x => nx (pc + 1) ls (mi x :: st) σ n z
    | .iload i => mcGI ls i fun x => nx (pc + 2) ls (mi x :: st) σ n z
    | .lload_n j => mcGL ls j fun x => nx (pc + 1) ls (ml x :: st) σ n z
    | .lload i => mcGL ls i fun x => nx (pc + 2) ls (ml x :: st) σ n z
    | .aload_n j => mcGR ls j fun x => nx (pc + 1) ls (mr x :: st) σ n z
    | .aload i => mcGR ls i fun x => nx (pc + 2) ls (mr x :: st) σ n z
    | .istore_n j => mcPI st fun x st => nx (pc + 1) (mcS1 ls j (mi x)) (st) σ n z
    | .istore i => mcPI st fun x st => nx (pc + 2) (mcS1 ls i (mi x)) (st) σ n z
    | .astore_n j => mcPR st fun x st => nx (pc + 1) (mcS1 ls j (mr x)) (st) σ n z
    | .astore i => mcPR st fun x st => nx (pc + 2) (mcS1 ls i (mr x)) (st) σ n z
    | .lstore_n j => mcPL st fun x st => nx (pc + 1) (mcS2 ls j (ml x)) (st) σ n z
    | .lstore i => mcPL st fun x st => nx (pc + 2) (mcS2 ls i (ml x)) (st) σ n z
    | .iinc i q => mcGI ls i fun x => nx (pc + 3) (mcS1 ls i (mi (x + q))) (st) σ n z
    | .if_icmp cc off => mcPI st fun y st => mcPI st fun x st => in32 x ∧ in32 y ∧ cIf2 cc x y (nx ax.1 ls st σ n z) (nx (pc + 3) ls (st) σ n z)
    | .ifCond cc off => mcPI st fun x st => in32 x ∧ cIf1 cc x (nx ax.1 ls st σ n z) (nx (pc + 3) ls (st) σ n z)
    | .goto off => nx ax.1 ls st σ n z
    | .tableswitch dflt lw hi offs => mcPI st fun x st => in32 x ∧ cTs x lw ax.2.2.1 (fun t => nx t ls st σ n z) ∧ (x < lw ∨ hi < x → nx ax.1 ls st σ n z)
    | .getfield idx => mcPR st fun a st => if ax.2.2.1.getD 1 0 = 1 then cGr L a ax.1 ax.2.1 fun t => nx (pc + 3) ls (mr t :: st) σ n z else cGi L σ a ax.1 ax.2.1 fun x => nx (pc + 3) ls (mi x :: st) σ n z
    | .putfield idx => mcPI st fun x st => mcPR st fun a st => cPf L a ax.1 (ax.2.2.1.getD 1 0) x (nx (pc + 3) ls (st) (upc σ a (upi (σ a) ax.2.1 x)) n z)
    | .iaload  => mcPI st fun x st => mcPR st fun a st => cAl L σ a x (fun t => t == 0) fun v => nx (pc + 1) ls (mi v :: st) σ n z
    | .baload  => mcPI st fun x st => mcPR st fun a st => cAl L σ a x (fun t => t == 2 || t == 3) fun v => nx (pc + 1) ls (mi v :: st) σ n z
    | .laload  => mcPI st fun x st => mcPR st fun a st => cAL L σ a x fun v => nx (pc + 1) ls (ml v :: st) σ n z
    | .aaload  => mcPI st fun x st => mcPR st fun a st => cAa L a x fun u => nx (pc + 1) ls (mr u :: st) σ n z
    | .arraylength  => mcPR st fun a st => cAn L a fun len => nx (pc + 1) ls (mi (len : Int) :: st) σ n z
    | .iastore  => mcPI st fun v st => mcPI st fun x st => mcPR st fun a st => cAs L a x (fun t => t = 0 ∧ in32 v) (nx (pc + 1) ls (st) (upc σ a (upi (σ a) x v)) n z)
    | .bastore  => mcPI st fun v st => mcPI st fun x st => mcPR st fun a st => cAs L a x (fun t => cBs v t) (nx (pc + 1) ls (st) (upc σ a (upi (σ a) x v)) n z)
    | .lastore  => mcPL st fun v st => mcPI st fun x st => mcPR st fun a st => cAs L a x (fun t => t = 1) (nx (pc + 1) ls (st) (upc σ a (upi (σ a) x v.toInt)) n z)
    | .invokestatic idx => cSt ax.1 ax.2.2.2 (1 ≤ d ∧ cCp L st σ fun st σ => mcCats st ≤ 0 ∧ nx (pc + 3) ls (st) σ n z) (mcPI st fun y st => mcPI st fun x st => in32 x ∧ in32 y ∧ 1 ≤ d ∧ mcCats st ≤ 9 ∧ nx (pc + 3) ls (mi (mMax x y) :: st) σ n z) (mcPI st fun y st => mcPI st fun x st => in32 x ∧ in32 y ∧ 1 ≤ d ∧ mcCats st ≤ 9 ∧ nx (pc + 3) ls (mi (mMin x y) :: st) σ n z) (fun kd _ => mcPI st fun x st => in32 x ∧ 7 ≤ d ∧ mcCats st ≤ 9 ∧ (¬ x = 0 → nx (pc + 3) ls st σ n z) ∧ (x = 0 → n + 1 ≤ 601025 ∧ z + 6 ≤ 7293034 ∧ cThr M Φ nx pc ls kd n σ (n + 1) (z + 6))) (fun M' => mcArg ax.2.1 st fun vs st => cCall L d M Φ nx pc ls st σ n z M' (ax.2.2.1.getD 5 0) vs)
    | .invokevirtual idx => cVi ax.2.2.2 (fun M' => mcArg ax.2.1 st fun vs st => cRecv L ax.1 vs (cCall L d M Φ nx pc ls st σ n z M' (ax.2.2.1.getD 5 0) vs))
    | .ireturn  => mcPI st fun x st => st = [] ∧ (if ax.1 = 1 then (x = 0 ∨ x = 1) ∧ Φ (.inl (some (mi x))) σ n z else Φ (.inl (some (mi x))) σ n z)
    | .lreturn  => mcPL st fun x st => st = [] ∧ Φ (.inl (some (ml x))) σ n z
    | .return_  => st = [] ∧ Φ (.inl none) σ n z
    | _ => False
section CS
variable {L d : Nat} {M : mcM} {pc len : Nat} {cut : Bool} {ax : mcX} {ls : List (Option mV)} {st : List mV} {σ : mG} {n z : Nat} {Φ : cPost} {nx : cCont} {fr lo : Nat}
theorem cNx_lift {o : mcOut} {ρ : mP} (hf : d ≤ fr) (hlo : 40 * d ≤ lo) (hnx : ∀ pc ls st σ n z, nx pc ls st σ n z → cE L d M pc ls st σ n z Φ) (h : cLift (cNx M Φ nx pc ls st) o ρ σ n z) : mcNx M (cLift Φ) (fun pc ls st ρ σ n z => mcE L fr lo M pc ls st ρ σ n z (cLift Φ)) pc ls st o ρ σ n z := by
  obtain ⟨rfl, hn, h⟩ := h
  rcases o with v | ⟨kd, a⟩
  · exact hnx _ _ _ _ _ _ h fr lo hf hlo hn
  · show mcThr M (cLift Φ) (fun pc ls st ρ σ n z => mcE L fr lo M pc ls st ρ σ n z (cLift Φ)) pc ls kd a mcRho σ n z
    have h : cThr M Φ nx pc ls kd a σ n z := h
    unfold cThr at h
    unfold mcThr
    rcases hq : mcHf M.2.2.2.2 pc kd with _ | hd
    · rw [hq] at h; exact ⟨h.1, rfl, hn, h.2⟩
    · rw [hq] at h; exact hnx _ _ _ _ _ _ h fr lo hf hlo hn
theorem mcArg_spec {k : Nat} {f : List mV → List mV → Prop} (h : mcArg k st f) : ∃ vs r, st = vs.reverse ++ r ∧ vs.length = k ∧ f vs r := by
  obtain ⟨h1, h2⟩ := h
  refine ⟨(st.take k).reverse, st.drop k, ?_, ?_, h2⟩
  · rw [List.reverse_reverse, List.take_append_drop]
  · rw [List.length_reverse, List.length_take]; omega
theorem cs_static {idx : Nat} {M' : mcM} {q : List mcM} (hn4 : ¬ ax.1 = 4) (hn5 : ¬ ax.1 = 5) (hax : ax.2.2.2 = M' :: q) (hc : mcCode M pc = some (.invokestatic idx, 3)) (ok2 : mcStB M idx ax = true) (hh : mcHan M) (hf : d ≤ fr) (hlo : 40 * d ≤ lo) (hn : 204 ≤ n) (hnx : ∀ pc ls st σ n z, nx pc ls st σ n z → cE L d M pc ls st σ n z Φ)
    (h : mcArg ax.2.1 st fun vs st => cCall L d M Φ nx pc ls st σ n z M' (ax.2.2.1.getD 5 0) vs) : mcE L fr lo M pc ls st mcRho σ n z (cLift Φ) := by
  obtain ⟨vs, r, rfl, hk, h1, h2, h3, h⟩ := mcArg_spec h
  unfold mcStB at ok2
  rw [hax] at ok2
  dsimp only at ok2
  rw [show mcPick ax M' = M' by unfold mcPick; rw [if_neg hn4, if_neg hn5]] at ok2
  simp only [Bool.and_eq_true, decide_eq_true_eq] at ok2
  obtain ⟨⟨⟨⟨⟨o1, o2⟩, o3⟩, o4⟩, o5⟩, o6⟩ := ok2
  rw [o6] at h3
  refine mc_static (M' := M') (fr' := fr - 1) (lo' := lo - 40) hc ?_ (List.mem_of_getElem? o2) (mcCdB_spec o3) hh (by rw [hk]; exact mcArB_spec o4) (by omega) (by omega) h3 ?_
  · split at o1
    · exact Or.inr ⟨_, List.mem_of_getElem? (of_decide_eq_true o1)⟩
    · exact Or.inl (List.mem_of_getElem? (of_decide_eq_true o1))
  · exact (mc_conseq (fun o ρ σ n z w => cNx_lift hf hlo hnx w) (h (fr - 1) (lo - 40) (by omega) (by omega) hn)).at0
theorem cs_virtual {idx : Nat} {M' : mcM} {q : List mcM} (hax : ax.2.2.2 = M' :: q) (hc : mcCode M pc = some (.invokevirtual idx, 3)) (ok2 : mcViB M idx ax = true) (hh : mcHan M) (hf : d ≤ fr) (hlo : 40 * d ≤ lo) (hn : 204 ≤ n) (hnx : ∀ pc ls st σ n z, nx pc ls st σ n z → cE L d M pc ls st σ n z Φ)
    (h : mcArg ax.2.1 st fun vs st => cRecv L ax.1 vs (cCall L d M Φ nx pc ls st σ n z M' (ax.2.2.1.getD 5 0) vs)) : mcE L fr lo M pc ls st mcRho σ n z (cLift Φ) := by
  obtain ⟨vs, r, rfl, hk, h⟩ := mcArg_spec h
  unfold mcViB at ok2
  rw [hax] at ok2
  rcases hcl : mcCl[ax.1]? with _ | rc
  · rw [hcl] at ok2; cases ok2
  rw [hcl] at ok2
  simp only [Bool.and_eq_true, decide_eq_true_eq] at ok2
  obtain ⟨⟨⟨⟨⟨⟨⟨⟨o1, o2⟩, o3⟩, o4⟩, o5⟩, o6⟩, o7⟩, o8⟩, o9⟩ := ok2
  unfold cRecv at h
  split at h
  · rename_i a vs'
    split at h
    · rename_i c hs
      obtain ⟨rfl, h1, h2, h3, h⟩ := h
      rw [o9] at h3
      rw [List.reverse_cons, List.append_assoc, List.singleton_append]
      refine mc_virtual (M' := M') (fr' := fr - 1) (lo' := lo - 40) hc (List.mem_of_getElem? o1) (List.mem_of_getElem? o2) (List.mem_of_getElem? o4) (mcCdB_spec o3) hh (by rw [← hk] at o7; exact mcArB_spec o7) (mcSk_pos hs) (mcSk_lt hs hn) hs hcl o5 (by omega) (by omega) h3 ?_
      exact mc_conseq (fun o ρ σ n z w => cNx_lift hf hlo hnx w) (h (fr - 1) (lo - 40) (by omega) (by omega) hn)
    · exact h.elim
  · exact h.elim
theorem cs_copy {idx : Nat} (hn2 : ¬ ax.1 = 2) (hn3 : ¬ ax.1 = 3) (hax : ax.2.2.2 = []) (hc : mcCode M pc = some (.invokestatic idx, 3)) (ok2 : mcStB M idx ax = true) (hf : d ≤ fr) (hlo : 40 * d ≤ lo) (hn : 204 ≤ n) (hnx : ∀ pc ls st σ n z, nx pc ls st σ n z → cE L d M pc ls st σ n z Φ)
    (h : 1 ≤ d ∧ cCp L st σ fun st σ => mcCats st ≤ 0 ∧ nx (pc + 3) ls st σ n z) : mcE L fr lo M pc ls st mcRho σ n z (cLift Φ) := by
  obtain ⟨hd, h⟩ := h
  unfold mcStB at ok2
  rw [hax] at ok2
  dsimp only at ok2
  rw [if_neg hn2, if_neg hn3] at ok2
  simp only [Bool.and_eq_true, decide_eq_true_eq] at ok2
  obtain ⟨⟨⟨o1, o2⟩, o3⟩, o4⟩ := ok2
  unfold cCp at h
  obtain ⟨k, r1, rfl, j1⟩ := mcPI_spec h
  obtain ⟨dp, r2, rfl, j2⟩ := mcPI_spec j1
  obtain ⟨a, r3, rfl, j3⟩ := mcPR_spec j2
  obtain ⟨sp, r4, rfl, j4⟩ := mcPI_spec j3
  obtain ⟨a0, r5, rfl, j5⟩ := mcPR_spec j4
  obtain ⟨ha, ha0, j6⟩ := j5
  split at j6
  · rename_i t n1 t0 n0 hs hs0
    obtain ⟨ht, rfl, g1, g2, g3, g4, g5, hst, h⟩ := j6
    exact mc_arraycopy hc (List.mem_of_getElem? o1) (List.mem_of_getElem? o4) (List.mem_of_getElem? o2) (List.mem_of_getElem? o3) (Nat.pos_of_ne_zero ha0) (mcSk_lt hs0 hn) (Nat.pos_of_ne_zero ha) (mcSk_lt hs hn) ht hs0 hs g1 g2 g3 g4 g5 (by omega) (by omega) (hnx _ _ _ _ _ _ h fr lo hf hlo hn)
  · exact j6.elim
theorem cs_max {idx : Nat} (h2 : ax.1 = 2) (hax : ax.2.2.2 = []) (hc : mcCode M pc = some (.invokestatic idx, 3)) (ok2 : mcStB M idx ax = true) (hf : d ≤ fr) (hlo : 40 * d ≤ lo) (hn : 204 ≤ n) (hnx : ∀ pc ls st σ n z, nx pc ls st σ n z → cE L d M pc ls st σ n z Φ)
    (h : mcPI st fun y st => mcPI st fun x st => in32 x ∧ in32 y ∧ 1 ≤ d ∧ mcCats st ≤ 9 ∧ nx (pc + 3) ls (mi (mMax x y) :: st) σ n z) : mcE L fr lo M pc ls st mcRho σ n z (cLift Φ) := by
  obtain ⟨y, r1, rfl, j1⟩ := mcPI_spec h
  obtain ⟨x, r2, rfl, hx, hy, h1, hst, j2⟩ := mcPI_spec j1
  unfold mcStB at ok2
  rw [hax, h2] at ok2
  simp only [if_true, Nat.reduceEqDiff, if_false, Bool.and_eq_true, decide_eq_true_eq] at ok2
  obtain ⟨⟨⟨o1, o2⟩, o3⟩, o4⟩ := ok2
  have k := hnx _ _ _ _ _ _ j2 fr lo hf hlo hn
  intro xs p l e s0 H0 b sc dC dI tyc F s m args below meth c hW A n0 z0 H locs LS h1 h2 h3 hR hl hS
  have hts := mcWords F hW hS args
  refine va_mmax (rest := r2.map (mcVal b sc)) F.1 A.2.2.2.1 (by rw [A.2.2.2.2.1]; exact hl.1.symm) A.2.2.2.2.2.2.2.2 (hts _ (List.mem_of_getElem? o1)) (hts _ (List.mem_of_getElem? o2)) (hts _ (List.mem_of_getElem? o3)) (hts _ (List.mem_of_getElem? o4)) (by show 1 ≤ fr; omega) (by rw [mc_catsum]; show _ ≤ lo; omega) (by show n - n0 ≤ 601025 - n0; have := hR.1; omega) (by show z - z0 ≤ 7293034 - z0; have := hR.1; omega) (mc_dec hc) ?_
  have k := k xs p l e s0 H0 b sc dC dI tyc F s m args below meth c hW A n0 z0 H locs LS h1 h2 h3 hR hl hS
  rw [List.map_cons] at k
  simp only [mcVal] at k
  have e : (if Int32.ofInt x < Int32.ofInt y then Int32.ofInt y else Int32.ofInt x) = Int32.ofInt (mMax x y) := by
    unfold mMax
    by_cases q : x < y
    · rw [if_pos q, if_pos ((i32_lt hx hy).mpr q)]
    · rw [if_neg q, if_neg (fun w => q ((i32_lt hx hy).mp w))]
  rw [e]
  exact k
theorem cs_min {idx : Nat} (h2 : ax.1 = 3) (hax : ax.2.2.2 = []) (hc : mcCode M pc = some (.invokestatic idx, 3)) (ok2 : mcStB M idx ax = true) (hf : d ≤ fr) (hlo : 40 * d ≤ lo) (hn : 204 ≤ n) (hnx : ∀ pc ls st σ n z, nx pc ls st σ n z → cE L d M pc ls st σ n z Φ)
    (h : mcPI st fun y st => mcPI st fun x st => in32 x ∧ in32 y ∧ 1 ≤ d ∧ mcCats st ≤ 9 ∧ nx (pc + 3) ls (mi (mMin x y) :: st) σ n z) : mcE L fr lo M pc ls st mcRho σ n z (cLift Φ) := by
  obtain ⟨y, r1, rfl, j1⟩ := mcPI_spec h
  obtain ⟨x, r2, rfl, hx, hy, h1, hst, j2⟩ := mcPI_spec j1
  unfold mcStB at ok2
  rw [hax, h2] at ok2
  simp only [if_true, Nat.reduceEqDiff, if_false, Bool.and_eq_true, decide_eq_true_eq] at ok2
  obtain ⟨⟨⟨o1, o2⟩, o3⟩, o4⟩ := ok2
  have k := hnx _ _ _ _ _ _ j2 fr lo hf hlo hn
  intro xs p l e s0 H0 b sc dC dI tyc F s m args below meth c hW A n0 z0 H locs LS h1 h2 h3 hR hl hS
  have hts := mcWords F hW hS args
  refine va_mmin (rest := r2.map (mcVal b sc)) F.1 A.2.2.2.1 (by rw [A.2.2.2.2.1]; exact hl.1.symm) A.2.2.2.2.2.2.2.2 (hts _ (List.mem_of_getElem? o1)) (hts _ (List.mem_of_getElem? o2)) (hts _ (List.mem_of_getElem? o3)) (hts _ (List.mem_of_getElem? o4)) (by show 1 ≤ fr; omega) (by rw [mc_catsum]; show _ ≤ lo; omega) (by show n - n0 ≤ 601025 - n0; have := hR.1; omega) (by show z - z0 ≤ 7293034 - z0; have := hR.1; omega) (mc_dec hc) ?_
  have k := k xs p l e s0 H0 b sc dC dI tyc F s m args below meth c hW A n0 z0 H locs LS h1 h2 h3 hR hl hS
  rw [List.map_cons] at k
  simp only [mcVal] at k
  have e : (if Int32.ofInt y < Int32.ofInt x then Int32.ofInt y else Int32.ofInt x) = Int32.ofInt (mMin x y) := by
    unfold mMin
    by_cases q : y < x
    · rw [if_pos q, if_pos ((i32_lt hy hx).mpr q)]
    · rw [if_neg q, if_neg (fun w => q ((i32_lt hy hx).mp w))]
  rw [e]
  exact k
theorem mcSk_none {n : Nat} (hn : 204 ≤ n) : mcSk L n = none := by
  obtain ⟨k, rfl⟩ : ∃ k, n = k + 1 := ⟨n - 1, by omega⟩
  show mcSkL[k]? = none
  have e : mcSkL.length = 203 := by decide +kernel
  exact List.getElem?_eq_none (by omega)
theorem cs_demand0 {kd : Nat} {M' : mcM} {x : Int} {Ψ : mcPost} (hM : (kd = 0 ∧ M' = M_Srv_demandLegal) ∨ (kd = 1 ∧ M' = M_Srv_demandState)) (hx : in32 x) (hfr : 6 ≤ fr) (hlo : 100 ≤ lo) (hn : 204 ≤ n)
    (k1 : x ≠ 0 → Ψ (.inl none) mcRho σ n z) (k2 : x = 0 → n + 1 ≤ 601025 ∧ z + 6 ≤ 7293034 ∧ Ψ (.inr (kd, n)) mcRho σ (n + 1) (z + 6)) : mcE0 L fr lo M' (mcEnt M'.2.2.1 [mi x]) mcRho σ n z Ψ := by
  rcases hM with ⟨rfl, rfl⟩ | ⟨rfl, rfl⟩
  · exact mc_demand (kd := 0) (ix := 211) (Or.inl rfl) rfl (by decide +kernel) (by decide +kernel) (by decide +kernel) (by decide +kernel) (by decide +kernel) (by decide +kernel) (by decide +kernel) rfl rfl (by decide +kernel) (by decide +kernel) (by decide +kernel) hx hfr hlo (mcSk_none hn) k1 k2
  · exact mc_demand (kd := 1) (ix := 214) (Or.inr rfl) rfl (by decide +kernel) (by decide +kernel) (by decide +kernel) (by decide +kernel) (by decide +kernel) (by decide +kernel) (by decide +kernel) rfl rfl (by decide +kernel) (by decide +kernel) (by decide +kernel) hx hfr hlo (mcSk_none hn) k1 k2
theorem cs_demand {idx kd : Nat} {M' : mcM} {q : List mcM} (hk : (ax.1 = 4 ∧ kd = 0) ∨ (ax.1 = 5 ∧ kd = 1)) (hax : ax.2.2.2 = M' :: q) (hc : mcCode M pc = some (.invokestatic idx, 3)) (ok2 : mcStB M idx ax = true) (hh : mcHan M) (hf : d ≤ fr) (hlo : 40 * d ≤ lo) (hn : 204 ≤ n) (hnx : ∀ pc ls st σ n z, nx pc ls st σ n z → cE L d M pc ls st σ n z Φ)
    (h : mcPI st fun x st => in32 x ∧ 7 ≤ d ∧ mcCats st ≤ 9 ∧ (¬ x = 0 → nx (pc + 3) ls st σ n z) ∧ (x = 0 → n + 1 ≤ 601025 ∧ z + 6 ≤ 7293034 ∧ cThr M Φ nx pc ls kd n σ (n + 1) (z + 6))) : mcE L fr lo M pc ls st mcRho σ n z (cLift Φ) := by
  obtain ⟨x, r, rfl, hx, h1, h2, h3, h4⟩ := mcPI_spec h
  unfold mcStB at ok2
  rw [hax] at ok2
  dsimp only at ok2
  have hM : (kd = 0 ∧ mcPick ax M' = M_Srv_demandLegal) ∨ (kd = 1 ∧ mcPick ax M' = M_Srv_demandState) := by
    unfold mcPick
    rcases hk with ⟨e, rfl⟩ | ⟨e, rfl⟩
    · exact Or.inl ⟨rfl, by rw [if_pos e]⟩
    · exact Or.inr ⟨rfl, by rw [if_neg (by omega), if_pos e]⟩
  generalize mcPick ax M' = M' at ok2 hM
  simp only [Bool.and_eq_true, decide_eq_true_eq] at ok2
  obtain ⟨⟨⟨⟨⟨o1, o2⟩, o3⟩, o4⟩, o5⟩, o6⟩ := ok2
  have hne : ¬ ax.1 = 1 := by omega
  rw [if_neg hne] at o1
  have har : mcArity M' 1 := by
    rcases hM with ⟨-, rfl⟩ | ⟨-, rfl⟩ <;> exact mcArB_spec (by decide +kernel)
  have hml : M'.2.2.1 = 1 := by rcases hM with ⟨-, rfl⟩ | ⟨-, rfl⟩ <;> rfl
  refine mc_static (M' := M') (vs := [mi x]) (st := r) (fr' := fr - 1) (lo' := lo - 40) hc (Or.inl (List.mem_of_getElem? (of_decide_eq_true o1))) (List.mem_of_getElem? o2) (mcCdB_spec o3) hh har (by omega) (by omega) (by rw [hml]; exact Nat.le_refl 1) ?_
  refine cs_demand0 hM hx (by omega) (by omega) hn (fun q => ?_) (fun q => ?_)
  · exact hnx _ _ _ _ _ _ (h3 q) fr lo hf hlo hn
  · obtain ⟨g1, g2, g3⟩ := h4 q
    exact ⟨g1, g2, cNx_lift (o := .inr (kd, n)) (st := r) hf hlo hnx ⟨rfl, by omega, g3⟩⟩
theorem cs_iconst {i : Int} (hL : L ≤ 4096) (hh : mcHan M) (ok : mcOkB M (pc, cut, .iconst i, len, ax) = true) (hnx : ∀ pc ls st σ n z, nx pc ls st σ n z → cE L d M pc ls st σ n z Φ) (h : cS L d M Φ nx (pc, cut, .iconst i, len, ax) ls st σ n z) : cE L d M pc ls st σ n z Φ := by
    intro fr lo hf hlo hn
    have okr : (len == 1 && true) = true := (Bool.and_eq_true_iff.mp ok).2
    have hlen : len = 1 := by simpa using (Bool.and_eq_true_iff.mp okr).1
    subst hlen
    have hc : mcCode M pc = some (.iconst i, 1) := of_decide_eq_true (Bool.and_eq_true_iff.mp ok).1
    have ok2 : true = true := (Bool.and_eq_true_iff.mp okr).2
    have h : nx (pc + 1) ls (mi i :: st) σ n z := h
    exact mc_iconst hc (hnx _ _ _ _ _ _ h fr lo hf hlo hn)
theorem cs_bipush {i : Int} (hL : L ≤ 4096) (hh : mcHan M) (ok : mcOkB M (pc, cut, .bipush i, len, ax) = true) (hnx : ∀ pc ls st σ n z, nx pc ls st σ n z → cE L d M pc ls st σ n z Φ) (h : cS L d M Φ nx (pc, cut, .bipush i, len, ax) ls st σ n z) : cE L d M pc ls st σ n z Φ := by
    intro fr lo hf hlo hn
    have okr : (len == 2 && decide ((Int8.ofInt i).toInt32 = Int32.ofInt i)) = true := (Bool.and_eq_true_iff.mp ok).2
    have hlen : len = 2 := by simpa using (Bool.and_eq_true_iff.mp okr).1
    subst hlen
    have hc : mcCode M pc = some (.bipush i, 2) := of_decide_eq_true (Bool.and_eq_true_iff.mp ok).1
    have ok2 : decide ((Int8.ofInt i).toInt32 = Int32.ofInt i) = true := (Bool.and_eq_true_iff.mp okr).2
    have h : nx (pc + 2) ls (mi i :: st) σ n z := h
    exact mc_bipush hc (by simpa using ok2) (hnx _ _ _ _ _ _ h fr lo hf hlo hn)
theorem cs_sipush {i : Int} (hL : L ≤ 4096) (hh : mcHan M) (ok : mcOkB M (pc, cut, .sipush i, len, ax) = true) (hnx : ∀ pc ls st σ n z, nx pc ls st σ n z → cE L d M pc ls st σ n z Φ) (h : cS L d M Φ nx (pc, cut, .sipush i, len, ax) ls st σ n z) : cE L d M pc ls st σ n z Φ := by
    intro fr lo hf hlo hn
    have okr : (len == 3 && decide ((Int16.ofInt i).toInt32 = Int32.ofInt i)) = true := (Bool.and_eq_true_iff.mp ok).2
    have hlen : len = 3 := by simpa using (Bool.and_eq_true_iff.mp okr).1
    subst hlen
    have hc : mcCode M pc = some (.sipush i, 3) := of_decide_eq_true (Bool.and_eq_true_iff.mp ok).1
    have ok2 : decide ((Int16.ofInt i).toInt32 = Int32.ofInt i) = true := (Bool.and_eq_true_iff.mp okr).2
    have h : nx (pc + 3) ls (mi i :: st) σ n z := h
    exact mc_sipush hc (by simpa using ok2) (hnx _ _ _ _ _ _ h fr lo hf hlo hn)
theorem cs_lconst {i : Fin 2} (hL : L ≤ 4096) (hh : mcHan M) (ok : mcOkB M (pc, cut, .lconst i, len, ax) = true) (hnx : ∀ pc ls st σ n z, nx pc ls st σ n z → cE L d M pc ls st σ n z Φ) (h : cS L d M Φ nx (pc, cut, .lconst i, len, ax) ls st σ n z) : cE L d M pc ls st σ n z Φ := by
    intro fr lo hf hlo hn
    have okr : (len == 1 && true) = true := (Bool.and_eq_true_iff.mp ok).2
    have hlen : len = 1 := by simpa using (Bool.and_eq_true_iff.mp okr).1
    subst hlen
    have hc : mcCode M pc = some (.lconst i, 1) := of_decide_eq_true (Bool.and_eq_true_iff.mp ok).1
    have ok2 : true = true := (Bool.and_eq_true_iff.mp okr).2
    have h : nx (pc + 1) ls (ml (Int64.ofNat (i : Nat)) :: st) σ n z := h
    exact mc_lconst hc (hnx _ _ _ _ _ _ h fr lo hf hlo hn)
theorem cs_ldc {i : Nat} (hL : L ≤ 4096) (hh : mcHan M) (ok : mcOkB M (pc, cut, .ldc i, len, ax) = true) (hnx : ∀ pc ls st σ n z, nx pc ls st σ n z → cE L d M pc ls st σ n z Φ) (h : cS L d M Φ nx (pc, cut, .ldc i, len, ax) ls st σ n z) : cE L d M pc ls st σ n z Φ := by
    intro fr lo hf hlo hn
    have okr : (len == 2 && decide (lw_tbl[ax.2.2.1.getD 0 0]? = some (Cond.constant M.1.cls i 100000))) = true := (Bool.and_eq_true_iff.mp ok).2
    have hlen : len = 2 := by simpa using (Bool.and_eq_true_iff.mp okr).1
    subst hlen
    have hc : mcCode M pc = some (.ldc i, 2) := of_decide_eq_true (Bool.and_eq_true_iff.mp ok).1
    have ok2 : decide (lw_tbl[ax.2.2.1.getD 0 0]? = some (Cond.constant M.1.cls i 100000)) = true := (Bool.and_eq_true_iff.mp okr).2
    have h : nx (pc + 2) ls (mi 100000 :: st) σ n z := h
    exact mc_ldc hc (List.mem_of_getElem? (by simpa using ok2)) (hnx _ _ _ _ _ _ h fr lo hf hlo hn)
theorem cs_ldc2_w {i : Nat} (hL : L ≤ 4096) (hh : mcHan M) (ok : mcOkB M (pc, cut, .ldc2_w i, len, ax) = true) (hnx : ∀ pc ls st σ n z, nx pc ls st σ n z → cE L d M pc ls st σ n z Φ) (h : cS L d M Φ nx (pc, cut, .ldc2_w i, len, ax) ls st σ n z) : cE L d M pc ls st σ n z Φ := by
    intro fr lo hf hlo hn
    have okr : (len == 3 && decide (lw_tbl[ax.2.2.1.getD 0 0]? = some (Cond.constantLong M.1.cls i (-1)))) = true := (Bool.and_eq_true_iff.mp ok).2
    have hlen : len = 3 := by simpa using (Bool.and_eq_true_iff.mp okr).1
    subst hlen
    have hc : mcCode M pc = some (.ldc2_w i, 3) := of_decide_eq_true (Bool.and_eq_true_iff.mp ok).1
    have ok2 : decide (lw_tbl[ax.2.2.1.getD 0 0]? = some (Cond.constantLong M.1.cls i (-1))) = true := (Bool.and_eq_true_iff.mp okr).2
    have h : nx (pc + 3) ls (ml (-1) :: st) σ n z := h
    exact mc_ldc2 hc (List.mem_of_getElem? (by simpa using ok2)) (hnx _ _ _ _ _ _ h fr lo hf hlo hn)
theorem cs_iadd (hL : L ≤ 4096) (hh : mcHan M) (ok : mcOkB M (pc, cut, .iadd , len, ax) = true) (hnx : ∀ pc ls st σ n z, nx pc ls st σ n z → cE L d M pc ls st σ n z Φ) (h : cS L d M Φ nx (pc, cut, .iadd , len, ax) ls st σ n z) : cE L d M pc ls st σ n z Φ := by
    intro fr lo hf hlo hn
    have okr : (len == 1 && true) = true := (Bool.and_eq_true_iff.mp ok).2
    have hlen : len = 1 := by simpa using (Bool.and_eq_true_iff.mp okr).1
    subst hlen
    have hc : mcCode M pc = some (.iadd , 1) := of_decide_eq_true (Bool.and_eq_true_iff.mp ok).1
    have ok2 : true = true := (Bool.and_eq_true_iff.mp okr).2
    have h : mcPI st fun y st => mcPI st fun x st => nx (pc + 1) ls (mi (x + y) :: st) σ n z := h
    obtain ⟨y, r, rfl, hq1⟩ := mcPI_spec h; obtain ⟨x, r, rfl, hq2⟩ := mcPI_spec hq1; exact mc_iadd hc (hnx _ _ _ _ _ _ hq2 fr lo hf hlo hn)
theorem cs_isub (hL : L ≤ 4096) (hh : mcHan M) (ok : mcOkB M (pc, cut, .isub , len, ax) = true) (hnx : ∀ pc ls st σ n z, nx pc ls st σ n z → cE L d M pc ls st σ n z Φ) (h : cS L d M Φ nx (pc, cut, .isub , len, ax) ls st σ n z) : cE L d M pc ls st σ n z Φ := by
    intro fr lo hf hlo hn
    have okr : (len == 1 && true) = true := (Bool.and_eq_true_iff.mp ok).2
    have hlen : len = 1 := by simpa using (Bool.and_eq_true_iff.mp okr).1
    subst hlen
    have hc : mcCode M pc = some (.isub , 1) := of_decide_eq_true (Bool.and_eq_true_iff.mp ok).1
    have ok2 : true = true := (Bool.and_eq_true_iff.mp okr).2
    have h : mcPI st fun y st => mcPI st fun x st => nx (pc + 1) ls (mi (x - y) :: st) σ n z := h
    obtain ⟨y, r, rfl, hq1⟩ := mcPI_spec h; obtain ⟨x, r, rfl, hq2⟩ := mcPI_spec hq1; exact mc_isub hc (hnx _ _ _ _ _ _ hq2 fr lo hf hlo hn)
theorem cs_imul (hL : L ≤ 4096) (hh : mcHan M) (ok : mcOkB M (pc, cut, .imul , len, ax) = true) (hnx : ∀ pc ls st σ n z, nx pc ls st σ n z → cE L d M pc ls st σ n z Φ) (h : cS L d M Φ nx (pc, cut, .imul , len, ax) ls st σ n z) : cE L d M pc ls st σ n z Φ := by
    intro fr lo hf hlo hn
    have okr : (len == 1 && true) = true := (Bool.and_eq_true_iff.mp ok).2
    have hlen : len = 1 := by simpa using (Bool.and_eq_true_iff.mp okr).1
    subst hlen
    have hc : mcCode M pc = some (.imul , 1) := of_decide_eq_true (Bool.and_eq_true_iff.mp ok).1
    have ok2 : true = true := (Bool.and_eq_true_iff.mp okr).2
    have h : mcPI st fun y st => mcPI st fun x st => nx (pc + 1) ls (mi (x * y) :: st) σ n z := h
    obtain ⟨y, r, rfl, hq1⟩ := mcPI_spec h; obtain ⟨x, r, rfl, hq2⟩ := mcPI_spec hq1; exact mc_imul hc (hnx _ _ _ _ _ _ hq2 fr lo hf hlo hn)
theorem cs_iand (hL : L ≤ 4096) (hh : mcHan M) (ok : mcOkB M (pc, cut, .iand , len, ax) = true) (hnx : ∀ pc ls st σ n z, nx pc ls st σ n z → cE L d M pc ls st σ n z Φ) (h : cS L d M Φ nx (pc, cut, .iand , len, ax) ls st σ n z) : cE L d M pc ls st σ n z Φ := by
    intro fr lo hf hlo hn
    have okr : (len == 1 && true) = true := (Bool.and_eq_true_iff.mp ok).2
    have hlen : len = 1 := by simpa using (Bool.and_eq_true_iff.mp okr).1
    subst hlen
    have hc : mcCode M pc = some (.iand , 1) := of_decide_eq_true (Bool.and_eq_true_iff.mp ok).1
    have ok2 : true = true := (Bool.and_eq_true_iff.mp okr).2
    have h : mcPI st fun y st => mcPI st fun x st => nx (pc + 1) ls (mi (mAnd x y) :: st) σ n z := h
    obtain ⟨y, r, rfl, hq1⟩ := mcPI_spec h; obtain ⟨x, r, rfl, hq2⟩ := mcPI_spec hq1; exact mc_iand hc (hnx _ _ _ _ _ _ hq2 fr lo hf hlo hn)
theorem cs_ladd (hL : L ≤ 4096) (hh : mcHan M) (ok : mcOkB M (pc, cut, .ladd , len, ax) = true) (hnx : ∀ pc ls st σ n z, nx pc ls st σ n z → cE L d M pc ls st σ n z Φ) (h : cS L d M Φ nx (pc, cut, .ladd , len, ax) ls st σ n z) : cE L d M pc ls st σ n z Φ := by
    intro fr lo hf hlo hn
    have okr : (len == 1 && true) = true := (Bool.and_eq_true_iff.mp ok).2
    have hlen : len = 1 := by simpa using (Bool.and_eq_true_iff.mp okr).1
    subst hlen
    have hc : mcCode M pc = some (.ladd , 1) := of_decide_eq_true (Bool.and_eq_true_iff.mp ok).1
    have ok2 : true = true := (Bool.and_eq_true_iff.mp okr).2
    have h : mcPL st fun y st => mcPL st fun x st => nx (pc + 1) ls (ml (x + y) :: st) σ n z := h
    obtain ⟨y, r, rfl, hq1⟩ := mcPL_spec h; obtain ⟨x, r, rfl, hq2⟩ := mcPL_spec hq1; exact mc_ladd hc (hnx _ _ _ _ _ _ hq2 fr lo hf hlo hn)
theorem cs_lsub (hL : L ≤ 4096) (hh : mcHan M) (ok : mcOkB M (pc, cut, .lsub , len, ax) = true) (hnx : ∀ pc ls st σ n z, nx pc ls st σ n z → cE L d M pc ls st σ n z Φ) (h : cS L d M Φ nx (pc, cut, .lsub , len, ax) ls st σ n z) : cE L d M pc ls st σ n z Φ := by
    intro fr lo hf hlo hn
    have okr : (len == 1 && true) = true := (Bool.and_eq_true_iff.mp ok).2
    have hlen : len = 1 := by simpa using (Bool.and_eq_true_iff.mp okr).1
    subst hlen
    have hc : mcCode M pc = some (.lsub , 1) := of_decide_eq_true (Bool.and_eq_true_iff.mp ok).1
    have ok2 : true = true := (Bool.and_eq_true_iff.mp okr).2
    have h : mcPL st fun y st => mcPL st fun x st => nx (pc + 1) ls (ml (x - y) :: st) σ n z := h
    obtain ⟨y, r, rfl, hq1⟩ := mcPL_spec h; obtain ⟨x, r, rfl, hq2⟩ := mcPL_spec hq1; exact mc_lsub hc (hnx _ _ _ _ _ _ hq2 fr lo hf hlo hn)
theorem cs_land (hL : L ≤ 4096) (hh : mcHan M) (ok : mcOkB M (pc, cut, .land , len, ax) = true) (hnx : ∀ pc ls st σ n z, nx pc ls st σ n z → cE L d M pc ls st σ n z Φ) (h : cS L d M Φ nx (pc, cut, .land , len, ax) ls st σ n z) : cE L d M pc ls st σ n z Φ := by
    intro fr lo hf hlo hn
    have okr : (len == 1 && true) = true := (Bool.and_eq_true_iff.mp ok).2
    have hlen : len = 1 := by simpa using (Bool.and_eq_true_iff.mp okr).1
    subst hlen
    have hc : mcCode M pc = some (.land , 1) := of_decide_eq_true (Bool.and_eq_true_iff.mp ok).1
    have ok2 : true = true := (Bool.and_eq_true_iff.mp okr).2
    have h : mcPL st fun y st => mcPL st fun x st => nx (pc + 1) ls (ml (x &&& y) :: st) σ n z := h
    obtain ⟨y, r, rfl, hq1⟩ := mcPL_spec h; obtain ⟨x, r, rfl, hq2⟩ := mcPL_spec hq1; exact mc_land hc (hnx _ _ _ _ _ _ hq2 fr lo hf hlo hn)
theorem cs_lor (hL : L ≤ 4096) (hh : mcHan M) (ok : mcOkB M (pc, cut, .lor , len, ax) = true) (hnx : ∀ pc ls st σ n z, nx pc ls st σ n z → cE L d M pc ls st σ n z Φ) (h : cS L d M Φ nx (pc, cut, .lor , len, ax) ls st σ n z) : cE L d M pc ls st σ n z Φ := by
    intro fr lo hf hlo hn
    have okr : (len == 1 && true) = true := (Bool.and_eq_true_iff.mp ok).2
    have hlen : len = 1 := by simpa using (Bool.and_eq_true_iff.mp okr).1
    subst hlen
    have hc : mcCode M pc = some (.lor , 1) := of_decide_eq_true (Bool.and_eq_true_iff.mp ok).1
    have ok2 : true = true := (Bool.and_eq_true_iff.mp okr).2
    have h : mcPL st fun y st => mcPL st fun x st => nx (pc + 1) ls (ml (x ||| y) :: st) σ n z := h
    obtain ⟨y, r, rfl, hq1⟩ := mcPL_spec h; obtain ⟨x, r, rfl, hq2⟩ := mcPL_spec hq1; exact mc_lor hc (hnx _ _ _ _ _ _ hq2 fr lo hf hlo hn)
theorem cs_lxor (hL : L ≤ 4096) (hh : mcHan M) (ok : mcOkB M (pc, cut, .lxor , len, ax) = true) (hnx : ∀ pc ls st σ n z, nx pc ls st σ n z → cE L d M pc ls st σ n z Φ) (h : cS L d M Φ nx (pc, cut, .lxor , len, ax) ls st σ n z) : cE L d M pc ls st σ n z Φ := by
    intro fr lo hf hlo hn
    have okr : (len == 1 && true) = true := (Bool.and_eq_true_iff.mp ok).2
    have hlen : len = 1 := by simpa using (Bool.and_eq_true_iff.mp okr).1
    subst hlen
    have hc : mcCode M pc = some (.lxor , 1) := of_decide_eq_true (Bool.and_eq_true_iff.mp ok).1
    have ok2 : true = true := (Bool.and_eq_true_iff.mp okr).2
    have h : mcPL st fun y st => mcPL st fun x st => nx (pc + 1) ls (ml (x ^^^ y) :: st) σ n z := h
    obtain ⟨y, r, rfl, hq1⟩ := mcPL_spec h; obtain ⟨x, r, rfl, hq2⟩ := mcPL_spec hq1; exact mc_lxor hc (hnx _ _ _ _ _ _ hq2 fr lo hf hlo hn)
theorem cs_lcmp (hL : L ≤ 4096) (hh : mcHan M) (ok : mcOkB M (pc, cut, .lcmp , len, ax) = true) (hnx : ∀ pc ls st σ n z, nx pc ls st σ n z → cE L d M pc ls st σ n z Φ) (h : cS L d M Φ nx (pc, cut, .lcmp , len, ax) ls st σ n z) : cE L d M pc ls st σ n z Φ := by
    intro fr lo hf hlo hn
    have okr : (len == 1 && true) = true := (Bool.and_eq_true_iff.mp ok).2
    have hlen : len = 1 := by simpa using (Bool.and_eq_true_iff.mp okr).1
    subst hlen
    have hc : mcCode M pc = some (.lcmp , 1) := of_decide_eq_true (Bool.and_eq_true_iff.mp ok).1
    have ok2 : true = true := (Bool.and_eq_true_iff.mp okr).2
    have h : mcPL st fun y st => mcPL st fun x st => nx (pc + 1) ls (mi (mCmp x y) :: st) σ n z := h
    obtain ⟨y, r, rfl, hq1⟩ := mcPL_spec h; obtain ⟨x, r, rfl, hq2⟩ := mcPL_spec hq1; exact mc_lcmp hc (hnx _ _ _ _ _ _ hq2 fr lo hf hlo hn)
theorem cs_lshl (hL : L ≤ 4096) (hh : mcHan M) (ok : mcOkB M (pc, cut, .lshl , len, ax) = true) (hnx : ∀ pc ls st σ n z, nx pc ls st σ n z → cE L d M pc ls st σ n z Φ) (h : cS L d M Φ nx (pc, cut, .lshl , len, ax) ls st σ n z) : cE L d M pc ls st σ n z Φ := by
    intro fr lo hf hlo hn
    have okr : (len == 1 && true) = true := (Bool.and_eq_true_iff.mp ok).2
    have hlen : len = 1 := by simpa using (Bool.and_eq_true_iff.mp okr).1
    subst hlen
    have hc : mcCode M pc = some (.lshl , 1) := of_decide_eq_true (Bool.and_eq_true_iff.mp ok).1
    have ok2 : true = true := (Bool.and_eq_true_iff.mp okr).2
    have h : mcPI st fun y st => mcPL st fun x st => (0 ≤ y ∧ y < 64) ∧ nx (pc + 1) ls (ml (mShl x y) :: st) σ n z := h
    obtain ⟨y, r, rfl, hq1⟩ := mcPI_spec h; obtain ⟨x, r, rfl, hy, hq2⟩ := mcPL_spec hq1; exact mc_lshl hc hy (hnx _ _ _ _ _ _ hq2 fr lo hf hlo hn)
theorem cs_lushr (hL : L ≤ 4096) (hh : mcHan M) (ok : mcOkB M (pc, cut, .lushr , len, ax) = true) (hnx : ∀ pc ls st σ n z, nx pc ls st σ n z → cE L d M pc ls st σ n z Φ) (h : cS L d M Φ nx (pc, cut, .lushr , len, ax) ls st σ n z) : cE L d M pc ls st σ n z Φ := by
    intro fr lo hf hlo hn
    have okr : (len == 1 && true) = true := (Bool.and_eq_true_iff.mp ok).2
    have hlen : len = 1 := by simpa using (Bool.and_eq_true_iff.mp okr).1
    subst hlen
    have hc : mcCode M pc = some (.lushr , 1) := of_decide_eq_true (Bool.and_eq_true_iff.mp ok).1
    have ok2 : true = true := (Bool.and_eq_true_iff.mp okr).2
    have h : mcPI st fun y st => mcPL st fun x st => (0 ≤ y ∧ y < 64) ∧ nx (pc + 1) ls (ml (mShr x y) :: st) σ n z := h
    obtain ⟨y, r, rfl, hq1⟩ := mcPI_spec h; obtain ⟨x, r, rfl, hy, hq2⟩ := mcPL_spec hq1; exact mc_lushr hc hy (hnx _ _ _ _ _ _ hq2 fr lo hf hlo hn)
theorem cs_i2l (hL : L ≤ 4096) (hh : mcHan M) (ok : mcOkB M (pc, cut, .i2l , len, ax) = true) (hnx : ∀ pc ls st σ n z, nx pc ls st σ n z → cE L d M pc ls st σ n z Φ) (h : cS L d M Φ nx (pc, cut, .i2l , len, ax) ls st σ n z) : cE L d M pc ls st σ n z Φ := by
    intro fr lo hf hlo hn
    have okr : (len == 1 && true) = true := (Bool.and_eq_true_iff.mp ok).2
    have hlen : len = 1 := by simpa using (Bool.and_eq_true_iff.mp okr).1
    subst hlen
    have hc : mcCode M pc = some (.i2l , 1) := of_decide_eq_true (Bool.and_eq_true_iff.mp ok).1
    have ok2 : true = true := (Bool.and_eq_true_iff.mp okr).2
    have h : mcPI st fun x st => nx (pc + 1) ls (ml (Int32.ofInt x).toInt64 :: st) σ n z := h
    obtain ⟨x, r, rfl, hq1⟩ := mcPI_spec h; exact mc_i2l hc (hnx _ _ _ _ _ _ hq1 fr lo hf hlo hn)
theorem cs_i2b (hL : L ≤ 4096) (hh : mcHan M) (ok : mcOkB M (pc, cut, .i2b , len, ax) = true) (hnx : ∀ pc ls st σ n z, nx pc ls st σ n z → cE L d M pc ls st σ n z Φ) (h : cS L d M Φ nx (pc, cut, .i2b , len, ax) ls st σ n z) : cE L d M pc ls st σ n z Φ := by
    intro fr lo hf hlo hn
    have okr : (len == 1 && true) = true := (Bool.and_eq_true_iff.mp ok).2
    have hlen : len = 1 := by simpa using (Bool.and_eq_true_iff.mp okr).1
    subst hlen
    have hc : mcCode M pc = some (.i2b , 1) := of_decide_eq_true (Bool.and_eq_true_iff.mp ok).1
    have ok2 : true = true := (Bool.and_eq_true_iff.mp okr).2
    have h : mcPI st fun x st => (-128 ≤ x ∧ x < 128) ∧ nx (pc + 1) ls (mi x :: st) σ n z := h
    obtain ⟨x, r, rfl, hx, hq1⟩ := mcPI_spec h; exact mc_i2b hc hx (hnx _ _ _ _ _ _ hq1 fr lo hf hlo hn)
theorem cs_dup (hL : L ≤ 4096) (hh : mcHan M) (ok : mcOkB M (pc, cut, .dup , len, ax) = true) (hnx : ∀ pc ls st σ n z, nx pc ls st σ n z → cE L d M pc ls st σ n z Φ) (h : cS L d M Φ nx (pc, cut, .dup , len, ax) ls st σ n z) : cE L d M pc ls st σ n z Φ := by
    intro fr lo hf hlo hn
    have okr : (len == 1 && true) = true := (Bool.and_eq_true_iff.mp ok).2
    have hlen : len = 1 := by simpa using (Bool.and_eq_true_iff.mp okr).1
    subst hlen
    have hc : mcCode M pc = some (.dup , 1) := of_decide_eq_true (Bool.and_eq_true_iff.mp ok).1
    have ok2 : true = true := (Bool.and_eq_true_iff.mp okr).2
    have h : mcP1 st fun v st => mcCat v = 1 ∧ nx (pc + 1) ls (v :: v :: st) σ n z := h
    obtain ⟨v, r, rfl, hv, hq1⟩ := mcP1_spec h; exact mc_dup hc hv (hnx _ _ _ _ _ _ hq1 fr lo hf hlo hn)
theorem cs_pop (hL : L ≤ 4096) (hh : mcHan M) (ok : mcOkB M (pc, cut, .pop , len, ax) = true) (hnx : ∀ pc ls st σ n z, nx pc ls st σ n z → cE L d M pc ls st σ n z Φ) (h : cS L d M Φ nx (pc, cut, .pop , len, ax) ls st σ n z) : cE L d M pc ls st σ n z Φ := by
    intro fr lo hf hlo hn
    have okr : (len == 1 && true) = true := (Bool.and_eq_true_iff.mp ok).2
    have hlen : len = 1 := by simpa using (Bool.and_eq_true_iff.mp okr).1
    subst hlen
    have hc : mcCode M pc = some (.pop , 1) := of_decide_eq_true (Bool.and_eq_true_iff.mp ok).1
    have ok2 : true = true := (Bool.and_eq_true_iff.mp okr).2
    have h : mcP1 st fun v st => mcCat v = 1 ∧ nx (pc + 1) ls (st) σ n z := h
    obtain ⟨v, r, rfl, hv, hq1⟩ := mcP1_spec h; exact mc_pop hc hv (hnx _ _ _ _ _ _ hq1 fr lo hf hlo hn)
theorem cs_dup2 (hL : L ≤ 4096) (hh : mcHan M) (ok : mcOkB M (pc, cut, .dup2 , len, ax) = true) (hnx : ∀ pc ls st σ n z, nx pc ls st σ n z → cE L d M pc ls st σ n z Φ) (h : cS L d M Φ nx (pc, cut, .dup2 , len, ax) ls st σ n z) : cE L d M pc ls st σ n z Φ := by
    intro fr lo hf hlo hn
    have okr : (len == 1 && true) = true := (Bool.and_eq_true_iff.mp ok).2
    have hlen : len = 1 := by simpa using (Bool.and_eq_true_iff.mp okr).1
    subst hlen
    have hc : mcCode M pc = some (.dup2 , 1) := of_decide_eq_true (Bool.and_eq_true_iff.mp ok).1
    have ok2 : true = true := (Bool.and_eq_true_iff.mp okr).2
    have h : mcP1 st fun u st => mcP1 st fun v st => mcCat u = 1 ∧ mcCat v = 1 ∧ nx (pc + 1) ls (u :: v :: u :: v :: st) σ n z := h
    obtain ⟨u, r, rfl, hq1⟩ := mcP1_spec h; obtain ⟨v, r, rfl, hu, hv, hq2⟩ := mcP1_spec hq1; exact mc_dup2 hc hu hv (hnx _ _ _ _ _ _ hq2 fr lo hf hlo hn)
theorem cs_iload_n {j : Fin 4} (hL : L ≤ 4096) (hh : mcHan M) (ok : mcOkB M (pc, cut, .iload_n j, len, ax) = true) (hnx : ∀ pc ls st σ n z, nx pc ls st σ n z → cE L d M pc ls st σ n z Φ) (h : cS L d M Φ nx (pc, cut, .iload_n j, len, ax) ls st σ n z) : cE L d M pc ls st σ n z Φ := by
    intro fr lo hf hlo hn
    have okr : (len == 1 && true) = true := (Bool.and_eq_true_iff.mp ok).2
    have hlen : len = 1 := by simpa using (Bool.and_eq_true_iff.mp okr).1
    subst hlen
    have hc : mcCode M pc = some (.iload_n j, 1) := of_decide_eq_true (Bool.and_eq_true_iff.mp ok).1
    have ok2 : true = true := (Bool.and_eq_true_iff.mp okr).2
    have h : mcGI ls j fun x => nx (pc + 1) ls (mi x :: st) σ n z := h
    obtain ⟨x, hx, hq1⟩ := mcGI_spec h; exact mc_iload_n hc hx (hnx _ _ _ _ _ _ hq1 fr lo hf hlo hn)
theorem cs_iload {i : Nat} (hL : L ≤ 4096) (hh : mcHan M) (ok : mcOkB M (pc, cut, .iload i, len, ax) = true) (hnx : ∀ pc ls st σ n z, nx pc ls st σ n z → cE L d M pc ls st σ n z Φ) (h : cS L d M Φ nx (pc, cut, .iload i, len, ax) ls st σ n z) : cE L d M pc ls st σ n z Φ := by
    intro fr lo hf hlo hn
    have okr : (len == 2 && true) = true := (Bool.and_eq_true_iff.mp ok).2
    have hlen : len = 2 := by simpa using (Bool.and_eq_true_iff.mp okr).1
    subst hlen
    have hc : mcCode M pc = some (.iload i, 2) := of_decide_eq_true (Bool.and_eq_true_iff.mp ok).1
    have ok2 : true = true := (Bool.and_eq_true_iff.mp okr).2
    have h : mcGI ls i fun x => nx (pc + 2) ls (mi x :: st) σ n z := h
    obtain ⟨x, hx, hq1⟩ := mcGI_spec h; exact mc_iload hc hx (hnx _ _ _ _ _ _ hq1 fr lo hf hlo hn)
theorem cs_lload_n {j : Fin 4} (hL : L ≤ 4096) (hh : mcHan M) (ok : mcOkB M (pc, cut, .lload_n j, len, ax) = true) (hnx : ∀ pc ls st σ n z, nx pc ls st σ n z → cE L d M pc ls st σ n z Φ) (h : cS L d M Φ nx (pc, cut, .lload_n j, len, ax) ls st σ n z) : cE L d M pc ls st σ n z Φ := by
    intro fr lo hf hlo hn
    have okr : (len == 1 && true) = true := (Bool.and_eq_true_iff.mp ok).2
    have hlen : len = 1 := by simpa using (Bool.and_eq_true_iff.mp okr).1
    subst hlen
    have hc : mcCode M pc = some (.lload_n j, 1) := of_decide_eq_true (Bool.and_eq_true_iff.mp ok).1
    have ok2 : true = true := (Bool.and_eq_true_iff.mp okr).2
    have h : mcGL ls j fun x => nx (pc + 1) ls (ml x :: st) σ n z := h
    obtain ⟨x, hx, hq1⟩ := mcGL_spec h; exact mc_lload_n hc hx (hnx _ _ _ _ _ _ hq1 fr lo hf hlo hn)
theorem cs_lload {i : Nat} (hL : L ≤ 4096) (hh : mcHan M) (ok : mcOkB M (pc, cut, .lload i, len, ax) = true) (hnx : ∀ pc ls st σ n z, nx pc ls st σ n z → cE L d M pc ls st σ n z Φ) (h : cS L d M Φ nx (pc, cut, .lload i, len, ax) ls st σ n z) : cE L d M pc ls st σ n z Φ := by
    intro fr lo hf hlo hn
    have okr : (len == 2 && true) = true := (Bool.and_eq_true_iff.mp ok).2
    have hlen : len = 2 := by simpa using (Bool.and_eq_true_iff.mp okr).1
    subst hlen
    have hc : mcCode M pc = some (.lload i, 2) := of_decide_eq_true (Bool.and_eq_true_iff.mp ok).1
    have ok2 : true = true := (Bool.and_eq_true_iff.mp okr).2
    have h : mcGL ls i fun x => nx (pc + 2) ls (ml x :: st) σ n z := h
    obtain ⟨x, hx, hq1⟩ := mcGL_spec h; exact mc_lload hc hx (hnx _ _ _ _ _ _ hq1 fr lo hf hlo hn)
theorem cs_aload_n {j : Fin 4} (hL : L ≤ 4096) (hh : mcHan M) (ok : mcOkB M (pc, cut, .aload_n j, len, ax) = true) (hnx : ∀ pc ls st σ n z, nx pc ls st σ n z → cE L d M pc ls st σ n z Φ) (h : cS L d M Φ nx (pc, cut, .aload_n j, len, ax) ls st σ n z) : cE L d M pc ls st σ n z Φ := by
    intro fr lo hf hlo hn
    have okr : (len == 1 && true) = true := (Bool.and_eq_true_iff.mp ok).2
    have hlen : len = 1 := by simpa using (Bool.and_eq_true_iff.mp okr).1
    subst hlen
    have hc : mcCode M pc = some (.aload_n j, 1) := of_decide_eq_true (Bool.and_eq_true_iff.mp ok).1
    have ok2 : true = true := (Bool.and_eq_true_iff.mp okr).2
    have h : mcGR ls j fun x => nx (pc + 1) ls (mr x :: st) σ n z := h
    obtain ⟨x, hx, hq1⟩ := mcGR_spec h; exact mc_aload_n hc hx (hnx _ _ _ _ _ _ hq1 fr lo hf hlo hn)
theorem cs_aload {i : Nat} (hL : L ≤ 4096) (hh : mcHan M) (ok : mcOkB M (pc, cut, .aload i, len, ax) = true) (hnx : ∀ pc ls st σ n z, nx pc ls st σ n z → cE L d M pc ls st σ n z Φ) (h : cS L d M Φ nx (pc, cut, .aload i, len, ax) ls st σ n z) : cE L d M pc ls st σ n z Φ := by
    intro fr lo hf hlo hn
    have okr : (len == 2 && true) = true := (Bool.and_eq_true_iff.mp ok).2
    have hlen : len = 2 := by simpa using (Bool.and_eq_true_iff.mp okr).1
    subst hlen
    have hc : mcCode M pc = some (.aload i, 2) := of_decide_eq_true (Bool.and_eq_true_iff.mp ok).1
    have ok2 : true = true := (Bool.and_eq_true_iff.mp okr).2
    have h : mcGR ls i fun x => nx (pc + 2) ls (mr x :: st) σ n z := h
    obtain ⟨x, hx, hq1⟩ := mcGR_spec h; exact mc_aload hc hx (hnx _ _ _ _ _ _ hq1 fr lo hf hlo hn)
theorem cs_istore_n {j : Fin 4} (hL : L ≤ 4096) (hh : mcHan M) (ok : mcOkB M (pc, cut, .istore_n j, len, ax) = true) (hnx : ∀ pc ls st σ n z, nx pc ls st σ n z → cE L d M pc ls st σ n z Φ) (h : cS L d M Φ nx (pc, cut, .istore_n j, len, ax) ls st σ n z) : cE L d M pc ls st σ n z Φ := by
    intro fr lo hf hlo hn
    have okr : (len == 1 && decide ((j : Nat) < M.2.2.1)) = true := (Bool.and_eq_true_iff.mp ok).2
    have hlen : len = 1 := by simpa using (Bool.and_eq_true_iff.mp okr).1
    subst hlen
    have hc : mcCode M pc = some (.istore_n j, 1) := of_decide_eq_true (Bool.and_eq_true_iff.mp ok).1
    have ok2 : decide ((j : Nat) < M.2.2.1) = true := (Bool.and_eq_true_iff.mp okr).2
    have h : mcPI st fun x st => nx (pc + 1) (mcS1 ls j (mi x)) (st) σ n z := h
    obtain ⟨x, r, rfl, hq1⟩ := mcPI_spec h; exact mc_istore_n hc (by simpa using ok2) (hnx _ _ _ _ _ _ hq1 fr lo hf hlo hn)
theorem cs_istore {i : Nat} (hL : L ≤ 4096) (hh : mcHan M) (ok : mcOkB M (pc, cut, .istore i, len, ax) = true) (hnx : ∀ pc ls st σ n z, nx pc ls st σ n z → cE L d M pc ls st σ n z Φ) (h : cS L d M Φ nx (pc, cut, .istore i, len, ax) ls st σ n z) : cE L d M pc ls st σ n z Φ := by
    intro fr lo hf hlo hn
    have okr : (len == 2 && decide (i < M.2.2.1)) = true := (Bool.and_eq_true_iff.mp ok).2
    have hlen : len = 2 := by simpa using (Bool.and_eq_true_iff.mp okr).1
    subst hlen
    have hc : mcCode M pc = some (.istore i, 2) := of_decide_eq_true (Bool.and_eq_true_iff.mp ok).1
    have ok2 : decide (i < M.2.2.1) = true := (Bool.and_eq_true_iff.mp okr).2
    have h : mcPI st fun x st => nx (pc + 2) (mcS1 ls i (mi x)) (st) σ n z := h
    obtain ⟨x, r, rfl, hq1⟩ := mcPI_spec h; exact mc_istore hc (by simpa using ok2) (hnx _ _ _ _ _ _ hq1 fr lo hf hlo hn)
theorem cs_astore_n {j : Fin 4} (hL : L ≤ 4096) (hh : mcHan M) (ok : mcOkB M (pc, cut, .astore_n j, len, ax) = true) (hnx : ∀ pc ls st σ n z, nx pc ls st σ n z → cE L d M pc ls st σ n z Φ) (h : cS L d M Φ nx (pc, cut, .astore_n j, len, ax) ls st σ n z) : cE L d M pc ls st σ n z Φ := by
    intro fr lo hf hlo hn
    have okr : (len == 1 && decide ((j : Nat) < M.2.2.1)) = true := (Bool.and_eq_true_iff.mp ok).2
    have hlen : len = 1 := by simpa using (Bool.and_eq_true_iff.mp okr).1
    subst hlen
    have hc : mcCode M pc = some (.astore_n j, 1) := of_decide_eq_true (Bool.and_eq_true_iff.mp ok).1
    have ok2 : decide ((j : Nat) < M.2.2.1) = true := (Bool.and_eq_true_iff.mp okr).2
    have h : mcPR st fun x st => nx (pc + 1) (mcS1 ls j (mr x)) (st) σ n z := h
    obtain ⟨x, r, rfl, hq1⟩ := mcPR_spec h; exact mc_astore_n hc (by simpa using ok2) (hnx _ _ _ _ _ _ hq1 fr lo hf hlo hn)
theorem cs_astore {i : Nat} (hL : L ≤ 4096) (hh : mcHan M) (ok : mcOkB M (pc, cut, .astore i, len, ax) = true) (hnx : ∀ pc ls st σ n z, nx pc ls st σ n z → cE L d M pc ls st σ n z Φ) (h : cS L d M Φ nx (pc, cut, .astore i, len, ax) ls st σ n z) : cE L d M pc ls st σ n z Φ := by
    intro fr lo hf hlo hn
    have okr : (len == 2 && decide (i < M.2.2.1)) = true := (Bool.and_eq_true_iff.mp ok).2
    have hlen : len = 2 := by simpa using (Bool.and_eq_true_iff.mp okr).1
    subst hlen
    have hc : mcCode M pc = some (.astore i, 2) := of_decide_eq_true (Bool.and_eq_true_iff.mp ok).1
    have ok2 : decide (i < M.2.2.1) = true := (Bool.and_eq_true_iff.mp okr).2
    have h : mcPR st fun x st => nx (pc + 2) (mcS1 ls i (mr x)) (st) σ n z := h
    obtain ⟨x, r, rfl, hq1⟩ := mcPR_spec h; exact mc_astore hc (by simpa using ok2) (hnx _ _ _ _ _ _ hq1 fr lo hf hlo hn)
theorem cs_lstore_n {j : Fin 4} (hL : L ≤ 4096) (hh : mcHan M) (ok : mcOkB M (pc, cut, .lstore_n j, len, ax) = true) (hnx : ∀ pc ls st σ n z, nx pc ls st σ n z → cE L d M pc ls st σ n z Φ) (h : cS L d M Φ nx (pc, cut, .lstore_n j, len, ax) ls st σ n z) : cE L d M pc ls st σ n z Φ := by
    intro fr lo hf hlo hn
    have okr : (len == 1 && decide ((j : Nat) + 1 < M.2.2.1)) = true := (Bool.and_eq_true_iff.mp ok).2
    have hlen : len = 1 := by simpa using (Bool.and_eq_true_iff.mp okr).1
    subst hlen
    have hc : mcCode M pc = some (.lstore_n j, 1) := of_decide_eq_true (Bool.and_eq_true_iff.mp ok).1
    have ok2 : decide ((j : Nat) + 1 < M.2.2.1) = true := (Bool.and_eq_true_iff.mp okr).2
    have h : mcPL st fun x st => nx (pc + 1) (mcS2 ls j (ml x)) (st) σ n z := h
    obtain ⟨x, r, rfl, hq1⟩ := mcPL_spec h; exact mc_lstore_n hc (by simpa using ok2) (hnx _ _ _ _ _ _ hq1 fr lo hf hlo hn)
theorem cs_lstore {i : Nat} (hL : L ≤ 4096) (hh : mcHan M) (ok : mcOkB M (pc, cut, .lstore i, len, ax) = true) (hnx : ∀ pc ls st σ n z, nx pc ls st σ n z → cE L d M pc ls st σ n z Φ) (h : cS L d M Φ nx (pc, cut, .lstore i, len, ax) ls st σ n z) : cE L d M pc ls st σ n z Φ := by
    intro fr lo hf hlo hn
    have okr : (len == 2 && decide (i + 1 < M.2.2.1)) = true := (Bool.and_eq_true_iff.mp ok).2
    have hlen : len = 2 := by simpa using (Bool.and_eq_true_iff.mp okr).1
    subst hlen
    have hc : mcCode M pc = some (.lstore i, 2) := of_decide_eq_true (Bool.and_eq_true_iff.mp ok).1
    have ok2 : decide (i + 1 < M.2.2.1) = true := (Bool.and_eq_true_iff.mp okr).2
    have h : mcPL st fun x st => nx (pc + 2) (mcS2 ls i (ml x)) (st) σ n z := h
    obtain ⟨x, r, rfl, hq1⟩ := mcPL_spec h; exact mc_lstore hc (by simpa using ok2) (hnx _ _ _ _ _ _ hq1 fr lo hf hlo hn)
theorem cs_iinc {i : Nat} {q : Int} (hL : L ≤ 4096) (hh : mcHan M) (ok : mcOkB M (pc, cut, .iinc i q, len, ax) = true) (hnx : ∀ pc ls st σ n z, nx pc ls st σ n z → cE L d M pc ls st σ n z Φ) (h : cS L d M Φ nx (pc, cut, .iinc i q, len, ax) ls st σ n z) : cE L d M pc ls st σ n z Φ := by
    intro fr lo hf hlo hn
    have okr : (len == 3 && decide (i < M.2.2.1)) = true := (Bool.and_eq_true_iff.mp ok).2
    have hlen : len = 3 := by simpa using (Bool.and_eq_true_iff.mp okr).1
    subst hlen
    have hc : mcCode M pc = some (.iinc i q, 3) := of_decide_eq_true (Bool.and_eq_true_iff.mp ok).1
    have ok2 : decide (i < M.2.2.1) = true := (Bool.and_eq_true_iff.mp okr).2
    have h : mcGI ls i fun x => nx (pc + 3) (mcS1 ls i (mi (x + q))) (st) σ n z := h
    obtain ⟨x, hx, hq1⟩ := mcGI_spec h; exact mc_iinc hc hx (by simpa using ok2) (hnx _ _ _ _ _ _ hq1 fr lo hf hlo hn)
theorem cs_if_icmp {cc : _} {off : Int} (hL : L ≤ 4096) (hh : mcHan M) (ok : mcOkB M (pc, cut, .if_icmp cc off, len, ax) = true) (hnx : ∀ pc ls st σ n z, nx pc ls st σ n z → cE L d M pc ls st σ n z Φ) (h : cS L d M Φ nx (pc, cut, .if_icmp cc off, len, ax) ls st σ n z) : cE L d M pc ls st σ n z Φ := by
    intro fr lo hf hlo hn
    have okr : (len == 3 && (decide (0 ≤ (pc : Int) + off) && ax.1 == mcTg pc off)) = true := (Bool.and_eq_true_iff.mp ok).2
    have hlen : len = 3 := by simpa using (Bool.and_eq_true_iff.mp okr).1
    subst hlen
    have hc : mcCode M pc = some (.if_icmp cc off, 3) := of_decide_eq_true (Bool.and_eq_true_iff.mp ok).1
    have ok2 : (decide (0 ≤ (pc : Int) + off) && ax.1 == mcTg pc off) = true := (Bool.and_eq_true_iff.mp okr).2
    have h : mcPI st fun y st => mcPI st fun x st => in32 x ∧ in32 y ∧ cIf2 cc x y (nx ax.1 ls st σ n z) (nx (pc + 3) ls (st) σ n z) := h
    obtain ⟨y, r, rfl, hq1⟩ := mcPI_spec h; obtain ⟨x, r, rfl, hx, hy, hq2⟩ := mcPI_spec hq1
    simp only [Bool.and_eq_true, decide_eq_true_eq, beq_iff_eq] at ok2
    cases cc with
    | eq =>
      obtain ⟨ka, kb⟩ := hq2
      exact mc_icmp_eq hc ok2.1 hx hy (fun q => ok2.2 ▸ hnx _ _ _ _ _ _ (ka q) fr lo hf hlo hn) (fun q => hnx _ _ _ _ _ _ (kb q) fr lo hf hlo hn)
    | ne =>
      obtain ⟨ka, kb⟩ := hq2
      exact mc_icmp_ne hc ok2.1 hx hy (fun q => ok2.2 ▸ hnx _ _ _ _ _ _ (ka q) fr lo hf hlo hn) (fun q => hnx _ _ _ _ _ _ (kb q) fr lo hf hlo hn)
    | lt =>
      obtain ⟨ka, kb⟩ := hq2
      exact mc_icmp_lt hc ok2.1 hx hy (fun q => ok2.2 ▸ hnx _ _ _ _ _ _ (ka q) fr lo hf hlo hn) (fun q => hnx _ _ _ _ _ _ (kb q) fr lo hf hlo hn)
    | ge =>
      obtain ⟨ka, kb⟩ := hq2
      exact mc_icmp_ge hc ok2.1 hx hy (fun q => ok2.2 ▸ hnx _ _ _ _ _ _ (ka q) fr lo hf hlo hn) (fun q => hnx _ _ _ _ _ _ (kb q) fr lo hf hlo hn)
    | gt =>
      obtain ⟨ka, kb⟩ := hq2
      exact mc_icmp_gt hc ok2.1 hx hy (fun q => ok2.2 ▸ hnx _ _ _ _ _ _ (ka q) fr lo hf hlo hn) (fun q => hnx _ _ _ _ _ _ (kb q) fr lo hf hlo hn)
    | le =>
      obtain ⟨ka, kb⟩ := hq2
      exact mc_icmp_le hc ok2.1 hx hy (fun q => ok2.2 ▸ hnx _ _ _ _ _ _ (ka q) fr lo hf hlo hn) (fun q => hnx _ _ _ _ _ _ (kb q) fr lo hf hlo hn)
theorem cs_ifCond {cc : _} {off : Int} (hL : L ≤ 4096) (hh : mcHan M) (ok : mcOkB M (pc, cut, .ifCond cc off, len, ax) = true) (hnx : ∀ pc ls st σ n z, nx pc ls st σ n z → cE L d M pc ls st σ n z Φ) (h : cS L d M Φ nx (pc, cut, .ifCond cc off, len, ax) ls st σ n z) : cE L d M pc ls st σ n z Φ := by
    intro fr lo hf hlo hn
    have okr : (len == 3 && (decide (0 ≤ (pc : Int) + off) && ax.1 == mcTg pc off)) = true := (Bool.and_eq_true_iff.mp ok).2
    have hlen : len = 3 := by simpa using (Bool.and_eq_true_iff.mp okr).1
    subst hlen
    have hc : mcCode M pc = some (.ifCond cc off, 3) := of_decide_eq_true (Bool.and_eq_true_iff.mp ok).1
    have ok2 : (decide (0 ≤ (pc : Int) + off) && ax.1 == mcTg pc off) = true := (Bool.and_eq_true_iff.mp okr).2
    have h : mcPI st fun x st => in32 x ∧ cIf1 cc x (nx ax.1 ls st σ n z) (nx (pc + 3) ls (st) σ n z) := h
    obtain ⟨x, r, rfl, hx, hq1⟩ := mcPI_spec h
    simp only [Bool.and_eq_true, decide_eq_true_eq, beq_iff_eq] at ok2
    cases cc with
    | eq =>
      obtain ⟨ka, kb⟩ := hq1
      exact mc_if_eq hc ok2.1 hx (fun q => ok2.2 ▸ hnx _ _ _ _ _ _ (ka q) fr lo hf hlo hn) (fun q => hnx _ _ _ _ _ _ (kb q) fr lo hf hlo hn)
    | ne =>
      obtain ⟨ka, kb⟩ := hq1
      exact mc_if_ne hc ok2.1 hx (fun q => ok2.2 ▸ hnx _ _ _ _ _ _ (ka q) fr lo hf hlo hn) (fun q => hnx _ _ _ _ _ _ (kb q) fr lo hf hlo hn)
    | lt =>
      obtain ⟨ka, kb⟩ := hq1
      exact mc_if_lt hc ok2.1 hx (fun q => ok2.2 ▸ hnx _ _ _ _ _ _ (ka q) fr lo hf hlo hn) (fun q => hnx _ _ _ _ _ _ (kb q) fr lo hf hlo hn)
    | ge =>
      obtain ⟨ka, kb⟩ := hq1
      exact mc_if_ge hc ok2.1 hx (fun q => ok2.2 ▸ hnx _ _ _ _ _ _ (ka q) fr lo hf hlo hn) (fun q => hnx _ _ _ _ _ _ (kb q) fr lo hf hlo hn)
    | gt =>
      obtain ⟨ka, kb⟩ := hq1
      exact mc_if_gt hc ok2.1 hx (fun q => ok2.2 ▸ hnx _ _ _ _ _ _ (ka q) fr lo hf hlo hn) (fun q => hnx _ _ _ _ _ _ (kb q) fr lo hf hlo hn)
    | le =>
      obtain ⟨ka, kb⟩ := hq1
      exact mc_if_le hc ok2.1 hx (fun q => ok2.2 ▸ hnx _ _ _ _ _ _ (ka q) fr lo hf hlo hn) (fun q => hnx _ _ _ _ _ _ (kb q) fr lo hf hlo hn)
theorem cs_goto {off : Int} (hL : L ≤ 4096) (hh : mcHan M) (ok : mcOkB M (pc, cut, .goto off, len, ax) = true) (hnx : ∀ pc ls st σ n z, nx pc ls st σ n z → cE L d M pc ls st σ n z Φ) (h : cS L d M Φ nx (pc, cut, .goto off, len, ax) ls st σ n z) : cE L d M pc ls st σ n z Φ := by
    intro fr lo hf hlo hn
    have okr : (len == 3 && (decide (0 ≤ (pc : Int) + off) && ax.1 == mcTg pc off)) = true := (Bool.and_eq_true_iff.mp ok).2
    have hlen : len = 3 := by simpa using (Bool.and_eq_true_iff.mp okr).1
    subst hlen
    have hc : mcCode M pc = some (.goto off, 3) := of_decide_eq_true (Bool.and_eq_true_iff.mp ok).1
    have ok2 : (decide (0 ≤ (pc : Int) + off) && ax.1 == mcTg pc off) = true := (Bool.and_eq_true_iff.mp okr).2
    have h : nx ax.1 ls st σ n z := h
    simp only [Bool.and_eq_true, decide_eq_true_eq, beq_iff_eq] at ok2
    exact mc_goto hc ok2.1 (ok2.2 ▸ hnx _ _ _ _ _ _ h fr lo hf hlo hn)
theorem cs_tableswitch {dflt : Int} {lw : Int} {hi : Int} {offs : Array Int} (hL : L ≤ 4096) (hh : mcHan M) (ok : mcOkB M (pc, cut, .tableswitch dflt lw hi offs, len, ax) = true) (hnx : ∀ pc ls st σ n z, nx pc ls st σ n z → cE L d M pc ls st σ n z Φ) (h : cS L d M Φ nx (pc, cut, .tableswitch dflt lw hi offs, len, ax) ls st σ n z) : cE L d M pc ls st σ n z Φ := by
    intro fr lo hf hlo hn
    have okr : (true && (offs.size == (hi - lw + 1).toNat && decide (0 ≤ (pc : Int) + dflt) && (offs.toList.all fun o => decide (0 ≤ (pc : Int) + o)) && ax.2.2.1 == offs.toList.map (fun o => mcTg pc o) && ax.1 == mcTg pc dflt)) = true := (Bool.and_eq_true_iff.mp ok).2
    have hc : mcCode M pc = some (.tableswitch dflt lw hi offs, len) := of_decide_eq_true (Bool.and_eq_true_iff.mp ok).1
    have ok2 : (offs.size == (hi - lw + 1).toNat && decide (0 ≤ (pc : Int) + dflt) && (offs.toList.all fun o => decide (0 ≤ (pc : Int) + o)) && ax.2.2.1 == offs.toList.map (fun o => mcTg pc o) && ax.1 == mcTg pc dflt) = true := (Bool.and_eq_true_iff.mp okr).2
    have h : mcPI st fun x st => in32 x ∧ cTs x lw ax.2.2.1 (fun t => nx t ls st σ n z) ∧ (x < lw ∨ hi < x → nx ax.1 ls st σ n z) := h
    obtain ⟨x, r, rfl, hx, h1, h2⟩ := mcPI_spec h
    simp only [Bool.and_eq_true, decide_eq_true_eq, beq_iff_eq, List.all_eq_true] at ok2
    obtain ⟨⟨⟨⟨o1, o2⟩, o3⟩, o4⟩, o5⟩ := ok2
    exact mc_tableswitch hc hx o1 o2 o3 (by rw [o4] at h1; exact cTs_mono (fun t q => hnx _ _ _ _ _ _ q fr lo hf hlo hn) h1) (fun q => o5 ▸ hnx _ _ _ _ _ _ (h2 q) fr lo hf hlo hn)
theorem cs_getfield {idx : Nat} (hL : L ≤ 4096) (hh : mcHan M) (ok : mcOkB M (pc, cut, .getfield idx, len, ax) = true) (hnx : ∀ pc ls st σ n z, nx pc ls st σ n z → cE L d M pc ls st σ n z Φ) (h : cS L d M Φ nx (pc, cut, .getfield idx, len, ax) ls st σ n z) : cE L d M pc ls st σ n z Φ := by
    intro fr lo hf hlo hn
    have okr : (len == 3 && mcFdB M idx ax.1 ax.2.1 (ax.2.2.1.getD 1 0) (ax.2.2.1.getD 0 0)) = true := (Bool.and_eq_true_iff.mp ok).2
    have hlen : len = 3 := by simpa using (Bool.and_eq_true_iff.mp okr).1
    subst hlen
    have hc : mcCode M pc = some (.getfield idx, 3) := of_decide_eq_true (Bool.and_eq_true_iff.mp ok).1
    have ok2 : mcFdB M idx ax.1 ax.2.1 (ax.2.2.1.getD 1 0) (ax.2.2.1.getD 0 0) = true := (Bool.and_eq_true_iff.mp okr).2
    have h : mcPR st fun a st => if ax.2.2.1.getD 1 0 = 1 then cGr L a ax.1 ax.2.1 fun t => nx (pc + 3) ls (mr t :: st) σ n z else cGi L σ a ax.1 ax.2.1 fun x => nx (pc + 3) ls (mi x :: st) σ n z := h
    obtain ⟨a, r, rfl, hq1⟩ := mcPR_spec h
    have hfd := mcFdB_spec ok2
    split at hq1
    · rename_i hkd
      rw [hkd] at hfd
      unfold cGr at hq1
      split at hq1
      · rename_i ci t hs ht
        obtain ⟨rfl, hq1⟩ := hq1
        exact mc_getR hc hfd (mcSk_pos hs) (mcSk_lt hs hn) hs ht (hnx _ _ _ _ _ _ hq1 fr lo hf hlo hn)
      · exact hq1.elim
    · rename_i hkd
      unfold cGi at hq1
      split at hq1
      · rename_i ci hs
        obtain ⟨rfl, hq1⟩ := hq1
        exact mc_getI hc hfd hkd (mcSk_pos hs) (mcSk_lt hs hn) hs (fun q => hnx _ _ _ _ _ _ (hq1 q) fr lo hf hlo hn)
      · exact hq1.elim
theorem cs_putfield {idx : Nat} (hL : L ≤ 4096) (hh : mcHan M) (ok : mcOkB M (pc, cut, .putfield idx, len, ax) = true) (hnx : ∀ pc ls st σ n z, nx pc ls st σ n z → cE L d M pc ls st σ n z Φ) (h : cS L d M Φ nx (pc, cut, .putfield idx, len, ax) ls st σ n z) : cE L d M pc ls st σ n z Φ := by
    intro fr lo hf hlo hn
    have okr : (len == 3 && (mcFdB M idx ax.1 ax.2.1 (ax.2.2.1.getD 1 0) (ax.2.2.1.getD 0 0) && !(ax.2.2.1.getD 1 0 == 1) && mcNfB ax.1 ax.2.1)) = true := (Bool.and_eq_true_iff.mp ok).2
    have hlen : len = 3 := by simpa using (Bool.and_eq_true_iff.mp okr).1
    subst hlen
    have hc : mcCode M pc = some (.putfield idx, 3) := of_decide_eq_true (Bool.and_eq_true_iff.mp ok).1
    have ok2 : (mcFdB M idx ax.1 ax.2.1 (ax.2.2.1.getD 1 0) (ax.2.2.1.getD 0 0) && !(ax.2.2.1.getD 1 0 == 1) && mcNfB ax.1 ax.2.1) = true := (Bool.and_eq_true_iff.mp okr).2
    have h : mcPI st fun x st => mcPR st fun a st => cPf L a ax.1 (ax.2.2.1.getD 1 0) x (nx (pc + 3) ls (st) (upc σ a (upi (σ a) ax.2.1 x)) n z) := h
    obtain ⟨x, r, rfl, hq1⟩ := mcPI_spec h
    obtain ⟨a, r, rfl, hq2⟩ := mcPR_spec hq1
    simp only [Bool.and_eq_true, Bool.not_eq_true', beq_eq_false_iff_ne] at ok2
    unfold cPf at hq2
    split at hq2
    · rename_i ci hs
      obtain ⟨rfl, hx, hz, hq2⟩ := hq2
      exact mc_putI hc ⟨mcFdB_spec ok2.1.1, mcNfB_spec ok2.2⟩ ok2.1.2 (mcSk_pos hs) (mcSk_lt hs hn) hs hx hz (hnx _ _ _ _ _ _ hq2 fr lo hf hlo hn)
    · exact hq2.elim
theorem cs_iaload (hL : L ≤ 4096) (hh : mcHan M) (ok : mcOkB M (pc, cut, .iaload , len, ax) = true) (hnx : ∀ pc ls st σ n z, nx pc ls st σ n z → cE L d M pc ls st σ n z Φ) (h : cS L d M Φ nx (pc, cut, .iaload , len, ax) ls st σ n z) : cE L d M pc ls st σ n z Φ := by
    intro fr lo hf hlo hn
    have okr : (len == 1 && true) = true := (Bool.and_eq_true_iff.mp ok).2
    have hlen : len = 1 := by simpa using (Bool.and_eq_true_iff.mp okr).1
    subst hlen
    have hc : mcCode M pc = some (.iaload , 1) := of_decide_eq_true (Bool.and_eq_true_iff.mp ok).1
    have ok2 : true = true := (Bool.and_eq_true_iff.mp okr).2
    have h : mcPI st fun x st => mcPR st fun a st => cAl L σ a x (fun t => t == 0) fun v => nx (pc + 1) ls (mi v :: st) σ n z := h
    obtain ⟨x, r, rfl, hq1⟩ := mcPI_spec h
    obtain ⟨a, r, rfl, hq2⟩ := mcPR_spec hq1
    unfold cAl at hq2
    split at hq2
    · rename_i t len hs
      obtain ⟨ht, hx, hq2⟩ := hq2
      simp only [beq_iff_eq] at ht
      subst ht
      cases a with
      | zero =>
        cases hs
        exact mc_iaload0 hc (by unfold in32; omega) hx (fun q => hnx _ _ _ _ _ _ (hq2 q) fr lo hf hlo hn)
      | succ a => exact mc_iaload hc (by omega) (mcSk_lt hs hn) hs hx (fun q => hnx _ _ _ _ _ _ (hq2 q) fr lo hf hlo hn)
    · exact hq2.elim
theorem cs_baload (hL : L ≤ 4096) (hh : mcHan M) (ok : mcOkB M (pc, cut, .baload , len, ax) = true) (hnx : ∀ pc ls st σ n z, nx pc ls st σ n z → cE L d M pc ls st σ n z Φ) (h : cS L d M Φ nx (pc, cut, .baload , len, ax) ls st σ n z) : cE L d M pc ls st σ n z Φ := by
    intro fr lo hf hlo hn
    have okr : (len == 1 && true) = true := (Bool.and_eq_true_iff.mp ok).2
    have hlen : len = 1 := by simpa using (Bool.and_eq_true_iff.mp okr).1
    subst hlen
    have hc : mcCode M pc = some (.baload , 1) := of_decide_eq_true (Bool.and_eq_true_iff.mp ok).1
    have ok2 : true = true := (Bool.and_eq_true_iff.mp okr).2
    have h : mcPI st fun x st => mcPR st fun a st => cAl L σ a x (fun t => t == 2 || t == 3) fun v => nx (pc + 1) ls (mi v :: st) σ n z := h
    obtain ⟨x, r, rfl, hq1⟩ := mcPI_spec h
    obtain ⟨a, r, rfl, hq2⟩ := mcPR_spec hq1
    unfold cAl at hq2
    split at hq2
    · rename_i t len hs
      obtain ⟨ht, hx, hq2⟩ := hq2
      simp only [Bool.or_eq_true, beq_iff_eq] at ht
      cases a with
      | zero => cases hs; omega
      | succ a =>
        rcases ht with rfl | rfl
        · exact mc_zaload hc (by omega) (mcSk_lt hs hn) hs hx (fun q => hnx _ _ _ _ _ _ (hq2 q) fr lo hf hlo hn)
        · exact mc_baload hc (by omega) (mcSk_lt hs hn) hs hx (fun q => hnx _ _ _ _ _ _ (hq2 q) fr lo hf hlo hn)
    · exact hq2.elim
theorem cs_laload (hL : L ≤ 4096) (hh : mcHan M) (ok : mcOkB M (pc, cut, .laload , len, ax) = true) (hnx : ∀ pc ls st σ n z, nx pc ls st σ n z → cE L d M pc ls st σ n z Φ) (h : cS L d M Φ nx (pc, cut, .laload , len, ax) ls st σ n z) : cE L d M pc ls st σ n z Φ := by
    intro fr lo hf hlo hn
    have okr : (len == 1 && true) = true := (Bool.and_eq_true_iff.mp ok).2
    have hlen : len = 1 := by simpa using (Bool.and_eq_true_iff.mp okr).1
    subst hlen
    have hc : mcCode M pc = some (.laload , 1) := of_decide_eq_true (Bool.and_eq_true_iff.mp ok).1
    have ok2 : true = true := (Bool.and_eq_true_iff.mp okr).2
    have h : mcPI st fun x st => mcPR st fun a st => cAL L σ a x fun v => nx (pc + 1) ls (ml v :: st) σ n z := h
    obtain ⟨x, r, rfl, hq1⟩ := mcPI_spec h
    obtain ⟨a, r, rfl, hq2⟩ := mcPR_spec hq1
    unfold cAL at hq2
    split at hq2
    · rename_i t len hs
      obtain ⟨rfl, hx, hq2⟩ := hq2
      cases a with
      | zero => cases hs
      | succ a => exact mc_laload hc (by omega) (mcSk_lt hs hn) hs hx (hnx _ _ _ _ _ _ hq2 fr lo hf hlo hn)
    · exact hq2.elim
theorem cs_aaload (hL : L ≤ 4096) (hh : mcHan M) (ok : mcOkB M (pc, cut, .aaload , len, ax) = true) (hnx : ∀ pc ls st σ n z, nx pc ls st σ n z → cE L d M pc ls st σ n z Φ) (h : cS L d M Φ nx (pc, cut, .aaload , len, ax) ls st σ n z) : cE L d M pc ls st σ n z Φ := by
    intro fr lo hf hlo hn
    have okr : (len == 1 && true) = true := (Bool.and_eq_true_iff.mp ok).2
    have hlen : len = 1 := by simpa using (Bool.and_eq_true_iff.mp okr).1
    subst hlen
    have hc : mcCode M pc = some (.aaload , 1) := of_decide_eq_true (Bool.and_eq_true_iff.mp ok).1
    have ok2 : true = true := (Bool.and_eq_true_iff.mp okr).2
    have h : mcPI st fun x st => mcPR st fun a st => cAa L a x fun u => nx (pc + 1) ls (mr u :: st) σ n z := h
    obtain ⟨x, r, rfl, hq1⟩ := mcPI_spec h
    obtain ⟨a, r, rfl, hq2⟩ := mcPR_spec hq1
    unfold cAa at hq2
    split at hq2
    · rename_i t len hs
      obtain ⟨h4, hx, hq2⟩ := hq2
      split at hq2
      · rename_i u hu
        cases a with
        | zero => cases hs; omega
        | succ a => exact mc_aaload hc (by omega) (mcSk_lt hs hn) h4 hs hx hu (hnx _ _ _ _ _ _ hq2 fr lo hf hlo hn)
      · exact hq2.elim
    · exact hq2.elim
theorem cs_arraylength (hL : L ≤ 4096) (hh : mcHan M) (ok : mcOkB M (pc, cut, .arraylength , len, ax) = true) (hnx : ∀ pc ls st σ n z, nx pc ls st σ n z → cE L d M pc ls st σ n z Φ) (h : cS L d M Φ nx (pc, cut, .arraylength , len, ax) ls st σ n z) : cE L d M pc ls st σ n z Φ := by
    intro fr lo hf hlo hn
    have okr : (len == 1 && true) = true := (Bool.and_eq_true_iff.mp ok).2
    have hlen : len = 1 := by simpa using (Bool.and_eq_true_iff.mp okr).1
    subst hlen
    have hc : mcCode M pc = some (.arraylength , 1) := of_decide_eq_true (Bool.and_eq_true_iff.mp ok).1
    have ok2 : true = true := (Bool.and_eq_true_iff.mp okr).2
    have h : mcPR st fun a st => cAn L a fun len => nx (pc + 1) ls (mi (len : Int) :: st) σ n z := h
    obtain ⟨a, r, rfl, hq1⟩ := mcPR_spec h
    unfold cAn at hq1
    split at hq1
    · rename_i t len hs
      cases a with
      | zero => cases hs; exact mc_alen0 hc (hnx _ _ _ _ _ _ hq1 fr lo hf hlo hn)
      | succ a => exact mc_alen hc (by omega) (mcSk_lt hs hn) hs (hnx _ _ _ _ _ _ hq1 fr lo hf hlo hn)
    · exact hq1.elim
theorem cs_iastore (hL : L ≤ 4096) (hh : mcHan M) (ok : mcOkB M (pc, cut, .iastore , len, ax) = true) (hnx : ∀ pc ls st σ n z, nx pc ls st σ n z → cE L d M pc ls st σ n z Φ) (h : cS L d M Φ nx (pc, cut, .iastore , len, ax) ls st σ n z) : cE L d M pc ls st σ n z Φ := by
    intro fr lo hf hlo hn
    have okr : (len == 1 && true) = true := (Bool.and_eq_true_iff.mp ok).2
    have hlen : len = 1 := by simpa using (Bool.and_eq_true_iff.mp okr).1
    subst hlen
    have hc : mcCode M pc = some (.iastore , 1) := of_decide_eq_true (Bool.and_eq_true_iff.mp ok).1
    have ok2 : true = true := (Bool.and_eq_true_iff.mp okr).2
    have h : mcPI st fun v st => mcPI st fun x st => mcPR st fun a st => cAs L a x (fun t => t = 0 ∧ in32 v) (nx (pc + 1) ls (st) (upc σ a (upi (σ a) x v)) n z) := h
    obtain ⟨v, r, rfl, hq1⟩ := mcPI_spec h
    obtain ⟨x, r, rfl, hq2⟩ := mcPI_spec hq1
    obtain ⟨a, r, rfl, hq3⟩ := mcPR_spec hq2
    unfold cAs at hq3
    obtain ⟨ha, hq3⟩ := hq3
    split at hq3
    · rename_i t len hs
      obtain ⟨hv, hx, hq3⟩ := hq3
      have h1 : 1 ≤ a := Nat.pos_of_ne_zero ha
      obtain ⟨rfl, hv⟩ := hv
      exact mc_iastore hc h1 (mcSk_lt hs hn) hs hx hv (hnx _ _ _ _ _ _ hq3 fr lo hf hlo hn)
    · exact hq3.elim
theorem cs_bastore (hL : L ≤ 4096) (hh : mcHan M) (ok : mcOkB M (pc, cut, .bastore , len, ax) = true) (hnx : ∀ pc ls st σ n z, nx pc ls st σ n z → cE L d M pc ls st σ n z Φ) (h : cS L d M Φ nx (pc, cut, .bastore , len, ax) ls st σ n z) : cE L d M pc ls st σ n z Φ := by
    intro fr lo hf hlo hn
    have okr : (len == 1 && true) = true := (Bool.and_eq_true_iff.mp ok).2
    have hlen : len = 1 := by simpa using (Bool.and_eq_true_iff.mp okr).1
    subst hlen
    have hc : mcCode M pc = some (.bastore , 1) := of_decide_eq_true (Bool.and_eq_true_iff.mp ok).1
    have ok2 : true = true := (Bool.and_eq_true_iff.mp okr).2
    have h : mcPI st fun v st => mcPI st fun x st => mcPR st fun a st => cAs L a x (fun t => cBs v t) (nx (pc + 1) ls (st) (upc σ a (upi (σ a) x v)) n z) := h
    obtain ⟨v, r, rfl, hq1⟩ := mcPI_spec h
    obtain ⟨x, r, rfl, hq2⟩ := mcPI_spec hq1
    obtain ⟨a, r, rfl, hq3⟩ := mcPR_spec hq2
    unfold cAs at hq3
    obtain ⟨ha, hq3⟩ := hq3
    split at hq3
    · rename_i t len hs
      obtain ⟨hv, hx, hq3⟩ := hq3
      have h1 : 1 ≤ a := Nat.pos_of_ne_zero ha
      unfold cBs at hv
      split at hv
      · exact mc_zastore hc h1 (mcSk_lt hs hn) hs hx hv (hnx _ _ _ _ _ _ hq3 fr lo hf hlo hn)
      · exact mc_bastore hc h1 (mcSk_lt hs hn) hs hx hv (hnx _ _ _ _ _ _ hq3 fr lo hf hlo hn)
      · exact hv.elim
    · exact hq3.elim
theorem cs_lastore (hL : L ≤ 4096) (hh : mcHan M) (ok : mcOkB M (pc, cut, .lastore , len, ax) = true) (hnx : ∀ pc ls st σ n z, nx pc ls st σ n z → cE L d M pc ls st σ n z Φ) (h : cS L d M Φ nx (pc, cut, .lastore , len, ax) ls st σ n z) : cE L d M pc ls st σ n z Φ := by
    intro fr lo hf hlo hn
    have okr : (len == 1 && true) = true := (Bool.and_eq_true_iff.mp ok).2
    have hlen : len = 1 := by simpa using (Bool.and_eq_true_iff.mp okr).1
    subst hlen
    have hc : mcCode M pc = some (.lastore , 1) := of_decide_eq_true (Bool.and_eq_true_iff.mp ok).1
    have ok2 : true = true := (Bool.and_eq_true_iff.mp okr).2
    have h : mcPL st fun v st => mcPI st fun x st => mcPR st fun a st => cAs L a x (fun t => t = 1) (nx (pc + 1) ls (st) (upc σ a (upi (σ a) x v.toInt)) n z) := h
    obtain ⟨v, r, rfl, hq1⟩ := mcPL_spec h
    obtain ⟨x, r, rfl, hq2⟩ := mcPI_spec hq1
    obtain ⟨a, r, rfl, hq3⟩ := mcPR_spec hq2
    unfold cAs at hq3
    obtain ⟨ha, hq3⟩ := hq3
    split at hq3
    · rename_i t len hs
      obtain ⟨hv, hx, hq3⟩ := hq3
      have h1 : 1 ≤ a := Nat.pos_of_ne_zero ha
      subst hv
      exact mc_lastore hc h1 (mcSk_lt hs hn) hs hx (hnx _ _ _ _ _ _ hq3 fr lo hf hlo hn)
    · exact hq3.elim
theorem cs_invokestatic {idx : Nat} (hL : L ≤ 4096) (hh : mcHan M) (ok : mcOkB M (pc, cut, .invokestatic idx, len, ax) = true) (hnx : ∀ pc ls st σ n z, nx pc ls st σ n z → cE L d M pc ls st σ n z Φ) (h : cS L d M Φ nx (pc, cut, .invokestatic idx, len, ax) ls st σ n z) : cE L d M pc ls st σ n z Φ := by
    intro fr lo hf hlo hn
    have okr : (len == 3 && mcStB M idx ax) = true := (Bool.and_eq_true_iff.mp ok).2
    have hlen : len = 3 := by simpa using (Bool.and_eq_true_iff.mp okr).1
    subst hlen
    have hc : mcCode M pc = some (.invokestatic idx, 3) := of_decide_eq_true (Bool.and_eq_true_iff.mp ok).1
    have ok2 : mcStB M idx ax = true := (Bool.and_eq_true_iff.mp okr).2
    have h : cSt ax.1 ax.2.2.2 (1 ≤ d ∧ cCp L st σ fun st σ => mcCats st ≤ 0 ∧ nx (pc + 3) ls (st) σ n z) (mcPI st fun y st => mcPI st fun x st => in32 x ∧ in32 y ∧ 1 ≤ d ∧ mcCats st ≤ 9 ∧ nx (pc + 3) ls (mi (mMax x y) :: st) σ n z) (mcPI st fun y st => mcPI st fun x st => in32 x ∧ in32 y ∧ 1 ≤ d ∧ mcCats st ≤ 9 ∧ nx (pc + 3) ls (mi (mMin x y) :: st) σ n z) (fun kd _ => mcPI st fun x st => in32 x ∧ 7 ≤ d ∧ mcCats st ≤ 9 ∧ (¬ x = 0 → nx (pc + 3) ls st σ n z) ∧ (x = 0 → n + 1 ≤ 601025 ∧ z + 6 ≤ 7293034 ∧ cThr M Φ nx pc ls kd n σ (n + 1) (z + 6))) (fun M' => mcArg ax.2.1 st fun vs st => cCall L d M Φ nx pc ls st σ n z M' (ax.2.2.1.getD 5 0) vs) := h
    rcases hax : ax.2.2.2 with _ | ⟨M', q⟩
    · rw [hax] at h
      unfold cSt at h
      dsimp only at h
      split at h
      · exact cs_max ‹_› hax hc ok2 hf hlo hn hnx h
      · exact cs_min ‹_› hax hc ok2 hf hlo hn hnx h
      · exact cs_copy ‹_› ‹_› hax hc ok2 hf hlo hn hnx h
    · rw [hax] at h
      unfold cSt at h
      dsimp only at h
      split at h
      · exact cs_demand (Or.inl ⟨‹_›, rfl⟩) hax hc ok2 hh hf hlo hn hnx h
      · exact cs_demand (Or.inr ⟨‹_›, rfl⟩) hax hc ok2 hh hf hlo hn hnx h
      · exact cs_static ‹_› ‹_› hax hc ok2 hh hf hlo hn hnx h
theorem cs_invokevirtual {idx : Nat} (hL : L ≤ 4096) (hh : mcHan M) (ok : mcOkB M (pc, cut, .invokevirtual idx, len, ax) = true) (hnx : ∀ pc ls st σ n z, nx pc ls st σ n z → cE L d M pc ls st σ n z Φ) (h : cS L d M Φ nx (pc, cut, .invokevirtual idx, len, ax) ls st σ n z) : cE L d M pc ls st σ n z Φ := by
    intro fr lo hf hlo hn
    have okr : (len == 3 && mcViB M idx ax) = true := (Bool.and_eq_true_iff.mp ok).2
    have hlen : len = 3 := by simpa using (Bool.and_eq_true_iff.mp okr).1
    subst hlen
    have hc : mcCode M pc = some (.invokevirtual idx, 3) := of_decide_eq_true (Bool.and_eq_true_iff.mp ok).1
    have ok2 : mcViB M idx ax = true := (Bool.and_eq_true_iff.mp okr).2
    have h : cVi ax.2.2.2 (fun M' => mcArg ax.2.1 st fun vs st => cRecv L ax.1 vs (cCall L d M Φ nx pc ls st σ n z M' (ax.2.2.1.getD 5 0) vs)) := h
    rcases hax : ax.2.2.2 with _ | ⟨M', q⟩
    · rw [hax] at h
      exact h.elim
    · rw [hax] at h
      exact cs_virtual hax hc ok2 hh hf hlo hn hnx h
theorem cs_ireturn (hL : L ≤ 4096) (hh : mcHan M) (ok : mcOkB M (pc, cut, .ireturn , len, ax) = true) (hnx : ∀ pc ls st σ n z, nx pc ls st σ n z → cE L d M pc ls st σ n z Φ) (h : cS L d M Φ nx (pc, cut, .ireturn , len, ax) ls st σ n z) : cE L d M pc ls st σ n z Φ := by
    intro fr lo hf hlo hn
    have okr : (len == 1 && (if ax.1 = 1 then decide (M.2.2.2.1 = some .boolean) else decide (M.2.2.2.1 = some .int))) = true := (Bool.and_eq_true_iff.mp ok).2
    have hlen : len = 1 := by simpa using (Bool.and_eq_true_iff.mp okr).1
    subst hlen
    have hc : mcCode M pc = some (.ireturn , 1) := of_decide_eq_true (Bool.and_eq_true_iff.mp ok).1
    have ok2 : (if ax.1 = 1 then decide (M.2.2.2.1 = some .boolean) else decide (M.2.2.2.1 = some .int)) = true := (Bool.and_eq_true_iff.mp okr).2
    have h : mcPI st fun x st => st = [] ∧ (if ax.1 = 1 then (x = 0 ∨ x = 1) ∧ Φ (.inl (some (mi x))) σ n z else Φ (.inl (some (mi x))) σ n z) := h
    obtain ⟨x, r, rfl, rfl, hq1⟩ := mcPI_spec h
    split at hq1
    · rename_i hx
      rw [if_pos hx] at ok2
      exact mc_zreturn hc (by simpa using ok2) hq1.1 ⟨rfl, hn, hq1.2⟩
    · rename_i hx
      rw [if_neg hx] at ok2
      exact mc_ireturn hc (by simpa using ok2) ⟨rfl, hn, hq1⟩
theorem cs_lreturn (hL : L ≤ 4096) (hh : mcHan M) (ok : mcOkB M (pc, cut, .lreturn , len, ax) = true) (hnx : ∀ pc ls st σ n z, nx pc ls st σ n z → cE L d M pc ls st σ n z Φ) (h : cS L d M Φ nx (pc, cut, .lreturn , len, ax) ls st σ n z) : cE L d M pc ls st σ n z Φ := by
    intro fr lo hf hlo hn
    have okr : (len == 1 && decide (M.2.2.2.1 = some .long)) = true := (Bool.and_eq_true_iff.mp ok).2
    have hlen : len = 1 := by simpa using (Bool.and_eq_true_iff.mp okr).1
    subst hlen
    have hc : mcCode M pc = some (.lreturn , 1) := of_decide_eq_true (Bool.and_eq_true_iff.mp ok).1
    have ok2 : decide (M.2.2.2.1 = some .long) = true := (Bool.and_eq_true_iff.mp okr).2
    have h : mcPL st fun x st => st = [] ∧ Φ (.inl (some (ml x))) σ n z := h
    obtain ⟨x, r, rfl, rfl, hq1⟩ := mcPL_spec h; exact mc_lreturn hc (by simpa using ok2) ⟨rfl, hn, hq1⟩
theorem cs_return_ (hL : L ≤ 4096) (hh : mcHan M) (ok : mcOkB M (pc, cut, .return_ , len, ax) = true) (hnx : ∀ pc ls st σ n z, nx pc ls st σ n z → cE L d M pc ls st σ n z Φ) (h : cS L d M Φ nx (pc, cut, .return_ , len, ax) ls st σ n z) : cE L d M pc ls st σ n z Φ := by
    intro fr lo hf hlo hn
    have okr : (len == 1 && decide (M.2.2.2.1 = none)) = true := (Bool.and_eq_true_iff.mp ok).2
    have hlen : len = 1 := by simpa using (Bool.and_eq_true_iff.mp okr).1
    subst hlen
    have hc : mcCode M pc = some (.return_ , 1) := of_decide_eq_true (Bool.and_eq_true_iff.mp ok).1
    have ok2 : decide (M.2.2.2.1 = none) = true := (Bool.and_eq_true_iff.mp okr).2
    have h : st = [] ∧ Φ (.inl none) σ n z := h
    obtain ⟨rfl, hq⟩ := h; exact mc_return_ hc (by simpa using ok2) ⟨rfl, hn, hq⟩
theorem cS_sound (hL : L ≤ 4096) (hh : mcHan M) {e : mcEn} (ok : mcOkB M e = true) (hnx : ∀ pc ls st σ n z, nx pc ls st σ n z → cE L d M pc ls st σ n z Φ) (h : cS L d M Φ nx e ls st σ n z) : cE L d M e.1 ls st σ n z Φ := by
  obtain ⟨pc, cut, ins, len, ax⟩ := e
  cases ins with
  | iconst i => exact cs_iconst hL hh ok hnx h
  | bipush i => exact cs_bipush hL hh ok hnx h
  | sipush i => exact cs_sipush hL hh ok hnx h
  | lconst i => exact cs_lconst hL hh ok hnx h
  | ldc i => exact cs_ldc hL hh ok hnx h
  | ldc2_w i => exact cs_ldc2_w hL hh ok hnx h
  | iadd  => exact cs_iadd hL hh ok hnx h
  | isub  => exact cs_isub hL hh ok hnx h
  | imul  => exact cs_imul hL hh ok hnx h
  | iand  => exact cs_iand hL hh ok hnx h
  | ladd  => exact cs_ladd hL hh ok hnx h
  | lsub  => exact cs_lsub hL hh ok hnx h
  | land  => exact cs_land hL hh ok hnx h
  | lor  => exact cs_lor hL hh ok hnx h
  | lxor  => exact cs_lxor hL hh ok hnx h
  | lcmp  => exact cs_lcmp hL hh ok hnx h
  | lshl  => exact cs_lshl hL hh ok hnx h
  | lushr  => exact cs_lushr hL hh ok hnx h
  | i2l  => exact cs_i2l hL hh ok hnx h
  | i2b  => exact cs_i2b hL hh ok hnx h
  | dup  => exact cs_dup hL hh ok hnx h
  | pop  => exact cs_pop hL hh ok hnx h
  | dup2  => exact cs_dup2 hL hh ok hnx h
  | iload_n j => exact cs_iload_n hL hh ok hnx h
  | iload i => exact cs_iload hL hh ok hnx h
  | lload_n j => exact cs_lload_n hL hh ok hnx h
  | lload i => exact cs_lload hL hh ok hnx h
  | aload_n j => exact cs_aload_n hL hh ok hnx h
  | aload i => exact cs_aload hL hh ok hnx h
  | istore_n j => exact cs_istore_n hL hh ok hnx h
  | istore i => exact cs_istore hL hh ok hnx h
  | astore_n j => exact cs_astore_n hL hh ok hnx h
  | astore i => exact cs_astore hL hh ok hnx h
  | lstore_n j => exact cs_lstore_n hL hh ok hnx h
  | lstore i => exact cs_lstore hL hh ok hnx h
  | iinc i q => exact cs_iinc hL hh ok hnx h
  | if_icmp cc off => exact cs_if_icmp hL hh ok hnx h
  | ifCond cc off => exact cs_ifCond hL hh ok hnx h
  | goto off => exact cs_goto hL hh ok hnx h
  | tableswitch dflt lw hi offs => exact cs_tableswitch hL hh ok hnx h
  | getfield idx => exact cs_getfield hL hh ok hnx h
  | putfield idx => exact cs_putfield hL hh ok hnx h
  | iaload  => exact cs_iaload hL hh ok hnx h
  | baload  => exact cs_baload hL hh ok hnx h
  | laload  => exact cs_laload hL hh ok hnx h
  | aaload  => exact cs_aaload hL hh ok hnx h
  | arraylength  => exact cs_arraylength hL hh ok hnx h
  | iastore  => exact cs_iastore hL hh ok hnx h
  | bastore  => exact cs_bastore hL hh ok hnx h
  | lastore  => exact cs_lastore hL hh ok hnx h
  | invokestatic idx => exact cs_invokestatic hL hh ok hnx h
  | invokevirtual idx => exact cs_invokevirtual hL hh ok hnx h
  | ireturn  => exact cs_ireturn hL hh ok hnx h
  | lreturn  => exact cs_lreturn hL hh ok hnx h
  | return_  => exact cs_return_ hL hh ok hnx h
  | _ => exact False.elim h
/-- k instructions, as far as the loops' heads -/
def cR (L d : Nat) (M : mcM) (K : List mcEn) (Φ : cPost) : Nat → cCont
  | 0 => fun pc ls st σ n z => cE L d M pc ls st σ n z Φ
  | k + 1 => fun pc ls st σ n z => if (mcGet K pc).2.1 = true then cE L d M pc ls st σ n z Φ else cS L d M Φ (cR L d M K Φ k) (mcGet K pc) ls st σ n z
theorem mcHanB_spec (h : mcHanB M = true) : mcHan M := by
  unfold mcHanB at h
  simp only [Bool.or_eq_true, Bool.and_eq_true, decide_eq_true_eq, List.all_eq_true] at h
  exact h
theorem mcGet_spec {K : List mcEn} (pc : Nat) : (mcGet K pc).1 = pc ∧ (mcGet K pc ∈ K ∨ mcGet K pc = (pc, false, .nop, 1, mcX0)) := by
  unfold mcGet
  rcases hf : K.find? (fun e => e.1 == pc) with _ | e
  · rw [hf]; exact ⟨rfl, Or.inr rfl⟩
  · rw [hf]; exact ⟨by simpa using List.find?_some hf, Or.inl (List.mem_of_find?_eq_some hf)⟩
theorem cR_go {K : List mcEn} (hL : L ≤ 4096) (hK : mcKok M K = true) (hnx : ∀ pc ls st σ n z, nx pc ls st σ n z → cE L d M pc ls st σ n z Φ) (h : cS L d M Φ nx (mcGet K pc) ls st σ n z) : cE L d M pc ls st σ n z Φ := by
  have hK' := Bool.and_eq_true_iff.mp hK
  obtain ⟨h1, h2⟩ := mcGet_spec (K := K) pc
  rcases h2 with h2 | h2
  · have := cS_sound hL (mcHanB_spec hK'.1) (List.all_eq_true.mp hK'.2 _ h2) hnx h
    rw [h1] at this
    exact this
  · rw [h2] at h
    exact False.elim h
theorem cR_sound {K : List mcEn} (hL : L ≤ 4096) (hK : mcKok M K = true) : ∀ (k : Nat) (pc : Nat) (ls : List (Option mV)) (st : List mV) (σ : mG) (n z : Nat), cR L d M K Φ k pc ls st σ n z → cE L d M pc ls st σ n z Φ
  | 0, _, _, _, _, _, _, h => h
  | k + 1, pc, ls, st, σ, n, z, h => by
    unfold cR at h
    split at h
    · exact h
    · exact cR_go hL hK (cR_sound hL hK k) h
/-- a walk from pc -/
theorem cR_start {K : List mcEn} (hL : L ≤ 4096) (hK : mcKok M K = true) (k : Nat) (h : cS L d M Φ (cR L d M K Φ k) (mcGet K pc) ls st σ n z) : cE L d M pc ls st σ n z Φ := cR_go hL hK (cR_sound hL hK k) h
end CS
