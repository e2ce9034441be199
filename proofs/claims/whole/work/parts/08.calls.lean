/-! 08.calls: calls -/
def mcCk (t : Nat) : Nat := if t = 13 then 0 else if t = 19 then 1 else 2
/-- the handler that takes a thing of sort kd thrown at pc -/
def mcHf : List (Nat × Nat × Nat × Nat) → Nat → Nat → Option Nat
  | [], _, _ => none
  | (s, e, h, t) :: r, pc, kd => if s ≤ pc ∧ pc < e ∧ mcCk t = kd then some h else mcHf r pc kd
def mcThr (M : mcM) (Φ : mcPost) (nx : mcCont) (pc : Nat) (ls : List (Option mV)) (kd a : Nat) (ρ : mP) (σ : mG) (n z : Nat) : Prop := match mcHf M.2.2.2.2 pc kd with
  | some h => nx h ls [mr a] ρ σ n z
  | none => M.2.2.2.2 = [] ∧ Φ (.inr (kd, a)) ρ σ n z
/-- what comes behind a call -/
def mcNx (M : mcM) (Φ : mcPost) (nx : mcCont) (pc : Nat) (ls : List (Option mV)) (st : List mV) : mcPost := fun o ρ σ n z => match o with
  | .inl v => nx (pc + 3) ls (v.toList ++ st) ρ σ n z
  | .inr (kd, a) => mcThr M Φ nx pc ls kd a ρ σ n z
/-- what the tables must say of a called method -/
def mcCd (M' : mcM) : Prop := plainName M'.1.cls = true ∧ Cond.initialized M'.1.cls ∈ lw_tbl ∧ (M'.1.cls ≠ "java/lang/invoke/MethodHandle" ∧ M'.1.cls ≠ "java/lang/invoke/VarHandle") ∧
  ((Cond.code M'.1 M'.2.1 M'.2.2.1 M'.2.2.2.1 ∈ lw_tbl ∧ M'.2.2.2.2 = []) ∨ Cond.codeWith M'.1 M'.2.1 M'.2.2.1 M'.2.2.2.1 M'.2.2.2.2 ∈ lw_tbl)
/-- a method with handlers is one of the law's own -/
def mcHan (M : mcM) : Prop := M.2.2.2.2 = [] ∨ (M.1.cls = "SlotServerLaw" ∧ ∀ q ∈ M.2.2.2.2, q.2.2.2 = 13 ∨ q.2.2.2 = 19)
theorem mc_mt {L : Nat} {xs : Nat → Int32} {M' : mcM} {p : Program} {l : Launch} {s0 : State} {H0 : Heap} {b sc : Nat} {dC : Nat → ClassId} {dI : Nat → Nat → Nat} {tyc : Nat → ClassId} (F : mcFix L xs p l s0 H0 b sc dC dI tyc) (hj : mcCd M') {s : State} (hW : s0.WarmedH s.vm) (hq : ∀ q : Nat, q < b + 1 → s.heap[q]? = H0[q]?) :
    ∃ m meth c, mcMt M' s m meth c ∧ parseMethodDescriptor M'.1.desc = some meth.sig ∧ ∃ k, s.vm.classes[m.cls]? = some k ∧ k.init = .initialized ∧ k.name = M'.1.cls := by
  obtain ⟨-, hini, -, hcd⟩ := hj
  have fin : ∀ m : MethodId, s.methodNamed? M'.1 = some m → ∃ k, s.vm.classes[m.cls]? = some k ∧ k.init = .initialized ∧ k.name = M'.1.cls := fun m hn => by
    obtain ⟨k, hk, hkn⟩ := className_of_methodNamed hn
    exact ⟨k, hk, Cond.initialized_spec (findClass_of_methodNamed hn) hk (F.2.2.1 _ hini #[] s hW hq), hkn⟩
  rcases hcd with ⟨hw, hh⟩ | hw
  · obtain ⟨m, hn⟩ := Cond.code_named (F.2.2.1 _ hw #[] s hW hq)
    obtain ⟨meth, c, g1, g2, g3, g4, g5, g6, g7, g8⟩ := Cond.code_spec hn (F.2.2.1 _ hw #[] s hW hq)
    refine ⟨m, meth, c, ⟨hn, g1, g2, g3, g4, g5, g6, ?_, findClass_of_methodNamed hn⟩, g8, fin m hn⟩
    rw [hh]
    have : c.exceptionTable = #[] := by simpa using g7
    rw [this]; rfl
  · obtain ⟨m, meth, c, hn, g1, g2, g3, g4, g7, g5, g6, g8⟩ := Cond.codeWith_spec (F.2.2.1 _ hw #[] s hW hq)
    exact ⟨m, meth, c, ⟨hn, g1, g2, g3, g4, g5, g6, g7, findClass_of_methodNamed hn⟩, g8, fin m hn⟩
theorem mcEnt_sl (b sc : Nat) (vs : List mV) : ∀ (j : Nat) (v : mV), (vs.flatMap mcSl1)[j]? = some (some v) → (lg_sl (vs.map (mcVal b sc)))[j]? = some (.val (mcVal b sc v)) := by
  induction vs with
  | nil => intro j v h; simp at h
  | cons u us ih =>
    intro j v h
    rcases u with x | x | x
    · cases j with
      | zero => simp [mcSl1] at h; subst h; simp [lg_sl, mcVal, Value.category]
      | succ j =>
        simp [mcSl1] at h
        have := ih j v (by simpa using h)
        simpa [lg_sl, mcVal, Value.category] using this
    · cases j with
      | zero => simp [mcSl1] at h; subst h; simp [lg_sl, mcVal, Value.category]
      | succ j =>
        cases j with
        | zero => simp [mcSl1] at h
        | succ j =>
          simp [mcSl1] at h
          have := ih j v (by simpa using h)
          simpa [lg_sl, mcVal, Value.category] using this
    · cases j with
      | zero => simp [mcSl1] at h; subst h; simp [lg_sl, mcVal, Value.category]
      | succ j =>
        simp [mcSl1] at h
        have := ih j v (by simpa using h)
        simpa [lg_sl, mcVal, Value.category] using this
theorem mcEnt_len (b sc : Nat) (vs : List mV) : (vs.flatMap mcSl1).length = (lg_sl (vs.map (mcVal b sc))).length := by
  induction vs with
  | nil => rfl
  | cons u us ih =>
    rcases u with x | x | x <;> simp [lg_sl, mcVal, Value.category, mcSl1] at ih ⊢ <;> omega
theorem mcEnt_L (b sc : Nat) {nL : Nat} {vs : List mV} (hv : (vs.map mcCat).sum ≤ nL) : mcL b sc ((lg_sl (vs.map (mcVal b sc)) ++ List.replicate (nL - (lg_sl (vs.map (mcVal b sc))).length) Slot.unset).toArray) nL (mcEnt nL vs) := by
  have hlen : (lg_sl (vs.map (mcVal b sc))).length = (vs.map mcCat).sum := by
    clear hv
    induction vs with
    | nil => rfl
    | cons u us ih =>
      rcases u with x | x | x <;> simp [lg_sl, mcVal, Value.category, mcCat] at ih ⊢ <;> omega
  obtain ⟨g1, g2, g3⟩ := lv_entry (vs.map (mcVal b sc)) (n := nL) (by omega)
  refine ⟨g1, ?_, g2, fun i v h => ?_⟩
  · unfold mcEnt
    rw [List.length_append, List.length_replicate, mcEnt_len b sc]
    omega
  · unfold mcEnt at h
    have hi : i < (vs.flatMap mcSl1).length := Nat.lt_of_not_le fun q => by
      rw [List.getElem?_append_right q, List.getElem?_replicate] at h
      split at h <;> simp at h
    rw [List.getElem?_append_left hi] at h
    rw [List.getElem?_toArray, List.getElem?_append_left (by rw [← mcEnt_len]; exact hi)]
    exact mcEnt_sl b sc vs i v h
/-! a thing that is caught -/
def mcTup (h : ExceptionTableEntry) : Nat × Nat × Nat × Nat := (h.startPc, h.endPc, h.handlerPc, h.catchType)
theorem mc_goHandler {e : Env} {s : State} {f : JFrame} {a : Addr} {cell : Cell} {kd : Nat} (hobj : ∀ k, cell.vm ≠ .statics k) (hk0 : ∃ k, s.vm.classes[cell.cls]? = some k)
    (hcl : ∀ t, t = 13 ∨ t = 19 → ∃ c, s.vm.ClassLinks e.platform f.method.cls t c ∧ s.vm.assignable cell.cls c = decide (mcCk t = kd)) :
    ∀ (es : List ExceptionTableEntry), (∀ y ∈ es, y.catchType = 13 ∨ y.catchType = 19) → ∀ (h : Nat), mcHf (es.map mcTup) f.pc kd = some h → ∀ S : State, s.WarmedH S.vm → S.heap[a]? = some cell →
      ∃ vm', s.WarmedH vm' ∧ ∀ (Q : Handler → Pre) (E : CtlPost) (d : Bool) (acts : List Action), wp (findHandler.go f a es) Q E e d acts S ↔ Q (.found h) d acts (S.setVm vm') := by
  obtain ⟨k0, hk0⟩ := hk0
  intro es
  induction es with
  | nil => intro _ h hh; cases hh
  | cons y ys ih =>
    intro hes h hh S hW hcell
    have hrest : ∀ z ∈ ys, z.catchType = 13 ∨ z.catchType = 19 := fun z hz => hes z (List.mem_cons_of_mem _ hz)
    have hy := hes y List.mem_cons_self
    have hh : (if y.startPc ≤ f.pc ∧ f.pc < y.endPc ∧ mcCk y.catchType = kd then some y.handlerPc else mcHf (ys.map mcTup) f.pc kd) = some h := hh
    by_cases hcov : covers y f.pc = true
    · have hpc : y.startPc ≤ f.pc ∧ f.pc < y.endPc := by simpa [covers] using hcov
      have hx := hcov
      simp only [covers] at hx
      have h0 : y.catchType ≠ 0 := by omega
      obtain ⟨c, hl, hfit⟩ := hcl _ hy
      obtain ⟨dk, _, _, kt, hd, _, _, _, _, hkt, _, hopen⟩ := hl.here
      obtain ⟨ha, ht⟩ := (resolveClass_links e.toSetting (hW.classLinks hl)).op (op := VmOp.resolveClass f.method.cls y.catchType) rfl
      have hW' : s.WarmedH (S.vm.noted f.method.cls y.catchType (.cls c)) := hW.noted hd hopen (State.rightAt_cls hl)
      have hal := hW'.alike
      obtain ⟨k1', hk1', -⟩ := hal.2.2 _ _ hk0
      obtain ⟨k2', hk2', -⟩ := hal.2.2 _ _ hkt
      by_cases hk : mcCk y.catchType = kd
      · rw [if_pos ⟨hpc.1, hpc.2, hk⟩] at hh
        cases hh
        have hf : (S.vm.noted f.method.cls y.catchType (.cls c)).assignable cell.cls c = true := by rw [hal.assignable, hfit]; exact decide_eq_true hk
        exact ⟨_, hW', fun Q E d acts => by simp [findHandler.go, hx, h0, ha, ht, hcell, hobj, hk1', hk2', hf, VmOp.dirties, VmOp.acts]⟩
      · rw [if_neg (fun q => hk q.2.2)] at hh
        have hf : (S.vm.noted f.method.cls y.catchType (.cls c)).assignable cell.cls c = false := by rw [hal.assignable, hfit]; exact decide_eq_false hk
        obtain ⟨vm', hW2, hq⟩ := ih hrest h hh (S.setVm (S.vm.noted f.method.cls y.catchType (.cls c))) hW' hcell
        exact ⟨vm', hW2, fun Q E d acts => by
          have step : wp (findHandler.go f a (y :: ys)) Q E e d acts S ↔ wp (findHandler.go f a ys) Q E e d acts (S.setVm (S.vm.noted f.method.cls y.catchType (.cls c))) := by
            simp [findHandler.go, hx, h0, ha, ht, hcell, hobj, hk1', hk2', hf, VmOp.dirties, VmOp.acts]
          rw [step]
          exact hq Q E d acts⟩
    · have hpc : ¬ (y.startPc ≤ f.pc ∧ f.pc < y.endPc) := by simpa [covers] using hcov
      rw [if_neg (fun q => hpc ⟨q.1, q.2.1⟩)] at hh
      obtain ⟨vm', hW2, hq⟩ := ih hrest h hh S hW hcell
      exact ⟨vm', hW2, fun Q E d acts => by
        rw [W.findHandler_go_skip (by simpa using hcov)]
        exact hq Q E d acts⟩
theorem mc_caught {tb : Tables} {e : Env} {s target : State} {g : JFrame} {c : Code} {below : List Frame} {a : Addr} (h : At s g.method c below) {pc : Nat} {vm' : Vm}
    (hfind : ∀ (Q : Handler → Pre) (E : CtlPost) (d : Bool) (acts : List Action), wp (findHandler g a) Q E e d acts ((s.setTop g).pushFrame (.throwing a)) ↔ Q (.found pc) d acts (((s.setTop g).pushFrame (.throwing a)).setVm vm')) (hrest : Steps tb e below ((s.setVm vm').setTop { g with pc := pc, stack := [.ref a] }) target) :
    Steps tb e below ((s.setTop g).pushFrame (.throwing a)) target := by
  obtain ⟨hgo, hw⟩ := h.throwing a
  refine Steps.head hgo hw ?_
  have hcatch : ∀ r, (stepThrowing e ((s.setTop g).pushFrame (.throwing a)) a (.java g :: r)).1 = (((s.setTop g).pushFrame (.throwing a)).setVm vm').setFrames (.java { g with pc := pc, stack := [.ref a] } :: r) := fun r => by
    simp only [stepThrowing, searchFrame, vmDo]
    generalize hr : Sem.go _ e false [] ((s.setTop g).pushFrame (.throwing a)) = res
    obtain ⟨as, rfl, ha⟩ := Sem.eq_ok_of hr (a := Handler.found pc) (s' := ((s.setTop g).pushFrame (.throwing a)).setVm vm') (acts' := []) (by simp [hfind _ _ _ _])
    rfl
  rw [stepThread_throwing (frames_entered h.top _), hcatch]
  obtain ⟨g₀, hg⟩ := Option.isSome_iff_exists.mp h.top
  obtain ⟨r, hr⟩ := State.topJava?_eq_some.mp hg
  have hr' : (s.setVm vm').frames = .java g₀ :: r := hr
  rw [State.setTop_of_frames _ hr'] at hrest
  have e1 : ∀ (u : State) (F G : List Frame), ((u.setFrames F).setVm vm').setFrames G = (u.setVm vm').setFrames G := fun u F G => by
    show ((u.setVm vm').setFrames F).setFrames G = _
    rw [State.setFrames_setFrames]
  rw [hr, List.tail_cons, State.pushFrame, e1, State.setTop_of_frames _ hr, e1]
  exact hrest
theorem mcCl13 : Cond.classLink "SlotServerLaw" 13 "java/lang/IllegalArgumentException" ∈ lw_tbl := by decide +kernel
theorem mcCl19 : Cond.classLink "SlotServerLaw" 19 "java/lang/IllegalStateException" ∈ lw_tbl := by decide +kernel
theorem mcCa0 : Cond.castable "java/lang/IllegalArgumentException" "java/lang/IllegalArgumentException" ∈ lw_tbl := by decide +kernel
theorem mcCa1 : Cond.castable "java/lang/IllegalStateException" "java/lang/IllegalStateException" ∈ lw_tbl := by decide +kernel
section MCc
variable {L fr lo : Nat} {M : mcM} {pc : Nat} {ls : List (Option mV)} {st : List mV} {ρ : mP} {σ : mG} {n z : Nat} {Φ : mcPost}
theorem mc_catsum (b sc : Nat) (st : List mV) : ((st.map (mcVal b sc)).map fun v => v.category).sum = mcCats st := by
  unfold mcCats
  rw [List.map_map]; congr 1; apply List.map_congr_left; intro v _; exact mcVal_cat b sc v
/-- a thing was thrown at pc -/
theorem mc_thrown {xs : Nat → Int32} {p : Program} {l : Launch} {e : Env} {s0 : State} {H0 : Heap} {b sc : Nat} {dC : Nat → ClassId} {dI : Nat → Nat → Nat} {tyc : Nat → ClassId} (F : mcFix L xs p l s0 H0 b sc dC dI tyc)
    {s : State} {m : MethodId} {args : Array Value} {below : List Frame} {meth : Method} {c : Code} (hW : s0.WarmedH s.vm) (A : mcMt M s m meth c) (hh : mcHan M) {ig : Instr} {len : Nat} (hdg : decode c.code pc = .ok (ig, len))
    {n0 z0 : Nat} {locs : List Loc} {LS : Array Slot} (h1 : n0 ≤ n) (h2 : z0 ≤ z) (h3 : ∀ q ∈ locs, b + 1 ≤ q.base) (hl : mcL b sc LS M.2.2.1 ls) (hS : mcHs b H0 s)
    {T : State} (X : Stand p l e (mcRm fr lo n0 z0) s m args below meth c T locs (n - n0) (z - z0)) (hR : mcR L xs b sc dC dI tyc ρ σ n z H0 T.heap) {kd a : Nat} (hx : ∃ cell : Cell, T.heap[b + a]? = some cell ∧ cell.vm = .none ∧ s0.vm.findClass (mcXn kd) = some cell.cls ∧ 1 ≤ a) (hk2 : kd = 0 ∨ kd = 1) {stv : List Value}
    (k : mcThr M Φ (fun pc ls st ρ σ n z => mcE L fr lo M pc ls st ρ σ n z Φ) pc ls kd a ρ σ n z) :
    ∃ t, Steps p.tables e below ((T.setTop (F0 m pc LS stv)).pushFrame (.throwing (b + a))) t ∧ mcQ L xs s0 H0 b sc dC dI tyc s below n0 z0 Φ t := by
  rcases hh with hh | hh
  · have hout : ∀ x ∈ c.exceptionTable.toList, covers x pc = false := by
      have := A.2.2.2.2.2.2.2.1; rw [hh] at this
      intro x hx
      have : c.exceptionTable.toList = [] := List.map_eq_nil_iff.mp this
      rw [this] at hx; cases hx
    obtain ⟨g1, g2, g3, g4, g5⟩ := X.leaveThrown (b + a) (g := F0 m pc LS stv) rfl rfl rfl hout A.2.2.2.2.2.2.1
    unfold mcThr at k
    rw [hh] at k
    obtain ⟨-, k⟩ := k
    exact ⟨_, g1, .inr (kd, a), ρ, σ, n, z, locs, g2, g3, g4, g5, h3, h1, h2, hR, ⟨hx, hk2⟩, k⟩
  · rcases hq : mcHf M.2.2.2.2 pc kd with _ | hd
    · unfold mcThr at k
      rw [hq] at k
      obtain ⟨hh0, k⟩ := k
      have hout : ∀ x ∈ c.exceptionTable.toList, covers x pc = false := by
        have := A.2.2.2.2.2.2.2.1; rw [hh0] at this
        intro x hx
        have : c.exceptionTable.toList = [] := List.map_eq_nil_iff.mp this
        rw [this] at hx; cases hx
      obtain ⟨g1, g2, g3, g4, g5⟩ := X.leaveThrown (b + a) (g := F0 m pc LS stv) rfl rfl rfl hout A.2.2.2.2.2.2.1
      exact ⟨_, g1, .inr (kd, a), ρ, σ, n, z, locs, g2, g3, g4, g5, h3, h1, h2, hR, ⟨hx, hk2⟩, k⟩
    · unfold mcThr at k
      rw [hq] at k
      have k : mcE L fr lo M hd ls [mr a] ρ σ n z Φ := k
      obtain ⟨cell, hcell, hvm, hfc, ha1⟩ := hx
      have hts := mcWords F hW hS args
      have hpl : e.platform.magicAccessors = ({} : Platform).magicAccessors := by rw [X.admits.platform]
      have hown : s.vm.findClass "SlotServerLaw" = some m.cls := by rw [← hh.1]; exact A.2.2.2.2.2.2.2.2
      obtain ⟨cA, hcA, hlA⟩ := Cond.classLink_spec hown (hts _ mcCl13) e.platform hpl
      obtain ⟨cB, hcB, hlB⟩ := Cond.classLink_spec hown (hts _ mcCl19) e.platform hpl
      obtain ⟨a0, hn⟩ := F.2.2.2.2.2.2.2.1
      have hflat := flat_of_before _ hn
      have hfc : s.vm.findClass (mcXn kd) = some cell.cls := by rw [hW.alike.findClass]; exact hfc
      have hAA : s.vm.assignable cA cA = true := by
        obtain ⟨c3, c4, q3, q4, q5⟩ := Cond.castable_spec (hts _ mcCa0)
        cases q3.symm.trans hcA; cases q4.symm.trans hcA; exact q5
      have hBB : s.vm.assignable cB cB = true := by
        obtain ⟨c3, c4, q3, q4, q5⟩ := Cond.castable_spec (hts _ mcCa1)
        cases q3.symm.trans hcB; cases q4.symm.trans hcB; exact q5
      have hBA : s.vm.assignable cB cA = false := by
        obtain ⟨c3, c4, q3, q4, q5⟩ := va_Nc.moved hW.alike (va_Nc.of (C := "java/lang/IllegalStateException") (T := "java/lang/IllegalArgumentException") (hflat _ (by decide +kernel)))
        cases q3.symm.trans hcB; cases q4.symm.trans hcA; exact q5
      have hAB : s.vm.assignable cA cB = false := by
        obtain ⟨c3, c4, q3, q4, q5⟩ := va_Nc.moved hW.alike (va_Nc.of (C := "java/lang/IllegalArgumentException") (T := "java/lang/IllegalStateException") (hflat _ (by decide +kernel)))
        cases q3.symm.trans hcA; cases q4.symm.trans hcB; exact q5
      have hkdd : kd = 0 ∨ kd = 1 := hk2
      have hcl : ∀ t, t = 13 ∨ t = 19 → ∃ c, s.vm.ClassLinks e.platform (F0 m pc LS stv).method.cls t c ∧ s.vm.assignable cell.cls c = decide (mcCk t = kd) := by
        intro t ht
        rcases hkdd with rfl | rfl
        · cases hfc.symm.trans hcA
          rcases ht with rfl | rfl
          · exact ⟨_, hlA, hAA⟩
          · exact ⟨_, hlB, hAB⟩
        · cases hfc.symm.trans hcB
          rcases ht with rfl | rfl
          · exact ⟨_, hlA, hBA⟩
          · exact ⟨_, hlB, hBB⟩
      have hk0 : ∃ k, s.vm.classes[cell.cls]? = some k := by
        rcases hkdd with rfl | rfl
        · cases hfc.symm.trans hcA
          obtain ⟨dk, _, _, kt, _, _, _, _, _, hkt, _⟩ := hlA.here
          exact ⟨kt, hkt⟩
        · cases hfc.symm.trans hcB
          obtain ⟨dk, _, _, kt, _, _, _, _, _, hkt, _⟩ := hlB.here
          exact ⟨kt, hkt⟩
      have htab : c.exceptionTable.toList.map mcTup = M.2.2.2.2 := A.2.2.2.2.2.2.2.1
      have hes : ∀ y ∈ c.exceptionTable.toList, y.catchType = 13 ∨ y.catchType = 19 := fun y hy => hh.2 (mcTup y) (by rw [← htab]; exact List.mem_map_of_mem hy)
      obtain ⟨vm', hW', hf⟩ := mc_goHandler (f := F0 m pc LS stv) (a := b + a) (kd := kd) (fun q h => by rw [hvm] at h; cases h) hk0 hcl c.exceptionTable.toList hes hd (by rw [htab]; exact hq) ((T.setTop (F0 m pc LS stv)).pushFrame (.throwing (b + a))) X.warmed hcell
      have hfind : ∀ (Q : Handler → Pre) (E : CtlPost) (d : Bool) (acts : List Action), wp (findHandler (F0 m pc LS stv) (b + a)) Q E e d acts ((T.setTop (F0 m pc LS stv)).pushFrame (.throwing (b + a))) ↔ Q (.found hd) d acts (((T.setTop (F0 m pc LS stv)).pushFrame (.throwing (b + a))).setVm vm') := fun Q E d acts => by
        rw [W.findHandler_eq (show ((T.setTop (F0 m pc LS stv)).pushFrame (.throwing (b + a))).vm.method? (F0 m pc LS stv).method = some meth from X.method') X.code]
        exact hf Q E d acts
      obtain ⟨t, s1, s2⟩ := k xs p l e s0 H0 b sc dC dI tyc F s m args below meth c hW A n0 z0 T.heap locs LS h1 h2 h3 hR hl hS (T.setVm vm') rfl (X.noted hW')
      refine ⟨t, mc_caught X.here hfind ?_, s2⟩
      rw [List.map_cons] at s1
      simp only [mcVal, mcAd_pos ha1, List.map_nil] at s1
      exact s1
/-- THE CALL, once the instruction has found its method. Static, virtual and special calls come to this. -/
theorem mc_into {M' : mcM} {fr' lo' : Nat} {vs : List mV} {ig : Instr} (hj : mcCd M') (hh : mcHan M) (hc : mcCode M pc = some (ig, 3)) (hfr : fr' + 1 ≤ fr) (hlo : mcCats st + (M'.2.2.1 + 11) + lo' ≤ lo)
    (hent : (vs.map mcCat).sum ≤ M'.2.2.1)
    (k : mcE0 L fr' lo' M' (mcEnt M'.2.2.1 vs) ρ σ n z (mcNx M Φ (fun pc ls st ρ σ n z => mcE L fr lo M pc ls st ρ σ n z Φ) pc ls st))
    {xs : Nat → Int32} {p : Program} {l : Launch} {e : Env} {s0 : State} {H0 : Heap} {b sc : Nat} {dC : Nat → ClassId} {dI : Nat → Nat → Nat} {tyc : Nat → ClassId} (F : mcFix L xs p l s0 H0 b sc dC dI tyc)
    {s : State} {m : MethodId} {args : Array Value} {below : List Frame} {meth : Method} {c : Code} (hW : s0.WarmedH s.vm) (A : mcMt M s m meth c)
    {n0 z0 : Nat} {H : Heap} {locs : List Loc} {LS : Array Slot} (h1 : n0 ≤ n) (h2 : z0 ≤ z) (h3 : ∀ q ∈ locs, b + 1 ≤ q.base) (hR : mcR L xs b sc dC dI tyc ρ σ n z H0 H) (hl : mcL b sc LS M.2.2.1 ls) (hS : mcHs b H0 s)
    {T₁ : State} (hT₁ : T₁.heap = H) (X₁ : Stand p l e (mcRm fr lo n0 z0) s m args below meth c T₁ locs (n - n0) (z - z0)) {mk : MethodId} (hmk : s.methodNamed? M'.1 = some mk) :
    ∃ t, (∀ acts, Steps p.tables e below (doInvoke e (T₁.setTop (F0 m pc LS (st.map (mcVal b sc)))) acts mk (vs.map (mcVal b sc)).toArray).1 t) ∧ mcQ L xs s0 H0 b sc dC dI tyc s below n0 z0 Φ t := by
  have hW₁ : s0.WarmedH T₁.vm := State.WarmedH.trans hW X₁.warmed
  obtain ⟨mk', methk, ck, ⟨a1, a2, a3, a4, a5, a6, a7, a8, a9⟩, -, kk, hkk, -, hkn⟩ := mc_mt F hj hW₁ (fun q hq => by rw [hT₁]; exact hR.2.2.1 q hq)
  cases (X₁.named hmk).symm.trans a1
  have hpk : T₁.plainMethod mk := State.plainMethod.of_name fun k' hk' => by cases hk'.symm.trans hkk; rw [hkn]; exact hj.1
  have hdg : decode c.code pc = .ok (ig, 3) := by rw [A.2.2.2.1]; exact mc_dec hc
  obtain ⟨⟨bn1, bn2, bn3⟩, -⟩ := id hR
  obtain ⟨Y₀, hin⟩ := X₁.into (g := F0 m pc LS (st.map (mcVal b sc))) rfl (by rw [A.2.2.2.2.1]; exact hl.1) hdg (vs.map (mcVal b sc)).toArray (R' := mcRm fr' lo' n z) a2 a3 a7 hpk hfr
    (by show 2 * 0 + ((st.map (mcVal b sc)).map fun v => v.category).sum + _ + _ ≤ lo; rw [mc_catsum, a5]; show _ + lo' ≤ lo; omega) (by show n - n0 + (601025 - n) ≤ 601025 - n0; omega) (by show z - z0 + (7293034 - z) ≤ 7293034 - z0; omega)
  have hWs : s0.WarmedH (T₁.calling (F0 m pc LS (st.map (mcVal b sc))) mk (vs.map (mcVal b sc)).toArray).vm := hW₁
  have hent' : entryFrame mk (vs.map (mcVal b sc)).toArray ck.maxLocals = F0 mk 0 ((lg_sl (vs.map (mcVal b sc)) ++ List.replicate (ck.maxLocals - (lg_sl (vs.map (mcVal b sc))).length) Slot.unset).toArray) [] := lg_entry_eq mk (vs.map (mcVal b sc)) ck.maxLocals
  have hlE := mcEnt_L b sc hent
  have hS' : mcHs b H0 (T₁.calling (F0 m pc LS (st.map (mcVal b sc))) mk (vs.map (mcVal b sc)).toArray) := by
    refine ⟨fun q hq => ?_, fun q cell hq h => ?_⟩
    · show T₁.heap[q]? = _
      rw [hT₁]; exact hR.2.2.1 q hq
    · have h : T₁.heap[q]? = some cell := h
      rw [hT₁] at h
      have hlt : q < b + n := by rw [← hR.2.1]; exact (Array.getElem?_eq_some_iff.mp h).1
      exact hR.2.2.2.2.2.2.1 (q - b) cell (by omega) (by omega) (by rw [show b + (q - b) = q by omega]; exact h)
  have hR' : mcR L xs b sc dC dI tyc ρ σ n z H0 (T₁.calling (F0 m pc LS (st.map (mcVal b sc))) mk (vs.map (mcVal b sc)).toArray).heap := by
    show mcR L xs b sc dC dI tyc ρ σ n z H0 T₁.heap
    rw [hT₁]; exact hR
  obtain ⟨t, hst, o, ρ', σ', n', z', Lc, q1, q2, q3, q4, q5, q6, q7, q8, q9, q10⟩ := k xs p l e s0 H0 b sc dC dI tyc F (T₁.calling (F0 m pc LS (st.map (mcVal b sc))) mk (vs.map (mcVal b sc)).toArray) mk (vs.map (mcVal b sc)).toArray (.java (F0 m pc LS (st.map (mcVal b sc))) :: below) methk ck hWs
    ⟨a1, a2, a3, a4, a5, a6, a7, a8, a9⟩ _ hR' hlE hS' ((T₁.setTop (F0 m pc LS (st.map (mcVal b sc)))).pushFrame (.java (entryFrame mk (vs.map (mcVal b sc)).toArray ck.maxLocals))) rfl Y₀
  have hin' : ∀ acts, (doInvoke e (T₁.setTop (F0 m pc LS (st.map (mcVal b sc)))) acts mk (vs.map (mcVal b sc)).toArray).1 = ((T₁.setTop (F0 m pc LS (st.map (mcVal b sc)))).pushFrame (.java (entryFrame mk (vs.map (mcVal b sc)).toArray ck.maxLocals))).setTop (F0 mk 0 ((lg_sl (vs.map (mcVal b sc)) ++ List.replicate (M'.2.2.1 - (lg_sl (vs.map (mcVal b sc))).length) Slot.unset).toArray) []) := fun acts => by
    rw [hin acts, hent', a5]
  have hc1 : n - n0 + (n' - n) = n' - n0 := by omega
  have hc2 : z - z0 + (z' - z) = z' - z0 := by omega
  cases o with
  | inl v =>
    obtain ⟨T', X', hW', -, ht⟩ := X₁.outOf (g := F0 m pc LS (st.map (mcVal b sc))) rfl hdg q2 q3 q4
    rw [hc1, hc2] at X'
    have hk2 : mcE L fr lo M (pc + 3) ls (v.toList ++ st) ρ' σ' n' z' Φ := q10
    have hheap : t.heap = T'.heap := by rw [ht]; rfl
    obtain ⟨t2, s2, hQ⟩ := hk2 xs p l e s0 H0 b sc dC dI tyc F s m args below meth c hW A n0 z0 T'.heap (locs ++ Lc) LS (by omega) (by omega) (fun q hq => (List.mem_append.mp hq).elim (h3 q) (q5 q)) (by rw [← hheap]; exact q8) hl hS T' rfl X'
    refine ⟨t2, fun acts => ?_, hQ⟩
    rw [hin' acts]
    refine (Steps.weaken (mid := [.java (F0 m pc LS (st.map (mcVal b sc)))]) hst).trans ?_
    rw [ht]
    have e2 : (v.toList ++ st).map (mcVal b sc) = (v.map (mcVal b sc)).toList ++ st.map (mcVal b sc) := by cases v <;> simp
    rw [e2] at s2
    exact s2
  | inr ka =>
    obtain ⟨kd, a⟩ := ka
    obtain ⟨T', X', hW', -, ht⟩ := X₁.outOfThrown (g := F0 m pc LS (st.map (mcVal b sc))) rfl q2 q3 q4
    rw [hc1, hc2] at X'
    have hheap : t.heap = T'.heap := by rw [ht]; rfl
    obtain ⟨t2, s2, hQ⟩ := mc_thrown (ρ := ρ') (σ := σ') (n := n') (z := z') F hW A hh hdg (by omega) (by omega) (fun q hq => (List.mem_append.mp hq).elim (h3 q) (q5 q)) hl hS X' (by rw [← hheap]; exact q8) (by rw [← hheap]; exact q9.1) q9.2 (stv := st.map (mcVal b sc)) q10
    refine ⟨t2, fun acts => ?_, hQ⟩
    rw [hin' acts]
    refine (Steps.weaken (mid := [.java (F0 m pc LS (st.map (mcVal b sc)))]) hst).trans ?_
    rw [ht]
    exact s2
/-- how many values a call takes: by the descriptor -/
def mcArity (M' : mcM) (k : Nat) : Prop := ∀ sig, parseMethodDescriptor M'.1.desc = some sig → k = sig.parameters.length
theorem mc_static {M' : mcM} {fr' lo' idx : Nat} {vs : List mV} (hc : mcCode M pc = some (.invokestatic idx, 3)) (hw : Cond.methodLink M.1.cls idx M'.1 ∈ lw_tbl ∨ ∃ host, Cond.methodLinkNest M.1.cls idx M'.1 host ∈ lw_tbl) (hs : Cond.static M'.1 ∈ lw_tbl) (hj : mcCd M') (hh : mcHan M) (ha : mcArity M' vs.length)
    (hfr : fr' + 1 ≤ fr) (hlo : mcCats st + (M'.2.2.1 + 11) + lo' ≤ lo) (hent : (vs.map mcCat).sum ≤ M'.2.2.1)
    (k : mcE0 L fr' lo' M' (mcEnt M'.2.2.1 vs) ρ σ n z (mcNx M Φ (fun pc ls st ρ σ n z => mcE L fr lo M pc ls st ρ σ n z Φ) pc ls st)) : mcE L fr lo M pc ls (vs.reverse ++ st) ρ σ n z Φ := by
  intro xs p l e s0 H0 b sc dC dI tyc F s m args below meth c hW A n0 z0 H locs LS h1 h2 h3 hR hl hS T hT X
  have hts := mcWords F hW hS args
  obtain ⟨mk, methk, ck, B, hsig, kx, hkx, hini, hkn⟩ := mc_mt F hj hW hS.1
  have hst : methk.isStatic = true := by
    exact Cond.static_spec B.1 B.2.1 (hts _ hs)
  have hlen : (vs.map (mcVal b sc)).length = methk.sig.parameters.length := by rw [List.length_map]; exact ha _ hsig
  have hstack : (F0 m pc LS ((vs.reverse ++ st).map (mcVal b sc))).stack = (vs.map (mcVal b sc)).reverse ++ st.map (mcVal b sc) := by
    show (vs.reverse ++ st).map (mcVal b sc) = _
    rw [List.map_append, List.map_reverse]
  have hdg : decode c.code (F0 m pc LS ((vs.reverse ++ st).map (mcVal b sc))).pc = .ok (.invokestatic idx, 3) := by rw [A.2.2.2.1]; exact mc_dec hc
  have fin : ∀ vm', Stand p l e (mcRm fr lo n0 z0) s m args below meth c (T.setVm vm') locs (n - n0) (z - z0) → (∀ target, (∀ acts, Steps p.tables e below (doInvoke e ((T.setVm vm').setTop { F0 m pc LS ((vs.reverse ++ st).map (mcVal b sc)) with stack := st.map (mcVal b sc) }) acts mk (vs.map (mcVal b sc)).toArray).1 target) → Steps p.tables e below (T.setTop (F0 m pc LS ((vs.reverse ++ st).map (mcVal b sc)))) target) →
      ∃ t, Steps p.tables e below (T.setTop (F0 m pc LS ((vs.reverse ++ st).map (mcVal b sc)))) t ∧ mcQ L xs s0 H0 b sc dC dI tyc s below n0 z0 Φ t := fun vm' X' hs' => by
    obtain ⟨t, g1, g2⟩ := mc_into hj hh hc hfr hlo hent k F hW A h1 h2 h3 hR hl hS (T₁ := T.setVm vm') hT X' B.1
    exact ⟨t, hs' t g1, g2⟩
  rcases hw with hw | ⟨host, hw⟩
  · obtain ⟨vm', X', hs'⟩ := X.invokestatic F.1 A.2.2.2.2.2.2.2.2 (hts _ hw) B.1 B.2.1 hst hkx hini hj.2.2.1 (g := F0 m pc LS ((vs.reverse ++ st).map (mcVal b sc))) rfl hlen hstack hdg
    exact fin vm' X' hs'
  · obtain ⟨vm', X', hs'⟩ := X.invokestaticNest F.1 A.2.2.2.2.2.2.2.2 (hts _ hw) B.1 B.2.1 hst hkx hini hj.2.2.1 (g := F0 m pc LS ((vs.reverse ++ st).map (mcVal b sc))) rfl hlen hstack hdg
    exact fin vm' X' hs'
end MCc
