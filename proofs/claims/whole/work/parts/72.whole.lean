/-! 72.whole: the claim out of the law's walk -/
def R_law : String := "SlotServerLaw"
def lw_P (b : Addr) (xs : List Int32) (args : Array Value) (s : State) : Prop := args = #[.ref b] ∧ s.IntsAt b xs ∧ xs.length ≤ 4096 ∧ (Jvm.Cond.and given_1 narrow_1).before args s = true
def lw_Q (_ : Array Value) (s : State) (o : Outcome) (t : State) : Prop := o = .returned (some (.int 1)) ∧ Framed s o t [] 601024 7293034
def lw_Z (below : List Frame) (a : Array Value) (s : State) : State → Prop := fun t => ∃ o, t.status = .running ∧ Ended t below o ∧ lw_Q a s o t
/-- what holds at the law's entry: the machine, the code, the tables' words (any of lw_tbl by 'hts w (by decide +kernel)'), the script of L ints xs at the cell b, what the Statement gives of the start (any of its parts by flat_of_before) -/
def lw_At (p : Program) (s : State) (m : MethodId) (meth : Method) (c : Code) (b L : Nat) (xs : Nat → Int32) : Prop :=
  p.tables.exec = Jvm.exec ∧ c.code = code ∧ meth.sig.returnType = ret ∧ c.maxLocals = 7 ∧ s.vm.findClass R_law = some m.cls ∧ (∀ w ∈ lw_tbl, w.before #[Value.ref b] s = true) ∧ va_X b L xs s s.heap ∧ b < s.heap.size ∧ meth.locks = false ∧ (Jvm.Cond.and given_1 narrow_1).before #[Value.ref b] s = true
def wsT : Cond → Bool
  | .laysStatic .. => true
  | .arrayOver (.object _) => true
  | .methodLinkNest .. => true
  | c => Concat.tabsA c
theorem ws_tabs : (lw_tbl.all wsT) = true := by decide +kernel
theorem ws_stat {a a' : Array Value} {s U : State} {C n d : String} (hU : s.WarmedH U.vm) (hq : ∀ q : Nat, q < s.heap.size → U.heap[q]? = s.heap[q]?) (h : (Cond.laysStatic C n d).before a s = true) : (Cond.laysStatic C n d).before a' U = true := by
  obtain ⟨c, k, i, fd, a0, cell, hc, hf, hst, hsta, hcell, hiss, hcls, hlt, hty⟩ := Cond.laysStatic_spec h
  obtain ⟨k', hi', he⟩ := State.fieldFound?_setVm hU.alike hf
  have hi' : U.fieldFound? C n d = some (c, k', i, fd) := hi'
  have hc' : U.vm.findClass C = some c := by rw [hU.alike.findClass]; exact hc
  have hsta' : k'.statics = some a0 := by rw [he]; exact hsta
  have hty' : k'.staticTypes[fd.slot]? = some fd.type := by rw [he]; exact hty
  have hcell' : U.heap[a0]? = some cell := by rw [hq a0 (Array.getElem?_eq_some_iff.mp hcell).1]; exact hcell
  simp [Cond.before, Cond.holds, Cond.value, hc', hi', hst, hsta', hcell', hiss, hcls, hlt, hty']
theorem ws_words {s : State} {b : Nat} (hts : ∀ w ∈ lw_tbl, w.before #[Value.ref b] s = true) : ∀ w ∈ lw_tbl, ∀ (a : Array Value) (U : State), s.WarmedH U.vm → (∀ q : Nat, q < s.heap.size → U.heap[q]? = s.heap[q]?) → w.before a U = true := by
  intro w hw a U hU hq
  have h := hts w hw
  have t := List.all_eq_true.mp ws_tabs w hw
  unfold wsT at t
  split at t
  · exact ws_stat hU hq h
  · exact va_AO.use (va_AO.moved hU.alike (va_AO.of h))
  · exact Cond.onTables_warmH (T := U) hU rfl rfl h
  · exact Concat.tabsA_warm hU w t h
/-- places of the words of making, class by class -/
def ws_in : List Nat := [82, 140, 172, 198, 134, 128, 122, 322, 315, 72, 916]
def ws_inB (ci : Nat) : Bool := match mcCl[ci]?, ws_in[ci]? with
  | some (C, _, N), some w => decide (lw_tbl[w]? = some (Cond.instantiable C N))
  | _, _ => false
theorem ws_inB_all : ((List.range 11).all ws_inB) = true := by decide +kernel
theorem ws_one {s : State} {a : Array Value} (hts : ∀ w ∈ lw_tbl, w.before a s = true) (ci : Nat) : ∃ q : ClassId × (Nat → Nat), ∀ r : vw_C, mcCl[ci]? = some r → u_Kn s r.1 r.2.1 r.2.2 q.1 q.2 := by
  cases h : mcCl[ci]? with
  | none => exact ⟨(0, fun _ => 0), fun r q => by cases q⟩
  | some r =>
    obtain ⟨C, T, N⟩ := r
    have hlt : ci < 11 := (List.getElem?_eq_some_iff.mp h).1
    have hkd : ∃ kd, mcKd[ci]? = some kd := ⟨_, List.getElem?_eq_getElem (show ci < mcKd.length from hlt)⟩
    obtain ⟨kd, hkd⟩ := hkd
    have hb := List.all_eq_true.mp ws_inB_all ci (List.mem_range.mpr hlt)
    unfold ws_inB at hb
    rw [h] at hb
    split at hb
    · rename_i C' T' N' w h1 h2
      cases h1
      have hi := List.mem_of_getElem? (of_decide_eq_true hb)
      obtain ⟨cC, iS, g⟩ := u_known hts (mc_cls h hkd).1 (hts _ hi)
      exact ⟨(cC, iS), fun r q => by cases q; exact g⟩
    · cases hb
theorem ws_know {s : State} {a : Array Value} (hts : ∀ w ∈ lw_tbl, w.before a s = true) : ∃ (dC : Nat → ClassId) (dI : Nat → Nat → Nat), va_K (dC, dI) mcCl [] s := by
  refine ⟨fun ci => (Classical.choose (ws_one hts ci)).1, fun ci => (Classical.choose (ws_one hts ci)).2, fun c q hq => Classical.choose_spec (ws_one hts c) q hq, fun k q hk => ?_⟩
  cases hk
theorem ws_ty1 {s : State} {a : Array Value} {ty : FieldType} (h : (Cond.arrayClass ty).before a s = true) : ∃ c : ClassId, ArrOfT s c ty ∧ s.vm.findClass ("[" ++ ty.toString) = some c := by
  obtain ⟨c, k, comp, g1, g2, g3⟩ := Cond.arrayClass_spec h
  exact ⟨c, fun n z => ⟨fun k h => (by cases h), k, g2, comp, g3⟩, g1⟩
theorem ws_ty2 {s : State} {a : Array Value} {C : String} (h : (Cond.arrayOver (.object C)).before a s = true) : ∃ c : ClassId, ArrOfT s c (.object C) ∧ va_RA s c (.object C) := by
  obtain ⟨comp, c, k, g1, g2, g3, g4, g5⟩ := Cond.arrayOver_spec h
  exact ⟨c, fun n z => ⟨fun k h => (by cases h), k, g3, comp, g4⟩, k, comp, g3, g4, g1, g5⟩
theorem ws_ty {s : State} {a : Array Value} (hts : ∀ w ∈ lw_tbl, w.before a s = true) (t : Nat) : ∃ c : ClassId, t < mcNT → ArrOfT s c (mcTy t) ∧ va_RA s c (mcTy t) := by
  match t with
  | 0 =>
    obtain ⟨c, g⟩ := ws_ty1 (hts (.arrayClass .int) (List.mem_of_getElem? (i := 120) (by decide +kernel)))
    exact ⟨c, fun _ => g⟩
  | 1 =>
    obtain ⟨c, g⟩ := ws_ty1 (hts (.arrayClass .long) (List.mem_of_getElem? (i := 194) (by decide +kernel)))
    exact ⟨c, fun _ => g⟩
  | 2 =>
    obtain ⟨c, g⟩ := ws_ty1 (hts (.arrayClass .boolean) (List.mem_of_getElem? (i := 1000) (by decide +kernel)))
    exact ⟨c, fun _ => g⟩
  | 3 =>
    obtain ⟨c, g⟩ := ws_ty1 (hts (.arrayClass .byte) (List.mem_of_getElem? (i := 1001) (by decide +kernel)))
    exact ⟨c, fun _ => g⟩
  | 4 =>
    obtain ⟨c, g⟩ := ws_ty2 (hts (.arrayOver (.object "SlotServer$Client")) (List.mem_of_getElem? (i := 80) (by decide +kernel)))
    exact ⟨c, fun _ => g⟩
  | 5 =>
    obtain ⟨c, g⟩ := ws_ty2 (hts (.arrayOver (.object "SlotServer$Answer")) (List.mem_of_getElem? (i := 196) (by decide +kernel)))
    exact ⟨c, fun _ => g⟩
  | 6 =>
    obtain ⟨c, g⟩ := ws_ty2 (hts (.arrayOver (.object "SlotServer$Desk")) (List.mem_of_getElem? (i := 321) (by decide +kernel)))
    exact ⟨c, fun _ => g⟩
  | n + 7 => exact ⟨0, fun h => absurd h (by unfold mcNT; omega)⟩
theorem ws_tb (T : List (List Nat)) (k : Nat) (i : Int) : tb (T.map fun r => r.map fun _ => 0) k i = none := by
  unfold tb
  split
  · rfl
  · cases k with
    | zero => rfl
    | succ k =>
      dsimp only
      have g : ((T.map fun r => r.map fun _ => 0).getD k []).getD i.toNat 0 = 0 := by
        rw [List.getD_eq_getElem?_getD, List.getD_eq_getElem?_getD, List.getElem?_map]
        cases T[k]? with
        | none => rfl
        | some r =>
          simp only [Option.map_some, Option.getD_some, List.getElem?_map]
          cases r[i.toNat]? <;> rfl
      rw [g]
/-- the numbers at the law's entry: the script, and nothing else -/
def ws_sig (xs : Nat → Int32) : mG := fun k i => if k = 0 then (xs i.toNat).toInt else 0
theorem ws_in32 (x : Int32) : in32 x.toInt := by
  have h1 := Int32.le_toInt x
  have h2 := Int32.toInt_lt x
  unfold in32
  omega
/-- from the entry, for every script of at most 4096 ints, the law comes to its end with true -/
theorem whole_start {p : Program} {e : Env} {s : State} {m : MethodId} {below : List Frame} {meth : Method} {c : Code} (l : Launch) {b L : Nat} {xs : Nat → Int32} (hfl : l.flags = pinnedFlags ++ [noTraceFlag]) (hM : mcMt M_Law_law s m meth c) (hL : L ≤ 4096) (C0 : lw_At p s m meth c b L xs) : W p l e room_1 s m #[Value.ref b] below meth c s.heap [] 0 0 (lw_Z below #[Value.ref b] s) (entryFrame m ([Value.ref b] : List Value).toArray 7) := by
  obtain ⟨hx, -, -, -, -, hts, hX, hbl, -, hgv⟩ := C0
  obtain ⟨dC, dI, hK⟩ := ws_know hts
  obtain ⟨b', hb'⟩ : ∃ b' : Nat, s.heap.size = b' + 1 := ⟨s.heap.size - 1, by omega⟩
  have F : mcFix L xs p l s s.heap b' b dC dI (fun t => Classical.choose (ws_ty hts t)) :=
    ⟨hx, hfl, (by rw [← hb']; exact ws_words hts), hX, hb', hK, fun t ht => Classical.choose_spec (ws_ty hts t) ht, ⟨_, hgv⟩, rfl⟩
  have hR : mcR L xs b' b dC dI (fun t => Classical.choose (ws_ty hts t)) (tb jT0) (ws_sig xs) 1 0 s.heap s.heap := by
    refine ⟨⟨by omega, by omega, by omega⟩, hb', fun q _ => rfl, fun j _ => ?_, fun k i _ => ?_, fun k hk i => ⟨?_, ws_tb _ k i⟩, fun k cell h1 h2 => absurd h2 (by omega), fun k sh h1 h2 => absurd h2 (by omega)⟩
    · show xs j = Int32.ofInt (if (0 : Nat) = 0 then (xs (j : Int).toNat).toInt else 0)
      rw [if_pos rfl, Int.toNat_natCast, Int32.ofInt_toInt]
    · unfold ws_sig
      split
      · exact ws_in32 _
      · exact in32_0
    · unfold ws_sig
      rw [if_neg (by omega)]
  have hl := mcEnt_L b' b (nL := 7) (vs := [mr 0]) (by decide)
  have hS : mcHs b' s.heap s := ⟨fun q _ => rfl, fun q cell h1 h2 => absurd (Array.getElem?_eq_some_iff.mp h2).1 (by omega)⟩
  have hv : ([mr 0].map (mcVal b' b)) = [Value.ref b] := rfl
  have k := (law_all (L := L) (fr := 11) (lo := 404) (σ := ws_sig xs) (Φ := fun o _ _ _ _ => o = .inl (some (mi 1))) hL (by omega) (by omega) (fun k hk i => by unfold ws_sig; rw [if_neg (by omega)]) (fun _ _ _ _ => rfl)).at0
  have w := k xs p l e s s.heap b' b dC dI _ F s m #[Value.ref b] below meth c (State.WarmedH.refl s) hM _ hR hl hS
  rw [hv] at w
  rw [lg_entry_eq]
  intro T hT X
  obtain ⟨t, a, o, ρ', σ', n', z', Lc, q1, q2, q3, q4, q5, q6, q7, q8, q9, rfl⟩ := w T hT X
  refine ⟨t, a, _, q1, q2, rfl, ⟨_, rfl⟩, q3, ?_⟩
  obtain ⟨r1, r2, r3, r4, r5, r6⟩ := q4
  have hn := q8.1.2.1
  have hz := q8.1.2.2
  refine ⟨r1, r2, Nat.le_trans r3 (by omega), r4, Nat.le_trans r5 (by omega), fun q cell h => ?_⟩
  obtain ⟨c', g1, g2, g3, g4⟩ := r6 q cell h
  refine ⟨c', g1, g2, g3, fun i _ => g4 i fun hq => ?_⟩
  have h1 := q5 _ hq
  have h2 := (Array.getElem?_eq_some_iff.mp h).1
  dsimp only at h1
  omega
set_option maxHeartbeats 4000000 in
theorem lw_walk (l : Launch) (hfl : l.flags = pinnedFlags ++ [noTraceFlag]) (b : Addr) (xs : List Int32) : MetFree l x (headSpec (Jvm.Cond.code x code maxLocals ret :: tables_1) room_1) (lw_P b xs) (fun _ _ _ _ _ => True) lw_Q := by
  refine MetFree.of_bodyS (code := code) (maxLocals := maxLocals) (ret := ret) (by decide) ?_ ?_
  · intro args s m h hn
    obtain ⟨meth, c, h1, h2, h3, h4, h5, h6, -, -⟩ := Cond.code_spec hn (atoms_spec (ws := Jvm.Cond.code x code maxLocals ret :: tables_1) h _ List.mem_cons_self)
    exact ⟨meth, c, h1, h2, h3, h4, h5, h6⟩
  · intro p e s m args below meth c s₁ B hml0 hP _
    obtain ⟨rfl, hx, hbd, hgv⟩ := hP
    obtain ⟨scr, harrAt, hlist, hof, hsmall⟩ := hx
    obtain ⟨hcb, hkn, -, -⟩ := State.arrayAt?_spec harrAt
    have hown : s.vm.findClass R_law = some m.cls := findClass_of_methodNamed B.named
    have hts0 : ∀ c ∈ (Jvm.Cond.code x code maxLocals ret :: tables_1), c.before #[Value.ref b] s = true := atoms_spec (ws := Jvm.Cond.code x code maxLocals ret :: tables_1) B.pre
    have hts : ∀ w ∈ lw_tbl, w.before #[Value.ref b] s = true := k2_hts_sels lw_privs (fun w hw => hts0 w (List.mem_cons_of_mem _ hw)) lw_privs_ok
    have hml : c.maxLocals = 7 := B.maxLocals_eq (hts0 _ List.mem_cons_self)
    have X₀ : Stand p l e room_1 s m #[Value.ref b] below meth c s₁ [] 0 0 := Stand.of_body B
    have hh0 : s₁.heap = s.heap := by rw [B.state]; rfl
    have hsz : scr.slots.size = xs.length := by rw [← Array.length_toList, hlist, List.length_map]
    have hval : ∀ j : Nat, j < xs.length → scr.slots[j]? = some (.int (xs.getD j 0)) := fun j hj => by
      rw [← Array.getElem?_toList, hlist]
      simp [hj]
    have hbl : b < s.heap.size := (Array.getElem?_eq_some_iff.mp hcb).1
    have hX : va_X b xs.length (fun j => xs.getD j 0) s s.heap := ⟨scr, hcb, hof, hkn, hsz, hval⟩
    have hM : mcMt M_Law_law s m meth c := by
      obtain ⟨meth', c', h1, h2, h3, h4, h5, h6, h7, -⟩ := Cond.code_spec B.named (hts0 _ List.mem_cons_self)
      cases B.method.symm.trans h1
      cases X₀.code.symm.trans h2
      have h8 : c.exceptionTable = #[] := by simpa using h7
      exact ⟨B.named, h1, h2, h3, h4, h5, h6, by rw [h8]; rfl, hown⟩
    have K : W p l e room_1 s m #[Value.ref b] below meth c s₁.heap [] 0 0 (lw_Z below #[Value.ref b] s) (entryFrame m ([Value.ref b] : List Value).toArray 7) := by
      rw [hh0]
      exact whole_start l hfl hM hbd ⟨B.exec, B.bytes, B.returns, hml, hown, hts, hX, hbl, B.notSynchronized, hgv⟩
    obtain ⟨t, a1, o, b1, b2, b3⟩ := K s₁ rfl X₀
    exact ⟨t, o, a1, b1, b2, b3⟩
theorem lw_pre_spec {args : Array Value} {s : State} (h : (Jvm.Cond.and given_1 narrow_1).before args s = true) (hr : rest_1_c.before args s = true) : ∃ (b : Addr) (xs : List Int32), lw_P b xs args s := by
  have hs := flat_of_before _ h
  have hq := flat_of_before _ hr
  have hc : (Cond.count 1).before args s = true := hs _ (by decide +kernel)
  have harr : (Cond.arrayOf (.arg 0) .int).before args s = true := hs _ (by decide +kernel)
  have hle : (Cond.le (.length (.arg 0)) (.int 4096)).before args s = true := hs _ (by decide +kernel)
  have hlen : (Cond.isInt (.length (.arg 0))).before args s = true := hq _ (by decide +kernel)
  have hall : (Cond.all (.arg 0) (.isInt (.elem (.arg 0) (.index 0)))).before args s = true := hq _ (by decide +kernel)
  obtain ⟨b, xs, hb, hx⟩ := State.ints_of_pre rfl harr hlen hall
  have hsm : xs.length < 2 ^ 31 := hx.choose_spec.2.2.2
  have hev : (Term.length (.arg 0)).eval args s none [] s = some (.int xs.length.toInt32) := hx.length_eval hb
  have hv := Cond.le_ints hev (show (Term.int 4096).eval args s none [] s = some (.int 4096) from rfl)
  have hd : xs.length.toInt32 ≤ 4096 := by
    simpa [Cond.before, Cond.holds, hv] using hle
  have hN : xs.length ≤ 4096 := (Int32.ofNat_le_ofNat hsm (by decide)).mp (show Int32.ofNat xs.length ≤ Int32.ofNat 4096 from hd)
  exact ⟨b, xs, Cond.one_arg hc (show args[0]? = some (.ref b) from hb), hx, hN, h⟩
theorem lw_comes (l : Launch) (hfl : l.flags = pinnedFlags ++ [noTraceFlag]) : Comes l x (Jvm.Cond.code x code maxLocals ret :: tables_1) room_1 (fun tb e args s => Calls_1 tb e args s ∧ rest_1 tb e args s ∧ Pre_1 tb e args s)
    (fun _ _ args s o t => lw_Q args s o t) := by
  intro p e ha hc hk s m args below hf hfit hheap happ hpre
  obtain ⟨b, xs, hP⟩ := lw_pre_spec hpre.2.2 hpre.2.1
  obtain ⟨k, o, h1, h2, h3, hQ⟩ := lw_walk l hfl b xs p e ha hc hk s m args below hf ((Spec.applies_iff_loose hf).mp happ).1 hP trivial
  exact ⟨k, o, h1, h2, h3, hQ⟩
theorem lw_frame {s t : State} {o : Outcome} {args : Array Value} (h : Framed s o t [] 601024 7293034) :
    Framed s o t (fieldLocs frame_1_writes args s ++ arrayLocs frame_1_arrays args s ++ staticLocs frame_1_statics s) 601024 7293034 := h
theorem lw_limb (L : Cond) (hL : ∀ (args : Array Value) (s t : State), L.after args s (.returned (some (.int 1))) t = true) :
    ArmFor flags0 classFile x code maxLocals ret World_1 tables_1 room_1 Calls_1 rest_1 Pre_1
      (fun tb e a s o t => postC L tb e a s o t ∧ Framed s o t (fieldLocs frame_1_writes a s ++ arrayLocs frame_1_arrays a s ++ staticLocs frame_1_statics s) 601024 7293034) := by
  intro l hfl _ _ p e ha hc hk s m args below hf hfit hheap happ hpre
  obtain ⟨k, o, h1, h2, h3, rfl, hF⟩ := lw_comes l hfl p e ha hc hk s m args below hf hfit hheap happ hpre
  exact ⟨k, _, h1, h2, h3, hL args s _, lw_frame hF⟩
theorem i_vc : Claimed_1_1 ∧ Claimed_1_2 := ⟨lw_limb limb_1_1 (fun args s t => by simp [limb_1_1, Cond.after, Cond.holds, Cond.value]), lw_limb limb_1_2 (fun args s t => Cond.after_iff.mpr (by
  first | (rw [show limb_1_2 = Cond.eq .result (.int 1) from rfl, Cond.eq_ints (x := 1) (y := 1) rfl rfl]; simp; done) | (simp [limb_1_2, Cond.value, Term.eval]; done)))⟩
