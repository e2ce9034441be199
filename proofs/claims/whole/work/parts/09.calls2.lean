/-! 09.calls2: virtual calls, constructors, arraycopy -/
section MCv
variable {L fr lo : Nat} {M : mcM} {pc : Nat} {ls : List (Option mV)} {st : List mV} {ρ : mP} {σ : mG} {n z : Nat} {Φ : mcPost}
theorem mc_virtual {M' : mcM} {fr' lo' idx ci a : Nat} {r : vw_C} {vs : List mV} (hc : mcCode M pc = some (.invokevirtual idx, 3)) (hw : Cond.methodLink M.1.cls idx M'.1 ∈ lw_tbl) (hi : Cond.instanceMethod M'.1 ∈ lw_tbl) (hsel : Cond.selects M'.1.cls M'.1 M'.1 ∈ lw_tbl) (hj : mcCd M') (hh : mcHan M) (ha : mcArity M' vs.length)
    (h1a : 1 ≤ a) (han : a < n) (hsk : mcSk L a = some (.inr ci)) (hcl : mcCl[ci]? = some r) (hr : r.1 = M'.1.cls)
    (hfr : fr' + 1 ≤ fr) (hlo : mcCats st + (M'.2.2.1 + 11) + lo' ≤ lo) (hent : ((mr a :: vs).map mcCat).sum ≤ M'.2.2.1)
    (k : mcE L fr' lo' M' 0 (mcEnt M'.2.2.1 (mr a :: vs)) [] ρ σ n z (mcNx M Φ (fun pc ls st ρ σ n z => mcE L fr lo M pc ls st ρ σ n z Φ) pc ls st)) : mcE L fr lo M pc ls (vs.reverse ++ mr a :: st) ρ σ n z Φ := by
  intro xs p l e s0 H0 b sc dC dI tyc F s m args below meth c hW A n0 z0 H locs LS h1 h2 h3 hR hl hS T hT X
  have hts := mcWords F hW hS args
  obtain ⟨mk, methk, ck, B, hsig, kx, hkx, hini, hkn⟩ := mc_mt F hj hW hS.1
  obtain ⟨r', kd', hr', -, -, cell, q1, q2, q3, q4⟩ := hR.2.2.2.2.2.2.2 a _ h1a han hsk
  obtain ⟨-, hfc, -⟩ := (mcKnow F hW).1 ci r hcl
  have hcls : s.vm.findClass M'.1.cls = some cell.cls := by rw [q2, ← hr]; exact hfc
  obtain ⟨mk', methM, hnamed, hmethM, hstM, habM⟩ := Cond.instanceMethod_spec (hts _ hi)
  cases hnamed.symm.trans B.1
  cases hmethM.symm.trans B.2.1
  obtain ⟨c2, r2, m2, g1, g2, g3, g4, kP, hkP, hkPi⟩ := Cond.selects_spec (hts _ hsel)
  cases hcls.symm.trans g1
  cases (State.methodFound?_of_named hnamed hj.2.2.1).symm.trans g2
  cases hnamed.symm.trans g3
  have hselP : selectMethod e.platform s.vm cell.cls mk = .method mk := by rw [Launch.admits_selectMethod X.admits]; exact g4
  have hlen : (vs.map (mcVal b sc)).length = methk.sig.parameters.length := by rw [List.length_map]; exact ha _ hsig
  have hstack : (F0 m pc LS ((vs.reverse ++ mr a :: st).map (mcVal b sc))).stack = (vs.map (mcVal b sc)).reverse ++ .ref (b + a) :: st.map (mcVal b sc) := by
    show (vs.reverse ++ mr a :: st).map (mcVal b sc) = _
    rw [List.map_append, List.map_reverse, List.map_cons]
    simp only [mcVal, mcAd_pos h1a]
  have hdg : decode c.code (F0 m pc LS ((vs.reverse ++ mr a :: st).map (mcVal b sc))).pc = .ok (.invokevirtual idx, 3) := by rw [A.2.2.2.1]; exact mc_dec hc
  obtain ⟨vm', X', hs'⟩ := X.invokevirtual F.1 A.2.2.2.2.2.2.2.2 (hts _ hw) hnamed hmethM hstM hkP hkPi hj.2.2.1 (a := b + a) (cell := cell) (by rw [hT]; exact q1) (fun q h => by rw [q3] at h; cases h) hselP hmethM habM hkP hkPi (g := F0 m pc LS ((vs.reverse ++ mr a :: st).map (mcVal b sc))) rfl hlen hstack hdg
  obtain ⟨t, g1, g2⟩ := mc_into (vs := mr a :: vs) hj hh hc hfr hlo hent k.at0 F hW A h1 h2 h3 hR hl hS (T₁ := T.setVm vm') hT X' hnamed
  refine ⟨t, hs' t fun acts => ?_, g2⟩
  have := g1 acts
  rw [List.map_cons] at this
  simp only [mcVal, mcAd_pos h1a] at this
  exact this
theorem mc_init {M' : mcM} {fr' lo' idx a : Nat} {vs : List mV} (hc : mcCode M pc = some (.invokespecial idx, 3)) (hw : Cond.methodLink M.1.cls idx M'.1 ∈ lw_tbl) (hi : Cond.instanceMethod M'.1 ∈ lw_tbl) (hcd : Cond.code M'.1 M'.2.1 M'.2.2.1 none ∈ lw_tbl) (hnm : M'.1.name = "<init>") (hj : mcCd M') (hh : mcHan M) (ha : mcArity M' vs.length)
    (h1a : 1 ≤ a) (hfr : fr' + 1 ≤ fr) (hlo : mcCats st + (M'.2.2.1 + 11) + lo' ≤ lo) (hent : ((mr a :: vs).map mcCat).sum ≤ M'.2.2.1)
    (k : mcE L fr' lo' M' 0 (mcEnt M'.2.2.1 (mr a :: vs)) [] ρ σ n z (mcNx M Φ (fun pc ls st ρ σ n z => mcE L fr lo M pc ls st ρ σ n z Φ) pc ls st)) : mcE L fr lo M pc ls (vs.reverse ++ mr a :: st) ρ σ n z Φ := by
  intro xs p l e s0 H0 b sc dC dI tyc F s m args below meth c hW A n0 z0 H locs LS h1 h2 h3 hR hl hS T hT X
  have hts := mcWords F hW hS args
  have hpl : e.platform.magicAccessors = ({} : Platform).magicAccessors := by rw [X.admits.platform]
  have hstack : (F0 m pc LS ((vs.reverse ++ mr a :: st).map (mcVal b sc))).stack = (vs.map (mcVal b sc)).reverse ++ .ref (b + a) :: st.map (mcVal b sc) := by
    show (vs.reverse ++ mr a :: st).map (mcVal b sc) = _
    rw [List.map_append, List.map_reverse, List.map_cons]
    simp only [mcVal, mcAd_pos h1a]
  have hdg : decode c.code (F0 m pc LS ((vs.reverse ++ mr a :: st).map (mcVal b sc))).pc = .ok (.invokespecial idx, 3) := by rw [A.2.2.2.1]; exact mc_dec hc
  obtain ⟨tm, methk, cd, kq, vm', t1, -, -, -, -, -, -, -, hW', hs'⟩ := Steps.initColdArgs (tb := p.tables) X.here F.1 X.warmed hpl A.2.2.2.2.2.2.2.2 hnm hj.2.2.1 (hts _ hw) (hts _ hi) (hts _ hcd) (f := F0 m pc LS ((vs.reverse ++ mr a :: st).map (mcVal b sc))) rfl (fun sig h => by rw [List.length_map]; exact ha sig h) hstack hdg
  obtain ⟨t, g1, g2⟩ := mc_into (vs := mr a :: vs) hj hh hc hfr hlo hent k.at0 F hW A h1 h2 h3 hR hl hS (T₁ := T.setVm vm') hT (X.noted hW') t1
  refine ⟨t, hs' t fun acts => ?_, g2⟩
  have := g1 acts
  rw [List.map_cons] at this
  simp only [mcVal, mcAd_pos h1a] at this
  exact this
theorem mc_nn {x : Int} (hx : in32 x) (h0 : 0 ≤ x) : ¬ Int32.ofInt x < 0 := by rw [i32_zero, i32_lt hx in32_0]; omega
theorem mc_arraycopy {idx a0 a t n0' n1' : Nat} {sp dp k : Int} (hc : mcCode M pc = some (.invokestatic idx, 3)) (w1 : Cond.methodLink M.1.cls idx arraycopyName ∈ lw_tbl) (w2 : Cond.native arraycopyName ∈ lw_tbl) (w3 : Cond.static arraycopyName ∈ lw_tbl) (w4 : Cond.initialized "java/lang/System" ∈ lw_tbl)
    (ha0 : 1 ≤ a0) (han0 : a0 < n) (ha : 1 ≤ a) (han : a < n) (ht : t = 0 ∨ t = 1) (hs0 : mcSk L a0 = some (.inl (t, n0'))) (hs : mcSk L a = some (.inl (t, n1'))) (hsp : 0 ≤ sp) (hdp : 0 ≤ dp) (hk : 0 ≤ k) (hb0 : sp + k ≤ n0') (hb1 : dp + k ≤ n1') (hfr : 1 ≤ fr) (hlo : mcCats st + 40 ≤ lo)
    (kk : mcE L fr lo M (pc + 3) ls st ρ (upc σ a (mCpy (σ a0) (σ a) sp dp k)) n z Φ) : mcE L fr lo M pc ls (mi k :: mi dp :: mr a :: mi sp :: mr a0 :: st) ρ σ n z Φ := by
  intro xs p l e s0 H0 b sc dC dI tyc F s m args below meth c hW A n0 z0 H locs LS h1 h2 h3 hR hl hS T hT X
  have hts := mcWords F hW hS args
  obtain ⟨htt, hcell0⟩ := mcSk_cell hR ha0 han0 hs0
  obtain ⟨-, hcell⟩ := mcSk_cell hR ha han hs
  have hl0 := mcSk_len ha0 hs0
  have hl1 := mcSk_len ha hs
  have isp : in32 sp := by unfold in32; omega
  have idp : in32 dp := by unfold in32; omega
  have ik : in32 k := by unfold in32; omega
  have e1 := i32_clamp isp hsp
  have e2 := i32_clamp idp hdp
  have e3 := i32_clamp ik hk
  have E1 := in32_toInt isp
  have E2 := in32_toInt idp
  have E3 := in32_toInt ik
  obtain ⟨-, k0, hk0, cm0, hkk0⟩ := (mcArrs F hW htt).1 n0' (mcEl b sc t ρ σ a0)
  obtain ⟨-, k1, hk1, cm1, hkk1⟩ := (mcArrs F hW htt).1 n1' (mcEl b sc t ρ σ a)
  have hrd : ∀ i, i < k.toNat → (arrV (tyc t) n0' (mcEl b sc t ρ σ a0)).slots.getD (sp.toNat + i) .null = mcEl b sc t ρ σ a0 (sp.toNat + i) := fun i hi => by
    rw [Array.getD_eq_getD_getElem?, arrV_read _ _ (by omega)]; rfl
  obtain ⟨vm', X', step⟩ := X.arraycopy F.1 A.2.2.2.2.2.2.2.2 (hts _ w1) (hts _ w2) (hts _ w3) (hts _ w4) (src := b + a0) (dst := b + a) (cs := arrV (tyc t) n0' (mcEl b sc t ρ σ a0)) (cd := arrV (tyc t) n1' (mcEl b sc t ρ σ a)) (srcPos := Int32.ofInt sp) (destPos := Int32.ofInt dp) (n := Int32.ofInt k) (by rw [hT]; exact hcell0) (by rw [hT]; exact hcell)
    (fun _ h => by cases h) (fun _ h => by cases h) (fun h => by cases h) (fun h => by cases h) hk0 hk1 hkk0 hkk1 (by rcases ht with rfl | rfl <;> simp [mcTy, refKind]) (mc_nn isp hsp) (mc_nn idp hdp) (mc_nn ik hk)
    (by rw [E1, E3, arrV_size]; omega) (by rw [E2, E3, arrV_size]; omega)
    (fun vm₁ _ i hi => by
      rw [e3] at hi
      rw [e1, hrd i hi]
      rcases ht with rfl | rfl <;> exact ⟨rfl, trivial⟩)
    (g := F0 m pc LS ((mi k :: mi dp :: mr a :: mi sp :: mr a0 :: st).map (mcVal b sc))) rfl (by show LS.size = _; rw [hl.1, A.2.2.2.2.1]) (rest := st.map (mcVal b sc)) (by show List.map _ _ = _; simp only [List.map_cons, mcVal, mcAd_pos ha, mcAd_pos ha0]) (by rw [A.2.2.2.1]; exact mc_dec hc) hfr (by
      show 2 * 0 + ((st.map (mcVal b sc)).map fun v => v.category).sum + _ ≤ lo
      rw [mc_catsum]
      have : nativeFrameWords "java/lang/System" "arraycopy" 5 + 11 ≤ 40 := by decide
      omega)
  have ec : copied (arrV (tyc t) n0' (mcEl b sc t ρ σ a0)) (arrV (tyc t) n1' (mcEl b sc t ρ σ a)) (Int32.ofInt sp) (Int32.ofInt dp) (Int32.ofInt k) = arrV (tyc t) n1' (mcEl b sc t ρ (upc σ a (mCpy (σ a0) (σ a) sp dp k)) a) := by
    have aux0 : ∀ j : Nat, mCpy (σ a0) (σ a) sp dp k j = if dp.toNat ≤ j ∧ j < dp.toNat + k.toNat then σ a0 ((sp.toNat + (j - dp.toNat) : Nat) : Int) else σ a j := fun j => by
      unfold mCpy
      by_cases hj : dp.toNat ≤ j ∧ j < dp.toNat + k.toNat
      · rw [if_pos hj, if_pos (by omega)]; congr 1; omega
      · rw [if_neg hj, if_neg (by omega)]
    show (arrV (tyc t) n1' (mcEl b sc t ρ σ a)).storeRun _ ((arrV (tyc t) n0' (mcEl b sc t ρ σ a0)).stretch _ _) = _
    rw [e1, e2, e3]
    refine (va_copied (fun z : Value => z) (tyc t) (tyc t) (mcEl b sc t ρ σ a0) (mcEl b sc t ρ σ a) (by omega)).trans ?_
    congr 1
    funext j
    unfold mcEl va_cpy
    rw [upc_self, aux0]
    rcases ht with rfl | rfl <;> (split <;> rfl)
  rw [ec] at X' step
  have hl' : b + a < H.size := (Array.getElem?_eq_some_iff.mp hcell).1
  have hheap : ((T.setVm vm').setCell (b + a) (arrV (tyc t) n1' (mcEl b sc t ρ (upc σ a (mCpy (σ a0) (σ a) sp dp k)) a))).heap = H.setIfInBounds (b + a) (arrV (tyc t) n1' (mcEl b sc t ρ (upc σ a (mCpy (σ a0) (σ a) sp dp k)) a)) := by rw [← hT]; rfl
  obtain ⟨t2, a1, b1⟩ := kk xs p l e s0 H0 b sc dC dI tyc F s m args below meth c hW A n0 z0 (H.setIfInBounds (b + a) (arrV (tyc t) n1' (mcEl b sc t ρ (upc σ a (mCpy (σ a0) (σ a) sp dp k)) a))) _ LS h1 h2 (fun q hq => by
      rcases List.mem_append.mp hq with h | h
      · exact h3 q h
      · obtain ⟨z, -, hz⟩ := List.mem_map.mp h
        rw [← hz]
        show b + 1 ≤ b + a
        omega) (hR.up ha han hs (by simp) (fun q hq => by simp [Array.getElem?_setIfInBounds, Ne.symm hq]) (fun _ _ => rfl) (fun k hk => upc_ne _ _ hk) (by
        intro k' i hk'
        by_cases e : k' = a
        · subst e
          rw [upc_self]
          unfold mCpy
          split
          · refine hR.2.2.2.2.1 a0 _ fun len h => ?_
            cases hs0.symm.trans h
            exact hk' _ hs
          · exact hR.2.2.2.2.1 k' i hk'
        · rw [upc_ne _ _ e]; exact hR.2.2.2.2.1 k' i hk') fun sh hsh => by
        cases hs.symm.trans hsh
        exact ⟨htt, by simp [Array.getElem?_setIfInBounds, hl']⟩) hl hS _ hheap X'
  exact ⟨t2, step t2 a1, b1⟩
end MCv
