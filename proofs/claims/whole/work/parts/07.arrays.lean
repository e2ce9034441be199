/-! 07.arrays: arrays, and what is made -/
section MCa
variable {L fr lo : Nat} {M : mcM} {pc : Nat} {ls : List (Option mV)} {st : List mV} {ρ : mP} {σ : mG} {n z : Nat} {Φ : mcPost}
theorem mcSkL_len : (mcSkL.all fun sh => match sh with
    | .inl (_, len) => decide (len ≤ 8192)
    | .inr _ => true) = true := by decide +kernel
theorem mcSk_len {a t len : Nat} (ha : 1 ≤ a) (h : mcSk L a = some (.inl (t, len))) : len ≤ 8192 := by
  obtain ⟨k, rfl⟩ : ∃ k, a = k + 1 := ⟨a - 1, by omega⟩
  have h' : mcSkL[k]? = some (.inl (t, len)) := h
  have := List.all_eq_true.mp mcSkL_len _ (List.mem_of_getElem? h')
  simpa using this
theorem mcSk_cell {xs : Nat → Int32} {b sc : Nat} {dC : Nat → ClassId} {dI : Nat → Nat → Nat} {tyc : Nat → ClassId} {H0 H : Heap} {a t len : Nat} (hR : mcR L xs b sc dC dI tyc ρ σ n z H0 H) (ha : 1 ≤ a) (han : a < n) (hs : mcSk L a = some (.inl (t, len))) : t < mcNT ∧ H[b + a]? = some (arrV (tyc t) len (mcEl b sc t ρ σ a)) := hR.2.2.2.2.2.2.2 a _ ha han hs
theorem mc_stk2 {b sc a : Nat} {x : Int} (ha : 1 ≤ a) : (mi x :: mr a :: st).map (mcVal b sc) = .int (Int32.ofInt x) :: .ref (b + a) :: st.map (mcVal b sc) := by
  rw [List.map_cons, List.map_cons]; simp only [mcVal, mcAd_pos ha]
theorem mc_idx {x : Int} {len : Nat} (hl : len ≤ 8192) (hx : 0 ≤ x ∧ x < len) : in32 x ∧ (Int32.ofInt x).toNatClampNeg = x.toNat ∧ ¬ (Int32.ofInt x < 0 ∨ len ≤ (Int32.ofInt x).toNatClampNeg) ∧ x.toNat < len ∧ ((x.toNat : Nat) : Int) = x := by
  have h : in32 x := by unfold in32; omega
  exact ⟨h, i32_clamp h hx.1, i32_in h hx.1 hx.2, by omega, by omega⟩
theorem mc_iaload {a len : Nat} {x : Int} (hc : mcCode M pc = some (.iaload, 1)) (ha : 1 ≤ a) (han : a < n) (hs : mcSk L a = some (.inl (0, len))) (hx : 0 ≤ x ∧ x < len)
    (kk : in32 (σ a x) → mcE L fr lo M (pc + 1) ls (mi (σ a x) :: st) ρ σ n z Φ) : mcE L fr lo M pc ls (mi x :: mr a :: st) ρ σ n z Φ := by
  intro xs p l e s0 H0 b sc dC dI tyc F s m args below meth c hW A n0 z0 H locs LS h1 h2 h3 hR hl hS
  obtain ⟨ht, hcell⟩ := mcSk_cell hR ha han hs
  obtain ⟨i1, i2, i3, i4, i5⟩ := mc_idx (mcSk_len ha hs) hx
  refine W.iald (v := mcVal b sc (mi (σ a x))) (rest := st.map (mcVal b sc)) F.1 A.2.2.2.1 hcell ((mcArrs F hW ht).1 len _) (fun q => by cases q) (by rw [arrV_size]; exact i3) (by rw [arrV_read _ _ (by rw [i2]; exact i4), i2]; show some (mcEl b sc 0 ρ σ a x.toNat) = _; unfold mcEl; rw [i5]; rfl) rfl (mc_stk2 ha) (mc_dec hc) ?_
  exact kk (hR.2.2.2.2.1 a x fun len h => by rw [hs] at h; cases h) xs p l e s0 H0 b sc dC dI tyc F s m args below meth c hW A n0 z0 H locs LS h1 h2 h3 hR hl hS
theorem mc_zaload {a len : Nat} {x : Int} (hc : mcCode M pc = some (.baload, 1)) (ha : 1 ≤ a) (han : a < n) (hs : mcSk L a = some (.inl (2, len))) (hx : 0 ≤ x ∧ x < len)
    (kk : in32 (σ a x) → mcE L fr lo M (pc + 1) ls (mi (σ a x) :: st) ρ σ n z Φ) : mcE L fr lo M pc ls (mi x :: mr a :: st) ρ σ n z Φ := by
  intro xs p l e s0 H0 b sc dC dI tyc F s m args below meth c hW A n0 z0 H locs LS h1 h2 h3 hR hl hS
  obtain ⟨ht, hcell⟩ := mcSk_cell hR ha han hs
  obtain ⟨i1, i2, i3, i4, i5⟩ := mc_idx (mcSk_len ha hs) hx
  refine W.zald (v := mcVal b sc (mi (σ a x))) (rest := st.map (mcVal b sc)) F.1 A.2.2.2.1 hcell ((mcArrs F hW ht).1 len _) (fun q => by cases q) (by rw [arrV_size]; exact i3) (by rw [arrV_read _ _ (by rw [i2]; exact i4), i2]; show some (mcEl b sc 2 ρ σ a x.toNat) = _; unfold mcEl; rw [i5]; rfl) rfl (mc_stk2 ha) (mc_dec hc) ?_
  exact kk (hR.2.2.2.2.1 a x fun len h => by rw [hs] at h; cases h) xs p l e s0 H0 b sc dC dI tyc F s m args below meth c hW A n0 z0 H locs LS h1 h2 h3 hR hl hS
theorem mc_baload {a len : Nat} {x : Int} (hc : mcCode M pc = some (.baload, 1)) (ha : 1 ≤ a) (han : a < n) (hs : mcSk L a = some (.inl (3, len))) (hx : 0 ≤ x ∧ x < len)
    (kk : in32 (σ a x) → mcE L fr lo M (pc + 1) ls (mi (σ a x) :: st) ρ σ n z Φ) : mcE L fr lo M pc ls (mi x :: mr a :: st) ρ σ n z Φ := by
  intro xs p l e s0 H0 b sc dC dI tyc F s m args below meth c hW A n0 z0 H locs LS h1 h2 h3 hR hl hS
  obtain ⟨ht, hcell⟩ := mcSk_cell hR ha han hs
  obtain ⟨i1, i2, i3, i4, i5⟩ := mc_idx (mcSk_len ha hs) hx
  refine W.bald (v := mcVal b sc (mi (σ a x))) (rest := st.map (mcVal b sc)) F.1 A.2.2.2.1 hcell ((mcArrs F hW ht).1 len _) (fun q => by cases q) (by rw [arrV_size]; exact i3) (by rw [arrV_read _ _ (by rw [i2]; exact i4), i2]; show some (mcEl b sc 3 ρ σ a x.toNat) = _; unfold mcEl; rw [i5]; rfl) rfl (mc_stk2 ha) (mc_dec hc) ?_
  exact kk (hR.2.2.2.2.1 a x fun len h => by rw [hs] at h; cases h) xs p l e s0 H0 b sc dC dI tyc F s m args below meth c hW A n0 z0 H locs LS h1 h2 h3 hR hl hS
theorem mc_laload {a len : Nat} {x : Int} (hc : mcCode M pc = some (.laload, 1)) (ha : 1 ≤ a) (han : a < n) (hs : mcSk L a = some (.inl (1, len))) (hx : 0 ≤ x ∧ x < len)
    (kk : mcE L fr lo M (pc + 1) ls (ml (Int64.ofInt (σ a x)) :: st) ρ σ n z Φ) : mcE L fr lo M pc ls (mi x :: mr a :: st) ρ σ n z Φ := by
  intro xs p l e s0 H0 b sc dC dI tyc F s m args below meth c hW A n0 z0 H locs LS h1 h2 h3 hR hl hS
  obtain ⟨ht, hcell⟩ := mcSk_cell hR ha han hs
  obtain ⟨i1, i2, i3, i4, i5⟩ := mc_idx (mcSk_len ha hs) hx
  refine W.lald (v := mcVal b sc (ml (Int64.ofInt (σ a x)))) (rest := st.map (mcVal b sc)) F.1 A.2.2.2.1 hcell ((mcArrs F hW ht).1 len _) (fun q => by cases q) (by rw [arrV_size]; exact i3) (by rw [arrV_read _ _ (by rw [i2]; exact i4), i2]; show some (mcEl b sc 1 ρ σ a x.toNat) = _; unfold mcEl; rw [i5]; rfl) rfl (mc_stk2 ha) (mc_dec hc) ?_
  exact kk xs p l e s0 H0 b sc dC dI tyc F s m args below meth c hW A n0 z0 H locs LS h1 h2 h3 hR hl hS
theorem mc_aaload {a len t u : Nat} {x : Int} (hc : mcCode M pc = some (.aaload, 1)) (ha : 1 ≤ a) (han : a < n) (h4 : 4 ≤ t) (hs : mcSk L a = some (.inl (t, len))) (hx : 0 ≤ x ∧ x < len) (hu : ρ a x = some u)
    (kk : mcE L fr lo M (pc + 1) ls (mr u :: st) ρ σ n z Φ) : mcE L fr lo M pc ls (mi x :: mr a :: st) ρ σ n z Φ := by
  intro xs p l e s0 H0 b sc dC dI tyc F s m args below meth c hW A n0 z0 H locs LS h1 h2 h3 hR hl hS
  obtain ⟨ht, hcell⟩ := mcSk_cell hR ha han hs
  obtain ⟨i1, i2, i3, i4, i5⟩ := mc_idx (mcSk_len ha hs) hx
  refine W.aald (v := mcVal b sc (mr u)) (rest := st.map (mcVal b sc)) F.1 A.2.2.2.1 hcell ((mcArrs F hW ht).1 len _) ?_ (fun q => by cases q) (by rw [arrV_size]; exact i3) (by rw [arrV_read _ _ (by rw [i2]; exact i4), i2]; unfold mcEl; rw [i5, if_neg (by omega), if_neg (by omega), hu]; rfl) rfl (mc_stk2 ha) (mc_dec hc) ?_
  · have : t = 4 ∨ t = 5 ∨ t = 6 := by unfold mcNT at ht; omega
    rcases this with rfl | rfl | rfl <;> rfl
  · exact kk xs p l e s0 H0 b sc dC dI tyc F s m args below meth c hW A n0 z0 H locs LS h1 h2 h3 hR hl hS
theorem mc_iaload0 {x : Int} (hc : mcCode M pc = some (.iaload, 1)) (hi : in32 x) (hx : 0 ≤ x ∧ x < L)
    (kk : in32 (σ 0 x) → mcE L fr lo M (pc + 1) ls (mi (σ 0 x) :: st) ρ σ n z Φ) : mcE L fr lo M pc ls (mi x :: mr 0 :: st) ρ σ n z Φ := by
  intro xs p l e s0 H0 b sc dC dI tyc F s m args below meth c hW A n0 z0 H locs LS h1 h2 h3 hR hl hS
  obtain ⟨scr, g1, g2, g3, g4, g5⟩ := F.2.2.2.1
  have hlt : sc < b + 1 := by rw [← F.2.2.2.2.1]; exact (Array.getElem?_eq_some_iff.mp g1).1
  refine W.iald (v := mcVal b sc (mi (σ 0 x))) (rest := st.map (mcVal b sc)) F.1 A.2.2.2.1 (a := sc) (cell := scr) (by rw [hR.2.2.1 sc hlt]; exact g1) (State.isArrayOf_alike hW.alike g2) g3 (by rw [g4]; exact i32_in hi hx.1 hx.2) ?_ rfl rfl (mc_dec hc) ?_
  · rw [i32_clamp hi hx.1, g5 _ (by omega), hR.2.2.2.1 _ (by omega), show ((x.toNat : Nat) : Int) = x by omega]; rfl
  · exact kk (hR.2.2.2.2.1 0 x fun len h => by cases h) xs p l e s0 H0 b sc dC dI tyc F s m args below meth c hW A n0 z0 H locs LS h1 h2 h3 hR hl hS
theorem mc_alen {a t len : Nat} (hc : mcCode M pc = some (.arraylength, 1)) (ha : 1 ≤ a) (han : a < n) (hs : mcSk L a = some (.inl (t, len)))
    (kk : mcE L fr lo M (pc + 1) ls (mi (len : Int) :: st) ρ σ n z Φ) : mcE L fr lo M pc ls (mr a :: st) ρ σ n z Φ := by
  intro xs p l e s0 H0 b sc dC dI tyc F s m args below meth c hW A n0 z0 H locs LS h1 h2 h3 hR hl hS
  obtain ⟨ht, hcell⟩ := mcSk_cell hR ha han hs
  refine W.alen (n := Int32.ofInt (len : Int)) (rest := st.map (mcVal b sc)) F.1 A.2.2.2.1 hcell ((mcArrs F hW ht).1 len _) (by rw [arrV_size]; rfl) rfl (by rw [List.map_cons]; simp only [mcVal, mcAd_pos ha, F0]) (mc_dec hc) ?_
  exact kk xs p l e s0 H0 b sc dC dI tyc F s m args below meth c hW A n0 z0 H locs LS h1 h2 h3 hR hl hS
theorem mc_alen0 (hc : mcCode M pc = some (.arraylength, 1))
    (kk : mcE L fr lo M (pc + 1) ls (mi (L : Int) :: st) ρ σ n z Φ) : mcE L fr lo M pc ls (mr 0 :: st) ρ σ n z Φ := by
  intro xs p l e s0 H0 b sc dC dI tyc F s m args below meth c hW A n0 z0 H locs LS h1 h2 h3 hR hl hS
  obtain ⟨scr, g1, g2, g3, g4, g5⟩ := F.2.2.2.1
  have hlt : sc < b + 1 := by rw [← F.2.2.2.2.1]; exact (Array.getElem?_eq_some_iff.mp g1).1
  refine W.alen (n := Int32.ofInt (L : Int)) (rest := st.map (mcVal b sc)) F.1 A.2.2.2.1 (a := sc) (cell := scr) (by rw [hR.2.2.1 sc hlt]; exact g1) (State.isArrayOf_alike hW.alike g2) (by rw [g4]; rfl) rfl rfl (mc_dec hc) ?_
  exact kk xs p l e s0 H0 b sc dC dI tyc F s m args below meth c hW A n0 z0 H locs LS h1 h2 h3 hR hl hS
theorem mc_iastore {a len : Nat} {x : Int} {v : Int} (hc : mcCode M pc = some (.iastore, 1)) (ha : 1 ≤ a) (han : a < n) (hs : mcSk L a = some (.inl (0, len))) (hx : 0 ≤ x ∧ x < len) (hv : in32 v)
    (kk : mcE L fr lo M (pc + 1) ls st ρ (upc σ a (upi (σ a) x v)) n z Φ) : mcE L fr lo M pc ls (mi v :: mi x :: mr a :: st) ρ σ n z Φ := by
  intro xs p l e s0 H0 b sc dC dI tyc F s m args below meth c hW A n0 z0 H locs LS h1 h2 h3 hR hl hS
  obtain ⟨ht, hcell⟩ := mcSk_cell hR ha han hs
  obtain ⟨i1, i2, i3, i4, i5⟩ := mc_idx (mcSk_len ha hs) hx
  refine W.iast (rest := st.map (mcVal b sc)) F.1 A.2.2.2.1 hcell ((mcArrs F hW ht).1 len _) (fun q => by cases q) (by rw [arrV_size]; exact i3) rfl (congrArg (List.cons _) (mc_stk2 ha)) (mc_dec hc) fun H1 e1 e2 e3 => ?_
  refine kk xs p l e s0 H0 b sc dC dI tyc F s m args below meth c hW A n0 z0 H1 _ LS h1 h2 ?_ ?_ hl hS
  · intro q hq
    rcases List.mem_append.mp hq with hq | hq
    · exact h3 q hq
    · rw [List.mem_singleton.mp hq]; show b + 1 ≤ b + a; omega
  · refine hR.up ha han hs e2 e3 (fun _ _ => rfl) (fun k hk => upc_ne _ _ hk) (hR.2.2.2.2.1.upi fun hq => hv) fun sh hsh => ?_
    cases hs.symm.trans hsh
    refine ⟨ht, e1.trans ?_⟩
    rw [arrV_store, i2]
    congr 2
    funext j
    unfold updV
    by_cases ej : j = x.toNat
    · subst ej
      rw [if_pos rfl]
      unfold mcEl
      rw [upc_self, i5, upi_self]
      rfl
    · rw [if_neg ej]
      unfold mcEl
      rw [upc_self, upi_ne _ _ (by omega)]
theorem mc_zastore {a len : Nat} {x : Int} {v : Int} (hc : mcCode M pc = some (.bastore, 1)) (ha : 1 ≤ a) (han : a < n) (hs : mcSk L a = some (.inl (2, len))) (hx : 0 ≤ x ∧ x < len) (hv : v = 0 ∨ v = 1)
    (kk : mcE L fr lo M (pc + 1) ls st ρ (upc σ a (upi (σ a) x v)) n z Φ) : mcE L fr lo M pc ls (mi v :: mi x :: mr a :: st) ρ σ n z Φ := by
  intro xs p l e s0 H0 b sc dC dI tyc F s m args below meth c hW A n0 z0 H locs LS h1 h2 h3 hR hl hS
  obtain ⟨ht, hcell⟩ := mcSk_cell hR ha han hs
  obtain ⟨i1, i2, i3, i4, i5⟩ := mc_idx (mcSk_len ha hs) hx
  refine W.zast (rest := st.map (mcVal b sc)) F.1 A.2.2.2.1 hcell ((mcArrs F hW ht).1 len _) (fun q => by cases q) (by rw [arrV_size]; exact i3) rfl (congrArg (List.cons _) (mc_stk2 ha)) (mc_dec hc) fun H1 e1 e2 e3 => ?_
  refine kk xs p l e s0 H0 b sc dC dI tyc F s m args below meth c hW A n0 z0 H1 _ LS h1 h2 ?_ ?_ hl hS
  · intro q hq
    rcases List.mem_append.mp hq with hq | hq
    · exact h3 q hq
    · rw [List.mem_singleton.mp hq]; show b + 1 ≤ b + a; omega
  · refine hR.up ha han hs e2 e3 (fun _ _ => rfl) (fun k hk => upc_ne _ _ hk) (hR.2.2.2.2.1.upi fun hq => by rcases hv with rfl | rfl <;> (unfold in32; omega)) fun sh hsh => ?_
    cases hs.symm.trans hsh
    refine ⟨ht, e1.trans ?_⟩
    rw [arrV_store, i2]
    congr 2
    funext j
    unfold updV
    by_cases ej : j = x.toNat
    · subst ej
      rw [if_pos rfl]
      unfold mcEl
      rw [upc_self, i5, upi_self]
      exact mc_narrow_z hv
    · rw [if_neg ej]
      unfold mcEl
      rw [upc_self, upi_ne _ _ (by omega)]
theorem mc_bastore {a len : Nat} {x : Int} {v : Int} (hc : mcCode M pc = some (.bastore, 1)) (ha : 1 ≤ a) (han : a < n) (hs : mcSk L a = some (.inl (3, len))) (hx : 0 ≤ x ∧ x < len) (hv : -128 ≤ v ∧ v < 128)
    (kk : mcE L fr lo M (pc + 1) ls st ρ (upc σ a (upi (σ a) x v)) n z Φ) : mcE L fr lo M pc ls (mi v :: mi x :: mr a :: st) ρ σ n z Φ := by
  intro xs p l e s0 H0 b sc dC dI tyc F s m args below meth c hW A n0 z0 H locs LS h1 h2 h3 hR hl hS
  obtain ⟨ht, hcell⟩ := mcSk_cell hR ha han hs
  obtain ⟨i1, i2, i3, i4, i5⟩ := mc_idx (mcSk_len ha hs) hx
  refine W.bast (rest := st.map (mcVal b sc)) F.1 A.2.2.2.1 hcell ((mcArrs F hW ht).1 len _) (fun q => by cases q) (by rw [arrV_size]; exact i3) rfl (congrArg (List.cons _) (mc_stk2 ha)) (mc_dec hc) fun H1 e1 e2 e3 => ?_
  refine kk xs p l e s0 H0 b sc dC dI tyc F s m args below meth c hW A n0 z0 H1 _ LS h1 h2 ?_ ?_ hl hS
  · intro q hq
    rcases List.mem_append.mp hq with hq | hq
    · exact h3 q hq
    · rw [List.mem_singleton.mp hq]; show b + 1 ≤ b + a; omega
  · refine hR.up ha han hs e2 e3 (fun _ _ => rfl) (fun k hk => upc_ne _ _ hk) (hR.2.2.2.2.1.upi fun hq => by unfold in32; omega) fun sh hsh => ?_
    cases hs.symm.trans hsh
    refine ⟨ht, e1.trans ?_⟩
    rw [arrV_store, i2]
    congr 2
    funext j
    unfold updV
    by_cases ej : j = x.toNat
    · subst ej
      rw [if_pos rfl]
      unfold mcEl
      rw [upc_self, i5, upi_self]
      exact congrArg Value.int (mc_i8 hv)
    · rw [if_neg ej]
      unfold mcEl
      rw [upc_self, upi_ne _ _ (by omega)]
theorem mc_lastore {a len : Nat} {x : Int} {v : Int64} (hc : mcCode M pc = some (.lastore, 1)) (ha : 1 ≤ a) (han : a < n) (hs : mcSk L a = some (.inl (1, len))) (hx : 0 ≤ x ∧ x < len) 
    (kk : mcE L fr lo M (pc + 1) ls st ρ (upc σ a (upi (σ a) x v.toInt)) n z Φ) : mcE L fr lo M pc ls (ml v :: mi x :: mr a :: st) ρ σ n z Φ := by
  intro xs p l e s0 H0 b sc dC dI tyc F s m args below meth c hW A n0 z0 H locs LS h1 h2 h3 hR hl hS
  obtain ⟨ht, hcell⟩ := mcSk_cell hR ha han hs
  obtain ⟨i1, i2, i3, i4, i5⟩ := mc_idx (mcSk_len ha hs) hx
  refine W.last (rest := st.map (mcVal b sc)) F.1 A.2.2.2.1 hcell ((mcArrs F hW ht).1 len _) (fun q => by cases q) (by rw [arrV_size]; exact i3) rfl (congrArg (List.cons _) (mc_stk2 ha)) (mc_dec hc) fun H1 e1 e2 e3 => ?_
  refine kk xs p l e s0 H0 b sc dC dI tyc F s m args below meth c hW A n0 z0 H1 _ LS h1 h2 ?_ ?_ hl hS
  · intro q hq
    rcases List.mem_append.mp hq with hq | hq
    · exact h3 q hq
    · rw [List.mem_singleton.mp hq]; show b + 1 ≤ b + a; omega
  · refine hR.up ha han hs e2 e3 (fun _ _ => rfl) (fun k hk => upc_ne _ _ hk) (hR.2.2.2.2.1.upi fun hq => absurd hs (hq len)) fun sh hsh => ?_
    cases hs.symm.trans hsh
    refine ⟨ht, e1.trans ?_⟩
    rw [arrV_store, i2]
    congr 2
    funext j
    unfold updV
    by_cases ej : j = x.toNat
    · subst ej
      rw [if_pos rfl]
      unfold mcEl
      rw [upc_self, i5, upi_self]
      simp
    · rw [if_neg ej]
      unfold mcEl
      rw [upc_self, upi_ne _ _ (by omega)]
theorem mc_aastore {a len t u ci : Nat} {x : Int} {r : vw_C} (hc : mcCode M pc = some (.aastore, 1)) (ha : 1 ≤ a) (han : a < n) (h4 : 4 ≤ t) (hs : mcSk L a = some (.inl (t, len))) (hx : 0 ≤ x ∧ x < len) (hu : 1 ≤ u) (hun : u < n) (hsu : mcSk L u = some (.inr ci)) (hr : mcCl[ci]? = some r) (hty : mcTy t = .object r.1)
    (kk : mcE L fr lo M (pc + 1) ls st (upc ρ a (upi (ρ a) x (some u))) σ n z Φ) : mcE L fr lo M pc ls (mr u :: mi x :: mr a :: st) ρ σ n z Φ := by
  intro xs p l e s0 H0 b sc dC dI tyc F s m args below meth c hW A n0 z0 H locs LS h1 h2 h3 hR hl hS
  obtain ⟨ht, hcell⟩ := mcSk_cell hR ha han hs
  obtain ⟨i1, i2, i3, i4, i5⟩ := mc_idx (mcSk_len ha hs) hx
  obtain ⟨r', kd', hr', -, -, cellV, g1, g2, g3, -⟩ := hR.2.2.2.2.2.2.2 u _ hu hun hsu
  have hcls := ((mcKnow F hW).1 ci r hr).2
  have hRA := (mcArrs F hW ht).2
  rw [hty] at hRA
  obtain ⟨kA, comp, k1, k2, k3, -⟩ := hRA
  have hcomp : comp = dC ci := Option.some.inj (k3.symm.trans hcls.1)
  subst hcomp
  obtain ⟨kC, hkC, -⟩ := hcls.2
  refine W.aast (rest := st.map (mcVal b sc)) F.1 A.2.2.2.1 hcell (fun q h => by cases h) (fun h => by cases h) k1 k2 rfl hkC ⟨fun q => i3 (Or.inl q), by rw [arrV_size, i2]; exact i4⟩ g1 (fun q h => by rw [g3] at h; cases h) (by rw [g2]; exact hkC) (by rw [g2]; exact va_assign hcls) rfl (by rw [List.map_cons, mc_stk2 ha]; simp only [mcVal, mcAd_pos hu, F0]) (mc_dec hc) fun H1 e1 e2 e3 => ?_
  refine kk xs p l e s0 H0 b sc dC dI tyc F s m args below meth c hW A n0 z0 H1 _ LS h1 h2 ?_ ?_ hl hS
  · intro q hq
    rcases List.mem_append.mp hq with hq | hq
    · exact h3 q hq
    · rw [List.mem_singleton.mp hq]; show b + 1 ≤ b + a; omega
  · refine hR.up ha han hs e2 e3 (fun k hk => upc_ne _ _ hk) (fun _ _ => rfl) hR.2.2.2.2.1 fun sh hsh => ?_
    cases hs.symm.trans hsh
    refine ⟨ht, e1.trans ?_⟩
    rw [arrV_store, i2]
    congr 2
    funext j
    unfold updV
    by_cases ej : j = x.toNat
    · subst ej
      rw [if_pos rfl]
      unfold mcEl
      rw [upc_self, i5, upi_self, if_neg (by omega), if_neg (by omega)]
      simp only [Option.map_some, mcAd_pos hu]; rfl
    · rw [if_neg ej]
      unfold mcEl
      rw [upc_self, upi_ne _ _ (by omega)]
/-- what 'new' needs of the tables -/
def mcNw (M : mcM) (idx ci N : Nat) : Prop := ∃ (C : String) (T : u_T) (kd : List Nat), mcCl[ci]? = some (C, T, N) ∧ mcKd[ci]? = some kd ∧ Cond.classLink M.1.cls idx C ∈ lw_tbl ∧ Cond.instantiable C N ∈ lw_tbl ∧ Cond.initialized C ∈ lw_tbl
theorem mc_new {idx ci N : Nat} (hc : mcCode M pc = some (.new idx, 3)) (hf : mcNw M idx ci N) (hs : mcSk L n = some (.inr ci)) (hn : n + 1 ≤ 601025) (hz : z + N ≤ 7293034)
    (kk : mcE L fr lo M (pc + 3) ls (mr n :: st) ρ σ (n + 1) (z + N) Φ) : mcE L fr lo M pc ls st ρ σ n z Φ := by
  intro xs p l e s0 H0 b sc dC dI tyc F s m args below meth c hW A n0 z0 H locs LS h1 h2 h3 hR hl hS
  obtain ⟨C, T, kd, hcl, hkd, w1, w2, w3⟩ := hf
  have hts := mcWords F hW hS args
  have hKn := (mcKnow F hW).1 ci _ hcl
  obtain ⟨hin, hkl, hty, -⟩ := mc_cls hcl hkd
  refine W.newcK F.1 A.2.2.2.1 A.2.2.2.2.2.2.2.2 (hts _ w1) (hts _ w2) (hts _ w3) rfl (mc_dec hc) (by show n - n0 + 1 ≤ 601025 - n0; omega) (by show z - z0 + N ≤ 7293034 - z0; omega) hKn.2.1 hR.2.1 fun H1 kC hkC e1 z1 o1 => ?_
  have hn1 : 1 ≤ n := hR.1.1
  have k := kk xs p l e s0 H0 b sc dC dI tyc F s m args below meth c hW A n0 z0 H1 locs LS (by omega) (by omega) h3 (hR.push hn hz (by rw [z1, hR.2.1]) (by rw [hR.2.1]; exact o1) (fun cell hq => by cases e1.symm.trans hq; rfl) fun sh hsh => ?_) hl hS
  · rw [show n + 1 - n0 = n - n0 + 1 by omega, show z + N - z0 = z - z0 + N by omega, List.map_cons] at k
    simp only [mcVal, mcAd_pos hn1] at k
    exact k
  · cases hs.symm.trans hsh
    refine ⟨(C, T, N), kd, hcl, hkd, hkl, (u_born (mcFty T) hts hin hKn hkC e1 (fun k hk => (hty k hk).2.1)).to fun k hk => ?_⟩
    have hko := (hty k hk).2.2
    unfold mcFv
    rw [(hR.2.2.2.2.2.1 n (Nat.le_refl _) k).1, (hR.2.2.2.2.2.1 n (Nat.le_refl _) k).2]
    generalize mcFty T k = ty at hko ⊢
    generalize kd.getD k 0 = q at hko ⊢
    cases ty <;> simp [mcKdOk] at hko <;> subst hko <;> rfl
theorem mc_newarray {at' : ArrayType} {t len : Nat} {x : Int} (hc : mcCode M pc = some (.newarray at', 2)) (h4 : t < 4) (hty : newarray.typeOf at' = mcTy t) (hw : Cond.arrayClass (mcTy t) ∈ lw_tbl) (hx : x = (len : Int)) (hs : mcSk L n = some (.inl (t, len))) (hn : n + 1 ≤ 601025) (hz : z + len ≤ 7293034)
    (kk : mcE L fr lo M (pc + 2) ls (mr n :: st) ρ σ (n + 1) (z + len) Φ) : mcE L fr lo M pc ls (mi x :: st) ρ σ n z Φ := by
  intro xs p l e s0 H0 b sc dC dI tyc F s m args below meth c hW A n0 z0 H locs LS h1 h2 h3 hR hl hS
  subst hx
  have hts := mcWords F hW hS args
  have hn1 : 1 ≤ n := hR.1.1
  have hlen := mcSk_len hn1 hs
  have h4' : t < mcNT := by unfold mcNT; omega
  have hi : in32 (len : Int) := by unfold in32; omega
  have hcl : (Int32.ofInt (len : Int)).toNatClampNeg = len := by rw [i32_clamp hi (by omega)]; omega
  have hcb : componentBytes (newarray.typeOf at') ≤ 8 := by cases at' <;> decide
  refine va_newaK (rest := st.map (mcVal b sc)) F.1 A.2.2.2.1 (by rw [hty]; exact hts _ hw) rfl (mc_dec hc) rfl (by rw [i32_zero, i32_lt hi in32_0]; omega) hcl (by
    have := Nat.mul_le_mul hlen hcb; omega) (by show n - n0 + 1 ≤ 601025 - n0; omega) (by show z - z0 + len ≤ 7293034 - z0; omega) hR.2.1 fun H1 cA e1 z1 o1 hAr hNm => ?_
  have k := kk xs p l e s0 H0 b sc dC dI tyc F s m args below meth c hW A n0 z0 H1 locs LS (by omega) (by omega) h3 (hR.push hn hz (by rw [z1, hR.2.1]) (by rw [hR.2.1]; exact o1) (fun cell hq => by cases e1.symm.trans hq; rfl) fun sh hsh => ?_) hl hS
  · rw [show n + 1 - n0 = n - n0 + 1 by omega, show z + len - z0 = z - z0 + len by omega, List.map_cons] at k
    simp only [mcVal, mcAd_pos hn1] at k
    exact k
  · cases hs.symm.trans hsh
    have hRA := (mcArrs F hW h4').2
    have hcA : cA = tyc t := by
      rw [hty] at hNm
      have : t = 0 ∨ t = 1 ∨ t = 2 ∨ t = 3 := by omega
      rcases this with rfl | rfl | rfl | rfl <;> exact Option.some.inj (hNm.symm.trans hRA)
    refine ⟨h4', e1.trans ?_⟩
    rw [hcA, hty]
    congr 2
    funext j
    unfold mcEl
    rw [(hR.2.2.2.2.2.1 n (Nat.le_refl _) j).1]
    have : t = 0 ∨ t = 1 ∨ t = 2 ∨ t = 3 := by omega
    rcases this with rfl | rfl | rfl | rfl <;> rfl
theorem mc_anewarray {idx t len : Nat} {C : String} {x : Int} (hc : mcCode M pc = some (.anewarray idx, 3)) (h4 : 4 ≤ t) (hty : mcTy t = .object C) (hw : Cond.classLink M.1.cls idx C ∈ lw_tbl) (hw2 : Cond.arrayOver (.object C) ∈ lw_tbl) (hx : x = (len : Int)) (hs : mcSk L n = some (.inl (t, len))) (htn : t < mcNT) (hn : n + 1 ≤ 601025) (hz : z + len ≤ 7293034)
    (kk : mcE L fr lo M (pc + 3) ls (mr n :: st) ρ σ (n + 1) (z + len) Φ) : mcE L fr lo M pc ls (mi x :: st) ρ σ n z Φ := by
  intro xs p l e s0 H0 b sc dC dI tyc F s m args below meth c hW A n0 z0 H locs LS h1 h2 h3 hR hl hS
  subst hx
  have hts := mcWords F hW hS args
  have hn1 : 1 ≤ n := hR.1.1
  have hlen := mcSk_len hn1 hs
  have hi : in32 (len : Int) := by unfold in32; omega
  have hcl : (Int32.ofInt (len : Int)).toNatClampNeg = len := by rw [i32_clamp hi (by omega)]; omega
  refine W.anew (rest := st.map (mcVal b sc)) (n := Int32.ofInt (len : Int)) F.1 A.2.2.2.1 A.2.2.2.2.2.2.2.2 (hts _ hw) (hts _ hw2) rfl (mc_dec hc) rfl (by rw [i32_zero, i32_lt hi in32_0]; omega) (by rw [hcl]; omega) (by show n - n0 + 1 ≤ 601025 - n0; omega) (by show z - z0 + _ ≤ 7293034 - z0; rw [hcl]; omega) fun cA kA comp f1 f2 f3 f4 => ?_
  rw [hcl]
  have k := kk xs p l e s0 H0 b sc dC dI tyc F s m args below meth c hW A n0 z0 (H.push { cls := cA, slots := Array.replicate len .null, vm := .none }) locs LS (by omega) (by omega) h3 (hR.push hn hz (by rw [Array.size_push]) (fun q hq => by rw [Array.getElem?_push, if_neg (Nat.ne_of_lt hq)]) (fun cell hq => by rw [← hR.2.1, Array.getElem?_push_size] at hq; cases hq; rfl) fun sh hsh => ?_) hl hS
  · rw [show n + 1 - n0 = n - n0 + 1 by omega, show z + len - z0 = z - z0 + len by omega, List.map_cons] at k
    simp only [mcVal, mcAd_pos hn1] at k
    rw [hR.2.1]
    exact k
  · cases hs.symm.trans hsh
    have hRA := (mcArrs F hW htn).2
    rw [hty] at hRA
    obtain ⟨kA', comp', k1, k2, k3, k4⟩ := hRA
    have hcA : cA = tyc t := Option.some.inj (f1.symm.trans k4)
    refine ⟨htn, ?_⟩
    rw [← hR.2.1, Array.getElem?_push_size, arrV_new, hcA]
    congr 2
    funext j
    unfold mcEl
    rw [if_neg (by omega), if_neg (by omega), (hR.2.2.2.2.2.1 n (Nat.le_refl _) j).2]
    rfl
theorem mc_objInit {idx a : Nat} (hc : mcCode M pc = some (.invokespecial idx, 3)) (w1 : Cond.methodLink M.1.cls idx Lib.objectInit ∈ lw_tbl) (w2 : Cond.instanceMethod Lib.objectInit ∈ lw_tbl) (w3 : Cond.code Lib.objectInit ⟨#[0xb1]⟩ 1 none ∈ lw_tbl) (hfr : 1 ≤ fr) (hlo : mcCats st + 12 ≤ lo)
    (kk : mcE L fr lo M (pc + 3) ls st ρ σ n z Φ) : mcE L fr lo M pc ls (mr a :: st) ρ σ n z Φ := by
  intro xs p l e s0 H0 b sc dC dI tyc F s m args below meth c hW A n0 z0 H locs LS h1 h2 h3 hR hl hS
  have hts := mcWords F hW hS args
  refine W.objInit (rest := st.map (mcVal b sc)) F.1 A.2.2.2.1 A.2.2.2.2.2.2.2.2 (hts _ w1) (hts _ w2) (hts _ w3) rfl (by show LS.size = _; rw [hl.1, A.2.2.2.2.1]) rfl (mc_dec hc) hfr ?_ (kk xs p l e s0 H0 b sc dC dI tyc F s m args below meth c hW A n0 z0 H locs LS h1 h2 h3 hR hl hS)
  have hcat : ((st.map (mcVal b sc)).map fun v => v.category).sum = mcCats st := by
    unfold mcCats
    rw [List.map_map]; congr 1; apply List.map_congr_left; intro v _; exact mcVal_cat b sc v
  show 2 * 0 + _ + 12 ≤ lo
  rw [hcat]; omega
end MCa
