/-! 71.law: the law from its entry -/
theorem jT_rho : tb jT203 = mcRho := by
  rw [show jT203 = mcRhoL by decide +kernel]
  exact tb_rho
theorem law_all {L fr lo : Nat} {σ : mG} {Φ : mcPost} (hL : L ≤ 4096) (hfr : 10 ≤ fr) (hlo : 400 ≤ lo) (hz : ∀ k : Nat, 1 ≤ k → ∀ i, σ k i = 0) (hT : ∀ ρ σ n z, Φ (.inl (some (mi 1))) ρ σ n z) :
    mcE L fr lo M_Law_law 0 [some (mr 0), none, none, none, none, none, none] [] (tb jT0) σ 1 0 Φ := by
  have fin : mcE L fr lo M_Law_law 23 [some (mr 0), some (mr 1), some (mr 186), some (mr 203), some (mi 0), none, none] [] (tb jT203) (jS28 σ) 204 42893 Φ := by
    rw [jT_rho]
    have w := lw_loop (L := L) (d := 10) (Φ := fun o σ n z => Φ o mcRho σ n z) hL (by omega) (fun σ n z => hT mcRho σ n z) (L / 8) 0 (jS28 σ) 204 42893 (by omega) (by omega) (by omega) (init_all hz) (by omega) (by omega)
    have w2 := w fr lo (by omega) (by omega) (by omega)
    exact mc_conseq (fun o ρ σ n z q => by obtain ⟨rfl, _, q⟩ := q; exact q) w2
  show mcE L fr lo M_Law_law 0 [some (mr 0), none, none, none, none, none, none] [] (tb jT0) (jS0 σ) 1 0 Φ
  refine mc_new (idx := 8) (ci := 9) (N := 3) (by decide +kernel) ⟨_, _, _, rfl, rfl, (List.mem_of_getElem? (i := 71) (by decide +kernel)), (List.mem_of_getElem? (i := 72) (by decide +kernel)), (List.mem_of_getElem? (i := 52) (by decide +kernel))⟩ rfl (by decide) (by decide) ?_
  refine mc_dup (by decide +kernel) rfl ?_
  show mcE L fr lo M_Law_law 4 [some (mr 0), none, none, none, none, none, none] [mr 1, mr 1] (tb jT0) (jS0 σ) 2 3 Φ
  refine mc_init (M' := M_Srv_init) (fr' := fr - 1) (lo' := lo - 40) (idx := 58) (a := 1) (vs := []) (by decide +kernel) (List.mem_of_getElem? (i := 73) (by decide +kernel)) (List.mem_of_getElem? (i := 74) (by decide +kernel)) (List.mem_of_getElem? (i := 75) (by decide +kernel)) rfl (mcCdB_spec (wi := 52) (wc := 75) (by decide +kernel)) (Or.inl rfl) (mcArB_spec (by decide +kernel)) (by decide) (by omega) (show 1 + (2 + 11) + (lo - 40) ≤ lo by omega) (by decide) ?_
  refine iv_62 (by omega) (by omega) ?_
  show mcE L fr lo M_Law_law 7 [some (mr 0), none, none, none, none, none, none] [mr 1] (tb jT187) (jS22 σ) 186 13786 Φ
  refine mc_astore_n (j := 1) (by decide +kernel) (by decide) ?_
  show mcE L fr lo M_Law_law 8 [some (mr 0), some (mr 1), none, none, none, none, none] [] (tb jT187) (jS22 σ) 186 13786 Φ
  refine mc_new (idx := 59) (ci := 10) (N := 26) (by decide +kernel) ⟨_, _, _, rfl, rfl, (List.mem_of_getElem? (i := 915) (by decide +kernel)), (List.mem_of_getElem? (i := 916) (by decide +kernel)), (List.mem_of_getElem? (i := 63) (by decide +kernel))⟩ rfl (by decide) (by decide) ?_
  refine mc_dup (by decide +kernel) rfl ?_
  show mcE L fr lo M_Law_law 12 [some (mr 0), some (mr 1), none, none, none, none, none] [mr 186, mr 186] (tb jT187) (jS22 σ) 187 13812 Φ
  refine mc_init (M' := M_Mod_init) (fr' := fr - 1) (lo' := lo - 40) (idx := 61) (a := 186) (vs := []) (by decide +kernel) (List.mem_of_getElem? (i := 917) (by decide +kernel)) (List.mem_of_getElem? (i := 918) (by decide +kernel)) (List.mem_of_getElem? (i := 919) (by decide +kernel)) rfl (mcCdB_spec (wi := 63) (wc := 919) (by decide +kernel)) (Or.inl rfl) (mcArB_spec (by decide +kernel)) (by decide) (by omega) (show 1 + (2 + 11) + (lo - 40) ≤ lo by omega) (by decide) ?_
  refine mo_all (by omega) (by omega) ?_
  show mcE L fr lo M_Law_law 15 [some (mr 0), some (mr 1), none, none, none, none, none] [mr 186] (tb jT203) (jS28 σ) 203 42892 Φ
  refine mc_astore_n (j := 2) (by decide +kernel) (by decide) ?_
  refine mc_iconst (i := 1) (by decide +kernel) ?_
  refine mc_newarray (at' := .long) (t := 1) (len := 1) (by decide +kernel) (by decide) rfl (List.mem_of_getElem? (i := 194) (by decide +kernel)) rfl rfl (by decide) (by decide) ?_
  refine mc_astore_n (j := 3) (by decide +kernel) (by decide) ?_
  refine mc_iconst (i := 0) (by decide +kernel) ?_
  refine mc_istore (i := 4) (by decide +kernel) (by decide) ?_
  exact fin
