/-! 68.ctor: printed by wip/whole/prog/ctor.py: the class's constructors at their places -/
def finOk (ci k : Nat) (cls : String) : Bool := match mcCl[ci]? with
  | some r => (r.2.1 k).2.2.2 && decide (r.1 = cls)
  | none => false
theorem finOk_spec {ci k : Nat} {cls : String} (h : finOk ci k cls = true) : ∀ C T N, mcCl[ci]? = some (C, T, N) → (T k).2.2.2 = true ∧ C = cls := by
  intro C T N e
  unfold finOk at h
  rw [e] at h
  simpa using h
def jT0 : List (List Nat) := mcRhoL.map fun r => r.map fun _ => 0
def jS0 (σ : mG) : mG := σ
def jT1 : List (List Nat) := tst jT0 0 0 2
def jT2 : List (List Nat) := tst jT1 2 0 4
def jT3 : List (List Nat) := tst jT2 2 1 5
def jT4 : List (List Nat) := tst jT3 2 2 6
def jT5 : List (List Nat) := tst jT4 2 3 7
def jT6 : List (List Nat) := tst jT5 2 4 8
def jT7 : List (List Nat) := tst jT6 2 5 9
theorem iv_1 {L fr lo : Nat} {σ : mG} {Φ : mcPost} (hfr : 1 ≤ fr) (hlo : 40 ≤ lo) (k : Φ (.inl none) (tb jT7) (jS0 σ) 10 7514) : mcE L fr lo M_Post_init 0 (mcEnt M_Post_init.2.2.1 [mr 3]) [] (tb jT1) (jS0 σ) 4 14 Φ := by
  show mcE L fr lo M_Post_init 0 [some (mr 3)] [] (tb jT1) (jS0 σ) 4 14 Φ
  refine mc_aload_n (j := 0) (by decide +kernel) rfl ?_
  show mcE L fr lo M_Post_init 1 [some (mr 3)] [mr 3] (tb jT1) (jS0 σ) 4 14 Φ
  refine mc_objInit (idx := 3) (by decide +kernel) (List.mem_of_getElem? (i := 86) (by decide +kernel)) (List.mem_of_getElem? (i := 77) (by decide +kernel)) (List.mem_of_getElem? (i := 78) (by decide +kernel)) (by omega) (show 0 + 12 ≤ lo by omega) ?_
  show mcE L fr lo M_Post_init 4 [some (mr 3)] [] (tb jT1) (jS0 σ) 4 14 Φ
  refine mc_aload_n (j := 0) (by decide +kernel) rfl ?_
  show mcE L fr lo M_Post_init 5 [some (mr 3)] [mr 3] (tb jT1) (jS0 σ) 4 14 Φ
  refine mc_sipush (i := 300) (by decide +kernel) (by decide) ?_
  show mcE L fr lo M_Post_init 8 [some (mr 3)] [mi 300, mr 3] (tb jT1) (jS0 σ) 4 14 Φ
  refine mc_newarray (at' := .int) (t := 0) (len := 300) (by decide +kernel) (by decide) rfl (List.mem_of_getElem? (i := 120) (by decide +kernel)) rfl rfl (by decide) (by decide) ?_
  show mcE L fr lo M_Post_init 10 [some (mr 3)] [mr 4, mr 3] (tb jT1) (jS0 σ) 5 314 Φ
  refine mc_putR (idx := 9) (ci := 0) (k := 0) (by decide +kernel) ⟨mcFdB_spec (w := 87) (by decide +kernel), rfl, finOk_spec (by decide +kernel)⟩ (by decide) (by decide) rfl ?_
  rw [show upc (tb jT1) 3 (upi (tb jT1 3) ((0 : Nat) : Int) (some 4)) = tb jT2 from tb_put (a := 2) (k := 0) (t := 3) (by decide +kernel) (by decide +kernel)]
  show mcE L fr lo M_Post_init 13 [some (mr 3)] [] (tb jT2) (jS0 σ) 5 314 Φ
  refine mc_aload_n (j := 0) (by decide +kernel) rfl ?_
  show mcE L fr lo M_Post_init 14 [some (mr 3)] [mr 3] (tb jT2) (jS0 σ) 5 314 Φ
  refine mc_sipush (i := 300) (by decide +kernel) (by decide) ?_
  show mcE L fr lo M_Post_init 17 [some (mr 3)] [mi 300, mr 3] (tb jT2) (jS0 σ) 5 314 Φ
  refine mc_newarray (at' := .int) (t := 0) (len := 300) (by decide +kernel) (by decide) rfl (List.mem_of_getElem? (i := 120) (by decide +kernel)) rfl rfl (by decide) (by decide) ?_
  show mcE L fr lo M_Post_init 19 [some (mr 3)] [mr 5, mr 3] (tb jT2) (jS0 σ) 6 614 Φ
  refine mc_putR (idx := 15) (ci := 0) (k := 1) (by decide +kernel) ⟨mcFdB_spec (w := 90) (by decide +kernel), rfl, finOk_spec (by decide +kernel)⟩ (by decide) (by decide) rfl ?_
  rw [show upc (tb jT2) 3 (upi (tb jT2 3) ((1 : Nat) : Int) (some 5)) = tb jT3 from tb_put (a := 2) (k := 1) (t := 4) (by decide +kernel) (by decide +kernel)]
  show mcE L fr lo M_Post_init 22 [some (mr 3)] [] (tb jT3) (jS0 σ) 6 614 Φ
  refine mc_aload_n (j := 0) (by decide +kernel) rfl ?_
  show mcE L fr lo M_Post_init 23 [some (mr 3)] [mr 3] (tb jT3) (jS0 σ) 6 614 Φ
  refine mc_sipush (i := 300) (by decide +kernel) (by decide) ?_
  show mcE L fr lo M_Post_init 26 [some (mr 3)] [mi 300, mr 3] (tb jT3) (jS0 σ) 6 614 Φ
  refine mc_newarray (at' := .int) (t := 0) (len := 300) (by decide +kernel) (by decide) rfl (List.mem_of_getElem? (i := 120) (by decide +kernel)) rfl rfl (by decide) (by decide) ?_
  show mcE L fr lo M_Post_init 28 [some (mr 3)] [mr 6, mr 3] (tb jT3) (jS0 σ) 7 914 Φ
  refine mc_putR (idx := 18) (ci := 0) (k := 2) (by decide +kernel) ⟨mcFdB_spec (w := 93) (by decide +kernel), rfl, finOk_spec (by decide +kernel)⟩ (by decide) (by decide) rfl ?_
  rw [show upc (tb jT3) 3 (upi (tb jT3 3) ((2 : Nat) : Int) (some 6)) = tb jT4 from tb_put (a := 2) (k := 2) (t := 5) (by decide +kernel) (by decide +kernel)]
  show mcE L fr lo M_Post_init 31 [some (mr 3)] [] (tb jT4) (jS0 σ) 7 914 Φ
  refine mc_aload_n (j := 0) (by decide +kernel) rfl ?_
  show mcE L fr lo M_Post_init 32 [some (mr 3)] [mr 3] (tb jT4) (jS0 σ) 7 914 Φ
  refine mc_sipush (i := 300) (by decide +kernel) (by decide) ?_
  show mcE L fr lo M_Post_init 35 [some (mr 3)] [mi 300, mr 3] (tb jT4) (jS0 σ) 7 914 Φ
  refine mc_newarray (at' := .int) (t := 0) (len := 300) (by decide +kernel) (by decide) rfl (List.mem_of_getElem? (i := 120) (by decide +kernel)) rfl rfl (by decide) (by decide) ?_
  show mcE L fr lo M_Post_init 37 [some (mr 3)] [mr 7, mr 3] (tb jT4) (jS0 σ) 8 1214 Φ
  refine mc_putR (idx := 21) (ci := 0) (k := 3) (by decide +kernel) ⟨mcFdB_spec (w := 96) (by decide +kernel), rfl, finOk_spec (by decide +kernel)⟩ (by decide) (by decide) rfl ?_
  rw [show upc (tb jT4) 3 (upi (tb jT4 3) ((3 : Nat) : Int) (some 7)) = tb jT5 from tb_put (a := 2) (k := 3) (t := 6) (by decide +kernel) (by decide +kernel)]
  show mcE L fr lo M_Post_init 40 [some (mr 3)] [] (tb jT5) (jS0 σ) 8 1214 Φ
  refine mc_aload_n (j := 0) (by decide +kernel) rfl ?_
  show mcE L fr lo M_Post_init 41 [some (mr 3)] [mr 3] (tb jT5) (jS0 σ) 8 1214 Φ
  refine mc_sipush (i := 300) (by decide +kernel) (by decide) ?_
  show mcE L fr lo M_Post_init 44 [some (mr 3)] [mi 300, mr 3] (tb jT5) (jS0 σ) 8 1214 Φ
  refine mc_newarray (at' := .int) (t := 0) (len := 300) (by decide +kernel) (by decide) rfl (List.mem_of_getElem? (i := 120) (by decide +kernel)) rfl rfl (by decide) (by decide) ?_
  show mcE L fr lo M_Post_init 46 [some (mr 3)] [mr 8, mr 3] (tb jT5) (jS0 σ) 9 1514 Φ
  refine mc_putR (idx := 24) (ci := 0) (k := 4) (by decide +kernel) ⟨mcFdB_spec (w := 99) (by decide +kernel), rfl, finOk_spec (by decide +kernel)⟩ (by decide) (by decide) rfl ?_
  rw [show upc (tb jT5) 3 (upi (tb jT5 3) ((4 : Nat) : Int) (some 8)) = tb jT6 from tb_put (a := 2) (k := 4) (t := 7) (by decide +kernel) (by decide +kernel)]
  show mcE L fr lo M_Post_init 49 [some (mr 3)] [] (tb jT6) (jS0 σ) 9 1514 Φ
  refine mc_aload_n (j := 0) (by decide +kernel) rfl ?_
  show mcE L fr lo M_Post_init 50 [some (mr 3)] [mr 3] (tb jT6) (jS0 σ) 9 1514 Φ
  refine mc_sipush (i := 6000) (by decide +kernel) (by decide) ?_
  show mcE L fr lo M_Post_init 53 [some (mr 3)] [mi 6000, mr 3] (tb jT6) (jS0 σ) 9 1514 Φ
  refine mc_newarray (at' := .int) (t := 0) (len := 6000) (by decide +kernel) (by decide) rfl (List.mem_of_getElem? (i := 120) (by decide +kernel)) rfl rfl (by decide) (by decide) ?_
  show mcE L fr lo M_Post_init 55 [some (mr 3)] [mr 9, mr 3] (tb jT6) (jS0 σ) 10 7514 Φ
  refine mc_putR (idx := 27) (ci := 0) (k := 5) (by decide +kernel) ⟨mcFdB_spec (w := 101) (by decide +kernel), rfl, finOk_spec (by decide +kernel)⟩ (by decide) (by decide) rfl ?_
  rw [show upc (tb jT6) 3 (upi (tb jT6 3) ((5 : Nat) : Int) (some 9)) = tb jT7 from tb_put (a := 2) (k := 5) (t := 8) (by decide +kernel) (by decide +kernel)]
  show mcE L fr lo M_Post_init 58 [some (mr 3)] [] (tb jT7) (jS0 σ) 10 7514 Φ
  exact mc_return_ (by decide +kernel) rfl k
def jT8 : List (List Nat) := tst jT7 0 1 3
def jT9 : List (List Nat) := tst jT8 12 0 14
def jT10 : List (List Nat) := tst jT9 12 1 15
def jT11 : List (List Nat) := tst jT10 12 2 16
def jT12 : List (List Nat) := tst jT11 12 3 17
def jT13 : List (List Nat) := tst jT12 12 4 18
def jS1 (σ : mG) : mG := upc (jS0 σ) 14 (fillF ((jS0 σ) 14) 0 ((32 : Nat) : Int) (-1))
def jS2 (σ : mG) : mG := upc (jS1 σ) 15 (fillF ((jS1 σ) 15) 0 ((32 : Nat) : Int) (-1))
def jS3 (σ : mG) : mG := upc (jS2 σ) 14 (upi ((jS2 σ) 14) 0 1)
theorem iv_2 {L fr lo : Nat} {σ : mG} {Φ : mcPost} (hfr : 2 ≤ fr) (hlo : 80 ≤ lo) (k : Φ (.inl none) (tb jT13) (jS3 σ) 19 9721) : mcE L fr lo M_Tree_init 0 (mcEnt M_Tree_init.2.2.1 [mr 13]) [] (tb jT8) (jS0 σ) 14 7545 Φ := by
  show mcE L fr lo M_Tree_init 0 [some (mr 13)] [] (tb jT8) (jS0 σ) 14 7545 Φ
  refine mc_aload_n (j := 0) (by decide +kernel) rfl ?_
  show mcE L fr lo M_Tree_init 1 [some (mr 13)] [mr 13] (tb jT8) (jS0 σ) 14 7545 Φ
  refine mc_objInit (idx := 3) (by decide +kernel) (List.mem_of_getElem? (i := 144) (by decide +kernel)) (List.mem_of_getElem? (i := 77) (by decide +kernel)) (List.mem_of_getElem? (i := 78) (by decide +kernel)) (by omega) (show 0 + 12 ≤ lo by omega) ?_
  show mcE L fr lo M_Tree_init 4 [some (mr 13)] [] (tb jT8) (jS0 σ) 14 7545 Φ
  refine mc_aload_n (j := 0) (by decide +kernel) rfl ?_
  show mcE L fr lo M_Tree_init 5 [some (mr 13)] [mr 13] (tb jT8) (jS0 σ) 14 7545 Φ
  refine mc_bipush (i := 32) (by decide +kernel) (by decide) ?_
  show mcE L fr lo M_Tree_init 7 [some (mr 13)] [mi 32, mr 13] (tb jT8) (jS0 σ) 14 7545 Φ
  refine mc_newarray (at' := .int) (t := 0) (len := 32) (by decide +kernel) (by decide) rfl (List.mem_of_getElem? (i := 120) (by decide +kernel)) rfl rfl (by decide) (by decide) ?_
  show mcE L fr lo M_Tree_init 9 [some (mr 13)] [mr 14, mr 13] (tb jT8) (jS0 σ) 15 7577 Φ
  refine mc_putR (idx := 9) (ci := 1) (k := 0) (by decide +kernel) ⟨mcFdB_spec (w := 148) (by decide +kernel), rfl, finOk_spec (by decide +kernel)⟩ (by decide) (by decide) rfl ?_
  rw [show upc (tb jT8) 13 (upi (tb jT8 13) ((0 : Nat) : Int) (some 14)) = tb jT9 from tb_put (a := 12) (k := 0) (t := 13) (by decide +kernel) (by decide +kernel)]
  show mcE L fr lo M_Tree_init 12 [some (mr 13)] [] (tb jT9) (jS0 σ) 15 7577 Φ
  refine mc_aload_n (j := 0) (by decide +kernel) rfl ?_
  show mcE L fr lo M_Tree_init 13 [some (mr 13)] [mr 13] (tb jT9) (jS0 σ) 15 7577 Φ
  refine mc_bipush (i := 32) (by decide +kernel) (by decide) ?_
  show mcE L fr lo M_Tree_init 15 [some (mr 13)] [mi 32, mr 13] (tb jT9) (jS0 σ) 15 7577 Φ
  refine mc_newarray (at' := .int) (t := 0) (len := 32) (by decide +kernel) (by decide) rfl (List.mem_of_getElem? (i := 120) (by decide +kernel)) rfl rfl (by decide) (by decide) ?_
  show mcE L fr lo M_Tree_init 17 [some (mr 13)] [mr 15, mr 13] (tb jT9) (jS0 σ) 16 7609 Φ
  refine mc_putR (idx := 15) (ci := 1) (k := 1) (by decide +kernel) ⟨mcFdB_spec (w := 151) (by decide +kernel), rfl, finOk_spec (by decide +kernel)⟩ (by decide) (by decide) rfl ?_
  rw [show upc (tb jT9) 13 (upi (tb jT9 13) ((1 : Nat) : Int) (some 15)) = tb jT10 from tb_put (a := 12) (k := 1) (t := 14) (by decide +kernel) (by decide +kernel)]
  show mcE L fr lo M_Tree_init 20 [some (mr 13)] [] (tb jT10) (jS0 σ) 16 7609 Φ
  refine mc_aload_n (j := 0) (by decide +kernel) rfl ?_
  show mcE L fr lo M_Tree_init 21 [some (mr 13)] [mr 13] (tb jT10) (jS0 σ) 16 7609 Φ
  refine mc_bipush (i := 32) (by decide +kernel) (by decide) ?_
  show mcE L fr lo M_Tree_init 23 [some (mr 13)] [mi 32, mr 13] (tb jT10) (jS0 σ) 16 7609 Φ
  refine mc_newarray (at' := .int) (t := 0) (len := 32) (by decide +kernel) (by decide) rfl (List.mem_of_getElem? (i := 120) (by decide +kernel)) rfl rfl (by decide) (by decide) ?_
  show mcE L fr lo M_Tree_init 25 [some (mr 13)] [mr 16, mr 13] (tb jT10) (jS0 σ) 17 7641 Φ
  refine mc_putR (idx := 18) (ci := 1) (k := 2) (by decide +kernel) ⟨mcFdB_spec (w := 153) (by decide +kernel), rfl, finOk_spec (by decide +kernel)⟩ (by decide) (by decide) rfl ?_
  rw [show upc (tb jT10) 13 (upi (tb jT10 13) ((2 : Nat) : Int) (some 16)) = tb jT11 from tb_put (a := 12) (k := 2) (t := 15) (by decide +kernel) (by decide +kernel)]
  show mcE L fr lo M_Tree_init 28 [some (mr 13)] [] (tb jT11) (jS0 σ) 17 7641 Φ
  refine mc_aload_n (j := 0) (by decide +kernel) rfl ?_
  show mcE L fr lo M_Tree_init 29 [some (mr 13)] [mr 13] (tb jT11) (jS0 σ) 17 7641 Φ
  refine mc_bipush (i := 32) (by decide +kernel) (by decide) ?_
  show mcE L fr lo M_Tree_init 31 [some (mr 13)] [mi 32, mr 13] (tb jT11) (jS0 σ) 17 7641 Φ
  refine mc_newarray (at' := .int) (t := 0) (len := 32) (by decide +kernel) (by decide) rfl (List.mem_of_getElem? (i := 120) (by decide +kernel)) rfl rfl (by decide) (by decide) ?_
  show mcE L fr lo M_Tree_init 33 [some (mr 13)] [mr 17, mr 13] (tb jT11) (jS0 σ) 18 7673 Φ
  refine mc_putR (idx := 21) (ci := 1) (k := 3) (by decide +kernel) ⟨mcFdB_spec (w := 156) (by decide +kernel), rfl, finOk_spec (by decide +kernel)⟩ (by decide) (by decide) rfl ?_
  rw [show upc (tb jT11) 13 (upi (tb jT11 13) ((3 : Nat) : Int) (some 17)) = tb jT12 from tb_put (a := 12) (k := 3) (t := 16) (by decide +kernel) (by decide +kernel)]
  show mcE L fr lo M_Tree_init 36 [some (mr 13)] [] (tb jT12) (jS0 σ) 18 7673 Φ
  refine mc_aload_n (j := 0) (by decide +kernel) rfl ?_
  show mcE L fr lo M_Tree_init 37 [some (mr 13)] [mr 13] (tb jT12) (jS0 σ) 18 7673 Φ
  refine mc_sipush (i := 2048) (by decide +kernel) (by decide) ?_
  show mcE L fr lo M_Tree_init 40 [some (mr 13)] [mi 2048, mr 13] (tb jT12) (jS0 σ) 18 7673 Φ
  refine mc_newarray (at' := .int) (t := 0) (len := 2048) (by decide +kernel) (by decide) rfl (List.mem_of_getElem? (i := 120) (by decide +kernel)) rfl rfl (by decide) (by decide) ?_
  show mcE L fr lo M_Tree_init 42 [some (mr 13)] [mr 18, mr 13] (tb jT12) (jS0 σ) 19 9721 Φ
  refine mc_putR (idx := 24) (ci := 1) (k := 4) (by decide +kernel) ⟨mcFdB_spec (w := 159) (by decide +kernel), rfl, finOk_spec (by decide +kernel)⟩ (by decide) (by decide) rfl ?_
  rw [show upc (tb jT12) 13 (upi (tb jT12 13) ((4 : Nat) : Int) (some 18)) = tb jT13 from tb_put (a := 12) (k := 4) (t := 17) (by decide +kernel) (by decide +kernel)]
  show mcE L fr lo M_Tree_init 45 [some (mr 13)] [] (tb jT13) (jS0 σ) 19 9721 Φ
  refine mc_aload_n (j := 0) (by decide +kernel) rfl ?_
  show mcE L fr lo M_Tree_init 46 [some (mr 13)] [mr 13] (tb jT13) (jS0 σ) 19 9721 Φ
  refine mc_getR (idx := 9) (ci := 1) (k := 0) (t := 14) (by decide +kernel) (mcFdB_spec (w := 148) (by decide +kernel)) (by decide) (by decide) rfl (show tb jT13 13 ((0 : Nat) : Int) = some 14 by decide +kernel) ?_
  show mcE L fr lo M_Tree_init 49 [some (mr 13)] [mr 14] (tb jT13) (jS0 σ) 19 9721 Φ
  refine mc_iconst (i := -1) (by decide +kernel) ?_
  show mcE L fr lo M_Tree_init 50 [some (mr 13)] [mi (-1), mr 14] (tb jT13) (jS0 σ) 19 9721 Φ
  refine mc_static (M' := M_Arrays_fill_0) (fr' := fr - 1) (lo' := lo - 40) (idx := 27) (vs := [mr 14, mi (-1)]) (by decide +kernel) (Or.inl (List.mem_of_getElem? (i := 145) (by decide +kernel))) (List.mem_of_getElem? (i := 146) (by decide +kernel)) (mcCdB_spec (wi := 58) (wc := 147) (by decide +kernel)) (Or.inl rfl) (mcArB_spec (by decide +kernel)) (by omega) (show 0 + (4 + 11) + (lo - 40) ≤ lo by omega) (by decide) ?_
  refine mcE.at0 ?_
  refine in_fill (a := 14) (len := 32) (v := (-1)) (by decide) (by decide) rfl (by decide) (by unfold in32; decide) ?_
  show mcE L fr lo M_Tree_init 53 [some (mr 13)] [] (tb jT13) (jS1 σ) 19 9721 Φ
  refine mc_aload_n (j := 0) (by decide +kernel) rfl ?_
  show mcE L fr lo M_Tree_init 54 [some (mr 13)] [mr 13] (tb jT13) (jS1 σ) 19 9721 Φ
  refine mc_getR (idx := 15) (ci := 1) (k := 1) (t := 15) (by decide +kernel) (mcFdB_spec (w := 151) (by decide +kernel)) (by decide) (by decide) rfl (show tb jT13 13 ((1 : Nat) : Int) = some 15 by decide +kernel) ?_
  show mcE L fr lo M_Tree_init 57 [some (mr 13)] [mr 15] (tb jT13) (jS1 σ) 19 9721 Φ
  refine mc_iconst (i := -1) (by decide +kernel) ?_
  show mcE L fr lo M_Tree_init 58 [some (mr 13)] [mi (-1), mr 15] (tb jT13) (jS1 σ) 19 9721 Φ
  refine mc_static (M' := M_Arrays_fill_0) (fr' := fr - 1) (lo' := lo - 40) (idx := 27) (vs := [mr 15, mi (-1)]) (by decide +kernel) (Or.inl (List.mem_of_getElem? (i := 145) (by decide +kernel))) (List.mem_of_getElem? (i := 146) (by decide +kernel)) (mcCdB_spec (wi := 58) (wc := 147) (by decide +kernel)) (Or.inl rfl) (mcArB_spec (by decide +kernel)) (by omega) (show 0 + (4 + 11) + (lo - 40) ≤ lo by omega) (by decide) ?_
  refine mcE.at0 ?_
  refine in_fill (a := 15) (len := 32) (v := (-1)) (by decide) (by decide) rfl (by decide) (by unfold in32; decide) ?_
  show mcE L fr lo M_Tree_init 61 [some (mr 13)] [] (tb jT13) (jS2 σ) 19 9721 Φ
  refine mc_aload_n (j := 0) (by decide +kernel) rfl ?_
  show mcE L fr lo M_Tree_init 62 [some (mr 13)] [mr 13] (tb jT13) (jS2 σ) 19 9721 Φ
  refine mc_getR (idx := 9) (ci := 1) (k := 0) (t := 14) (by decide +kernel) (mcFdB_spec (w := 148) (by decide +kernel)) (by decide) (by decide) rfl (show tb jT13 13 ((0 : Nat) : Int) = some 14 by decide +kernel) ?_
  show mcE L fr lo M_Tree_init 65 [some (mr 13)] [mr 14] (tb jT13) (jS2 σ) 19 9721 Φ
  refine mc_iconst (i := 0) (by decide +kernel) ?_
  show mcE L fr lo M_Tree_init 66 [some (mr 13)] [mi 0, mr 14] (tb jT13) (jS2 σ) 19 9721 Φ
  refine mc_iconst (i := 1) (by decide +kernel) ?_
  show mcE L fr lo M_Tree_init 67 [some (mr 13)] [mi 1, mi 0, mr 14] (tb jT13) (jS2 σ) 19 9721 Φ
  refine mc_iastore (by decide +kernel) (by decide) (by decide) rfl (by decide) (by unfold in32; decide) ?_
  show mcE L fr lo M_Tree_init 68 [some (mr 13)] [] (tb jT13) (jS3 σ) 19 9721 Φ
  exact mc_return_ (by decide +kernel) rfl k
def jT14 : List (List Nat) := tst jT13 11 0 13
def jT15 : List (List Nat) := tst jT14 18 0 20
def jT16 : List (List Nat) := tst jT15 18 1 21
def jT17 : List (List Nat) := tst jT16 18 2 22
def jT18 : List (List Nat) := tst jT17 18 3 23
def jT19 : List (List Nat) := tst jT18 18 4 24
theorem iv_3 {L fr lo : Nat} {σ : mG} {Φ : mcPost} (hfr : 1 ≤ fr) (hlo : 40 ≤ lo) (k : Φ (.inl none) (tb jT19) (jS3 σ) 25 10242) : mcE L fr lo M_Locks_init 0 (mcEnt M_Locks_init.2.2.1 [mr 19]) [] (tb jT14) (jS3 σ) 20 9726 Φ := by
  show mcE L fr lo M_Locks_init 0 [some (mr 19)] [] (tb jT14) (jS3 σ) 20 9726 Φ
  refine mc_aload_n (j := 0) (by decide +kernel) rfl ?_
  show mcE L fr lo M_Locks_init 1 [some (mr 19)] [mr 19] (tb jT14) (jS3 σ) 20 9726 Φ
  refine mc_objInit (idx := 3) (by decide +kernel) (List.mem_of_getElem? (i := 176) (by decide +kernel)) (List.mem_of_getElem? (i := 77) (by decide +kernel)) (List.mem_of_getElem? (i := 78) (by decide +kernel)) (by omega) (show 0 + 12 ≤ lo by omega) ?_
  show mcE L fr lo M_Locks_init 4 [some (mr 19)] [] (tb jT14) (jS3 σ) 20 9726 Φ
  refine mc_aload_n (j := 0) (by decide +kernel) rfl ?_
  show mcE L fr lo M_Locks_init 5 [some (mr 19)] [mr 19] (tb jT14) (jS3 σ) 20 9726 Φ
  refine mc_sipush (i := 128) (by decide +kernel) (by decide) ?_
  show mcE L fr lo M_Locks_init 8 [some (mr 19)] [mi 128, mr 19] (tb jT14) (jS3 σ) 20 9726 Φ
  refine mc_newarray (at' := .long) (t := 1) (len := 128) (by decide +kernel) (by decide) rfl (List.mem_of_getElem? (i := 194) (by decide +kernel)) rfl rfl (by decide) (by decide) ?_
  show mcE L fr lo M_Locks_init 10 [some (mr 19)] [mr 20, mr 19] (tb jT14) (jS3 σ) 21 9854 Φ
  refine mc_putR (idx := 9) (ci := 2) (k := 0) (by decide +kernel) ⟨mcFdB_spec (w := 177) (by decide +kernel), rfl, finOk_spec (by decide +kernel)⟩ (by decide) (by decide) rfl ?_
  rw [show upc (tb jT14) 19 (upi (tb jT14 19) ((0 : Nat) : Int) (some 20)) = tb jT15 from tb_put (a := 18) (k := 0) (t := 19) (by decide +kernel) (by decide +kernel)]
  show mcE L fr lo M_Locks_init 13 [some (mr 19)] [] (tb jT15) (jS3 σ) 21 9854 Φ
  refine mc_aload_n (j := 0) (by decide +kernel) rfl ?_
  show mcE L fr lo M_Locks_init 14 [some (mr 19)] [mr 19] (tb jT15) (jS3 σ) 21 9854 Φ
  refine mc_sipush (i := 128) (by decide +kernel) (by decide) ?_
  show mcE L fr lo M_Locks_init 17 [some (mr 19)] [mi 128, mr 19] (tb jT15) (jS3 σ) 21 9854 Φ
  refine mc_newarray (at' := .long) (t := 1) (len := 128) (by decide +kernel) (by decide) rfl (List.mem_of_getElem? (i := 194) (by decide +kernel)) rfl rfl (by decide) (by decide) ?_
  show mcE L fr lo M_Locks_init 19 [some (mr 19)] [mr 21, mr 19] (tb jT15) (jS3 σ) 22 9982 Φ
  refine mc_putR (idx := 15) (ci := 2) (k := 1) (by decide +kernel) ⟨mcFdB_spec (w := 178) (by decide +kernel), rfl, finOk_spec (by decide +kernel)⟩ (by decide) (by decide) rfl ?_
  rw [show upc (tb jT15) 19 (upi (tb jT15 19) ((1 : Nat) : Int) (some 21)) = tb jT16 from tb_put (a := 18) (k := 1) (t := 20) (by decide +kernel) (by decide +kernel)]
  show mcE L fr lo M_Locks_init 22 [some (mr 19)] [] (tb jT16) (jS3 σ) 22 9982 Φ
  refine mc_aload_n (j := 0) (by decide +kernel) rfl ?_
  show mcE L fr lo M_Locks_init 23 [some (mr 19)] [mr 19] (tb jT16) (jS3 σ) 22 9982 Φ
  refine mc_sipush (i := 128) (by decide +kernel) (by decide) ?_
  show mcE L fr lo M_Locks_init 26 [some (mr 19)] [mi 128, mr 19] (tb jT16) (jS3 σ) 22 9982 Φ
  refine mc_newarray (at' := .long) (t := 1) (len := 128) (by decide +kernel) (by decide) rfl (List.mem_of_getElem? (i := 194) (by decide +kernel)) rfl rfl (by decide) (by decide) ?_
  show mcE L fr lo M_Locks_init 28 [some (mr 19)] [mr 22, mr 19] (tb jT16) (jS3 σ) 23 10110 Φ
  refine mc_putR (idx := 18) (ci := 2) (k := 2) (by decide +kernel) ⟨mcFdB_spec (w := 179) (by decide +kernel), rfl, finOk_spec (by decide +kernel)⟩ (by decide) (by decide) rfl ?_
  rw [show upc (tb jT16) 19 (upi (tb jT16 19) ((2 : Nat) : Int) (some 22)) = tb jT17 from tb_put (a := 18) (k := 2) (t := 21) (by decide +kernel) (by decide +kernel)]
  show mcE L fr lo M_Locks_init 31 [some (mr 19)] [] (tb jT17) (jS3 σ) 23 10110 Φ
  refine mc_aload_n (j := 0) (by decide +kernel) rfl ?_
  show mcE L fr lo M_Locks_init 32 [some (mr 19)] [mr 19] (tb jT17) (jS3 σ) 23 10110 Φ
  refine mc_sipush (i := 128) (by decide +kernel) (by decide) ?_
  show mcE L fr lo M_Locks_init 35 [some (mr 19)] [mi 128, mr 19] (tb jT17) (jS3 σ) 23 10110 Φ
  refine mc_newarray (at' := .long) (t := 1) (len := 128) (by decide +kernel) (by decide) rfl (List.mem_of_getElem? (i := 194) (by decide +kernel)) rfl rfl (by decide) (by decide) ?_
  show mcE L fr lo M_Locks_init 37 [some (mr 19)] [mr 23, mr 19] (tb jT17) (jS3 σ) 24 10238 Φ
  refine mc_putR (idx := 21) (ci := 2) (k := 3) (by decide +kernel) ⟨mcFdB_spec (w := 180) (by decide +kernel), rfl, finOk_spec (by decide +kernel)⟩ (by decide) (by decide) rfl ?_
  rw [show upc (tb jT17) 19 (upi (tb jT17 19) ((3 : Nat) : Int) (some 23)) = tb jT18 from tb_put (a := 18) (k := 3) (t := 22) (by decide +kernel) (by decide +kernel)]
  show mcE L fr lo M_Locks_init 40 [some (mr 19)] [] (tb jT18) (jS3 σ) 24 10238 Φ
  refine mc_aload_n (j := 0) (by decide +kernel) rfl ?_
  show mcE L fr lo M_Locks_init 41 [some (mr 19)] [mr 19] (tb jT18) (jS3 σ) 24 10238 Φ
  refine mc_iconst (i := 4) (by decide +kernel) ?_
  show mcE L fr lo M_Locks_init 42 [some (mr 19)] [mi 4, mr 19] (tb jT18) (jS3 σ) 24 10238 Φ
  refine mc_newarray (at' := .int) (t := 0) (len := 4) (by decide +kernel) (by decide) rfl (List.mem_of_getElem? (i := 120) (by decide +kernel)) rfl rfl (by decide) (by decide) ?_
  show mcE L fr lo M_Locks_init 44 [some (mr 19)] [mr 24, mr 19] (tb jT18) (jS3 σ) 25 10242 Φ
  refine mc_putR (idx := 24) (ci := 2) (k := 4) (by decide +kernel) ⟨mcFdB_spec (w := 181) (by decide +kernel), rfl, finOk_spec (by decide +kernel)⟩ (by decide) (by decide) rfl ?_
  rw [show upc (tb jT18) 19 (upi (tb jT18 19) ((4 : Nat) : Int) (some 24)) = tb jT19 from tb_put (a := 18) (k := 4) (t := 23) (by decide +kernel) (by decide +kernel)]
  show mcE L fr lo M_Locks_init 47 [some (mr 19)] [] (tb jT19) (jS3 σ) 25 10242 Φ
  exact mc_return_ (by decide +kernel) rfl k
def jT20 : List (List Nat) := tst jT19 11 1 19
def jT21 : List (List Nat) := tst jT20 11 2 25
def jT22 : List (List Nat) := tst jT21 11 3 26
def jT23 : List (List Nat) := tst jT22 11 4 27
def jT24 : List (List Nat) := tst jT23 11 5 28
def jS4 (σ : mG) : mG := upc (jS3 σ) 25 (fillF ((jS3 σ) 25) 0 ((32 : Nat) : Int) (-1))
def jT25 : List (List Nat) := tst jT24 28 0 30
def jT26 : List (List Nat) := tst jT25 28 1 31
theorem iv_4 {L fr lo : Nat} {σ : mG} {Φ : mcPost} (hfr : 1 ≤ fr) (hlo : 40 ≤ lo) (k : Φ (.inl none) (tb jT26) (jS4 σ) 32 10313) : mcE L fr lo M_Answer_init 0 (mcEnt M_Answer_init.2.2.1 [mr 29]) [] (tb jT24) (jS4 σ) 30 10305 Φ := by
  show mcE L fr lo M_Answer_init 0 [some (mr 29)] [] (tb jT24) (jS4 σ) 30 10305 Φ
  refine mc_aload_n (j := 0) (by decide +kernel) rfl ?_
  show mcE L fr lo M_Answer_init 1 [some (mr 29)] [mr 29] (tb jT24) (jS4 σ) 30 10305 Φ
  refine mc_objInit (idx := 3) (by decide +kernel) (List.mem_of_getElem? (i := 202) (by decide +kernel)) (List.mem_of_getElem? (i := 77) (by decide +kernel)) (List.mem_of_getElem? (i := 78) (by decide +kernel)) (by omega) (show 0 + 12 ≤ lo by omega) ?_
  show mcE L fr lo M_Answer_init 4 [some (mr 29)] [] (tb jT24) (jS4 σ) 30 10305 Φ
  refine mc_aload_n (j := 0) (by decide +kernel) rfl ?_
  show mcE L fr lo M_Answer_init 5 [some (mr 29)] [mr 29] (tb jT24) (jS4 σ) 30 10305 Φ
  refine mc_iconst (i := 4) (by decide +kernel) ?_
  show mcE L fr lo M_Answer_init 6 [some (mr 29)] [mi 4, mr 29] (tb jT24) (jS4 σ) 30 10305 Φ
  refine mc_newarray (at' := .int) (t := 0) (len := 4) (by decide +kernel) (by decide) rfl (List.mem_of_getElem? (i := 120) (by decide +kernel)) rfl rfl (by decide) (by decide) ?_
  show mcE L fr lo M_Answer_init 8 [some (mr 29)] [mr 30, mr 29] (tb jT24) (jS4 σ) 31 10309 Φ
  refine mc_putR (idx := 9) (ci := 3) (k := 0) (by decide +kernel) ⟨mcFdB_spec (w := 203) (by decide +kernel), rfl, finOk_spec (by decide +kernel)⟩ (by decide) (by decide) rfl ?_
  rw [show upc (tb jT24) 29 (upi (tb jT24 29) ((0 : Nat) : Int) (some 30)) = tb jT25 from tb_put (a := 28) (k := 0) (t := 29) (by decide +kernel) (by decide +kernel)]
  show mcE L fr lo M_Answer_init 11 [some (mr 29)] [] (tb jT25) (jS4 σ) 31 10309 Φ
  refine mc_aload_n (j := 0) (by decide +kernel) rfl ?_
  show mcE L fr lo M_Answer_init 12 [some (mr 29)] [mr 29] (tb jT25) (jS4 σ) 31 10309 Φ
  refine mc_iconst (i := 4) (by decide +kernel) ?_
  show mcE L fr lo M_Answer_init 13 [some (mr 29)] [mi 4, mr 29] (tb jT25) (jS4 σ) 31 10309 Φ
  refine mc_newarray (at' := .int) (t := 0) (len := 4) (by decide +kernel) (by decide) rfl (List.mem_of_getElem? (i := 120) (by decide +kernel)) rfl rfl (by decide) (by decide) ?_
  show mcE L fr lo M_Answer_init 15 [some (mr 29)] [mr 31, mr 29] (tb jT25) (jS4 σ) 32 10313 Φ
  refine mc_putR (idx := 15) (ci := 3) (k := 1) (by decide +kernel) ⟨mcFdB_spec (w := 205) (by decide +kernel), rfl, finOk_spec (by decide +kernel)⟩ (by decide) (by decide) rfl ?_
  rw [show upc (tb jT25) 29 (upi (tb jT25 29) ((1 : Nat) : Int) (some 31)) = tb jT26 from tb_put (a := 28) (k := 1) (t := 30) (by decide +kernel) (by decide +kernel)]
  show mcE L fr lo M_Answer_init 18 [some (mr 29)] [] (tb jT26) (jS4 σ) 32 10313 Φ
  exact mc_return_ (by decide +kernel) rfl k
def jT27 : List (List Nat) := tst jT26 27 0 29
def jT28 : List (List Nat) := tst jT27 31 0 33
def jT29 : List (List Nat) := tst jT28 31 1 34
theorem iv_5 {L fr lo : Nat} {σ : mG} {Φ : mcPost} (hfr : 1 ≤ fr) (hlo : 40 ≤ lo) (k : Φ (.inl none) (tb jT29) (jS4 σ) 35 10324) : mcE L fr lo M_Answer_init 0 (mcEnt M_Answer_init.2.2.1 [mr 32]) [] (tb jT27) (jS4 σ) 33 10316 Φ := by
  show mcE L fr lo M_Answer_init 0 [some (mr 32)] [] (tb jT27) (jS4 σ) 33 10316 Φ
  refine mc_aload_n (j := 0) (by decide +kernel) rfl ?_
  show mcE L fr lo M_Answer_init 1 [some (mr 32)] [mr 32] (tb jT27) (jS4 σ) 33 10316 Φ
  refine mc_objInit (idx := 3) (by decide +kernel) (List.mem_of_getElem? (i := 202) (by decide +kernel)) (List.mem_of_getElem? (i := 77) (by decide +kernel)) (List.mem_of_getElem? (i := 78) (by decide +kernel)) (by omega) (show 0 + 12 ≤ lo by omega) ?_
  show mcE L fr lo M_Answer_init 4 [some (mr 32)] [] (tb jT27) (jS4 σ) 33 10316 Φ
  refine mc_aload_n (j := 0) (by decide +kernel) rfl ?_
  show mcE L fr lo M_Answer_init 5 [some (mr 32)] [mr 32] (tb jT27) (jS4 σ) 33 10316 Φ
  refine mc_iconst (i := 4) (by decide +kernel) ?_
  show mcE L fr lo M_Answer_init 6 [some (mr 32)] [mi 4, mr 32] (tb jT27) (jS4 σ) 33 10316 Φ
  refine mc_newarray (at' := .int) (t := 0) (len := 4) (by decide +kernel) (by decide) rfl (List.mem_of_getElem? (i := 120) (by decide +kernel)) rfl rfl (by decide) (by decide) ?_
  show mcE L fr lo M_Answer_init 8 [some (mr 32)] [mr 33, mr 32] (tb jT27) (jS4 σ) 34 10320 Φ
  refine mc_putR (idx := 9) (ci := 3) (k := 0) (by decide +kernel) ⟨mcFdB_spec (w := 203) (by decide +kernel), rfl, finOk_spec (by decide +kernel)⟩ (by decide) (by decide) rfl ?_
  rw [show upc (tb jT27) 32 (upi (tb jT27 32) ((0 : Nat) : Int) (some 33)) = tb jT28 from tb_put (a := 31) (k := 0) (t := 32) (by decide +kernel) (by decide +kernel)]
  show mcE L fr lo M_Answer_init 11 [some (mr 32)] [] (tb jT28) (jS4 σ) 34 10320 Φ
  refine mc_aload_n (j := 0) (by decide +kernel) rfl ?_
  show mcE L fr lo M_Answer_init 12 [some (mr 32)] [mr 32] (tb jT28) (jS4 σ) 34 10320 Φ
  refine mc_iconst (i := 4) (by decide +kernel) ?_
  show mcE L fr lo M_Answer_init 13 [some (mr 32)] [mi 4, mr 32] (tb jT28) (jS4 σ) 34 10320 Φ
  refine mc_newarray (at' := .int) (t := 0) (len := 4) (by decide +kernel) (by decide) rfl (List.mem_of_getElem? (i := 120) (by decide +kernel)) rfl rfl (by decide) (by decide) ?_
  show mcE L fr lo M_Answer_init 15 [some (mr 32)] [mr 34, mr 32] (tb jT28) (jS4 σ) 35 10324 Φ
  refine mc_putR (idx := 15) (ci := 3) (k := 1) (by decide +kernel) ⟨mcFdB_spec (w := 205) (by decide +kernel), rfl, finOk_spec (by decide +kernel)⟩ (by decide) (by decide) rfl ?_
  rw [show upc (tb jT28) 32 (upi (tb jT28 32) ((1 : Nat) : Int) (some 34)) = tb jT29 from tb_put (a := 31) (k := 1) (t := 33) (by decide +kernel) (by decide +kernel)]
  show mcE L fr lo M_Answer_init 18 [some (mr 32)] [] (tb jT29) (jS4 σ) 35 10324 Φ
  exact mc_return_ (by decide +kernel) rfl k
def jT30 : List (List Nat) := tst jT29 27 1 32
def jT31 : List (List Nat) := tst jT30 34 0 36
def jT32 : List (List Nat) := tst jT31 34 1 37
theorem iv_6 {L fr lo : Nat} {σ : mG} {Φ : mcPost} (hfr : 1 ≤ fr) (hlo : 40 ≤ lo) (k : Φ (.inl none) (tb jT32) (jS4 σ) 38 10335) : mcE L fr lo M_Answer_init 0 (mcEnt M_Answer_init.2.2.1 [mr 35]) [] (tb jT30) (jS4 σ) 36 10327 Φ := by
  show mcE L fr lo M_Answer_init 0 [some (mr 35)] [] (tb jT30) (jS4 σ) 36 10327 Φ
  refine mc_aload_n (j := 0) (by decide +kernel) rfl ?_
  show mcE L fr lo M_Answer_init 1 [some (mr 35)] [mr 35] (tb jT30) (jS4 σ) 36 10327 Φ
  refine mc_objInit (idx := 3) (by decide +kernel) (List.mem_of_getElem? (i := 202) (by decide +kernel)) (List.mem_of_getElem? (i := 77) (by decide +kernel)) (List.mem_of_getElem? (i := 78) (by decide +kernel)) (by omega) (show 0 + 12 ≤ lo by omega) ?_
  show mcE L fr lo M_Answer_init 4 [some (mr 35)] [] (tb jT30) (jS4 σ) 36 10327 Φ
  refine mc_aload_n (j := 0) (by decide +kernel) rfl ?_
  show mcE L fr lo M_Answer_init 5 [some (mr 35)] [mr 35] (tb jT30) (jS4 σ) 36 10327 Φ
  refine mc_iconst (i := 4) (by decide +kernel) ?_
  show mcE L fr lo M_Answer_init 6 [some (mr 35)] [mi 4, mr 35] (tb jT30) (jS4 σ) 36 10327 Φ
  refine mc_newarray (at' := .int) (t := 0) (len := 4) (by decide +kernel) (by decide) rfl (List.mem_of_getElem? (i := 120) (by decide +kernel)) rfl rfl (by decide) (by decide) ?_
  show mcE L fr lo M_Answer_init 8 [some (mr 35)] [mr 36, mr 35] (tb jT30) (jS4 σ) 37 10331 Φ
  refine mc_putR (idx := 9) (ci := 3) (k := 0) (by decide +kernel) ⟨mcFdB_spec (w := 203) (by decide +kernel), rfl, finOk_spec (by decide +kernel)⟩ (by decide) (by decide) rfl ?_
  rw [show upc (tb jT30) 35 (upi (tb jT30 35) ((0 : Nat) : Int) (some 36)) = tb jT31 from tb_put (a := 34) (k := 0) (t := 35) (by decide +kernel) (by decide +kernel)]
  show mcE L fr lo M_Answer_init 11 [some (mr 35)] [] (tb jT31) (jS4 σ) 37 10331 Φ
  refine mc_aload_n (j := 0) (by decide +kernel) rfl ?_
  show mcE L fr lo M_Answer_init 12 [some (mr 35)] [mr 35] (tb jT31) (jS4 σ) 37 10331 Φ
  refine mc_iconst (i := 4) (by decide +kernel) ?_
  show mcE L fr lo M_Answer_init 13 [some (mr 35)] [mi 4, mr 35] (tb jT31) (jS4 σ) 37 10331 Φ
  refine mc_newarray (at' := .int) (t := 0) (len := 4) (by decide +kernel) (by decide) rfl (List.mem_of_getElem? (i := 120) (by decide +kernel)) rfl rfl (by decide) (by decide) ?_
  show mcE L fr lo M_Answer_init 15 [some (mr 35)] [mr 37, mr 35] (tb jT31) (jS4 σ) 38 10335 Φ
  refine mc_putR (idx := 15) (ci := 3) (k := 1) (by decide +kernel) ⟨mcFdB_spec (w := 205) (by decide +kernel), rfl, finOk_spec (by decide +kernel)⟩ (by decide) (by decide) rfl ?_
  rw [show upc (tb jT31) 35 (upi (tb jT31 35) ((1 : Nat) : Int) (some 37)) = tb jT32 from tb_put (a := 34) (k := 1) (t := 36) (by decide +kernel) (by decide +kernel)]
  show mcE L fr lo M_Answer_init 18 [some (mr 35)] [] (tb jT32) (jS4 σ) 38 10335 Φ
  exact mc_return_ (by decide +kernel) rfl k
def jT33 : List (List Nat) := tst jT32 27 2 35
def jT34 : List (List Nat) := tst jT33 37 0 39
def jT35 : List (List Nat) := tst jT34 37 1 40
theorem iv_7 {L fr lo : Nat} {σ : mG} {Φ : mcPost} (hfr : 1 ≤ fr) (hlo : 40 ≤ lo) (k : Φ (.inl none) (tb jT35) (jS4 σ) 41 10346) : mcE L fr lo M_Answer_init 0 (mcEnt M_Answer_init.2.2.1 [mr 38]) [] (tb jT33) (jS4 σ) 39 10338 Φ := by
  show mcE L fr lo M_Answer_init 0 [some (mr 38)] [] (tb jT33) (jS4 σ) 39 10338 Φ
  refine mc_aload_n (j := 0) (by decide +kernel) rfl ?_
  show mcE L fr lo M_Answer_init 1 [some (mr 38)] [mr 38] (tb jT33) (jS4 σ) 39 10338 Φ
  refine mc_objInit (idx := 3) (by decide +kernel) (List.mem_of_getElem? (i := 202) (by decide +kernel)) (List.mem_of_getElem? (i := 77) (by decide +kernel)) (List.mem_of_getElem? (i := 78) (by decide +kernel)) (by omega) (show 0 + 12 ≤ lo by omega) ?_
  show mcE L fr lo M_Answer_init 4 [some (mr 38)] [] (tb jT33) (jS4 σ) 39 10338 Φ
  refine mc_aload_n (j := 0) (by decide +kernel) rfl ?_
  show mcE L fr lo M_Answer_init 5 [some (mr 38)] [mr 38] (tb jT33) (jS4 σ) 39 10338 Φ
  refine mc_iconst (i := 4) (by decide +kernel) ?_
  show mcE L fr lo M_Answer_init 6 [some (mr 38)] [mi 4, mr 38] (tb jT33) (jS4 σ) 39 10338 Φ
  refine mc_newarray (at' := .int) (t := 0) (len := 4) (by decide +kernel) (by decide) rfl (List.mem_of_getElem? (i := 120) (by decide +kernel)) rfl rfl (by decide) (by decide) ?_
  show mcE L fr lo M_Answer_init 8 [some (mr 38)] [mr 39, mr 38] (tb jT33) (jS4 σ) 40 10342 Φ
  refine mc_putR (idx := 9) (ci := 3) (k := 0) (by decide +kernel) ⟨mcFdB_spec (w := 203) (by decide +kernel), rfl, finOk_spec (by decide +kernel)⟩ (by decide) (by decide) rfl ?_
  rw [show upc (tb jT33) 38 (upi (tb jT33 38) ((0 : Nat) : Int) (some 39)) = tb jT34 from tb_put (a := 37) (k := 0) (t := 38) (by decide +kernel) (by decide +kernel)]
  show mcE L fr lo M_Answer_init 11 [some (mr 38)] [] (tb jT34) (jS4 σ) 40 10342 Φ
  refine mc_aload_n (j := 0) (by decide +kernel) rfl ?_
  show mcE L fr lo M_Answer_init 12 [some (mr 38)] [mr 38] (tb jT34) (jS4 σ) 40 10342 Φ
  refine mc_iconst (i := 4) (by decide +kernel) ?_
  show mcE L fr lo M_Answer_init 13 [some (mr 38)] [mi 4, mr 38] (tb jT34) (jS4 σ) 40 10342 Φ
  refine mc_newarray (at' := .int) (t := 0) (len := 4) (by decide +kernel) (by decide) rfl (List.mem_of_getElem? (i := 120) (by decide +kernel)) rfl rfl (by decide) (by decide) ?_
  show mcE L fr lo M_Answer_init 15 [some (mr 38)] [mr 40, mr 38] (tb jT34) (jS4 σ) 41 10346 Φ
  refine mc_putR (idx := 15) (ci := 3) (k := 1) (by decide +kernel) ⟨mcFdB_spec (w := 205) (by decide +kernel), rfl, finOk_spec (by decide +kernel)⟩ (by decide) (by decide) rfl ?_
  rw [show upc (tb jT34) 38 (upi (tb jT34 38) ((1 : Nat) : Int) (some 40)) = tb jT35 from tb_put (a := 37) (k := 1) (t := 39) (by decide +kernel) (by decide +kernel)]
  show mcE L fr lo M_Answer_init 18 [some (mr 38)] [] (tb jT35) (jS4 σ) 41 10346 Φ
  exact mc_return_ (by decide +kernel) rfl k
def jT36 : List (List Nat) := tst jT35 27 3 38
def jT37 : List (List Nat) := tst jT36 40 0 42
def jT38 : List (List Nat) := tst jT37 40 1 43
theorem iv_8 {L fr lo : Nat} {σ : mG} {Φ : mcPost} (hfr : 1 ≤ fr) (hlo : 40 ≤ lo) (k : Φ (.inl none) (tb jT38) (jS4 σ) 44 10357) : mcE L fr lo M_Answer_init 0 (mcEnt M_Answer_init.2.2.1 [mr 41]) [] (tb jT36) (jS4 σ) 42 10349 Φ := by
  show mcE L fr lo M_Answer_init 0 [some (mr 41)] [] (tb jT36) (jS4 σ) 42 10349 Φ
  refine mc_aload_n (j := 0) (by decide +kernel) rfl ?_
  show mcE L fr lo M_Answer_init 1 [some (mr 41)] [mr 41] (tb jT36) (jS4 σ) 42 10349 Φ
  refine mc_objInit (idx := 3) (by decide +kernel) (List.mem_of_getElem? (i := 202) (by decide +kernel)) (List.mem_of_getElem? (i := 77) (by decide +kernel)) (List.mem_of_getElem? (i := 78) (by decide +kernel)) (by omega) (show 0 + 12 ≤ lo by omega) ?_
  show mcE L fr lo M_Answer_init 4 [some (mr 41)] [] (tb jT36) (jS4 σ) 42 10349 Φ
  refine mc_aload_n (j := 0) (by decide +kernel) rfl ?_
  show mcE L fr lo M_Answer_init 5 [some (mr 41)] [mr 41] (tb jT36) (jS4 σ) 42 10349 Φ
  refine mc_iconst (i := 4) (by decide +kernel) ?_
  show mcE L fr lo M_Answer_init 6 [some (mr 41)] [mi 4, mr 41] (tb jT36) (jS4 σ) 42 10349 Φ
  refine mc_newarray (at' := .int) (t := 0) (len := 4) (by decide +kernel) (by decide) rfl (List.mem_of_getElem? (i := 120) (by decide +kernel)) rfl rfl (by decide) (by decide) ?_
  show mcE L fr lo M_Answer_init 8 [some (mr 41)] [mr 42, mr 41] (tb jT36) (jS4 σ) 43 10353 Φ
  refine mc_putR (idx := 9) (ci := 3) (k := 0) (by decide +kernel) ⟨mcFdB_spec (w := 203) (by decide +kernel), rfl, finOk_spec (by decide +kernel)⟩ (by decide) (by decide) rfl ?_
  rw [show upc (tb jT36) 41 (upi (tb jT36 41) ((0 : Nat) : Int) (some 42)) = tb jT37 from tb_put (a := 40) (k := 0) (t := 41) (by decide +kernel) (by decide +kernel)]
  show mcE L fr lo M_Answer_init 11 [some (mr 41)] [] (tb jT37) (jS4 σ) 43 10353 Φ
  refine mc_aload_n (j := 0) (by decide +kernel) rfl ?_
  show mcE L fr lo M_Answer_init 12 [some (mr 41)] [mr 41] (tb jT37) (jS4 σ) 43 10353 Φ
  refine mc_iconst (i := 4) (by decide +kernel) ?_
  show mcE L fr lo M_Answer_init 13 [some (mr 41)] [mi 4, mr 41] (tb jT37) (jS4 σ) 43 10353 Φ
  refine mc_newarray (at' := .int) (t := 0) (len := 4) (by decide +kernel) (by decide) rfl (List.mem_of_getElem? (i := 120) (by decide +kernel)) rfl rfl (by decide) (by decide) ?_
  show mcE L fr lo M_Answer_init 15 [some (mr 41)] [mr 43, mr 41] (tb jT37) (jS4 σ) 44 10357 Φ
  refine mc_putR (idx := 15) (ci := 3) (k := 1) (by decide +kernel) ⟨mcFdB_spec (w := 205) (by decide +kernel), rfl, finOk_spec (by decide +kernel)⟩ (by decide) (by decide) rfl ?_
  rw [show upc (tb jT37) 41 (upi (tb jT37 41) ((1 : Nat) : Int) (some 43)) = tb jT38 from tb_put (a := 40) (k := 1) (t := 42) (by decide +kernel) (by decide +kernel)]
  show mcE L fr lo M_Answer_init 18 [some (mr 41)] [] (tb jT38) (jS4 σ) 44 10357 Φ
  exact mc_return_ (by decide +kernel) rfl k
def jT39 : List (List Nat) := tst jT38 27 4 41
def jT40 : List (List Nat) := tst jT39 43 0 45
def jT41 : List (List Nat) := tst jT40 43 1 46
theorem iv_9 {L fr lo : Nat} {σ : mG} {Φ : mcPost} (hfr : 1 ≤ fr) (hlo : 40 ≤ lo) (k : Φ (.inl none) (tb jT41) (jS4 σ) 47 10368) : mcE L fr lo M_Answer_init 0 (mcEnt M_Answer_init.2.2.1 [mr 44]) [] (tb jT39) (jS4 σ) 45 10360 Φ := by
  show mcE L fr lo M_Answer_init 0 [some (mr 44)] [] (tb jT39) (jS4 σ) 45 10360 Φ
  refine mc_aload_n (j := 0) (by decide +kernel) rfl ?_
  show mcE L fr lo M_Answer_init 1 [some (mr 44)] [mr 44] (tb jT39) (jS4 σ) 45 10360 Φ
  refine mc_objInit (idx := 3) (by decide +kernel) (List.mem_of_getElem? (i := 202) (by decide +kernel)) (List.mem_of_getElem? (i := 77) (by decide +kernel)) (List.mem_of_getElem? (i := 78) (by decide +kernel)) (by omega) (show 0 + 12 ≤ lo by omega) ?_
  show mcE L fr lo M_Answer_init 4 [some (mr 44)] [] (tb jT39) (jS4 σ) 45 10360 Φ
  refine mc_aload_n (j := 0) (by decide +kernel) rfl ?_
  show mcE L fr lo M_Answer_init 5 [some (mr 44)] [mr 44] (tb jT39) (jS4 σ) 45 10360 Φ
  refine mc_iconst (i := 4) (by decide +kernel) ?_
  show mcE L fr lo M_Answer_init 6 [some (mr 44)] [mi 4, mr 44] (tb jT39) (jS4 σ) 45 10360 Φ
  refine mc_newarray (at' := .int) (t := 0) (len := 4) (by decide +kernel) (by decide) rfl (List.mem_of_getElem? (i := 120) (by decide +kernel)) rfl rfl (by decide) (by decide) ?_
  show mcE L fr lo M_Answer_init 8 [some (mr 44)] [mr 45, mr 44] (tb jT39) (jS4 σ) 46 10364 Φ
  refine mc_putR (idx := 9) (ci := 3) (k := 0) (by decide +kernel) ⟨mcFdB_spec (w := 203) (by decide +kernel), rfl, finOk_spec (by decide +kernel)⟩ (by decide) (by decide) rfl ?_
  rw [show upc (tb jT39) 44 (upi (tb jT39 44) ((0 : Nat) : Int) (some 45)) = tb jT40 from tb_put (a := 43) (k := 0) (t := 44) (by decide +kernel) (by decide +kernel)]
  show mcE L fr lo M_Answer_init 11 [some (mr 44)] [] (tb jT40) (jS4 σ) 46 10364 Φ
  refine mc_aload_n (j := 0) (by decide +kernel) rfl ?_
  show mcE L fr lo M_Answer_init 12 [some (mr 44)] [mr 44] (tb jT40) (jS4 σ) 46 10364 Φ
  refine mc_iconst (i := 4) (by decide +kernel) ?_
  show mcE L fr lo M_Answer_init 13 [some (mr 44)] [mi 4, mr 44] (tb jT40) (jS4 σ) 46 10364 Φ
  refine mc_newarray (at' := .int) (t := 0) (len := 4) (by decide +kernel) (by decide) rfl (List.mem_of_getElem? (i := 120) (by decide +kernel)) rfl rfl (by decide) (by decide) ?_
  show mcE L fr lo M_Answer_init 15 [some (mr 44)] [mr 46, mr 44] (tb jT40) (jS4 σ) 47 10368 Φ
  refine mc_putR (idx := 15) (ci := 3) (k := 1) (by decide +kernel) ⟨mcFdB_spec (w := 205) (by decide +kernel), rfl, finOk_spec (by decide +kernel)⟩ (by decide) (by decide) rfl ?_
  rw [show upc (tb jT40) 44 (upi (tb jT40 44) ((1 : Nat) : Int) (some 46)) = tb jT41 from tb_put (a := 43) (k := 1) (t := 45) (by decide +kernel) (by decide +kernel)]
  show mcE L fr lo M_Answer_init 18 [some (mr 44)] [] (tb jT41) (jS4 σ) 47 10368 Φ
  exact mc_return_ (by decide +kernel) rfl k
def jT42 : List (List Nat) := tst jT41 27 5 44
def jT43 : List (List Nat) := tst jT42 46 0 48
def jT44 : List (List Nat) := tst jT43 46 1 49
theorem iv_10 {L fr lo : Nat} {σ : mG} {Φ : mcPost} (hfr : 1 ≤ fr) (hlo : 40 ≤ lo) (k : Φ (.inl none) (tb jT44) (jS4 σ) 50 10379) : mcE L fr lo M_Answer_init 0 (mcEnt M_Answer_init.2.2.1 [mr 47]) [] (tb jT42) (jS4 σ) 48 10371 Φ := by
  show mcE L fr lo M_Answer_init 0 [some (mr 47)] [] (tb jT42) (jS4 σ) 48 10371 Φ
  refine mc_aload_n (j := 0) (by decide +kernel) rfl ?_
  show mcE L fr lo M_Answer_init 1 [some (mr 47)] [mr 47] (tb jT42) (jS4 σ) 48 10371 Φ
  refine mc_objInit (idx := 3) (by decide +kernel) (List.mem_of_getElem? (i := 202) (by decide +kernel)) (List.mem_of_getElem? (i := 77) (by decide +kernel)) (List.mem_of_getElem? (i := 78) (by decide +kernel)) (by omega) (show 0 + 12 ≤ lo by omega) ?_
  show mcE L fr lo M_Answer_init 4 [some (mr 47)] [] (tb jT42) (jS4 σ) 48 10371 Φ
  refine mc_aload_n (j := 0) (by decide +kernel) rfl ?_
  show mcE L fr lo M_Answer_init 5 [some (mr 47)] [mr 47] (tb jT42) (jS4 σ) 48 10371 Φ
  refine mc_iconst (i := 4) (by decide +kernel) ?_
  show mcE L fr lo M_Answer_init 6 [some (mr 47)] [mi 4, mr 47] (tb jT42) (jS4 σ) 48 10371 Φ
  refine mc_newarray (at' := .int) (t := 0) (len := 4) (by decide +kernel) (by decide) rfl (List.mem_of_getElem? (i := 120) (by decide +kernel)) rfl rfl (by decide) (by decide) ?_
  show mcE L fr lo M_Answer_init 8 [some (mr 47)] [mr 48, mr 47] (tb jT42) (jS4 σ) 49 10375 Φ
  refine mc_putR (idx := 9) (ci := 3) (k := 0) (by decide +kernel) ⟨mcFdB_spec (w := 203) (by decide +kernel), rfl, finOk_spec (by decide +kernel)⟩ (by decide) (by decide) rfl ?_
  rw [show upc (tb jT42) 47 (upi (tb jT42 47) ((0 : Nat) : Int) (some 48)) = tb jT43 from tb_put (a := 46) (k := 0) (t := 47) (by decide +kernel) (by decide +kernel)]
  show mcE L fr lo M_Answer_init 11 [some (mr 47)] [] (tb jT43) (jS4 σ) 49 10375 Φ
  refine mc_aload_n (j := 0) (by decide +kernel) rfl ?_
  show mcE L fr lo M_Answer_init 12 [some (mr 47)] [mr 47] (tb jT43) (jS4 σ) 49 10375 Φ
  refine mc_iconst (i := 4) (by decide +kernel) ?_
  show mcE L fr lo M_Answer_init 13 [some (mr 47)] [mi 4, mr 47] (tb jT43) (jS4 σ) 49 10375 Φ
  refine mc_newarray (at' := .int) (t := 0) (len := 4) (by decide +kernel) (by decide) rfl (List.mem_of_getElem? (i := 120) (by decide +kernel)) rfl rfl (by decide) (by decide) ?_
  show mcE L fr lo M_Answer_init 15 [some (mr 47)] [mr 49, mr 47] (tb jT43) (jS4 σ) 50 10379 Φ
  refine mc_putR (idx := 15) (ci := 3) (k := 1) (by decide +kernel) ⟨mcFdB_spec (w := 205) (by decide +kernel), rfl, finOk_spec (by decide +kernel)⟩ (by decide) (by decide) rfl ?_
  rw [show upc (tb jT43) 47 (upi (tb jT43 47) ((1 : Nat) : Int) (some 49)) = tb jT44 from tb_put (a := 46) (k := 1) (t := 48) (by decide +kernel) (by decide +kernel)]
  show mcE L fr lo M_Answer_init 18 [some (mr 47)] [] (tb jT44) (jS4 σ) 50 10379 Φ
  exact mc_return_ (by decide +kernel) rfl k
def jT45 : List (List Nat) := tst jT44 27 6 47
def jT46 : List (List Nat) := tst jT45 49 0 51
def jT47 : List (List Nat) := tst jT46 49 1 52
theorem iv_11 {L fr lo : Nat} {σ : mG} {Φ : mcPost} (hfr : 1 ≤ fr) (hlo : 40 ≤ lo) (k : Φ (.inl none) (tb jT47) (jS4 σ) 53 10390) : mcE L fr lo M_Answer_init 0 (mcEnt M_Answer_init.2.2.1 [mr 50]) [] (tb jT45) (jS4 σ) 51 10382 Φ := by
  show mcE L fr lo M_Answer_init 0 [some (mr 50)] [] (tb jT45) (jS4 σ) 51 10382 Φ
  refine mc_aload_n (j := 0) (by decide +kernel) rfl ?_
  show mcE L fr lo M_Answer_init 1 [some (mr 50)] [mr 50] (tb jT45) (jS4 σ) 51 10382 Φ
  refine mc_objInit (idx := 3) (by decide +kernel) (List.mem_of_getElem? (i := 202) (by decide +kernel)) (List.mem_of_getElem? (i := 77) (by decide +kernel)) (List.mem_of_getElem? (i := 78) (by decide +kernel)) (by omega) (show 0 + 12 ≤ lo by omega) ?_
  show mcE L fr lo M_Answer_init 4 [some (mr 50)] [] (tb jT45) (jS4 σ) 51 10382 Φ
  refine mc_aload_n (j := 0) (by decide +kernel) rfl ?_
  show mcE L fr lo M_Answer_init 5 [some (mr 50)] [mr 50] (tb jT45) (jS4 σ) 51 10382 Φ
  refine mc_iconst (i := 4) (by decide +kernel) ?_
  show mcE L fr lo M_Answer_init 6 [some (mr 50)] [mi 4, mr 50] (tb jT45) (jS4 σ) 51 10382 Φ
  refine mc_newarray (at' := .int) (t := 0) (len := 4) (by decide +kernel) (by decide) rfl (List.mem_of_getElem? (i := 120) (by decide +kernel)) rfl rfl (by decide) (by decide) ?_
  show mcE L fr lo M_Answer_init 8 [some (mr 50)] [mr 51, mr 50] (tb jT45) (jS4 σ) 52 10386 Φ
  refine mc_putR (idx := 9) (ci := 3) (k := 0) (by decide +kernel) ⟨mcFdB_spec (w := 203) (by decide +kernel), rfl, finOk_spec (by decide +kernel)⟩ (by decide) (by decide) rfl ?_
  rw [show upc (tb jT45) 50 (upi (tb jT45 50) ((0 : Nat) : Int) (some 51)) = tb jT46 from tb_put (a := 49) (k := 0) (t := 50) (by decide +kernel) (by decide +kernel)]
  show mcE L fr lo M_Answer_init 11 [some (mr 50)] [] (tb jT46) (jS4 σ) 52 10386 Φ
  refine mc_aload_n (j := 0) (by decide +kernel) rfl ?_
  show mcE L fr lo M_Answer_init 12 [some (mr 50)] [mr 50] (tb jT46) (jS4 σ) 52 10386 Φ
  refine mc_iconst (i := 4) (by decide +kernel) ?_
  show mcE L fr lo M_Answer_init 13 [some (mr 50)] [mi 4, mr 50] (tb jT46) (jS4 σ) 52 10386 Φ
  refine mc_newarray (at' := .int) (t := 0) (len := 4) (by decide +kernel) (by decide) rfl (List.mem_of_getElem? (i := 120) (by decide +kernel)) rfl rfl (by decide) (by decide) ?_
  show mcE L fr lo M_Answer_init 15 [some (mr 50)] [mr 52, mr 50] (tb jT46) (jS4 σ) 53 10390 Φ
  refine mc_putR (idx := 15) (ci := 3) (k := 1) (by decide +kernel) ⟨mcFdB_spec (w := 205) (by decide +kernel), rfl, finOk_spec (by decide +kernel)⟩ (by decide) (by decide) rfl ?_
  rw [show upc (tb jT46) 50 (upi (tb jT46 50) ((1 : Nat) : Int) (some 52)) = tb jT47 from tb_put (a := 49) (k := 1) (t := 51) (by decide +kernel) (by decide +kernel)]
  show mcE L fr lo M_Answer_init 18 [some (mr 50)] [] (tb jT47) (jS4 σ) 53 10390 Φ
  exact mc_return_ (by decide +kernel) rfl k
def jT48 : List (List Nat) := tst jT47 27 7 50
def jT49 : List (List Nat) := tst jT48 52 0 54
def jT50 : List (List Nat) := tst jT49 52 1 55
theorem iv_12 {L fr lo : Nat} {σ : mG} {Φ : mcPost} (hfr : 1 ≤ fr) (hlo : 40 ≤ lo) (k : Φ (.inl none) (tb jT50) (jS4 σ) 56 10401) : mcE L fr lo M_Answer_init 0 (mcEnt M_Answer_init.2.2.1 [mr 53]) [] (tb jT48) (jS4 σ) 54 10393 Φ := by
  show mcE L fr lo M_Answer_init 0 [some (mr 53)] [] (tb jT48) (jS4 σ) 54 10393 Φ
  refine mc_aload_n (j := 0) (by decide +kernel) rfl ?_
  show mcE L fr lo M_Answer_init 1 [some (mr 53)] [mr 53] (tb jT48) (jS4 σ) 54 10393 Φ
  refine mc_objInit (idx := 3) (by decide +kernel) (List.mem_of_getElem? (i := 202) (by decide +kernel)) (List.mem_of_getElem? (i := 77) (by decide +kernel)) (List.mem_of_getElem? (i := 78) (by decide +kernel)) (by omega) (show 0 + 12 ≤ lo by omega) ?_
  show mcE L fr lo M_Answer_init 4 [some (mr 53)] [] (tb jT48) (jS4 σ) 54 10393 Φ
  refine mc_aload_n (j := 0) (by decide +kernel) rfl ?_
  show mcE L fr lo M_Answer_init 5 [some (mr 53)] [mr 53] (tb jT48) (jS4 σ) 54 10393 Φ
  refine mc_iconst (i := 4) (by decide +kernel) ?_
  show mcE L fr lo M_Answer_init 6 [some (mr 53)] [mi 4, mr 53] (tb jT48) (jS4 σ) 54 10393 Φ
  refine mc_newarray (at' := .int) (t := 0) (len := 4) (by decide +kernel) (by decide) rfl (List.mem_of_getElem? (i := 120) (by decide +kernel)) rfl rfl (by decide) (by decide) ?_
  show mcE L fr lo M_Answer_init 8 [some (mr 53)] [mr 54, mr 53] (tb jT48) (jS4 σ) 55 10397 Φ
  refine mc_putR (idx := 9) (ci := 3) (k := 0) (by decide +kernel) ⟨mcFdB_spec (w := 203) (by decide +kernel), rfl, finOk_spec (by decide +kernel)⟩ (by decide) (by decide) rfl ?_
  rw [show upc (tb jT48) 53 (upi (tb jT48 53) ((0 : Nat) : Int) (some 54)) = tb jT49 from tb_put (a := 52) (k := 0) (t := 53) (by decide +kernel) (by decide +kernel)]
  show mcE L fr lo M_Answer_init 11 [some (mr 53)] [] (tb jT49) (jS4 σ) 55 10397 Φ
  refine mc_aload_n (j := 0) (by decide +kernel) rfl ?_
  show mcE L fr lo M_Answer_init 12 [some (mr 53)] [mr 53] (tb jT49) (jS4 σ) 55 10397 Φ
  refine mc_iconst (i := 4) (by decide +kernel) ?_
  show mcE L fr lo M_Answer_init 13 [some (mr 53)] [mi 4, mr 53] (tb jT49) (jS4 σ) 55 10397 Φ
  refine mc_newarray (at' := .int) (t := 0) (len := 4) (by decide +kernel) (by decide) rfl (List.mem_of_getElem? (i := 120) (by decide +kernel)) rfl rfl (by decide) (by decide) ?_
  show mcE L fr lo M_Answer_init 15 [some (mr 53)] [mr 55, mr 53] (tb jT49) (jS4 σ) 56 10401 Φ
  refine mc_putR (idx := 15) (ci := 3) (k := 1) (by decide +kernel) ⟨mcFdB_spec (w := 205) (by decide +kernel), rfl, finOk_spec (by decide +kernel)⟩ (by decide) (by decide) rfl ?_
  rw [show upc (tb jT49) 53 (upi (tb jT49 53) ((1 : Nat) : Int) (some 55)) = tb jT50 from tb_put (a := 52) (k := 1) (t := 54) (by decide +kernel) (by decide +kernel)]
  show mcE L fr lo M_Answer_init 18 [some (mr 53)] [] (tb jT50) (jS4 σ) 56 10401 Φ
  exact mc_return_ (by decide +kernel) rfl k
def jT51 : List (List Nat) := tst jT50 27 8 53
def jT52 : List (List Nat) := tst jT51 55 0 57
def jT53 : List (List Nat) := tst jT52 55 1 58
theorem iv_13 {L fr lo : Nat} {σ : mG} {Φ : mcPost} (hfr : 1 ≤ fr) (hlo : 40 ≤ lo) (k : Φ (.inl none) (tb jT53) (jS4 σ) 59 10412) : mcE L fr lo M_Answer_init 0 (mcEnt M_Answer_init.2.2.1 [mr 56]) [] (tb jT51) (jS4 σ) 57 10404 Φ := by
  show mcE L fr lo M_Answer_init 0 [some (mr 56)] [] (tb jT51) (jS4 σ) 57 10404 Φ
  refine mc_aload_n (j := 0) (by decide +kernel) rfl ?_
  show mcE L fr lo M_Answer_init 1 [some (mr 56)] [mr 56] (tb jT51) (jS4 σ) 57 10404 Φ
  refine mc_objInit (idx := 3) (by decide +kernel) (List.mem_of_getElem? (i := 202) (by decide +kernel)) (List.mem_of_getElem? (i := 77) (by decide +kernel)) (List.mem_of_getElem? (i := 78) (by decide +kernel)) (by omega) (show 0 + 12 ≤ lo by omega) ?_
  show mcE L fr lo M_Answer_init 4 [some (mr 56)] [] (tb jT51) (jS4 σ) 57 10404 Φ
  refine mc_aload_n (j := 0) (by decide +kernel) rfl ?_
  show mcE L fr lo M_Answer_init 5 [some (mr 56)] [mr 56] (tb jT51) (jS4 σ) 57 10404 Φ
  refine mc_iconst (i := 4) (by decide +kernel) ?_
  show mcE L fr lo M_Answer_init 6 [some (mr 56)] [mi 4, mr 56] (tb jT51) (jS4 σ) 57 10404 Φ
  refine mc_newarray (at' := .int) (t := 0) (len := 4) (by decide +kernel) (by decide) rfl (List.mem_of_getElem? (i := 120) (by decide +kernel)) rfl rfl (by decide) (by decide) ?_
  show mcE L fr lo M_Answer_init 8 [some (mr 56)] [mr 57, mr 56] (tb jT51) (jS4 σ) 58 10408 Φ
  refine mc_putR (idx := 9) (ci := 3) (k := 0) (by decide +kernel) ⟨mcFdB_spec (w := 203) (by decide +kernel), rfl, finOk_spec (by decide +kernel)⟩ (by decide) (by decide) rfl ?_
  rw [show upc (tb jT51) 56 (upi (tb jT51 56) ((0 : Nat) : Int) (some 57)) = tb jT52 from tb_put (a := 55) (k := 0) (t := 56) (by decide +kernel) (by decide +kernel)]
  show mcE L fr lo M_Answer_init 11 [some (mr 56)] [] (tb jT52) (jS4 σ) 58 10408 Φ
  refine mc_aload_n (j := 0) (by decide +kernel) rfl ?_
  show mcE L fr lo M_Answer_init 12 [some (mr 56)] [mr 56] (tb jT52) (jS4 σ) 58 10408 Φ
  refine mc_iconst (i := 4) (by decide +kernel) ?_
  show mcE L fr lo M_Answer_init 13 [some (mr 56)] [mi 4, mr 56] (tb jT52) (jS4 σ) 58 10408 Φ
  refine mc_newarray (at' := .int) (t := 0) (len := 4) (by decide +kernel) (by decide) rfl (List.mem_of_getElem? (i := 120) (by decide +kernel)) rfl rfl (by decide) (by decide) ?_
  show mcE L fr lo M_Answer_init 15 [some (mr 56)] [mr 58, mr 56] (tb jT52) (jS4 σ) 59 10412 Φ
  refine mc_putR (idx := 15) (ci := 3) (k := 1) (by decide +kernel) ⟨mcFdB_spec (w := 205) (by decide +kernel), rfl, finOk_spec (by decide +kernel)⟩ (by decide) (by decide) rfl ?_
  rw [show upc (tb jT52) 56 (upi (tb jT52 56) ((1 : Nat) : Int) (some 58)) = tb jT53 from tb_put (a := 55) (k := 1) (t := 57) (by decide +kernel) (by decide +kernel)]
  show mcE L fr lo M_Answer_init 18 [some (mr 56)] [] (tb jT53) (jS4 σ) 59 10412 Φ
  exact mc_return_ (by decide +kernel) rfl k
def jT54 : List (List Nat) := tst jT53 27 9 56
def jT55 : List (List Nat) := tst jT54 58 0 60
def jT56 : List (List Nat) := tst jT55 58 1 61
theorem iv_14 {L fr lo : Nat} {σ : mG} {Φ : mcPost} (hfr : 1 ≤ fr) (hlo : 40 ≤ lo) (k : Φ (.inl none) (tb jT56) (jS4 σ) 62 10423) : mcE L fr lo M_Answer_init 0 (mcEnt M_Answer_init.2.2.1 [mr 59]) [] (tb jT54) (jS4 σ) 60 10415 Φ := by
  show mcE L fr lo M_Answer_init 0 [some (mr 59)] [] (tb jT54) (jS4 σ) 60 10415 Φ
  refine mc_aload_n (j := 0) (by decide +kernel) rfl ?_
  show mcE L fr lo M_Answer_init 1 [some (mr 59)] [mr 59] (tb jT54) (jS4 σ) 60 10415 Φ
  refine mc_objInit (idx := 3) (by decide +kernel) (List.mem_of_getElem? (i := 202) (by decide +kernel)) (List.mem_of_getElem? (i := 77) (by decide +kernel)) (List.mem_of_getElem? (i := 78) (by decide +kernel)) (by omega) (show 0 + 12 ≤ lo by omega) ?_
  show mcE L fr lo M_Answer_init 4 [some (mr 59)] [] (tb jT54) (jS4 σ) 60 10415 Φ
  refine mc_aload_n (j := 0) (by decide +kernel) rfl ?_
  show mcE L fr lo M_Answer_init 5 [some (mr 59)] [mr 59] (tb jT54) (jS4 σ) 60 10415 Φ
  refine mc_iconst (i := 4) (by decide +kernel) ?_
  show mcE L fr lo M_Answer_init 6 [some (mr 59)] [mi 4, mr 59] (tb jT54) (jS4 σ) 60 10415 Φ
  refine mc_newarray (at' := .int) (t := 0) (len := 4) (by decide +kernel) (by decide) rfl (List.mem_of_getElem? (i := 120) (by decide +kernel)) rfl rfl (by decide) (by decide) ?_
  show mcE L fr lo M_Answer_init 8 [some (mr 59)] [mr 60, mr 59] (tb jT54) (jS4 σ) 61 10419 Φ
  refine mc_putR (idx := 9) (ci := 3) (k := 0) (by decide +kernel) ⟨mcFdB_spec (w := 203) (by decide +kernel), rfl, finOk_spec (by decide +kernel)⟩ (by decide) (by decide) rfl ?_
  rw [show upc (tb jT54) 59 (upi (tb jT54 59) ((0 : Nat) : Int) (some 60)) = tb jT55 from tb_put (a := 58) (k := 0) (t := 59) (by decide +kernel) (by decide +kernel)]
  show mcE L fr lo M_Answer_init 11 [some (mr 59)] [] (tb jT55) (jS4 σ) 61 10419 Φ
  refine mc_aload_n (j := 0) (by decide +kernel) rfl ?_
  show mcE L fr lo M_Answer_init 12 [some (mr 59)] [mr 59] (tb jT55) (jS4 σ) 61 10419 Φ
  refine mc_iconst (i := 4) (by decide +kernel) ?_
  show mcE L fr lo M_Answer_init 13 [some (mr 59)] [mi 4, mr 59] (tb jT55) (jS4 σ) 61 10419 Φ
  refine mc_newarray (at' := .int) (t := 0) (len := 4) (by decide +kernel) (by decide) rfl (List.mem_of_getElem? (i := 120) (by decide +kernel)) rfl rfl (by decide) (by decide) ?_
  show mcE L fr lo M_Answer_init 15 [some (mr 59)] [mr 61, mr 59] (tb jT55) (jS4 σ) 62 10423 Φ
  refine mc_putR (idx := 15) (ci := 3) (k := 1) (by decide +kernel) ⟨mcFdB_spec (w := 205) (by decide +kernel), rfl, finOk_spec (by decide +kernel)⟩ (by decide) (by decide) rfl ?_
  rw [show upc (tb jT55) 59 (upi (tb jT55 59) ((1 : Nat) : Int) (some 61)) = tb jT56 from tb_put (a := 58) (k := 1) (t := 60) (by decide +kernel) (by decide +kernel)]
  show mcE L fr lo M_Answer_init 18 [some (mr 59)] [] (tb jT56) (jS4 σ) 62 10423 Φ
  exact mc_return_ (by decide +kernel) rfl k
def jT57 : List (List Nat) := tst jT56 27 10 59
def jT58 : List (List Nat) := tst jT57 61 0 63
def jT59 : List (List Nat) := tst jT58 61 1 64
theorem iv_15 {L fr lo : Nat} {σ : mG} {Φ : mcPost} (hfr : 1 ≤ fr) (hlo : 40 ≤ lo) (k : Φ (.inl none) (tb jT59) (jS4 σ) 65 10434) : mcE L fr lo M_Answer_init 0 (mcEnt M_Answer_init.2.2.1 [mr 62]) [] (tb jT57) (jS4 σ) 63 10426 Φ := by
  show mcE L fr lo M_Answer_init 0 [some (mr 62)] [] (tb jT57) (jS4 σ) 63 10426 Φ
  refine mc_aload_n (j := 0) (by decide +kernel) rfl ?_
  show mcE L fr lo M_Answer_init 1 [some (mr 62)] [mr 62] (tb jT57) (jS4 σ) 63 10426 Φ
  refine mc_objInit (idx := 3) (by decide +kernel) (List.mem_of_getElem? (i := 202) (by decide +kernel)) (List.mem_of_getElem? (i := 77) (by decide +kernel)) (List.mem_of_getElem? (i := 78) (by decide +kernel)) (by omega) (show 0 + 12 ≤ lo by omega) ?_
  show mcE L fr lo M_Answer_init 4 [some (mr 62)] [] (tb jT57) (jS4 σ) 63 10426 Φ
  refine mc_aload_n (j := 0) (by decide +kernel) rfl ?_
  show mcE L fr lo M_Answer_init 5 [some (mr 62)] [mr 62] (tb jT57) (jS4 σ) 63 10426 Φ
  refine mc_iconst (i := 4) (by decide +kernel) ?_
  show mcE L fr lo M_Answer_init 6 [some (mr 62)] [mi 4, mr 62] (tb jT57) (jS4 σ) 63 10426 Φ
  refine mc_newarray (at' := .int) (t := 0) (len := 4) (by decide +kernel) (by decide) rfl (List.mem_of_getElem? (i := 120) (by decide +kernel)) rfl rfl (by decide) (by decide) ?_
  show mcE L fr lo M_Answer_init 8 [some (mr 62)] [mr 63, mr 62] (tb jT57) (jS4 σ) 64 10430 Φ
  refine mc_putR (idx := 9) (ci := 3) (k := 0) (by decide +kernel) ⟨mcFdB_spec (w := 203) (by decide +kernel), rfl, finOk_spec (by decide +kernel)⟩ (by decide) (by decide) rfl ?_
  rw [show upc (tb jT57) 62 (upi (tb jT57 62) ((0 : Nat) : Int) (some 63)) = tb jT58 from tb_put (a := 61) (k := 0) (t := 62) (by decide +kernel) (by decide +kernel)]
  show mcE L fr lo M_Answer_init 11 [some (mr 62)] [] (tb jT58) (jS4 σ) 64 10430 Φ
  refine mc_aload_n (j := 0) (by decide +kernel) rfl ?_
  show mcE L fr lo M_Answer_init 12 [some (mr 62)] [mr 62] (tb jT58) (jS4 σ) 64 10430 Φ
  refine mc_iconst (i := 4) (by decide +kernel) ?_
  show mcE L fr lo M_Answer_init 13 [some (mr 62)] [mi 4, mr 62] (tb jT58) (jS4 σ) 64 10430 Φ
  refine mc_newarray (at' := .int) (t := 0) (len := 4) (by decide +kernel) (by decide) rfl (List.mem_of_getElem? (i := 120) (by decide +kernel)) rfl rfl (by decide) (by decide) ?_
  show mcE L fr lo M_Answer_init 15 [some (mr 62)] [mr 64, mr 62] (tb jT58) (jS4 σ) 65 10434 Φ
  refine mc_putR (idx := 15) (ci := 3) (k := 1) (by decide +kernel) ⟨mcFdB_spec (w := 205) (by decide +kernel), rfl, finOk_spec (by decide +kernel)⟩ (by decide) (by decide) rfl ?_
  rw [show upc (tb jT58) 62 (upi (tb jT58 62) ((1 : Nat) : Int) (some 64)) = tb jT59 from tb_put (a := 61) (k := 1) (t := 63) (by decide +kernel) (by decide +kernel)]
  show mcE L fr lo M_Answer_init 18 [some (mr 62)] [] (tb jT59) (jS4 σ) 65 10434 Φ
  exact mc_return_ (by decide +kernel) rfl k
def jT60 : List (List Nat) := tst jT59 27 11 62
theorem iv_16 {L fr lo : Nat} {σ : mG} {Φ : mcPost} (hfr : 3 ≤ fr) (hlo : 120 ≤ lo) (k : Φ (.inl none) (tb jT60) (jS4 σ) 65 10434) : mcE L fr lo M_Disk_init 0 (mcEnt M_Disk_init.2.2.1 [mr 12]) [] (tb jT8) (jS0 σ) 13 7540 Φ := by
  show mcE L fr lo M_Disk_init 0 [some (mr 12), none] [] (tb jT8) (jS0 σ) 13 7540 Φ
  refine mc_aload_n (j := 0) (by decide +kernel) rfl ?_
  show mcE L fr lo M_Disk_init 1 [some (mr 12), none] [mr 12] (tb jT8) (jS0 σ) 13 7540 Φ
  refine mc_objInit (idx := 3) (by decide +kernel) (List.mem_of_getElem? (i := 138) (by decide +kernel)) (List.mem_of_getElem? (i := 77) (by decide +kernel)) (List.mem_of_getElem? (i := 78) (by decide +kernel)) (by omega) (show 0 + 12 ≤ lo by omega) ?_
  show mcE L fr lo M_Disk_init 4 [some (mr 12), none] [] (tb jT8) (jS0 σ) 13 7540 Φ
  refine mc_aload_n (j := 0) (by decide +kernel) rfl ?_
  show mcE L fr lo M_Disk_init 5 [some (mr 12), none] [mr 12] (tb jT8) (jS0 σ) 13 7540 Φ
  refine mc_new (idx := 9) (ci := 1) (N := 5) (by decide +kernel) ⟨_, _, _, rfl, rfl, (List.mem_of_getElem? (i := 139) (by decide +kernel)), (List.mem_of_getElem? (i := 140) (by decide +kernel)), (List.mem_of_getElem? (i := 57) (by decide +kernel))⟩ rfl (by decide) (by decide) ?_
  show mcE L fr lo M_Disk_init 8 [some (mr 12), none] [mr 13, mr 12] (tb jT8) (jS0 σ) 14 7545 Φ
  refine mc_dup (by decide +kernel) rfl ?_
  show mcE L fr lo M_Disk_init 9 [some (mr 12), none] [mr 13, mr 13, mr 12] (tb jT8) (jS0 σ) 14 7545 Φ
  refine mc_init (M' := M_Tree_init) (fr' := fr - 1) (lo' := lo - 40) (idx := 11) (a := 13) (vs := []) (by decide +kernel) (List.mem_of_getElem? (i := 141) (by decide +kernel)) (List.mem_of_getElem? (i := 142) (by decide +kernel)) (List.mem_of_getElem? (i := 143) (by decide +kernel)) rfl (mcCdB_spec (wi := 57) (wc := 143) (by decide +kernel)) (Or.inl rfl) (mcArB_spec (by decide +kernel)) (by decide) (by omega) (show 2 + (1 + 11) + (lo - 40) ≤ lo by omega) (by decide) ?_
  refine iv_2 (by omega) (by omega) ?_
  show mcE L fr lo M_Disk_init 12 [some (mr 12), none] [mr 13, mr 12] (tb jT13) (jS3 σ) 19 9721 Φ
  refine mc_putR (idx := 12) (ci := 4) (k := 0) (by decide +kernel) ⟨mcFdB_spec (w := 217) (by decide +kernel), rfl, finOk_spec (by decide +kernel)⟩ (by decide) (by decide) rfl ?_
  rw [show upc (tb jT13) 12 (upi (tb jT13 12) ((0 : Nat) : Int) (some 13)) = tb jT14 from tb_put (a := 11) (k := 0) (t := 12) (by decide +kernel) (by decide +kernel)]
  show mcE L fr lo M_Disk_init 15 [some (mr 12), none] [] (tb jT14) (jS3 σ) 19 9721 Φ
  refine mc_aload_n (j := 0) (by decide +kernel) rfl ?_
  show mcE L fr lo M_Disk_init 16 [some (mr 12), none] [mr 12] (tb jT14) (jS3 σ) 19 9721 Φ
  refine mc_new (idx := 18) (ci := 2) (N := 5) (by decide +kernel) ⟨_, _, _, rfl, rfl, (List.mem_of_getElem? (i := 171) (by decide +kernel)), (List.mem_of_getElem? (i := 172) (by decide +kernel)), (List.mem_of_getElem? (i := 59) (by decide +kernel))⟩ rfl (by decide) (by decide) ?_
  show mcE L fr lo M_Disk_init 19 [some (mr 12), none] [mr 19, mr 12] (tb jT14) (jS3 σ) 20 9726 Φ
  refine mc_dup (by decide +kernel) rfl ?_
  show mcE L fr lo M_Disk_init 20 [some (mr 12), none] [mr 19, mr 19, mr 12] (tb jT14) (jS3 σ) 20 9726 Φ
  refine mc_init (M' := M_Locks_init) (fr' := fr - 1) (lo' := lo - 40) (idx := 20) (a := 19) (vs := []) (by decide +kernel) (List.mem_of_getElem? (i := 173) (by decide +kernel)) (List.mem_of_getElem? (i := 174) (by decide +kernel)) (List.mem_of_getElem? (i := 175) (by decide +kernel)) rfl (mcCdB_spec (wi := 59) (wc := 175) (by decide +kernel)) (Or.inl rfl) (mcArB_spec (by decide +kernel)) (by decide) (by omega) (show 2 + (1 + 11) + (lo - 40) ≤ lo by omega) (by decide) ?_
  refine iv_3 (by omega) (by omega) ?_
  show mcE L fr lo M_Disk_init 23 [some (mr 12), none] [mr 19, mr 12] (tb jT19) (jS3 σ) 25 10242 Φ
  refine mc_putR (idx := 21) (ci := 4) (k := 1) (by decide +kernel) ⟨mcFdB_spec (w := 220) (by decide +kernel), rfl, finOk_spec (by decide +kernel)⟩ (by decide) (by decide) rfl ?_
  rw [show upc (tb jT19) 12 (upi (tb jT19 12) ((1 : Nat) : Int) (some 19)) = tb jT20 from tb_put (a := 11) (k := 1) (t := 18) (by decide +kernel) (by decide +kernel)]
  show mcE L fr lo M_Disk_init 26 [some (mr 12), none] [] (tb jT20) (jS3 σ) 25 10242 Φ
  refine mc_aload_n (j := 0) (by decide +kernel) rfl ?_
  show mcE L fr lo M_Disk_init 27 [some (mr 12), none] [mr 12] (tb jT20) (jS3 σ) 25 10242 Φ
  refine mc_bipush (i := 32) (by decide +kernel) (by decide) ?_
  show mcE L fr lo M_Disk_init 29 [some (mr 12), none] [mi 32, mr 12] (tb jT20) (jS3 σ) 25 10242 Φ
  refine mc_newarray (at' := .int) (t := 0) (len := 32) (by decide +kernel) (by decide) rfl (List.mem_of_getElem? (i := 120) (by decide +kernel)) rfl rfl (by decide) (by decide) ?_
  show mcE L fr lo M_Disk_init 31 [some (mr 12), none] [mr 25, mr 12] (tb jT20) (jS3 σ) 26 10274 Φ
  refine mc_putR (idx := 25) (ci := 4) (k := 2) (by decide +kernel) ⟨mcFdB_spec (w := 224) (by decide +kernel), rfl, finOk_spec (by decide +kernel)⟩ (by decide) (by decide) rfl ?_
  rw [show upc (tb jT20) 12 (upi (tb jT20 12) ((2 : Nat) : Int) (some 25)) = tb jT21 from tb_put (a := 11) (k := 2) (t := 24) (by decide +kernel) (by decide +kernel)]
  show mcE L fr lo M_Disk_init 34 [some (mr 12), none] [] (tb jT21) (jS3 σ) 26 10274 Φ
  refine mc_aload_n (j := 0) (by decide +kernel) rfl ?_
  show mcE L fr lo M_Disk_init 35 [some (mr 12), none] [mr 12] (tb jT21) (jS3 σ) 26 10274 Φ
  refine mc_iconst (i := 4) (by decide +kernel) ?_
  show mcE L fr lo M_Disk_init 36 [some (mr 12), none] [mi 4, mr 12] (tb jT21) (jS3 σ) 26 10274 Φ
  refine mc_newarray (at' := .int) (t := 0) (len := 4) (by decide +kernel) (by decide) rfl (List.mem_of_getElem? (i := 120) (by decide +kernel)) rfl rfl (by decide) (by decide) ?_
  show mcE L fr lo M_Disk_init 38 [some (mr 12), none] [mr 26, mr 12] (tb jT21) (jS3 σ) 27 10278 Φ
  refine mc_putR (idx := 29) (ci := 4) (k := 3) (by decide +kernel) ⟨mcFdB_spec (w := 225) (by decide +kernel), rfl, finOk_spec (by decide +kernel)⟩ (by decide) (by decide) rfl ?_
  rw [show upc (tb jT21) 12 (upi (tb jT21 12) ((3 : Nat) : Int) (some 26)) = tb jT22 from tb_put (a := 11) (k := 3) (t := 25) (by decide +kernel) (by decide +kernel)]
  show mcE L fr lo M_Disk_init 41 [some (mr 12), none] [] (tb jT22) (jS3 σ) 27 10278 Φ
  refine mc_aload_n (j := 0) (by decide +kernel) rfl ?_
  show mcE L fr lo M_Disk_init 42 [some (mr 12), none] [mr 12] (tb jT22) (jS3 σ) 27 10278 Φ
  refine mc_bipush (i := 12) (by decide +kernel) (by decide) ?_
  show mcE L fr lo M_Disk_init 44 [some (mr 12), none] [mi 12, mr 12] (tb jT22) (jS3 σ) 27 10278 Φ
  refine mc_newarray (at' := .int) (t := 0) (len := 12) (by decide +kernel) (by decide) rfl (List.mem_of_getElem? (i := 120) (by decide +kernel)) rfl rfl (by decide) (by decide) ?_
  show mcE L fr lo M_Disk_init 46 [some (mr 12), none] [mr 27, mr 12] (tb jT22) (jS3 σ) 28 10290 Φ
  refine mc_putR (idx := 32) (ci := 4) (k := 4) (by decide +kernel) ⟨mcFdB_spec (w := 227) (by decide +kernel), rfl, finOk_spec (by decide +kernel)⟩ (by decide) (by decide) rfl ?_
  rw [show upc (tb jT22) 12 (upi (tb jT22 12) ((4 : Nat) : Int) (some 27)) = tb jT23 from tb_put (a := 11) (k := 4) (t := 26) (by decide +kernel) (by decide +kernel)]
  show mcE L fr lo M_Disk_init 49 [some (mr 12), none] [] (tb jT23) (jS3 σ) 28 10290 Φ
  refine mc_aload_n (j := 0) (by decide +kernel) rfl ?_
  show mcE L fr lo M_Disk_init 50 [some (mr 12), none] [mr 12] (tb jT23) (jS3 σ) 28 10290 Φ
  refine mc_bipush (i := 12) (by decide +kernel) (by decide) ?_
  show mcE L fr lo M_Disk_init 52 [some (mr 12), none] [mi 12, mr 12] (tb jT23) (jS3 σ) 28 10290 Φ
  refine mc_anewarray (idx := 35) (t := 5) (len := 12) (C := "SlotServer$Answer") (by decide +kernel) (by decide) rfl (List.mem_of_getElem? (i := 195) (by decide +kernel)) (List.mem_of_getElem? (i := 196) (by decide +kernel)) rfl rfl (by decide) (by decide) (by decide) ?_
  show mcE L fr lo M_Disk_init 55 [some (mr 12), none] [mr 28, mr 12] (tb jT23) (jS3 σ) 29 10302 Φ
  refine mc_putR (idx := 37) (ci := 4) (k := 5) (by decide +kernel) ⟨mcFdB_spec (w := 229) (by decide +kernel), rfl, finOk_spec (by decide +kernel)⟩ (by decide) (by decide) rfl ?_
  rw [show upc (tb jT23) 12 (upi (tb jT23 12) ((5 : Nat) : Int) (some 28)) = tb jT24 from tb_put (a := 11) (k := 5) (t := 27) (by decide +kernel) (by decide +kernel)]
  show mcE L fr lo M_Disk_init 58 [some (mr 12), none] [] (tb jT24) (jS3 σ) 29 10302 Φ
  refine mc_aload_n (j := 0) (by decide +kernel) rfl ?_
  show mcE L fr lo M_Disk_init 59 [some (mr 12), none] [mr 12] (tb jT24) (jS3 σ) 29 10302 Φ
  refine mc_getR (idx := 25) (ci := 4) (k := 2) (t := 25) (by decide +kernel) (mcFdB_spec (w := 224) (by decide +kernel)) (by decide) (by decide) rfl (show tb jT24 12 ((2 : Nat) : Int) = some 25 by decide +kernel) ?_
  show mcE L fr lo M_Disk_init 62 [some (mr 12), none] [mr 25] (tb jT24) (jS3 σ) 29 10302 Φ
  refine mc_iconst (i := -1) (by decide +kernel) ?_
  show mcE L fr lo M_Disk_init 63 [some (mr 12), none] [mi (-1), mr 25] (tb jT24) (jS3 σ) 29 10302 Φ
  refine mc_static (M' := M_Arrays_fill_0) (fr' := fr - 1) (lo' := lo - 40) (idx := 41) (vs := [mr 25, mi (-1)]) (by decide +kernel) (Or.inl (List.mem_of_getElem? (i := 197) (by decide +kernel))) (List.mem_of_getElem? (i := 146) (by decide +kernel)) (mcCdB_spec (wi := 58) (wc := 147) (by decide +kernel)) (Or.inl rfl) (mcArB_spec (by decide +kernel)) (by omega) (show 0 + (4 + 11) + (lo - 40) ≤ lo by omega) (by decide) ?_
  refine mcE.at0 ?_
  refine in_fill (a := 25) (len := 32) (v := (-1)) (by decide) (by decide) rfl (by decide) (by unfold in32; decide) ?_
  show mcE L fr lo M_Disk_init 66 [some (mr 12), none] [] (tb jT24) (jS4 σ) 29 10302 Φ
  refine mc_iconst (i := 0) (by decide +kernel) ?_
  show mcE L fr lo M_Disk_init 67 [some (mr 12), none] [mi 0] (tb jT24) (jS4 σ) 29 10302 Φ
  refine mc_istore_n (j := 1) (by decide +kernel) (by decide) ?_
  show mcE L fr lo M_Disk_init 68 [some (mr 12), some (mi 0)] [] (tb jT24) (jS4 σ) 29 10302 Φ
  refine mc_iload_n (j := 1) (by decide +kernel) rfl ?_
  show mcE L fr lo M_Disk_init 69 [some (mr 12), some (mi 0)] [mi 0] (tb jT24) (jS4 σ) 29 10302 Φ
  refine mc_bipush (i := 12) (by decide +kernel) (by decide) ?_
  show mcE L fr lo M_Disk_init 71 [some (mr 12), some (mi 0)] [mi 12, mi 0] (tb jT24) (jS4 σ) 29 10302 Φ
  refine mc_icmp_ge (off := 22) (by decide +kernel) (by decide) (by unfold in32; decide) (by unfold in32; decide) (fun w => absurd w (by decide)) (fun _ => ?_)
  show mcE L fr lo M_Disk_init 74 [some (mr 12), some (mi 0)] [] (tb jT24) (jS4 σ) 29 10302 Φ
  refine mc_aload_n (j := 0) (by decide +kernel) rfl ?_
  show mcE L fr lo M_Disk_init 75 [some (mr 12), some (mi 0)] [mr 12] (tb jT24) (jS4 σ) 29 10302 Φ
  refine mc_getR (idx := 37) (ci := 4) (k := 5) (t := 28) (by decide +kernel) (mcFdB_spec (w := 229) (by decide +kernel)) (by decide) (by decide) rfl (show tb jT24 12 ((5 : Nat) : Int) = some 28 by decide +kernel) ?_
  show mcE L fr lo M_Disk_init 78 [some (mr 12), some (mi 0)] [mr 28] (tb jT24) (jS4 σ) 29 10302 Φ
  refine mc_iload_n (j := 1) (by decide +kernel) rfl ?_
  show mcE L fr lo M_Disk_init 79 [some (mr 12), some (mi 0)] [mi 0, mr 28] (tb jT24) (jS4 σ) 29 10302 Φ
  refine mc_new (idx := 35) (ci := 3) (N := 3) (by decide +kernel) ⟨_, _, _, rfl, rfl, (List.mem_of_getElem? (i := 195) (by decide +kernel)), (List.mem_of_getElem? (i := 198) (by decide +kernel)), (List.mem_of_getElem? (i := 60) (by decide +kernel))⟩ rfl (by decide) (by decide) ?_
  show mcE L fr lo M_Disk_init 82 [some (mr 12), some (mi 0)] [mr 29, mi 0, mr 28] (tb jT24) (jS4 σ) 30 10305 Φ
  refine mc_dup (by decide +kernel) rfl ?_
  show mcE L fr lo M_Disk_init 83 [some (mr 12), some (mi 0)] [mr 29, mr 29, mi 0, mr 28] (tb jT24) (jS4 σ) 30 10305 Φ
  refine mc_init (M' := M_Answer_init) (fr' := fr - 1) (lo' := lo - 40) (idx := 47) (a := 29) (vs := []) (by decide +kernel) (List.mem_of_getElem? (i := 199) (by decide +kernel)) (List.mem_of_getElem? (i := 200) (by decide +kernel)) (List.mem_of_getElem? (i := 201) (by decide +kernel)) rfl (mcCdB_spec (wi := 60) (wc := 201) (by decide +kernel)) (Or.inl rfl) (mcArB_spec (by decide +kernel)) (by decide) (by omega) (show 3 + (1 + 11) + (lo - 40) ≤ lo by omega) (by decide) ?_
  refine iv_4 (by omega) (by omega) ?_
  show mcE L fr lo M_Disk_init 86 [some (mr 12), some (mi 0)] [mr 29, mi 0, mr 28] (tb jT26) (jS4 σ) 32 10313 Φ
  refine mc_aastore (a := 28) (u := 29) (x := 0) (by decide +kernel) (by decide) (by decide) (by decide) rfl (by decide) (by decide) (by decide) rfl rfl rfl ?_
  rw [show upc (tb jT26) 28 (upi (tb jT26 28) (0 : Int) (some 29)) = tb jT27 from tb_put (a := 27) (k := 0) (t := 28) (by decide +kernel) (by decide +kernel)]
  show mcE L fr lo M_Disk_init 87 [some (mr 12), some (mi 0)] [] (tb jT27) (jS4 σ) 32 10313 Φ
  refine mc_iinc (i := 1) (q := 1) (by decide +kernel) rfl (by decide) ?_
  show mcE L fr lo M_Disk_init 90 [some (mr 12), some (mi 1)] [] (tb jT27) (jS4 σ) 32 10313 Φ
  refine mc_goto (off := -22) (by decide +kernel) (by decide) ?_
  show mcE L fr lo M_Disk_init 68 [some (mr 12), some (mi 1)] [] (tb jT27) (jS4 σ) 32 10313 Φ
  refine mc_iload_n (j := 1) (by decide +kernel) rfl ?_
  show mcE L fr lo M_Disk_init 69 [some (mr 12), some (mi 1)] [mi 1] (tb jT27) (jS4 σ) 32 10313 Φ
  refine mc_bipush (i := 12) (by decide +kernel) (by decide) ?_
  show mcE L fr lo M_Disk_init 71 [some (mr 12), some (mi 1)] [mi 12, mi 1] (tb jT27) (jS4 σ) 32 10313 Φ
  refine mc_icmp_ge (off := 22) (by decide +kernel) (by decide) (by unfold in32; decide) (by unfold in32; decide) (fun w => absurd w (by decide)) (fun _ => ?_)
  show mcE L fr lo M_Disk_init 74 [some (mr 12), some (mi 1)] [] (tb jT27) (jS4 σ) 32 10313 Φ
  refine mc_aload_n (j := 0) (by decide +kernel) rfl ?_
  show mcE L fr lo M_Disk_init 75 [some (mr 12), some (mi 1)] [mr 12] (tb jT27) (jS4 σ) 32 10313 Φ
  refine mc_getR (idx := 37) (ci := 4) (k := 5) (t := 28) (by decide +kernel) (mcFdB_spec (w := 229) (by decide +kernel)) (by decide) (by decide) rfl (show tb jT27 12 ((5 : Nat) : Int) = some 28 by decide +kernel) ?_
  show mcE L fr lo M_Disk_init 78 [some (mr 12), some (mi 1)] [mr 28] (tb jT27) (jS4 σ) 32 10313 Φ
  refine mc_iload_n (j := 1) (by decide +kernel) rfl ?_
  show mcE L fr lo M_Disk_init 79 [some (mr 12), some (mi 1)] [mi 1, mr 28] (tb jT27) (jS4 σ) 32 10313 Φ
  refine mc_new (idx := 35) (ci := 3) (N := 3) (by decide +kernel) ⟨_, _, _, rfl, rfl, (List.mem_of_getElem? (i := 195) (by decide +kernel)), (List.mem_of_getElem? (i := 198) (by decide +kernel)), (List.mem_of_getElem? (i := 60) (by decide +kernel))⟩ rfl (by decide) (by decide) ?_
  show mcE L fr lo M_Disk_init 82 [some (mr 12), some (mi 1)] [mr 32, mi 1, mr 28] (tb jT27) (jS4 σ) 33 10316 Φ
  refine mc_dup (by decide +kernel) rfl ?_
  show mcE L fr lo M_Disk_init 83 [some (mr 12), some (mi 1)] [mr 32, mr 32, mi 1, mr 28] (tb jT27) (jS4 σ) 33 10316 Φ
  refine mc_init (M' := M_Answer_init) (fr' := fr - 1) (lo' := lo - 40) (idx := 47) (a := 32) (vs := []) (by decide +kernel) (List.mem_of_getElem? (i := 199) (by decide +kernel)) (List.mem_of_getElem? (i := 200) (by decide +kernel)) (List.mem_of_getElem? (i := 201) (by decide +kernel)) rfl (mcCdB_spec (wi := 60) (wc := 201) (by decide +kernel)) (Or.inl rfl) (mcArB_spec (by decide +kernel)) (by decide) (by omega) (show 3 + (1 + 11) + (lo - 40) ≤ lo by omega) (by decide) ?_
  refine iv_5 (by omega) (by omega) ?_
  show mcE L fr lo M_Disk_init 86 [some (mr 12), some (mi 1)] [mr 32, mi 1, mr 28] (tb jT29) (jS4 σ) 35 10324 Φ
  refine mc_aastore (a := 28) (u := 32) (x := 1) (by decide +kernel) (by decide) (by decide) (by decide) rfl (by decide) (by decide) (by decide) rfl rfl rfl ?_
  rw [show upc (tb jT29) 28 (upi (tb jT29 28) (1 : Int) (some 32)) = tb jT30 from tb_put (a := 27) (k := 1) (t := 31) (by decide +kernel) (by decide +kernel)]
  show mcE L fr lo M_Disk_init 87 [some (mr 12), some (mi 1)] [] (tb jT30) (jS4 σ) 35 10324 Φ
  refine mc_iinc (i := 1) (q := 1) (by decide +kernel) rfl (by decide) ?_
  show mcE L fr lo M_Disk_init 90 [some (mr 12), some (mi 2)] [] (tb jT30) (jS4 σ) 35 10324 Φ
  refine mc_goto (off := -22) (by decide +kernel) (by decide) ?_
  show mcE L fr lo M_Disk_init 68 [some (mr 12), some (mi 2)] [] (tb jT30) (jS4 σ) 35 10324 Φ
  refine mc_iload_n (j := 1) (by decide +kernel) rfl ?_
  show mcE L fr lo M_Disk_init 69 [some (mr 12), some (mi 2)] [mi 2] (tb jT30) (jS4 σ) 35 10324 Φ
  refine mc_bipush (i := 12) (by decide +kernel) (by decide) ?_
  show mcE L fr lo M_Disk_init 71 [some (mr 12), some (mi 2)] [mi 12, mi 2] (tb jT30) (jS4 σ) 35 10324 Φ
  refine mc_icmp_ge (off := 22) (by decide +kernel) (by decide) (by unfold in32; decide) (by unfold in32; decide) (fun w => absurd w (by decide)) (fun _ => ?_)
  show mcE L fr lo M_Disk_init 74 [some (mr 12), some (mi 2)] [] (tb jT30) (jS4 σ) 35 10324 Φ
  refine mc_aload_n (j := 0) (by decide +kernel) rfl ?_
  show mcE L fr lo M_Disk_init 75 [some (mr 12), some (mi 2)] [mr 12] (tb jT30) (jS4 σ) 35 10324 Φ
  refine mc_getR (idx := 37) (ci := 4) (k := 5) (t := 28) (by decide +kernel) (mcFdB_spec (w := 229) (by decide +kernel)) (by decide) (by decide) rfl (show tb jT30 12 ((5 : Nat) : Int) = some 28 by decide +kernel) ?_
  show mcE L fr lo M_Disk_init 78 [some (mr 12), some (mi 2)] [mr 28] (tb jT30) (jS4 σ) 35 10324 Φ
  refine mc_iload_n (j := 1) (by decide +kernel) rfl ?_
  show mcE L fr lo M_Disk_init 79 [some (mr 12), some (mi 2)] [mi 2, mr 28] (tb jT30) (jS4 σ) 35 10324 Φ
  refine mc_new (idx := 35) (ci := 3) (N := 3) (by decide +kernel) ⟨_, _, _, rfl, rfl, (List.mem_of_getElem? (i := 195) (by decide +kernel)), (List.mem_of_getElem? (i := 198) (by decide +kernel)), (List.mem_of_getElem? (i := 60) (by decide +kernel))⟩ rfl (by decide) (by decide) ?_
  show mcE L fr lo M_Disk_init 82 [some (mr 12), some (mi 2)] [mr 35, mi 2, mr 28] (tb jT30) (jS4 σ) 36 10327 Φ
  refine mc_dup (by decide +kernel) rfl ?_
  show mcE L fr lo M_Disk_init 83 [some (mr 12), some (mi 2)] [mr 35, mr 35, mi 2, mr 28] (tb jT30) (jS4 σ) 36 10327 Φ
  refine mc_init (M' := M_Answer_init) (fr' := fr - 1) (lo' := lo - 40) (idx := 47) (a := 35) (vs := []) (by decide +kernel) (List.mem_of_getElem? (i := 199) (by decide +kernel)) (List.mem_of_getElem? (i := 200) (by decide +kernel)) (List.mem_of_getElem? (i := 201) (by decide +kernel)) rfl (mcCdB_spec (wi := 60) (wc := 201) (by decide +kernel)) (Or.inl rfl) (mcArB_spec (by decide +kernel)) (by decide) (by omega) (show 3 + (1 + 11) + (lo - 40) ≤ lo by omega) (by decide) ?_
  refine iv_6 (by omega) (by omega) ?_
  show mcE L fr lo M_Disk_init 86 [some (mr 12), some (mi 2)] [mr 35, mi 2, mr 28] (tb jT32) (jS4 σ) 38 10335 Φ
  refine mc_aastore (a := 28) (u := 35) (x := 2) (by decide +kernel) (by decide) (by decide) (by decide) rfl (by decide) (by decide) (by decide) rfl rfl rfl ?_
  rw [show upc (tb jT32) 28 (upi (tb jT32 28) (2 : Int) (some 35)) = tb jT33 from tb_put (a := 27) (k := 2) (t := 34) (by decide +kernel) (by decide +kernel)]
  show mcE L fr lo M_Disk_init 87 [some (mr 12), some (mi 2)] [] (tb jT33) (jS4 σ) 38 10335 Φ
  refine mc_iinc (i := 1) (q := 1) (by decide +kernel) rfl (by decide) ?_
  show mcE L fr lo M_Disk_init 90 [some (mr 12), some (mi 3)] [] (tb jT33) (jS4 σ) 38 10335 Φ
  refine mc_goto (off := -22) (by decide +kernel) (by decide) ?_
  show mcE L fr lo M_Disk_init 68 [some (mr 12), some (mi 3)] [] (tb jT33) (jS4 σ) 38 10335 Φ
  refine mc_iload_n (j := 1) (by decide +kernel) rfl ?_
  show mcE L fr lo M_Disk_init 69 [some (mr 12), some (mi 3)] [mi 3] (tb jT33) (jS4 σ) 38 10335 Φ
  refine mc_bipush (i := 12) (by decide +kernel) (by decide) ?_
  show mcE L fr lo M_Disk_init 71 [some (mr 12), some (mi 3)] [mi 12, mi 3] (tb jT33) (jS4 σ) 38 10335 Φ
  refine mc_icmp_ge (off := 22) (by decide +kernel) (by decide) (by unfold in32; decide) (by unfold in32; decide) (fun w => absurd w (by decide)) (fun _ => ?_)
  show mcE L fr lo M_Disk_init 74 [some (mr 12), some (mi 3)] [] (tb jT33) (jS4 σ) 38 10335 Φ
  refine mc_aload_n (j := 0) (by decide +kernel) rfl ?_
  show mcE L fr lo M_Disk_init 75 [some (mr 12), some (mi 3)] [mr 12] (tb jT33) (jS4 σ) 38 10335 Φ
  refine mc_getR (idx := 37) (ci := 4) (k := 5) (t := 28) (by decide +kernel) (mcFdB_spec (w := 229) (by decide +kernel)) (by decide) (by decide) rfl (show tb jT33 12 ((5 : Nat) : Int) = some 28 by decide +kernel) ?_
  show mcE L fr lo M_Disk_init 78 [some (mr 12), some (mi 3)] [mr 28] (tb jT33) (jS4 σ) 38 10335 Φ
  refine mc_iload_n (j := 1) (by decide +kernel) rfl ?_
  show mcE L fr lo M_Disk_init 79 [some (mr 12), some (mi 3)] [mi 3, mr 28] (tb jT33) (jS4 σ) 38 10335 Φ
  refine mc_new (idx := 35) (ci := 3) (N := 3) (by decide +kernel) ⟨_, _, _, rfl, rfl, (List.mem_of_getElem? (i := 195) (by decide +kernel)), (List.mem_of_getElem? (i := 198) (by decide +kernel)), (List.mem_of_getElem? (i := 60) (by decide +kernel))⟩ rfl (by decide) (by decide) ?_
  show mcE L fr lo M_Disk_init 82 [some (mr 12), some (mi 3)] [mr 38, mi 3, mr 28] (tb jT33) (jS4 σ) 39 10338 Φ
  refine mc_dup (by decide +kernel) rfl ?_
  show mcE L fr lo M_Disk_init 83 [some (mr 12), some (mi 3)] [mr 38, mr 38, mi 3, mr 28] (tb jT33) (jS4 σ) 39 10338 Φ
  refine mc_init (M' := M_Answer_init) (fr' := fr - 1) (lo' := lo - 40) (idx := 47) (a := 38) (vs := []) (by decide +kernel) (List.mem_of_getElem? (i := 199) (by decide +kernel)) (List.mem_of_getElem? (i := 200) (by decide +kernel)) (List.mem_of_getElem? (i := 201) (by decide +kernel)) rfl (mcCdB_spec (wi := 60) (wc := 201) (by decide +kernel)) (Or.inl rfl) (mcArB_spec (by decide +kernel)) (by decide) (by omega) (show 3 + (1 + 11) + (lo - 40) ≤ lo by omega) (by decide) ?_
  refine iv_7 (by omega) (by omega) ?_
  show mcE L fr lo M_Disk_init 86 [some (mr 12), some (mi 3)] [mr 38, mi 3, mr 28] (tb jT35) (jS4 σ) 41 10346 Φ
  refine mc_aastore (a := 28) (u := 38) (x := 3) (by decide +kernel) (by decide) (by decide) (by decide) rfl (by decide) (by decide) (by decide) rfl rfl rfl ?_
  rw [show upc (tb jT35) 28 (upi (tb jT35 28) (3 : Int) (some 38)) = tb jT36 from tb_put (a := 27) (k := 3) (t := 37) (by decide +kernel) (by decide +kernel)]
  show mcE L fr lo M_Disk_init 87 [some (mr 12), some (mi 3)] [] (tb jT36) (jS4 σ) 41 10346 Φ
  refine mc_iinc (i := 1) (q := 1) (by decide +kernel) rfl (by decide) ?_
  show mcE L fr lo M_Disk_init 90 [some (mr 12), some (mi 4)] [] (tb jT36) (jS4 σ) 41 10346 Φ
  refine mc_goto (off := -22) (by decide +kernel) (by decide) ?_
  show mcE L fr lo M_Disk_init 68 [some (mr 12), some (mi 4)] [] (tb jT36) (jS4 σ) 41 10346 Φ
  refine mc_iload_n (j := 1) (by decide +kernel) rfl ?_
  show mcE L fr lo M_Disk_init 69 [some (mr 12), some (mi 4)] [mi 4] (tb jT36) (jS4 σ) 41 10346 Φ
  refine mc_bipush (i := 12) (by decide +kernel) (by decide) ?_
  show mcE L fr lo M_Disk_init 71 [some (mr 12), some (mi 4)] [mi 12, mi 4] (tb jT36) (jS4 σ) 41 10346 Φ
  refine mc_icmp_ge (off := 22) (by decide +kernel) (by decide) (by unfold in32; decide) (by unfold in32; decide) (fun w => absurd w (by decide)) (fun _ => ?_)
  show mcE L fr lo M_Disk_init 74 [some (mr 12), some (mi 4)] [] (tb jT36) (jS4 σ) 41 10346 Φ
  refine mc_aload_n (j := 0) (by decide +kernel) rfl ?_
  show mcE L fr lo M_Disk_init 75 [some (mr 12), some (mi 4)] [mr 12] (tb jT36) (jS4 σ) 41 10346 Φ
  refine mc_getR (idx := 37) (ci := 4) (k := 5) (t := 28) (by decide +kernel) (mcFdB_spec (w := 229) (by decide +kernel)) (by decide) (by decide) rfl (show tb jT36 12 ((5 : Nat) : Int) = some 28 by decide +kernel) ?_
  show mcE L fr lo M_Disk_init 78 [some (mr 12), some (mi 4)] [mr 28] (tb jT36) (jS4 σ) 41 10346 Φ
  refine mc_iload_n (j := 1) (by decide +kernel) rfl ?_
  show mcE L fr lo M_Disk_init 79 [some (mr 12), some (mi 4)] [mi 4, mr 28] (tb jT36) (jS4 σ) 41 10346 Φ
  refine mc_new (idx := 35) (ci := 3) (N := 3) (by decide +kernel) ⟨_, _, _, rfl, rfl, (List.mem_of_getElem? (i := 195) (by decide +kernel)), (List.mem_of_getElem? (i := 198) (by decide +kernel)), (List.mem_of_getElem? (i := 60) (by decide +kernel))⟩ rfl (by decide) (by decide) ?_
  show mcE L fr lo M_Disk_init 82 [some (mr 12), some (mi 4)] [mr 41, mi 4, mr 28] (tb jT36) (jS4 σ) 42 10349 Φ
  refine mc_dup (by decide +kernel) rfl ?_
  show mcE L fr lo M_Disk_init 83 [some (mr 12), some (mi 4)] [mr 41, mr 41, mi 4, mr 28] (tb jT36) (jS4 σ) 42 10349 Φ
  refine mc_init (M' := M_Answer_init) (fr' := fr - 1) (lo' := lo - 40) (idx := 47) (a := 41) (vs := []) (by decide +kernel) (List.mem_of_getElem? (i := 199) (by decide +kernel)) (List.mem_of_getElem? (i := 200) (by decide +kernel)) (List.mem_of_getElem? (i := 201) (by decide +kernel)) rfl (mcCdB_spec (wi := 60) (wc := 201) (by decide +kernel)) (Or.inl rfl) (mcArB_spec (by decide +kernel)) (by decide) (by omega) (show 3 + (1 + 11) + (lo - 40) ≤ lo by omega) (by decide) ?_
  refine iv_8 (by omega) (by omega) ?_
  show mcE L fr lo M_Disk_init 86 [some (mr 12), some (mi 4)] [mr 41, mi 4, mr 28] (tb jT38) (jS4 σ) 44 10357 Φ
  refine mc_aastore (a := 28) (u := 41) (x := 4) (by decide +kernel) (by decide) (by decide) (by decide) rfl (by decide) (by decide) (by decide) rfl rfl rfl ?_
  rw [show upc (tb jT38) 28 (upi (tb jT38 28) (4 : Int) (some 41)) = tb jT39 from tb_put (a := 27) (k := 4) (t := 40) (by decide +kernel) (by decide +kernel)]
  show mcE L fr lo M_Disk_init 87 [some (mr 12), some (mi 4)] [] (tb jT39) (jS4 σ) 44 10357 Φ
  refine mc_iinc (i := 1) (q := 1) (by decide +kernel) rfl (by decide) ?_
  show mcE L fr lo M_Disk_init 90 [some (mr 12), some (mi 5)] [] (tb jT39) (jS4 σ) 44 10357 Φ
  refine mc_goto (off := -22) (by decide +kernel) (by decide) ?_
  show mcE L fr lo M_Disk_init 68 [some (mr 12), some (mi 5)] [] (tb jT39) (jS4 σ) 44 10357 Φ
  refine mc_iload_n (j := 1) (by decide +kernel) rfl ?_
  show mcE L fr lo M_Disk_init 69 [some (mr 12), some (mi 5)] [mi 5] (tb jT39) (jS4 σ) 44 10357 Φ
  refine mc_bipush (i := 12) (by decide +kernel) (by decide) ?_
  show mcE L fr lo M_Disk_init 71 [some (mr 12), some (mi 5)] [mi 12, mi 5] (tb jT39) (jS4 σ) 44 10357 Φ
  refine mc_icmp_ge (off := 22) (by decide +kernel) (by decide) (by unfold in32; decide) (by unfold in32; decide) (fun w => absurd w (by decide)) (fun _ => ?_)
  show mcE L fr lo M_Disk_init 74 [some (mr 12), some (mi 5)] [] (tb jT39) (jS4 σ) 44 10357 Φ
  refine mc_aload_n (j := 0) (by decide +kernel) rfl ?_
  show mcE L fr lo M_Disk_init 75 [some (mr 12), some (mi 5)] [mr 12] (tb jT39) (jS4 σ) 44 10357 Φ
  refine mc_getR (idx := 37) (ci := 4) (k := 5) (t := 28) (by decide +kernel) (mcFdB_spec (w := 229) (by decide +kernel)) (by decide) (by decide) rfl (show tb jT39 12 ((5 : Nat) : Int) = some 28 by decide +kernel) ?_
  show mcE L fr lo M_Disk_init 78 [some (mr 12), some (mi 5)] [mr 28] (tb jT39) (jS4 σ) 44 10357 Φ
  refine mc_iload_n (j := 1) (by decide +kernel) rfl ?_
  show mcE L fr lo M_Disk_init 79 [some (mr 12), some (mi 5)] [mi 5, mr 28] (tb jT39) (jS4 σ) 44 10357 Φ
  refine mc_new (idx := 35) (ci := 3) (N := 3) (by decide +kernel) ⟨_, _, _, rfl, rfl, (List.mem_of_getElem? (i := 195) (by decide +kernel)), (List.mem_of_getElem? (i := 198) (by decide +kernel)), (List.mem_of_getElem? (i := 60) (by decide +kernel))⟩ rfl (by decide) (by decide) ?_
  show mcE L fr lo M_Disk_init 82 [some (mr 12), some (mi 5)] [mr 44, mi 5, mr 28] (tb jT39) (jS4 σ) 45 10360 Φ
  refine mc_dup (by decide +kernel) rfl ?_
  show mcE L fr lo M_Disk_init 83 [some (mr 12), some (mi 5)] [mr 44, mr 44, mi 5, mr 28] (tb jT39) (jS4 σ) 45 10360 Φ
  refine mc_init (M' := M_Answer_init) (fr' := fr - 1) (lo' := lo - 40) (idx := 47) (a := 44) (vs := []) (by decide +kernel) (List.mem_of_getElem? (i := 199) (by decide +kernel)) (List.mem_of_getElem? (i := 200) (by decide +kernel)) (List.mem_of_getElem? (i := 201) (by decide +kernel)) rfl (mcCdB_spec (wi := 60) (wc := 201) (by decide +kernel)) (Or.inl rfl) (mcArB_spec (by decide +kernel)) (by decide) (by omega) (show 3 + (1 + 11) + (lo - 40) ≤ lo by omega) (by decide) ?_
  refine iv_9 (by omega) (by omega) ?_
  show mcE L fr lo M_Disk_init 86 [some (mr 12), some (mi 5)] [mr 44, mi 5, mr 28] (tb jT41) (jS4 σ) 47 10368 Φ
  refine mc_aastore (a := 28) (u := 44) (x := 5) (by decide +kernel) (by decide) (by decide) (by decide) rfl (by decide) (by decide) (by decide) rfl rfl rfl ?_
  rw [show upc (tb jT41) 28 (upi (tb jT41 28) (5 : Int) (some 44)) = tb jT42 from tb_put (a := 27) (k := 5) (t := 43) (by decide +kernel) (by decide +kernel)]
  show mcE L fr lo M_Disk_init 87 [some (mr 12), some (mi 5)] [] (tb jT42) (jS4 σ) 47 10368 Φ
  refine mc_iinc (i := 1) (q := 1) (by decide +kernel) rfl (by decide) ?_
  show mcE L fr lo M_Disk_init 90 [some (mr 12), some (mi 6)] [] (tb jT42) (jS4 σ) 47 10368 Φ
  refine mc_goto (off := -22) (by decide +kernel) (by decide) ?_
  show mcE L fr lo M_Disk_init 68 [some (mr 12), some (mi 6)] [] (tb jT42) (jS4 σ) 47 10368 Φ
  refine mc_iload_n (j := 1) (by decide +kernel) rfl ?_
  show mcE L fr lo M_Disk_init 69 [some (mr 12), some (mi 6)] [mi 6] (tb jT42) (jS4 σ) 47 10368 Φ
  refine mc_bipush (i := 12) (by decide +kernel) (by decide) ?_
  show mcE L fr lo M_Disk_init 71 [some (mr 12), some (mi 6)] [mi 12, mi 6] (tb jT42) (jS4 σ) 47 10368 Φ
  refine mc_icmp_ge (off := 22) (by decide +kernel) (by decide) (by unfold in32; decide) (by unfold in32; decide) (fun w => absurd w (by decide)) (fun _ => ?_)
  show mcE L fr lo M_Disk_init 74 [some (mr 12), some (mi 6)] [] (tb jT42) (jS4 σ) 47 10368 Φ
  refine mc_aload_n (j := 0) (by decide +kernel) rfl ?_
  show mcE L fr lo M_Disk_init 75 [some (mr 12), some (mi 6)] [mr 12] (tb jT42) (jS4 σ) 47 10368 Φ
  refine mc_getR (idx := 37) (ci := 4) (k := 5) (t := 28) (by decide +kernel) (mcFdB_spec (w := 229) (by decide +kernel)) (by decide) (by decide) rfl (show tb jT42 12 ((5 : Nat) : Int) = some 28 by decide +kernel) ?_
  show mcE L fr lo M_Disk_init 78 [some (mr 12), some (mi 6)] [mr 28] (tb jT42) (jS4 σ) 47 10368 Φ
  refine mc_iload_n (j := 1) (by decide +kernel) rfl ?_
  show mcE L fr lo M_Disk_init 79 [some (mr 12), some (mi 6)] [mi 6, mr 28] (tb jT42) (jS4 σ) 47 10368 Φ
  refine mc_new (idx := 35) (ci := 3) (N := 3) (by decide +kernel) ⟨_, _, _, rfl, rfl, (List.mem_of_getElem? (i := 195) (by decide +kernel)), (List.mem_of_getElem? (i := 198) (by decide +kernel)), (List.mem_of_getElem? (i := 60) (by decide +kernel))⟩ rfl (by decide) (by decide) ?_
  show mcE L fr lo M_Disk_init 82 [some (mr 12), some (mi 6)] [mr 47, mi 6, mr 28] (tb jT42) (jS4 σ) 48 10371 Φ
  refine mc_dup (by decide +kernel) rfl ?_
  show mcE L fr lo M_Disk_init 83 [some (mr 12), some (mi 6)] [mr 47, mr 47, mi 6, mr 28] (tb jT42) (jS4 σ) 48 10371 Φ
  refine mc_init (M' := M_Answer_init) (fr' := fr - 1) (lo' := lo - 40) (idx := 47) (a := 47) (vs := []) (by decide +kernel) (List.mem_of_getElem? (i := 199) (by decide +kernel)) (List.mem_of_getElem? (i := 200) (by decide +kernel)) (List.mem_of_getElem? (i := 201) (by decide +kernel)) rfl (mcCdB_spec (wi := 60) (wc := 201) (by decide +kernel)) (Or.inl rfl) (mcArB_spec (by decide +kernel)) (by decide) (by omega) (show 3 + (1 + 11) + (lo - 40) ≤ lo by omega) (by decide) ?_
  refine iv_10 (by omega) (by omega) ?_
  show mcE L fr lo M_Disk_init 86 [some (mr 12), some (mi 6)] [mr 47, mi 6, mr 28] (tb jT44) (jS4 σ) 50 10379 Φ
  refine mc_aastore (a := 28) (u := 47) (x := 6) (by decide +kernel) (by decide) (by decide) (by decide) rfl (by decide) (by decide) (by decide) rfl rfl rfl ?_
  rw [show upc (tb jT44) 28 (upi (tb jT44 28) (6 : Int) (some 47)) = tb jT45 from tb_put (a := 27) (k := 6) (t := 46) (by decide +kernel) (by decide +kernel)]
  show mcE L fr lo M_Disk_init 87 [some (mr 12), some (mi 6)] [] (tb jT45) (jS4 σ) 50 10379 Φ
  refine mc_iinc (i := 1) (q := 1) (by decide +kernel) rfl (by decide) ?_
  show mcE L fr lo M_Disk_init 90 [some (mr 12), some (mi 7)] [] (tb jT45) (jS4 σ) 50 10379 Φ
  refine mc_goto (off := -22) (by decide +kernel) (by decide) ?_
  show mcE L fr lo M_Disk_init 68 [some (mr 12), some (mi 7)] [] (tb jT45) (jS4 σ) 50 10379 Φ
  refine mc_iload_n (j := 1) (by decide +kernel) rfl ?_
  show mcE L fr lo M_Disk_init 69 [some (mr 12), some (mi 7)] [mi 7] (tb jT45) (jS4 σ) 50 10379 Φ
  refine mc_bipush (i := 12) (by decide +kernel) (by decide) ?_
  show mcE L fr lo M_Disk_init 71 [some (mr 12), some (mi 7)] [mi 12, mi 7] (tb jT45) (jS4 σ) 50 10379 Φ
  refine mc_icmp_ge (off := 22) (by decide +kernel) (by decide) (by unfold in32; decide) (by unfold in32; decide) (fun w => absurd w (by decide)) (fun _ => ?_)
  show mcE L fr lo M_Disk_init 74 [some (mr 12), some (mi 7)] [] (tb jT45) (jS4 σ) 50 10379 Φ
  refine mc_aload_n (j := 0) (by decide +kernel) rfl ?_
  show mcE L fr lo M_Disk_init 75 [some (mr 12), some (mi 7)] [mr 12] (tb jT45) (jS4 σ) 50 10379 Φ
  refine mc_getR (idx := 37) (ci := 4) (k := 5) (t := 28) (by decide +kernel) (mcFdB_spec (w := 229) (by decide +kernel)) (by decide) (by decide) rfl (show tb jT45 12 ((5 : Nat) : Int) = some 28 by decide +kernel) ?_
  show mcE L fr lo M_Disk_init 78 [some (mr 12), some (mi 7)] [mr 28] (tb jT45) (jS4 σ) 50 10379 Φ
  refine mc_iload_n (j := 1) (by decide +kernel) rfl ?_
  show mcE L fr lo M_Disk_init 79 [some (mr 12), some (mi 7)] [mi 7, mr 28] (tb jT45) (jS4 σ) 50 10379 Φ
  refine mc_new (idx := 35) (ci := 3) (N := 3) (by decide +kernel) ⟨_, _, _, rfl, rfl, (List.mem_of_getElem? (i := 195) (by decide +kernel)), (List.mem_of_getElem? (i := 198) (by decide +kernel)), (List.mem_of_getElem? (i := 60) (by decide +kernel))⟩ rfl (by decide) (by decide) ?_
  show mcE L fr lo M_Disk_init 82 [some (mr 12), some (mi 7)] [mr 50, mi 7, mr 28] (tb jT45) (jS4 σ) 51 10382 Φ
  refine mc_dup (by decide +kernel) rfl ?_
  show mcE L fr lo M_Disk_init 83 [some (mr 12), some (mi 7)] [mr 50, mr 50, mi 7, mr 28] (tb jT45) (jS4 σ) 51 10382 Φ
  refine mc_init (M' := M_Answer_init) (fr' := fr - 1) (lo' := lo - 40) (idx := 47) (a := 50) (vs := []) (by decide +kernel) (List.mem_of_getElem? (i := 199) (by decide +kernel)) (List.mem_of_getElem? (i := 200) (by decide +kernel)) (List.mem_of_getElem? (i := 201) (by decide +kernel)) rfl (mcCdB_spec (wi := 60) (wc := 201) (by decide +kernel)) (Or.inl rfl) (mcArB_spec (by decide +kernel)) (by decide) (by omega) (show 3 + (1 + 11) + (lo - 40) ≤ lo by omega) (by decide) ?_
  refine iv_11 (by omega) (by omega) ?_
  show mcE L fr lo M_Disk_init 86 [some (mr 12), some (mi 7)] [mr 50, mi 7, mr 28] (tb jT47) (jS4 σ) 53 10390 Φ
  refine mc_aastore (a := 28) (u := 50) (x := 7) (by decide +kernel) (by decide) (by decide) (by decide) rfl (by decide) (by decide) (by decide) rfl rfl rfl ?_
  rw [show upc (tb jT47) 28 (upi (tb jT47 28) (7 : Int) (some 50)) = tb jT48 from tb_put (a := 27) (k := 7) (t := 49) (by decide +kernel) (by decide +kernel)]
  show mcE L fr lo M_Disk_init 87 [some (mr 12), some (mi 7)] [] (tb jT48) (jS4 σ) 53 10390 Φ
  refine mc_iinc (i := 1) (q := 1) (by decide +kernel) rfl (by decide) ?_
  show mcE L fr lo M_Disk_init 90 [some (mr 12), some (mi 8)] [] (tb jT48) (jS4 σ) 53 10390 Φ
  refine mc_goto (off := -22) (by decide +kernel) (by decide) ?_
  show mcE L fr lo M_Disk_init 68 [some (mr 12), some (mi 8)] [] (tb jT48) (jS4 σ) 53 10390 Φ
  refine mc_iload_n (j := 1) (by decide +kernel) rfl ?_
  show mcE L fr lo M_Disk_init 69 [some (mr 12), some (mi 8)] [mi 8] (tb jT48) (jS4 σ) 53 10390 Φ
  refine mc_bipush (i := 12) (by decide +kernel) (by decide) ?_
  show mcE L fr lo M_Disk_init 71 [some (mr 12), some (mi 8)] [mi 12, mi 8] (tb jT48) (jS4 σ) 53 10390 Φ
  refine mc_icmp_ge (off := 22) (by decide +kernel) (by decide) (by unfold in32; decide) (by unfold in32; decide) (fun w => absurd w (by decide)) (fun _ => ?_)
  show mcE L fr lo M_Disk_init 74 [some (mr 12), some (mi 8)] [] (tb jT48) (jS4 σ) 53 10390 Φ
  refine mc_aload_n (j := 0) (by decide +kernel) rfl ?_
  show mcE L fr lo M_Disk_init 75 [some (mr 12), some (mi 8)] [mr 12] (tb jT48) (jS4 σ) 53 10390 Φ
  refine mc_getR (idx := 37) (ci := 4) (k := 5) (t := 28) (by decide +kernel) (mcFdB_spec (w := 229) (by decide +kernel)) (by decide) (by decide) rfl (show tb jT48 12 ((5 : Nat) : Int) = some 28 by decide +kernel) ?_
  show mcE L fr lo M_Disk_init 78 [some (mr 12), some (mi 8)] [mr 28] (tb jT48) (jS4 σ) 53 10390 Φ
  refine mc_iload_n (j := 1) (by decide +kernel) rfl ?_
  show mcE L fr lo M_Disk_init 79 [some (mr 12), some (mi 8)] [mi 8, mr 28] (tb jT48) (jS4 σ) 53 10390 Φ
  refine mc_new (idx := 35) (ci := 3) (N := 3) (by decide +kernel) ⟨_, _, _, rfl, rfl, (List.mem_of_getElem? (i := 195) (by decide +kernel)), (List.mem_of_getElem? (i := 198) (by decide +kernel)), (List.mem_of_getElem? (i := 60) (by decide +kernel))⟩ rfl (by decide) (by decide) ?_
  show mcE L fr lo M_Disk_init 82 [some (mr 12), some (mi 8)] [mr 53, mi 8, mr 28] (tb jT48) (jS4 σ) 54 10393 Φ
  refine mc_dup (by decide +kernel) rfl ?_
  show mcE L fr lo M_Disk_init 83 [some (mr 12), some (mi 8)] [mr 53, mr 53, mi 8, mr 28] (tb jT48) (jS4 σ) 54 10393 Φ
  refine mc_init (M' := M_Answer_init) (fr' := fr - 1) (lo' := lo - 40) (idx := 47) (a := 53) (vs := []) (by decide +kernel) (List.mem_of_getElem? (i := 199) (by decide +kernel)) (List.mem_of_getElem? (i := 200) (by decide +kernel)) (List.mem_of_getElem? (i := 201) (by decide +kernel)) rfl (mcCdB_spec (wi := 60) (wc := 201) (by decide +kernel)) (Or.inl rfl) (mcArB_spec (by decide +kernel)) (by decide) (by omega) (show 3 + (1 + 11) + (lo - 40) ≤ lo by omega) (by decide) ?_
  refine iv_12 (by omega) (by omega) ?_
  show mcE L fr lo M_Disk_init 86 [some (mr 12), some (mi 8)] [mr 53, mi 8, mr 28] (tb jT50) (jS4 σ) 56 10401 Φ
  refine mc_aastore (a := 28) (u := 53) (x := 8) (by decide +kernel) (by decide) (by decide) (by decide) rfl (by decide) (by decide) (by decide) rfl rfl rfl ?_
  rw [show upc (tb jT50) 28 (upi (tb jT50 28) (8 : Int) (some 53)) = tb jT51 from tb_put (a := 27) (k := 8) (t := 52) (by decide +kernel) (by decide +kernel)]
  show mcE L fr lo M_Disk_init 87 [some (mr 12), some (mi 8)] [] (tb jT51) (jS4 σ) 56 10401 Φ
  refine mc_iinc (i := 1) (q := 1) (by decide +kernel) rfl (by decide) ?_
  show mcE L fr lo M_Disk_init 90 [some (mr 12), some (mi 9)] [] (tb jT51) (jS4 σ) 56 10401 Φ
  refine mc_goto (off := -22) (by decide +kernel) (by decide) ?_
  show mcE L fr lo M_Disk_init 68 [some (mr 12), some (mi 9)] [] (tb jT51) (jS4 σ) 56 10401 Φ
  refine mc_iload_n (j := 1) (by decide +kernel) rfl ?_
  show mcE L fr lo M_Disk_init 69 [some (mr 12), some (mi 9)] [mi 9] (tb jT51) (jS4 σ) 56 10401 Φ
  refine mc_bipush (i := 12) (by decide +kernel) (by decide) ?_
  show mcE L fr lo M_Disk_init 71 [some (mr 12), some (mi 9)] [mi 12, mi 9] (tb jT51) (jS4 σ) 56 10401 Φ
  refine mc_icmp_ge (off := 22) (by decide +kernel) (by decide) (by unfold in32; decide) (by unfold in32; decide) (fun w => absurd w (by decide)) (fun _ => ?_)
  show mcE L fr lo M_Disk_init 74 [some (mr 12), some (mi 9)] [] (tb jT51) (jS4 σ) 56 10401 Φ
  refine mc_aload_n (j := 0) (by decide +kernel) rfl ?_
  show mcE L fr lo M_Disk_init 75 [some (mr 12), some (mi 9)] [mr 12] (tb jT51) (jS4 σ) 56 10401 Φ
  refine mc_getR (idx := 37) (ci := 4) (k := 5) (t := 28) (by decide +kernel) (mcFdB_spec (w := 229) (by decide +kernel)) (by decide) (by decide) rfl (show tb jT51 12 ((5 : Nat) : Int) = some 28 by decide +kernel) ?_
  show mcE L fr lo M_Disk_init 78 [some (mr 12), some (mi 9)] [mr 28] (tb jT51) (jS4 σ) 56 10401 Φ
  refine mc_iload_n (j := 1) (by decide +kernel) rfl ?_
  show mcE L fr lo M_Disk_init 79 [some (mr 12), some (mi 9)] [mi 9, mr 28] (tb jT51) (jS4 σ) 56 10401 Φ
  refine mc_new (idx := 35) (ci := 3) (N := 3) (by decide +kernel) ⟨_, _, _, rfl, rfl, (List.mem_of_getElem? (i := 195) (by decide +kernel)), (List.mem_of_getElem? (i := 198) (by decide +kernel)), (List.mem_of_getElem? (i := 60) (by decide +kernel))⟩ rfl (by decide) (by decide) ?_
  show mcE L fr lo M_Disk_init 82 [some (mr 12), some (mi 9)] [mr 56, mi 9, mr 28] (tb jT51) (jS4 σ) 57 10404 Φ
  refine mc_dup (by decide +kernel) rfl ?_
  show mcE L fr lo M_Disk_init 83 [some (mr 12), some (mi 9)] [mr 56, mr 56, mi 9, mr 28] (tb jT51) (jS4 σ) 57 10404 Φ
  refine mc_init (M' := M_Answer_init) (fr' := fr - 1) (lo' := lo - 40) (idx := 47) (a := 56) (vs := []) (by decide +kernel) (List.mem_of_getElem? (i := 199) (by decide +kernel)) (List.mem_of_getElem? (i := 200) (by decide +kernel)) (List.mem_of_getElem? (i := 201) (by decide +kernel)) rfl (mcCdB_spec (wi := 60) (wc := 201) (by decide +kernel)) (Or.inl rfl) (mcArB_spec (by decide +kernel)) (by decide) (by omega) (show 3 + (1 + 11) + (lo - 40) ≤ lo by omega) (by decide) ?_
  refine iv_13 (by omega) (by omega) ?_
  show mcE L fr lo M_Disk_init 86 [some (mr 12), some (mi 9)] [mr 56, mi 9, mr 28] (tb jT53) (jS4 σ) 59 10412 Φ
  refine mc_aastore (a := 28) (u := 56) (x := 9) (by decide +kernel) (by decide) (by decide) (by decide) rfl (by decide) (by decide) (by decide) rfl rfl rfl ?_
  rw [show upc (tb jT53) 28 (upi (tb jT53 28) (9 : Int) (some 56)) = tb jT54 from tb_put (a := 27) (k := 9) (t := 55) (by decide +kernel) (by decide +kernel)]
  show mcE L fr lo M_Disk_init 87 [some (mr 12), some (mi 9)] [] (tb jT54) (jS4 σ) 59 10412 Φ
  refine mc_iinc (i := 1) (q := 1) (by decide +kernel) rfl (by decide) ?_
  show mcE L fr lo M_Disk_init 90 [some (mr 12), some (mi 10)] [] (tb jT54) (jS4 σ) 59 10412 Φ
  refine mc_goto (off := -22) (by decide +kernel) (by decide) ?_
  show mcE L fr lo M_Disk_init 68 [some (mr 12), some (mi 10)] [] (tb jT54) (jS4 σ) 59 10412 Φ
  refine mc_iload_n (j := 1) (by decide +kernel) rfl ?_
  show mcE L fr lo M_Disk_init 69 [some (mr 12), some (mi 10)] [mi 10] (tb jT54) (jS4 σ) 59 10412 Φ
  refine mc_bipush (i := 12) (by decide +kernel) (by decide) ?_
  show mcE L fr lo M_Disk_init 71 [some (mr 12), some (mi 10)] [mi 12, mi 10] (tb jT54) (jS4 σ) 59 10412 Φ
  refine mc_icmp_ge (off := 22) (by decide +kernel) (by decide) (by unfold in32; decide) (by unfold in32; decide) (fun w => absurd w (by decide)) (fun _ => ?_)
  show mcE L fr lo M_Disk_init 74 [some (mr 12), some (mi 10)] [] (tb jT54) (jS4 σ) 59 10412 Φ
  refine mc_aload_n (j := 0) (by decide +kernel) rfl ?_
  show mcE L fr lo M_Disk_init 75 [some (mr 12), some (mi 10)] [mr 12] (tb jT54) (jS4 σ) 59 10412 Φ
  refine mc_getR (idx := 37) (ci := 4) (k := 5) (t := 28) (by decide +kernel) (mcFdB_spec (w := 229) (by decide +kernel)) (by decide) (by decide) rfl (show tb jT54 12 ((5 : Nat) : Int) = some 28 by decide +kernel) ?_
  show mcE L fr lo M_Disk_init 78 [some (mr 12), some (mi 10)] [mr 28] (tb jT54) (jS4 σ) 59 10412 Φ
  refine mc_iload_n (j := 1) (by decide +kernel) rfl ?_
  show mcE L fr lo M_Disk_init 79 [some (mr 12), some (mi 10)] [mi 10, mr 28] (tb jT54) (jS4 σ) 59 10412 Φ
  refine mc_new (idx := 35) (ci := 3) (N := 3) (by decide +kernel) ⟨_, _, _, rfl, rfl, (List.mem_of_getElem? (i := 195) (by decide +kernel)), (List.mem_of_getElem? (i := 198) (by decide +kernel)), (List.mem_of_getElem? (i := 60) (by decide +kernel))⟩ rfl (by decide) (by decide) ?_
  show mcE L fr lo M_Disk_init 82 [some (mr 12), some (mi 10)] [mr 59, mi 10, mr 28] (tb jT54) (jS4 σ) 60 10415 Φ
  refine mc_dup (by decide +kernel) rfl ?_
  show mcE L fr lo M_Disk_init 83 [some (mr 12), some (mi 10)] [mr 59, mr 59, mi 10, mr 28] (tb jT54) (jS4 σ) 60 10415 Φ
  refine mc_init (M' := M_Answer_init) (fr' := fr - 1) (lo' := lo - 40) (idx := 47) (a := 59) (vs := []) (by decide +kernel) (List.mem_of_getElem? (i := 199) (by decide +kernel)) (List.mem_of_getElem? (i := 200) (by decide +kernel)) (List.mem_of_getElem? (i := 201) (by decide +kernel)) rfl (mcCdB_spec (wi := 60) (wc := 201) (by decide +kernel)) (Or.inl rfl) (mcArB_spec (by decide +kernel)) (by decide) (by omega) (show 3 + (1 + 11) + (lo - 40) ≤ lo by omega) (by decide) ?_
  refine iv_14 (by omega) (by omega) ?_
  show mcE L fr lo M_Disk_init 86 [some (mr 12), some (mi 10)] [mr 59, mi 10, mr 28] (tb jT56) (jS4 σ) 62 10423 Φ
  refine mc_aastore (a := 28) (u := 59) (x := 10) (by decide +kernel) (by decide) (by decide) (by decide) rfl (by decide) (by decide) (by decide) rfl rfl rfl ?_
  rw [show upc (tb jT56) 28 (upi (tb jT56 28) (10 : Int) (some 59)) = tb jT57 from tb_put (a := 27) (k := 10) (t := 58) (by decide +kernel) (by decide +kernel)]
  show mcE L fr lo M_Disk_init 87 [some (mr 12), some (mi 10)] [] (tb jT57) (jS4 σ) 62 10423 Φ
  refine mc_iinc (i := 1) (q := 1) (by decide +kernel) rfl (by decide) ?_
  show mcE L fr lo M_Disk_init 90 [some (mr 12), some (mi 11)] [] (tb jT57) (jS4 σ) 62 10423 Φ
  refine mc_goto (off := -22) (by decide +kernel) (by decide) ?_
  show mcE L fr lo M_Disk_init 68 [some (mr 12), some (mi 11)] [] (tb jT57) (jS4 σ) 62 10423 Φ
  refine mc_iload_n (j := 1) (by decide +kernel) rfl ?_
  show mcE L fr lo M_Disk_init 69 [some (mr 12), some (mi 11)] [mi 11] (tb jT57) (jS4 σ) 62 10423 Φ
  refine mc_bipush (i := 12) (by decide +kernel) (by decide) ?_
  show mcE L fr lo M_Disk_init 71 [some (mr 12), some (mi 11)] [mi 12, mi 11] (tb jT57) (jS4 σ) 62 10423 Φ
  refine mc_icmp_ge (off := 22) (by decide +kernel) (by decide) (by unfold in32; decide) (by unfold in32; decide) (fun w => absurd w (by decide)) (fun _ => ?_)
  show mcE L fr lo M_Disk_init 74 [some (mr 12), some (mi 11)] [] (tb jT57) (jS4 σ) 62 10423 Φ
  refine mc_aload_n (j := 0) (by decide +kernel) rfl ?_
  show mcE L fr lo M_Disk_init 75 [some (mr 12), some (mi 11)] [mr 12] (tb jT57) (jS4 σ) 62 10423 Φ
  refine mc_getR (idx := 37) (ci := 4) (k := 5) (t := 28) (by decide +kernel) (mcFdB_spec (w := 229) (by decide +kernel)) (by decide) (by decide) rfl (show tb jT57 12 ((5 : Nat) : Int) = some 28 by decide +kernel) ?_
  show mcE L fr lo M_Disk_init 78 [some (mr 12), some (mi 11)] [mr 28] (tb jT57) (jS4 σ) 62 10423 Φ
  refine mc_iload_n (j := 1) (by decide +kernel) rfl ?_
  show mcE L fr lo M_Disk_init 79 [some (mr 12), some (mi 11)] [mi 11, mr 28] (tb jT57) (jS4 σ) 62 10423 Φ
  refine mc_new (idx := 35) (ci := 3) (N := 3) (by decide +kernel) ⟨_, _, _, rfl, rfl, (List.mem_of_getElem? (i := 195) (by decide +kernel)), (List.mem_of_getElem? (i := 198) (by decide +kernel)), (List.mem_of_getElem? (i := 60) (by decide +kernel))⟩ rfl (by decide) (by decide) ?_
  show mcE L fr lo M_Disk_init 82 [some (mr 12), some (mi 11)] [mr 62, mi 11, mr 28] (tb jT57) (jS4 σ) 63 10426 Φ
  refine mc_dup (by decide +kernel) rfl ?_
  show mcE L fr lo M_Disk_init 83 [some (mr 12), some (mi 11)] [mr 62, mr 62, mi 11, mr 28] (tb jT57) (jS4 σ) 63 10426 Φ
  refine mc_init (M' := M_Answer_init) (fr' := fr - 1) (lo' := lo - 40) (idx := 47) (a := 62) (vs := []) (by decide +kernel) (List.mem_of_getElem? (i := 199) (by decide +kernel)) (List.mem_of_getElem? (i := 200) (by decide +kernel)) (List.mem_of_getElem? (i := 201) (by decide +kernel)) rfl (mcCdB_spec (wi := 60) (wc := 201) (by decide +kernel)) (Or.inl rfl) (mcArB_spec (by decide +kernel)) (by decide) (by omega) (show 3 + (1 + 11) + (lo - 40) ≤ lo by omega) (by decide) ?_
  refine iv_15 (by omega) (by omega) ?_
  show mcE L fr lo M_Disk_init 86 [some (mr 12), some (mi 11)] [mr 62, mi 11, mr 28] (tb jT59) (jS4 σ) 65 10434 Φ
  refine mc_aastore (a := 28) (u := 62) (x := 11) (by decide +kernel) (by decide) (by decide) (by decide) rfl (by decide) (by decide) (by decide) rfl rfl rfl ?_
  rw [show upc (tb jT59) 28 (upi (tb jT59 28) (11 : Int) (some 62)) = tb jT60 from tb_put (a := 27) (k := 11) (t := 61) (by decide +kernel) (by decide +kernel)]
  show mcE L fr lo M_Disk_init 87 [some (mr 12), some (mi 11)] [] (tb jT60) (jS4 σ) 65 10434 Φ
  refine mc_iinc (i := 1) (q := 1) (by decide +kernel) rfl (by decide) ?_
  show mcE L fr lo M_Disk_init 90 [some (mr 12), some (mi 12)] [] (tb jT60) (jS4 σ) 65 10434 Φ
  refine mc_goto (off := -22) (by decide +kernel) (by decide) ?_
  show mcE L fr lo M_Disk_init 68 [some (mr 12), some (mi 12)] [] (tb jT60) (jS4 σ) 65 10434 Φ
  refine mc_iload_n (j := 1) (by decide +kernel) rfl ?_
  show mcE L fr lo M_Disk_init 69 [some (mr 12), some (mi 12)] [mi 12] (tb jT60) (jS4 σ) 65 10434 Φ
  refine mc_bipush (i := 12) (by decide +kernel) (by decide) ?_
  show mcE L fr lo M_Disk_init 71 [some (mr 12), some (mi 12)] [mi 12, mi 12] (tb jT60) (jS4 σ) 65 10434 Φ
  refine mc_icmp_ge (off := 22) (by decide +kernel) (by decide) (by unfold in32; decide) (by unfold in32; decide) (fun _ => ?_) (fun w => absurd (by decide) w)
  show mcE L fr lo M_Disk_init 93 [some (mr 12), some (mi 12)] [] (tb jT60) (jS4 σ) 65 10434 Φ
  exact mc_return_ (by decide +kernel) rfl k
def jT61 : List (List Nat) := tst jT60 10 0 12
def jT62 : List (List Nat) := tst jT61 10 1 13
def jT63 : List (List Nat) := tst jT62 10 2 19
theorem iv_17 {L fr lo : Nat} {σ : mG} {Φ : mcPost} (hfr : 4 ≤ fr) (hlo : 160 ≤ lo) (k : Φ (.inl none) (tb jT63) (jS4 σ) 65 10434) : mcE L fr lo M_Worker_init 0 (mcEnt M_Worker_init.2.2.1 [mr 11]) [] (tb jT8) (jS0 σ) 12 7534 Φ := by
  show mcE L fr lo M_Worker_init 0 [some (mr 11)] [] (tb jT8) (jS0 σ) 12 7534 Φ
  refine mc_aload_n (j := 0) (by decide +kernel) rfl ?_
  show mcE L fr lo M_Worker_init 1 [some (mr 11)] [mr 11] (tb jT8) (jS0 σ) 12 7534 Φ
  refine mc_objInit (idx := 3) (by decide +kernel) (List.mem_of_getElem? (i := 132) (by decide +kernel)) (List.mem_of_getElem? (i := 77) (by decide +kernel)) (List.mem_of_getElem? (i := 78) (by decide +kernel)) (by omega) (show 0 + 12 ≤ lo by omega) ?_
  show mcE L fr lo M_Worker_init 4 [some (mr 11)] [] (tb jT8) (jS0 σ) 12 7534 Φ
  refine mc_aload_n (j := 0) (by decide +kernel) rfl ?_
  show mcE L fr lo M_Worker_init 5 [some (mr 11)] [mr 11] (tb jT8) (jS0 σ) 12 7534 Φ
  refine mc_new (idx := 9) (ci := 4) (N := 6) (by decide +kernel) ⟨_, _, _, rfl, rfl, (List.mem_of_getElem? (i := 133) (by decide +kernel)), (List.mem_of_getElem? (i := 134) (by decide +kernel)), (List.mem_of_getElem? (i := 56) (by decide +kernel))⟩ rfl (by decide) (by decide) ?_
  show mcE L fr lo M_Worker_init 8 [some (mr 11)] [mr 12, mr 11] (tb jT8) (jS0 σ) 13 7540 Φ
  refine mc_dup (by decide +kernel) rfl ?_
  show mcE L fr lo M_Worker_init 9 [some (mr 11)] [mr 12, mr 12, mr 11] (tb jT8) (jS0 σ) 13 7540 Φ
  refine mc_init (M' := M_Disk_init) (fr' := fr - 1) (lo' := lo - 40) (idx := 11) (a := 12) (vs := []) (by decide +kernel) (List.mem_of_getElem? (i := 135) (by decide +kernel)) (List.mem_of_getElem? (i := 136) (by decide +kernel)) (List.mem_of_getElem? (i := 137) (by decide +kernel)) rfl (mcCdB_spec (wi := 56) (wc := 137) (by decide +kernel)) (Or.inl rfl) (mcArB_spec (by decide +kernel)) (by decide) (by omega) (show 2 + (2 + 11) + (lo - 40) ≤ lo by omega) (by decide) ?_
  refine iv_16 (by omega) (by omega) ?_
  show mcE L fr lo M_Worker_init 12 [some (mr 11)] [mr 12, mr 11] (tb jT60) (jS4 σ) 65 10434 Φ
  refine mc_putR (idx := 12) (ci := 5) (k := 0) (by decide +kernel) ⟨mcFdB_spec (w := 245) (by decide +kernel), rfl, finOk_spec (by decide +kernel)⟩ (by decide) (by decide) rfl ?_
  rw [show upc (tb jT60) 11 (upi (tb jT60 11) ((0 : Nat) : Int) (some 12)) = tb jT61 from tb_put (a := 10) (k := 0) (t := 11) (by decide +kernel) (by decide +kernel)]
  show mcE L fr lo M_Worker_init 15 [some (mr 11)] [] (tb jT61) (jS4 σ) 65 10434 Φ
  refine mc_aload_n (j := 0) (by decide +kernel) rfl ?_
  show mcE L fr lo M_Worker_init 16 [some (mr 11)] [mr 11] (tb jT61) (jS4 σ) 65 10434 Φ
  refine mc_aload_n (j := 0) (by decide +kernel) rfl ?_
  show mcE L fr lo M_Worker_init 17 [some (mr 11)] [mr 11, mr 11] (tb jT61) (jS4 σ) 65 10434 Φ
  refine mc_getR (idx := 12) (ci := 5) (k := 0) (t := 12) (by decide +kernel) (mcFdB_spec (w := 245) (by decide +kernel)) (by decide) (by decide) rfl (show tb jT61 11 ((0 : Nat) : Int) = some 12 by decide +kernel) ?_
  show mcE L fr lo M_Worker_init 20 [some (mr 11)] [mr 12, mr 11] (tb jT61) (jS4 σ) 65 10434 Φ
  refine mc_getR (idx := 18) (ci := 4) (k := 0) (t := 13) (by decide +kernel) (mcFdB_spec (w := 218) (by decide +kernel)) (by decide) (by decide) rfl (show tb jT61 12 ((0 : Nat) : Int) = some 13 by decide +kernel) ?_
  show mcE L fr lo M_Worker_init 23 [some (mr 11)] [mr 13, mr 11] (tb jT61) (jS4 σ) 65 10434 Φ
  refine mc_putR (idx := 22) (ci := 5) (k := 1) (by decide +kernel) ⟨mcFdB_spec (w := 247) (by decide +kernel), rfl, finOk_spec (by decide +kernel)⟩ (by decide) (by decide) rfl ?_
  rw [show upc (tb jT61) 11 (upi (tb jT61 11) ((1 : Nat) : Int) (some 13)) = tb jT62 from tb_put (a := 10) (k := 1) (t := 12) (by decide +kernel) (by decide +kernel)]
  show mcE L fr lo M_Worker_init 26 [some (mr 11)] [] (tb jT62) (jS4 σ) 65 10434 Φ
  refine mc_aload_n (j := 0) (by decide +kernel) rfl ?_
  show mcE L fr lo M_Worker_init 27 [some (mr 11)] [mr 11] (tb jT62) (jS4 σ) 65 10434 Φ
  refine mc_aload_n (j := 0) (by decide +kernel) rfl ?_
  show mcE L fr lo M_Worker_init 28 [some (mr 11)] [mr 11, mr 11] (tb jT62) (jS4 σ) 65 10434 Φ
  refine mc_getR (idx := 12) (ci := 5) (k := 0) (t := 12) (by decide +kernel) (mcFdB_spec (w := 245) (by decide +kernel)) (by decide) (by decide) rfl (show tb jT62 11 ((0 : Nat) : Int) = some 12 by decide +kernel) ?_
  show mcE L fr lo M_Worker_init 31 [some (mr 11)] [mr 12, mr 11] (tb jT62) (jS4 σ) 65 10434 Φ
  refine mc_getR (idx := 23) (ci := 4) (k := 1) (t := 19) (by decide +kernel) (mcFdB_spec (w := 221) (by decide +kernel)) (by decide) (by decide) rfl (show tb jT62 12 ((1 : Nat) : Int) = some 19 by decide +kernel) ?_
  show mcE L fr lo M_Worker_init 34 [some (mr 11)] [mr 19, mr 11] (tb jT62) (jS4 σ) 65 10434 Φ
  refine mc_putR (idx := 27) (ci := 5) (k := 2) (by decide +kernel) ⟨mcFdB_spec (w := 248) (by decide +kernel), rfl, finOk_spec (by decide +kernel)⟩ (by decide) (by decide) rfl ?_
  rw [show upc (tb jT62) 11 (upi (tb jT62 11) ((2 : Nat) : Int) (some 19)) = tb jT63 from tb_put (a := 10) (k := 2) (t := 18) (by decide +kernel) (by decide +kernel)]
  show mcE L fr lo M_Worker_init 37 [some (mr 11)] [] (tb jT63) (jS4 σ) 65 10434 Φ
  exact mc_return_ (by decide +kernel) rfl k
def jT64 : List (List Nat) := tst jT63 9 0 11
def jT65 : List (List Nat) := tst jT64 9 1 12
def jT66 : List (List Nat) := tst jT65 65 0 67
def jT67 : List (List Nat) := tst jT66 65 1 68
def jT68 : List (List Nat) := tst jT67 65 2 69
def jT69 : List (List Nat) := tst jT68 65 3 70
def jT70 : List (List Nat) := tst jT69 65 4 71
def jS5 (σ : mG) : mG := upc (jS4 σ) 67 (fillF ((jS4 σ) 67) 0 ((32 : Nat) : Int) (-1))
def jS6 (σ : mG) : mG := upc (jS5 σ) 68 (fillF ((jS5 σ) 68) 0 ((32 : Nat) : Int) (-1))
def jS7 (σ : mG) : mG := upc (jS6 σ) 67 (upi ((jS6 σ) 67) 0 1)
theorem iv_18 {L fr lo : Nat} {σ : mG} {Φ : mcPost} (hfr : 2 ≤ fr) (hlo : 80 ≤ lo) (k : Φ (.inl none) (tb jT70) (jS7 σ) 72 12621) : mcE L fr lo M_Tree_init 0 (mcEnt M_Tree_init.2.2.1 [mr 66]) [] (tb jT65) (jS4 σ) 67 10445 Φ := by
  show mcE L fr lo M_Tree_init 0 [some (mr 66)] [] (tb jT65) (jS4 σ) 67 10445 Φ
  refine mc_aload_n (j := 0) (by decide +kernel) rfl ?_
  show mcE L fr lo M_Tree_init 1 [some (mr 66)] [mr 66] (tb jT65) (jS4 σ) 67 10445 Φ
  refine mc_objInit (idx := 3) (by decide +kernel) (List.mem_of_getElem? (i := 144) (by decide +kernel)) (List.mem_of_getElem? (i := 77) (by decide +kernel)) (List.mem_of_getElem? (i := 78) (by decide +kernel)) (by omega) (show 0 + 12 ≤ lo by omega) ?_
  show mcE L fr lo M_Tree_init 4 [some (mr 66)] [] (tb jT65) (jS4 σ) 67 10445 Φ
  refine mc_aload_n (j := 0) (by decide +kernel) rfl ?_
  show mcE L fr lo M_Tree_init 5 [some (mr 66)] [mr 66] (tb jT65) (jS4 σ) 67 10445 Φ
  refine mc_bipush (i := 32) (by decide +kernel) (by decide) ?_
  show mcE L fr lo M_Tree_init 7 [some (mr 66)] [mi 32, mr 66] (tb jT65) (jS4 σ) 67 10445 Φ
  refine mc_newarray (at' := .int) (t := 0) (len := 32) (by decide +kernel) (by decide) rfl (List.mem_of_getElem? (i := 120) (by decide +kernel)) rfl rfl (by decide) (by decide) ?_
  show mcE L fr lo M_Tree_init 9 [some (mr 66)] [mr 67, mr 66] (tb jT65) (jS4 σ) 68 10477 Φ
  refine mc_putR (idx := 9) (ci := 1) (k := 0) (by decide +kernel) ⟨mcFdB_spec (w := 148) (by decide +kernel), rfl, finOk_spec (by decide +kernel)⟩ (by decide) (by decide) rfl ?_
  rw [show upc (tb jT65) 66 (upi (tb jT65 66) ((0 : Nat) : Int) (some 67)) = tb jT66 from tb_put (a := 65) (k := 0) (t := 66) (by decide +kernel) (by decide +kernel)]
  show mcE L fr lo M_Tree_init 12 [some (mr 66)] [] (tb jT66) (jS4 σ) 68 10477 Φ
  refine mc_aload_n (j := 0) (by decide +kernel) rfl ?_
  show mcE L fr lo M_Tree_init 13 [some (mr 66)] [mr 66] (tb jT66) (jS4 σ) 68 10477 Φ
  refine mc_bipush (i := 32) (by decide +kernel) (by decide) ?_
  show mcE L fr lo M_Tree_init 15 [some (mr 66)] [mi 32, mr 66] (tb jT66) (jS4 σ) 68 10477 Φ
  refine mc_newarray (at' := .int) (t := 0) (len := 32) (by decide +kernel) (by decide) rfl (List.mem_of_getElem? (i := 120) (by decide +kernel)) rfl rfl (by decide) (by decide) ?_
  show mcE L fr lo M_Tree_init 17 [some (mr 66)] [mr 68, mr 66] (tb jT66) (jS4 σ) 69 10509 Φ
  refine mc_putR (idx := 15) (ci := 1) (k := 1) (by decide +kernel) ⟨mcFdB_spec (w := 151) (by decide +kernel), rfl, finOk_spec (by decide +kernel)⟩ (by decide) (by decide) rfl ?_
  rw [show upc (tb jT66) 66 (upi (tb jT66 66) ((1 : Nat) : Int) (some 68)) = tb jT67 from tb_put (a := 65) (k := 1) (t := 67) (by decide +kernel) (by decide +kernel)]
  show mcE L fr lo M_Tree_init 20 [some (mr 66)] [] (tb jT67) (jS4 σ) 69 10509 Φ
  refine mc_aload_n (j := 0) (by decide +kernel) rfl ?_
  show mcE L fr lo M_Tree_init 21 [some (mr 66)] [mr 66] (tb jT67) (jS4 σ) 69 10509 Φ
  refine mc_bipush (i := 32) (by decide +kernel) (by decide) ?_
  show mcE L fr lo M_Tree_init 23 [some (mr 66)] [mi 32, mr 66] (tb jT67) (jS4 σ) 69 10509 Φ
  refine mc_newarray (at' := .int) (t := 0) (len := 32) (by decide +kernel) (by decide) rfl (List.mem_of_getElem? (i := 120) (by decide +kernel)) rfl rfl (by decide) (by decide) ?_
  show mcE L fr lo M_Tree_init 25 [some (mr 66)] [mr 69, mr 66] (tb jT67) (jS4 σ) 70 10541 Φ
  refine mc_putR (idx := 18) (ci := 1) (k := 2) (by decide +kernel) ⟨mcFdB_spec (w := 153) (by decide +kernel), rfl, finOk_spec (by decide +kernel)⟩ (by decide) (by decide) rfl ?_
  rw [show upc (tb jT67) 66 (upi (tb jT67 66) ((2 : Nat) : Int) (some 69)) = tb jT68 from tb_put (a := 65) (k := 2) (t := 68) (by decide +kernel) (by decide +kernel)]
  show mcE L fr lo M_Tree_init 28 [some (mr 66)] [] (tb jT68) (jS4 σ) 70 10541 Φ
  refine mc_aload_n (j := 0) (by decide +kernel) rfl ?_
  show mcE L fr lo M_Tree_init 29 [some (mr 66)] [mr 66] (tb jT68) (jS4 σ) 70 10541 Φ
  refine mc_bipush (i := 32) (by decide +kernel) (by decide) ?_
  show mcE L fr lo M_Tree_init 31 [some (mr 66)] [mi 32, mr 66] (tb jT68) (jS4 σ) 70 10541 Φ
  refine mc_newarray (at' := .int) (t := 0) (len := 32) (by decide +kernel) (by decide) rfl (List.mem_of_getElem? (i := 120) (by decide +kernel)) rfl rfl (by decide) (by decide) ?_
  show mcE L fr lo M_Tree_init 33 [some (mr 66)] [mr 70, mr 66] (tb jT68) (jS4 σ) 71 10573 Φ
  refine mc_putR (idx := 21) (ci := 1) (k := 3) (by decide +kernel) ⟨mcFdB_spec (w := 156) (by decide +kernel), rfl, finOk_spec (by decide +kernel)⟩ (by decide) (by decide) rfl ?_
  rw [show upc (tb jT68) 66 (upi (tb jT68 66) ((3 : Nat) : Int) (some 70)) = tb jT69 from tb_put (a := 65) (k := 3) (t := 69) (by decide +kernel) (by decide +kernel)]
  show mcE L fr lo M_Tree_init 36 [some (mr 66)] [] (tb jT69) (jS4 σ) 71 10573 Φ
  refine mc_aload_n (j := 0) (by decide +kernel) rfl ?_
  show mcE L fr lo M_Tree_init 37 [some (mr 66)] [mr 66] (tb jT69) (jS4 σ) 71 10573 Φ
  refine mc_sipush (i := 2048) (by decide +kernel) (by decide) ?_
  show mcE L fr lo M_Tree_init 40 [some (mr 66)] [mi 2048, mr 66] (tb jT69) (jS4 σ) 71 10573 Φ
  refine mc_newarray (at' := .int) (t := 0) (len := 2048) (by decide +kernel) (by decide) rfl (List.mem_of_getElem? (i := 120) (by decide +kernel)) rfl rfl (by decide) (by decide) ?_
  show mcE L fr lo M_Tree_init 42 [some (mr 66)] [mr 71, mr 66] (tb jT69) (jS4 σ) 72 12621 Φ
  refine mc_putR (idx := 24) (ci := 1) (k := 4) (by decide +kernel) ⟨mcFdB_spec (w := 159) (by decide +kernel), rfl, finOk_spec (by decide +kernel)⟩ (by decide) (by decide) rfl ?_
  rw [show upc (tb jT69) 66 (upi (tb jT69 66) ((4 : Nat) : Int) (some 71)) = tb jT70 from tb_put (a := 65) (k := 4) (t := 70) (by decide +kernel) (by decide +kernel)]
  show mcE L fr lo M_Tree_init 45 [some (mr 66)] [] (tb jT70) (jS4 σ) 72 12621 Φ
  refine mc_aload_n (j := 0) (by decide +kernel) rfl ?_
  show mcE L fr lo M_Tree_init 46 [some (mr 66)] [mr 66] (tb jT70) (jS4 σ) 72 12621 Φ
  refine mc_getR (idx := 9) (ci := 1) (k := 0) (t := 67) (by decide +kernel) (mcFdB_spec (w := 148) (by decide +kernel)) (by decide) (by decide) rfl (show tb jT70 66 ((0 : Nat) : Int) = some 67 by decide +kernel) ?_
  show mcE L fr lo M_Tree_init 49 [some (mr 66)] [mr 67] (tb jT70) (jS4 σ) 72 12621 Φ
  refine mc_iconst (i := -1) (by decide +kernel) ?_
  show mcE L fr lo M_Tree_init 50 [some (mr 66)] [mi (-1), mr 67] (tb jT70) (jS4 σ) 72 12621 Φ
  refine mc_static (M' := M_Arrays_fill_0) (fr' := fr - 1) (lo' := lo - 40) (idx := 27) (vs := [mr 67, mi (-1)]) (by decide +kernel) (Or.inl (List.mem_of_getElem? (i := 145) (by decide +kernel))) (List.mem_of_getElem? (i := 146) (by decide +kernel)) (mcCdB_spec (wi := 58) (wc := 147) (by decide +kernel)) (Or.inl rfl) (mcArB_spec (by decide +kernel)) (by omega) (show 0 + (4 + 11) + (lo - 40) ≤ lo by omega) (by decide) ?_
  refine mcE.at0 ?_
  refine in_fill (a := 67) (len := 32) (v := (-1)) (by decide) (by decide) rfl (by decide) (by unfold in32; decide) ?_
  show mcE L fr lo M_Tree_init 53 [some (mr 66)] [] (tb jT70) (jS5 σ) 72 12621 Φ
  refine mc_aload_n (j := 0) (by decide +kernel) rfl ?_
  show mcE L fr lo M_Tree_init 54 [some (mr 66)] [mr 66] (tb jT70) (jS5 σ) 72 12621 Φ
  refine mc_getR (idx := 15) (ci := 1) (k := 1) (t := 68) (by decide +kernel) (mcFdB_spec (w := 151) (by decide +kernel)) (by decide) (by decide) rfl (show tb jT70 66 ((1 : Nat) : Int) = some 68 by decide +kernel) ?_
  show mcE L fr lo M_Tree_init 57 [some (mr 66)] [mr 68] (tb jT70) (jS5 σ) 72 12621 Φ
  refine mc_iconst (i := -1) (by decide +kernel) ?_
  show mcE L fr lo M_Tree_init 58 [some (mr 66)] [mi (-1), mr 68] (tb jT70) (jS5 σ) 72 12621 Φ
  refine mc_static (M' := M_Arrays_fill_0) (fr' := fr - 1) (lo' := lo - 40) (idx := 27) (vs := [mr 68, mi (-1)]) (by decide +kernel) (Or.inl (List.mem_of_getElem? (i := 145) (by decide +kernel))) (List.mem_of_getElem? (i := 146) (by decide +kernel)) (mcCdB_spec (wi := 58) (wc := 147) (by decide +kernel)) (Or.inl rfl) (mcArB_spec (by decide +kernel)) (by omega) (show 0 + (4 + 11) + (lo - 40) ≤ lo by omega) (by decide) ?_
  refine mcE.at0 ?_
  refine in_fill (a := 68) (len := 32) (v := (-1)) (by decide) (by decide) rfl (by decide) (by unfold in32; decide) ?_
  show mcE L fr lo M_Tree_init 61 [some (mr 66)] [] (tb jT70) (jS6 σ) 72 12621 Φ
  refine mc_aload_n (j := 0) (by decide +kernel) rfl ?_
  show mcE L fr lo M_Tree_init 62 [some (mr 66)] [mr 66] (tb jT70) (jS6 σ) 72 12621 Φ
  refine mc_getR (idx := 9) (ci := 1) (k := 0) (t := 67) (by decide +kernel) (mcFdB_spec (w := 148) (by decide +kernel)) (by decide) (by decide) rfl (show tb jT70 66 ((0 : Nat) : Int) = some 67 by decide +kernel) ?_
  show mcE L fr lo M_Tree_init 65 [some (mr 66)] [mr 67] (tb jT70) (jS6 σ) 72 12621 Φ
  refine mc_iconst (i := 0) (by decide +kernel) ?_
  show mcE L fr lo M_Tree_init 66 [some (mr 66)] [mi 0, mr 67] (tb jT70) (jS6 σ) 72 12621 Φ
  refine mc_iconst (i := 1) (by decide +kernel) ?_
  show mcE L fr lo M_Tree_init 67 [some (mr 66)] [mi 1, mi 0, mr 67] (tb jT70) (jS6 σ) 72 12621 Φ
  refine mc_iastore (by decide +kernel) (by decide) (by decide) rfl (by decide) (by unfold in32; decide) ?_
  show mcE L fr lo M_Tree_init 68 [some (mr 66)] [] (tb jT70) (jS7 σ) 72 12621 Φ
  exact mc_return_ (by decide +kernel) rfl k
def jT71 : List (List Nat) := tst jT70 64 0 66
def jT72 : List (List Nat) := tst jT71 71 0 73
def jT73 : List (List Nat) := tst jT72 71 1 74
def jT74 : List (List Nat) := tst jT73 71 2 75
def jT75 : List (List Nat) := tst jT74 71 3 76
def jT76 : List (List Nat) := tst jT75 71 4 77
theorem iv_19 {L fr lo : Nat} {σ : mG} {Φ : mcPost} (hfr : 1 ≤ fr) (hlo : 40 ≤ lo) (k : Φ (.inl none) (tb jT76) (jS7 σ) 78 13142) : mcE L fr lo M_Locks_init 0 (mcEnt M_Locks_init.2.2.1 [mr 72]) [] (tb jT71) (jS7 σ) 73 12626 Φ := by
  show mcE L fr lo M_Locks_init 0 [some (mr 72)] [] (tb jT71) (jS7 σ) 73 12626 Φ
  refine mc_aload_n (j := 0) (by decide +kernel) rfl ?_
  show mcE L fr lo M_Locks_init 1 [some (mr 72)] [mr 72] (tb jT71) (jS7 σ) 73 12626 Φ
  refine mc_objInit (idx := 3) (by decide +kernel) (List.mem_of_getElem? (i := 176) (by decide +kernel)) (List.mem_of_getElem? (i := 77) (by decide +kernel)) (List.mem_of_getElem? (i := 78) (by decide +kernel)) (by omega) (show 0 + 12 ≤ lo by omega) ?_
  show mcE L fr lo M_Locks_init 4 [some (mr 72)] [] (tb jT71) (jS7 σ) 73 12626 Φ
  refine mc_aload_n (j := 0) (by decide +kernel) rfl ?_
  show mcE L fr lo M_Locks_init 5 [some (mr 72)] [mr 72] (tb jT71) (jS7 σ) 73 12626 Φ
  refine mc_sipush (i := 128) (by decide +kernel) (by decide) ?_
  show mcE L fr lo M_Locks_init 8 [some (mr 72)] [mi 128, mr 72] (tb jT71) (jS7 σ) 73 12626 Φ
  refine mc_newarray (at' := .long) (t := 1) (len := 128) (by decide +kernel) (by decide) rfl (List.mem_of_getElem? (i := 194) (by decide +kernel)) rfl rfl (by decide) (by decide) ?_
  show mcE L fr lo M_Locks_init 10 [some (mr 72)] [mr 73, mr 72] (tb jT71) (jS7 σ) 74 12754 Φ
  refine mc_putR (idx := 9) (ci := 2) (k := 0) (by decide +kernel) ⟨mcFdB_spec (w := 177) (by decide +kernel), rfl, finOk_spec (by decide +kernel)⟩ (by decide) (by decide) rfl ?_
  rw [show upc (tb jT71) 72 (upi (tb jT71 72) ((0 : Nat) : Int) (some 73)) = tb jT72 from tb_put (a := 71) (k := 0) (t := 72) (by decide +kernel) (by decide +kernel)]
  show mcE L fr lo M_Locks_init 13 [some (mr 72)] [] (tb jT72) (jS7 σ) 74 12754 Φ
  refine mc_aload_n (j := 0) (by decide +kernel) rfl ?_
  show mcE L fr lo M_Locks_init 14 [some (mr 72)] [mr 72] (tb jT72) (jS7 σ) 74 12754 Φ
  refine mc_sipush (i := 128) (by decide +kernel) (by decide) ?_
  show mcE L fr lo M_Locks_init 17 [some (mr 72)] [mi 128, mr 72] (tb jT72) (jS7 σ) 74 12754 Φ
  refine mc_newarray (at' := .long) (t := 1) (len := 128) (by decide +kernel) (by decide) rfl (List.mem_of_getElem? (i := 194) (by decide +kernel)) rfl rfl (by decide) (by decide) ?_
  show mcE L fr lo M_Locks_init 19 [some (mr 72)] [mr 74, mr 72] (tb jT72) (jS7 σ) 75 12882 Φ
  refine mc_putR (idx := 15) (ci := 2) (k := 1) (by decide +kernel) ⟨mcFdB_spec (w := 178) (by decide +kernel), rfl, finOk_spec (by decide +kernel)⟩ (by decide) (by decide) rfl ?_
  rw [show upc (tb jT72) 72 (upi (tb jT72 72) ((1 : Nat) : Int) (some 74)) = tb jT73 from tb_put (a := 71) (k := 1) (t := 73) (by decide +kernel) (by decide +kernel)]
  show mcE L fr lo M_Locks_init 22 [some (mr 72)] [] (tb jT73) (jS7 σ) 75 12882 Φ
  refine mc_aload_n (j := 0) (by decide +kernel) rfl ?_
  show mcE L fr lo M_Locks_init 23 [some (mr 72)] [mr 72] (tb jT73) (jS7 σ) 75 12882 Φ
  refine mc_sipush (i := 128) (by decide +kernel) (by decide) ?_
  show mcE L fr lo M_Locks_init 26 [some (mr 72)] [mi 128, mr 72] (tb jT73) (jS7 σ) 75 12882 Φ
  refine mc_newarray (at' := .long) (t := 1) (len := 128) (by decide +kernel) (by decide) rfl (List.mem_of_getElem? (i := 194) (by decide +kernel)) rfl rfl (by decide) (by decide) ?_
  show mcE L fr lo M_Locks_init 28 [some (mr 72)] [mr 75, mr 72] (tb jT73) (jS7 σ) 76 13010 Φ
  refine mc_putR (idx := 18) (ci := 2) (k := 2) (by decide +kernel) ⟨mcFdB_spec (w := 179) (by decide +kernel), rfl, finOk_spec (by decide +kernel)⟩ (by decide) (by decide) rfl ?_
  rw [show upc (tb jT73) 72 (upi (tb jT73 72) ((2 : Nat) : Int) (some 75)) = tb jT74 from tb_put (a := 71) (k := 2) (t := 74) (by decide +kernel) (by decide +kernel)]
  show mcE L fr lo M_Locks_init 31 [some (mr 72)] [] (tb jT74) (jS7 σ) 76 13010 Φ
  refine mc_aload_n (j := 0) (by decide +kernel) rfl ?_
  show mcE L fr lo M_Locks_init 32 [some (mr 72)] [mr 72] (tb jT74) (jS7 σ) 76 13010 Φ
  refine mc_sipush (i := 128) (by decide +kernel) (by decide) ?_
  show mcE L fr lo M_Locks_init 35 [some (mr 72)] [mi 128, mr 72] (tb jT74) (jS7 σ) 76 13010 Φ
  refine mc_newarray (at' := .long) (t := 1) (len := 128) (by decide +kernel) (by decide) rfl (List.mem_of_getElem? (i := 194) (by decide +kernel)) rfl rfl (by decide) (by decide) ?_
  show mcE L fr lo M_Locks_init 37 [some (mr 72)] [mr 76, mr 72] (tb jT74) (jS7 σ) 77 13138 Φ
  refine mc_putR (idx := 21) (ci := 2) (k := 3) (by decide +kernel) ⟨mcFdB_spec (w := 180) (by decide +kernel), rfl, finOk_spec (by decide +kernel)⟩ (by decide) (by decide) rfl ?_
  rw [show upc (tb jT74) 72 (upi (tb jT74 72) ((3 : Nat) : Int) (some 76)) = tb jT75 from tb_put (a := 71) (k := 3) (t := 75) (by decide +kernel) (by decide +kernel)]
  show mcE L fr lo M_Locks_init 40 [some (mr 72)] [] (tb jT75) (jS7 σ) 77 13138 Φ
  refine mc_aload_n (j := 0) (by decide +kernel) rfl ?_
  show mcE L fr lo M_Locks_init 41 [some (mr 72)] [mr 72] (tb jT75) (jS7 σ) 77 13138 Φ
  refine mc_iconst (i := 4) (by decide +kernel) ?_
  show mcE L fr lo M_Locks_init 42 [some (mr 72)] [mi 4, mr 72] (tb jT75) (jS7 σ) 77 13138 Φ
  refine mc_newarray (at' := .int) (t := 0) (len := 4) (by decide +kernel) (by decide) rfl (List.mem_of_getElem? (i := 120) (by decide +kernel)) rfl rfl (by decide) (by decide) ?_
  show mcE L fr lo M_Locks_init 44 [some (mr 72)] [mr 77, mr 72] (tb jT75) (jS7 σ) 78 13142 Φ
  refine mc_putR (idx := 24) (ci := 2) (k := 4) (by decide +kernel) ⟨mcFdB_spec (w := 181) (by decide +kernel), rfl, finOk_spec (by decide +kernel)⟩ (by decide) (by decide) rfl ?_
  rw [show upc (tb jT75) 72 (upi (tb jT75 72) ((4 : Nat) : Int) (some 77)) = tb jT76 from tb_put (a := 71) (k := 4) (t := 76) (by decide +kernel) (by decide +kernel)]
  show mcE L fr lo M_Locks_init 47 [some (mr 72)] [] (tb jT76) (jS7 σ) 78 13142 Φ
  exact mc_return_ (by decide +kernel) rfl k
def jT77 : List (List Nat) := tst jT76 64 1 72
def jT78 : List (List Nat) := tst jT77 64 2 78
def jT79 : List (List Nat) := tst jT78 64 3 79
def jT80 : List (List Nat) := tst jT79 64 4 80
def jT81 : List (List Nat) := tst jT80 64 5 81
def jS8 (σ : mG) : mG := upc (jS7 σ) 78 (fillF ((jS7 σ) 78) 0 ((32 : Nat) : Int) (-1))
def jT82 : List (List Nat) := tst jT81 81 0 83
def jT83 : List (List Nat) := tst jT82 81 1 84
theorem iv_20 {L fr lo : Nat} {σ : mG} {Φ : mcPost} (hfr : 1 ≤ fr) (hlo : 40 ≤ lo) (k : Φ (.inl none) (tb jT83) (jS8 σ) 85 13213) : mcE L fr lo M_Answer_init 0 (mcEnt M_Answer_init.2.2.1 [mr 82]) [] (tb jT81) (jS8 σ) 83 13205 Φ := by
  show mcE L fr lo M_Answer_init 0 [some (mr 82)] [] (tb jT81) (jS8 σ) 83 13205 Φ
  refine mc_aload_n (j := 0) (by decide +kernel) rfl ?_
  show mcE L fr lo M_Answer_init 1 [some (mr 82)] [mr 82] (tb jT81) (jS8 σ) 83 13205 Φ
  refine mc_objInit (idx := 3) (by decide +kernel) (List.mem_of_getElem? (i := 202) (by decide +kernel)) (List.mem_of_getElem? (i := 77) (by decide +kernel)) (List.mem_of_getElem? (i := 78) (by decide +kernel)) (by omega) (show 0 + 12 ≤ lo by omega) ?_
  show mcE L fr lo M_Answer_init 4 [some (mr 82)] [] (tb jT81) (jS8 σ) 83 13205 Φ
  refine mc_aload_n (j := 0) (by decide +kernel) rfl ?_
  show mcE L fr lo M_Answer_init 5 [some (mr 82)] [mr 82] (tb jT81) (jS8 σ) 83 13205 Φ
  refine mc_iconst (i := 4) (by decide +kernel) ?_
  show mcE L fr lo M_Answer_init 6 [some (mr 82)] [mi 4, mr 82] (tb jT81) (jS8 σ) 83 13205 Φ
  refine mc_newarray (at' := .int) (t := 0) (len := 4) (by decide +kernel) (by decide) rfl (List.mem_of_getElem? (i := 120) (by decide +kernel)) rfl rfl (by decide) (by decide) ?_
  show mcE L fr lo M_Answer_init 8 [some (mr 82)] [mr 83, mr 82] (tb jT81) (jS8 σ) 84 13209 Φ
  refine mc_putR (idx := 9) (ci := 3) (k := 0) (by decide +kernel) ⟨mcFdB_spec (w := 203) (by decide +kernel), rfl, finOk_spec (by decide +kernel)⟩ (by decide) (by decide) rfl ?_
  rw [show upc (tb jT81) 82 (upi (tb jT81 82) ((0 : Nat) : Int) (some 83)) = tb jT82 from tb_put (a := 81) (k := 0) (t := 82) (by decide +kernel) (by decide +kernel)]
  show mcE L fr lo M_Answer_init 11 [some (mr 82)] [] (tb jT82) (jS8 σ) 84 13209 Φ
  refine mc_aload_n (j := 0) (by decide +kernel) rfl ?_
  show mcE L fr lo M_Answer_init 12 [some (mr 82)] [mr 82] (tb jT82) (jS8 σ) 84 13209 Φ
  refine mc_iconst (i := 4) (by decide +kernel) ?_
  show mcE L fr lo M_Answer_init 13 [some (mr 82)] [mi 4, mr 82] (tb jT82) (jS8 σ) 84 13209 Φ
  refine mc_newarray (at' := .int) (t := 0) (len := 4) (by decide +kernel) (by decide) rfl (List.mem_of_getElem? (i := 120) (by decide +kernel)) rfl rfl (by decide) (by decide) ?_
  show mcE L fr lo M_Answer_init 15 [some (mr 82)] [mr 84, mr 82] (tb jT82) (jS8 σ) 85 13213 Φ
  refine mc_putR (idx := 15) (ci := 3) (k := 1) (by decide +kernel) ⟨mcFdB_spec (w := 205) (by decide +kernel), rfl, finOk_spec (by decide +kernel)⟩ (by decide) (by decide) rfl ?_
  rw [show upc (tb jT82) 82 (upi (tb jT82 82) ((1 : Nat) : Int) (some 84)) = tb jT83 from tb_put (a := 81) (k := 1) (t := 83) (by decide +kernel) (by decide +kernel)]
  show mcE L fr lo M_Answer_init 18 [some (mr 82)] [] (tb jT83) (jS8 σ) 85 13213 Φ
  exact mc_return_ (by decide +kernel) rfl k
def jT84 : List (List Nat) := tst jT83 80 0 82
def jT85 : List (List Nat) := tst jT84 84 0 86
def jT86 : List (List Nat) := tst jT85 84 1 87
theorem iv_21 {L fr lo : Nat} {σ : mG} {Φ : mcPost} (hfr : 1 ≤ fr) (hlo : 40 ≤ lo) (k : Φ (.inl none) (tb jT86) (jS8 σ) 88 13224) : mcE L fr lo M_Answer_init 0 (mcEnt M_Answer_init.2.2.1 [mr 85]) [] (tb jT84) (jS8 σ) 86 13216 Φ := by
  show mcE L fr lo M_Answer_init 0 [some (mr 85)] [] (tb jT84) (jS8 σ) 86 13216 Φ
  refine mc_aload_n (j := 0) (by decide +kernel) rfl ?_
  show mcE L fr lo M_Answer_init 1 [some (mr 85)] [mr 85] (tb jT84) (jS8 σ) 86 13216 Φ
  refine mc_objInit (idx := 3) (by decide +kernel) (List.mem_of_getElem? (i := 202) (by decide +kernel)) (List.mem_of_getElem? (i := 77) (by decide +kernel)) (List.mem_of_getElem? (i := 78) (by decide +kernel)) (by omega) (show 0 + 12 ≤ lo by omega) ?_
  show mcE L fr lo M_Answer_init 4 [some (mr 85)] [] (tb jT84) (jS8 σ) 86 13216 Φ
  refine mc_aload_n (j := 0) (by decide +kernel) rfl ?_
  show mcE L fr lo M_Answer_init 5 [some (mr 85)] [mr 85] (tb jT84) (jS8 σ) 86 13216 Φ
  refine mc_iconst (i := 4) (by decide +kernel) ?_
  show mcE L fr lo M_Answer_init 6 [some (mr 85)] [mi 4, mr 85] (tb jT84) (jS8 σ) 86 13216 Φ
  refine mc_newarray (at' := .int) (t := 0) (len := 4) (by decide +kernel) (by decide) rfl (List.mem_of_getElem? (i := 120) (by decide +kernel)) rfl rfl (by decide) (by decide) ?_
  show mcE L fr lo M_Answer_init 8 [some (mr 85)] [mr 86, mr 85] (tb jT84) (jS8 σ) 87 13220 Φ
  refine mc_putR (idx := 9) (ci := 3) (k := 0) (by decide +kernel) ⟨mcFdB_spec (w := 203) (by decide +kernel), rfl, finOk_spec (by decide +kernel)⟩ (by decide) (by decide) rfl ?_
  rw [show upc (tb jT84) 85 (upi (tb jT84 85) ((0 : Nat) : Int) (some 86)) = tb jT85 from tb_put (a := 84) (k := 0) (t := 85) (by decide +kernel) (by decide +kernel)]
  show mcE L fr lo M_Answer_init 11 [some (mr 85)] [] (tb jT85) (jS8 σ) 87 13220 Φ
  refine mc_aload_n (j := 0) (by decide +kernel) rfl ?_
  show mcE L fr lo M_Answer_init 12 [some (mr 85)] [mr 85] (tb jT85) (jS8 σ) 87 13220 Φ
  refine mc_iconst (i := 4) (by decide +kernel) ?_
  show mcE L fr lo M_Answer_init 13 [some (mr 85)] [mi 4, mr 85] (tb jT85) (jS8 σ) 87 13220 Φ
  refine mc_newarray (at' := .int) (t := 0) (len := 4) (by decide +kernel) (by decide) rfl (List.mem_of_getElem? (i := 120) (by decide +kernel)) rfl rfl (by decide) (by decide) ?_
  show mcE L fr lo M_Answer_init 15 [some (mr 85)] [mr 87, mr 85] (tb jT85) (jS8 σ) 88 13224 Φ
  refine mc_putR (idx := 15) (ci := 3) (k := 1) (by decide +kernel) ⟨mcFdB_spec (w := 205) (by decide +kernel), rfl, finOk_spec (by decide +kernel)⟩ (by decide) (by decide) rfl ?_
  rw [show upc (tb jT85) 85 (upi (tb jT85 85) ((1 : Nat) : Int) (some 87)) = tb jT86 from tb_put (a := 84) (k := 1) (t := 86) (by decide +kernel) (by decide +kernel)]
  show mcE L fr lo M_Answer_init 18 [some (mr 85)] [] (tb jT86) (jS8 σ) 88 13224 Φ
  exact mc_return_ (by decide +kernel) rfl k
def jT87 : List (List Nat) := tst jT86 80 1 85
def jT88 : List (List Nat) := tst jT87 87 0 89
def jT89 : List (List Nat) := tst jT88 87 1 90
theorem iv_22 {L fr lo : Nat} {σ : mG} {Φ : mcPost} (hfr : 1 ≤ fr) (hlo : 40 ≤ lo) (k : Φ (.inl none) (tb jT89) (jS8 σ) 91 13235) : mcE L fr lo M_Answer_init 0 (mcEnt M_Answer_init.2.2.1 [mr 88]) [] (tb jT87) (jS8 σ) 89 13227 Φ := by
  show mcE L fr lo M_Answer_init 0 [some (mr 88)] [] (tb jT87) (jS8 σ) 89 13227 Φ
  refine mc_aload_n (j := 0) (by decide +kernel) rfl ?_
  show mcE L fr lo M_Answer_init 1 [some (mr 88)] [mr 88] (tb jT87) (jS8 σ) 89 13227 Φ
  refine mc_objInit (idx := 3) (by decide +kernel) (List.mem_of_getElem? (i := 202) (by decide +kernel)) (List.mem_of_getElem? (i := 77) (by decide +kernel)) (List.mem_of_getElem? (i := 78) (by decide +kernel)) (by omega) (show 0 + 12 ≤ lo by omega) ?_
  show mcE L fr lo M_Answer_init 4 [some (mr 88)] [] (tb jT87) (jS8 σ) 89 13227 Φ
  refine mc_aload_n (j := 0) (by decide +kernel) rfl ?_
  show mcE L fr lo M_Answer_init 5 [some (mr 88)] [mr 88] (tb jT87) (jS8 σ) 89 13227 Φ
  refine mc_iconst (i := 4) (by decide +kernel) ?_
  show mcE L fr lo M_Answer_init 6 [some (mr 88)] [mi 4, mr 88] (tb jT87) (jS8 σ) 89 13227 Φ
  refine mc_newarray (at' := .int) (t := 0) (len := 4) (by decide +kernel) (by decide) rfl (List.mem_of_getElem? (i := 120) (by decide +kernel)) rfl rfl (by decide) (by decide) ?_
  show mcE L fr lo M_Answer_init 8 [some (mr 88)] [mr 89, mr 88] (tb jT87) (jS8 σ) 90 13231 Φ
  refine mc_putR (idx := 9) (ci := 3) (k := 0) (by decide +kernel) ⟨mcFdB_spec (w := 203) (by decide +kernel), rfl, finOk_spec (by decide +kernel)⟩ (by decide) (by decide) rfl ?_
  rw [show upc (tb jT87) 88 (upi (tb jT87 88) ((0 : Nat) : Int) (some 89)) = tb jT88 from tb_put (a := 87) (k := 0) (t := 88) (by decide +kernel) (by decide +kernel)]
  show mcE L fr lo M_Answer_init 11 [some (mr 88)] [] (tb jT88) (jS8 σ) 90 13231 Φ
  refine mc_aload_n (j := 0) (by decide +kernel) rfl ?_
  show mcE L fr lo M_Answer_init 12 [some (mr 88)] [mr 88] (tb jT88) (jS8 σ) 90 13231 Φ
  refine mc_iconst (i := 4) (by decide +kernel) ?_
  show mcE L fr lo M_Answer_init 13 [some (mr 88)] [mi 4, mr 88] (tb jT88) (jS8 σ) 90 13231 Φ
  refine mc_newarray (at' := .int) (t := 0) (len := 4) (by decide +kernel) (by decide) rfl (List.mem_of_getElem? (i := 120) (by decide +kernel)) rfl rfl (by decide) (by decide) ?_
  show mcE L fr lo M_Answer_init 15 [some (mr 88)] [mr 90, mr 88] (tb jT88) (jS8 σ) 91 13235 Φ
  refine mc_putR (idx := 15) (ci := 3) (k := 1) (by decide +kernel) ⟨mcFdB_spec (w := 205) (by decide +kernel), rfl, finOk_spec (by decide +kernel)⟩ (by decide) (by decide) rfl ?_
  rw [show upc (tb jT88) 88 (upi (tb jT88 88) ((1 : Nat) : Int) (some 90)) = tb jT89 from tb_put (a := 87) (k := 1) (t := 89) (by decide +kernel) (by decide +kernel)]
  show mcE L fr lo M_Answer_init 18 [some (mr 88)] [] (tb jT89) (jS8 σ) 91 13235 Φ
  exact mc_return_ (by decide +kernel) rfl k
def jT90 : List (List Nat) := tst jT89 80 2 88
def jT91 : List (List Nat) := tst jT90 90 0 92
def jT92 : List (List Nat) := tst jT91 90 1 93
theorem iv_23 {L fr lo : Nat} {σ : mG} {Φ : mcPost} (hfr : 1 ≤ fr) (hlo : 40 ≤ lo) (k : Φ (.inl none) (tb jT92) (jS8 σ) 94 13246) : mcE L fr lo M_Answer_init 0 (mcEnt M_Answer_init.2.2.1 [mr 91]) [] (tb jT90) (jS8 σ) 92 13238 Φ := by
  show mcE L fr lo M_Answer_init 0 [some (mr 91)] [] (tb jT90) (jS8 σ) 92 13238 Φ
  refine mc_aload_n (j := 0) (by decide +kernel) rfl ?_
  show mcE L fr lo M_Answer_init 1 [some (mr 91)] [mr 91] (tb jT90) (jS8 σ) 92 13238 Φ
  refine mc_objInit (idx := 3) (by decide +kernel) (List.mem_of_getElem? (i := 202) (by decide +kernel)) (List.mem_of_getElem? (i := 77) (by decide +kernel)) (List.mem_of_getElem? (i := 78) (by decide +kernel)) (by omega) (show 0 + 12 ≤ lo by omega) ?_
  show mcE L fr lo M_Answer_init 4 [some (mr 91)] [] (tb jT90) (jS8 σ) 92 13238 Φ
  refine mc_aload_n (j := 0) (by decide +kernel) rfl ?_
  show mcE L fr lo M_Answer_init 5 [some (mr 91)] [mr 91] (tb jT90) (jS8 σ) 92 13238 Φ
  refine mc_iconst (i := 4) (by decide +kernel) ?_
  show mcE L fr lo M_Answer_init 6 [some (mr 91)] [mi 4, mr 91] (tb jT90) (jS8 σ) 92 13238 Φ
  refine mc_newarray (at' := .int) (t := 0) (len := 4) (by decide +kernel) (by decide) rfl (List.mem_of_getElem? (i := 120) (by decide +kernel)) rfl rfl (by decide) (by decide) ?_
  show mcE L fr lo M_Answer_init 8 [some (mr 91)] [mr 92, mr 91] (tb jT90) (jS8 σ) 93 13242 Φ
  refine mc_putR (idx := 9) (ci := 3) (k := 0) (by decide +kernel) ⟨mcFdB_spec (w := 203) (by decide +kernel), rfl, finOk_spec (by decide +kernel)⟩ (by decide) (by decide) rfl ?_
  rw [show upc (tb jT90) 91 (upi (tb jT90 91) ((0 : Nat) : Int) (some 92)) = tb jT91 from tb_put (a := 90) (k := 0) (t := 91) (by decide +kernel) (by decide +kernel)]
  show mcE L fr lo M_Answer_init 11 [some (mr 91)] [] (tb jT91) (jS8 σ) 93 13242 Φ
  refine mc_aload_n (j := 0) (by decide +kernel) rfl ?_
  show mcE L fr lo M_Answer_init 12 [some (mr 91)] [mr 91] (tb jT91) (jS8 σ) 93 13242 Φ
  refine mc_iconst (i := 4) (by decide +kernel) ?_
  show mcE L fr lo M_Answer_init 13 [some (mr 91)] [mi 4, mr 91] (tb jT91) (jS8 σ) 93 13242 Φ
  refine mc_newarray (at' := .int) (t := 0) (len := 4) (by decide +kernel) (by decide) rfl (List.mem_of_getElem? (i := 120) (by decide +kernel)) rfl rfl (by decide) (by decide) ?_
  show mcE L fr lo M_Answer_init 15 [some (mr 91)] [mr 93, mr 91] (tb jT91) (jS8 σ) 94 13246 Φ
  refine mc_putR (idx := 15) (ci := 3) (k := 1) (by decide +kernel) ⟨mcFdB_spec (w := 205) (by decide +kernel), rfl, finOk_spec (by decide +kernel)⟩ (by decide) (by decide) rfl ?_
  rw [show upc (tb jT91) 91 (upi (tb jT91 91) ((1 : Nat) : Int) (some 93)) = tb jT92 from tb_put (a := 90) (k := 1) (t := 92) (by decide +kernel) (by decide +kernel)]
  show mcE L fr lo M_Answer_init 18 [some (mr 91)] [] (tb jT92) (jS8 σ) 94 13246 Φ
  exact mc_return_ (by decide +kernel) rfl k
def jT93 : List (List Nat) := tst jT92 80 3 91
def jT94 : List (List Nat) := tst jT93 93 0 95
def jT95 : List (List Nat) := tst jT94 93 1 96
theorem iv_24 {L fr lo : Nat} {σ : mG} {Φ : mcPost} (hfr : 1 ≤ fr) (hlo : 40 ≤ lo) (k : Φ (.inl none) (tb jT95) (jS8 σ) 97 13257) : mcE L fr lo M_Answer_init 0 (mcEnt M_Answer_init.2.2.1 [mr 94]) [] (tb jT93) (jS8 σ) 95 13249 Φ := by
  show mcE L fr lo M_Answer_init 0 [some (mr 94)] [] (tb jT93) (jS8 σ) 95 13249 Φ
  refine mc_aload_n (j := 0) (by decide +kernel) rfl ?_
  show mcE L fr lo M_Answer_init 1 [some (mr 94)] [mr 94] (tb jT93) (jS8 σ) 95 13249 Φ
  refine mc_objInit (idx := 3) (by decide +kernel) (List.mem_of_getElem? (i := 202) (by decide +kernel)) (List.mem_of_getElem? (i := 77) (by decide +kernel)) (List.mem_of_getElem? (i := 78) (by decide +kernel)) (by omega) (show 0 + 12 ≤ lo by omega) ?_
  show mcE L fr lo M_Answer_init 4 [some (mr 94)] [] (tb jT93) (jS8 σ) 95 13249 Φ
  refine mc_aload_n (j := 0) (by decide +kernel) rfl ?_
  show mcE L fr lo M_Answer_init 5 [some (mr 94)] [mr 94] (tb jT93) (jS8 σ) 95 13249 Φ
  refine mc_iconst (i := 4) (by decide +kernel) ?_
  show mcE L fr lo M_Answer_init 6 [some (mr 94)] [mi 4, mr 94] (tb jT93) (jS8 σ) 95 13249 Φ
  refine mc_newarray (at' := .int) (t := 0) (len := 4) (by decide +kernel) (by decide) rfl (List.mem_of_getElem? (i := 120) (by decide +kernel)) rfl rfl (by decide) (by decide) ?_
  show mcE L fr lo M_Answer_init 8 [some (mr 94)] [mr 95, mr 94] (tb jT93) (jS8 σ) 96 13253 Φ
  refine mc_putR (idx := 9) (ci := 3) (k := 0) (by decide +kernel) ⟨mcFdB_spec (w := 203) (by decide +kernel), rfl, finOk_spec (by decide +kernel)⟩ (by decide) (by decide) rfl ?_
  rw [show upc (tb jT93) 94 (upi (tb jT93 94) ((0 : Nat) : Int) (some 95)) = tb jT94 from tb_put (a := 93) (k := 0) (t := 94) (by decide +kernel) (by decide +kernel)]
  show mcE L fr lo M_Answer_init 11 [some (mr 94)] [] (tb jT94) (jS8 σ) 96 13253 Φ
  refine mc_aload_n (j := 0) (by decide +kernel) rfl ?_
  show mcE L fr lo M_Answer_init 12 [some (mr 94)] [mr 94] (tb jT94) (jS8 σ) 96 13253 Φ
  refine mc_iconst (i := 4) (by decide +kernel) ?_
  show mcE L fr lo M_Answer_init 13 [some (mr 94)] [mi 4, mr 94] (tb jT94) (jS8 σ) 96 13253 Φ
  refine mc_newarray (at' := .int) (t := 0) (len := 4) (by decide +kernel) (by decide) rfl (List.mem_of_getElem? (i := 120) (by decide +kernel)) rfl rfl (by decide) (by decide) ?_
  show mcE L fr lo M_Answer_init 15 [some (mr 94)] [mr 96, mr 94] (tb jT94) (jS8 σ) 97 13257 Φ
  refine mc_putR (idx := 15) (ci := 3) (k := 1) (by decide +kernel) ⟨mcFdB_spec (w := 205) (by decide +kernel), rfl, finOk_spec (by decide +kernel)⟩ (by decide) (by decide) rfl ?_
  rw [show upc (tb jT94) 94 (upi (tb jT94 94) ((1 : Nat) : Int) (some 96)) = tb jT95 from tb_put (a := 93) (k := 1) (t := 95) (by decide +kernel) (by decide +kernel)]
  show mcE L fr lo M_Answer_init 18 [some (mr 94)] [] (tb jT95) (jS8 σ) 97 13257 Φ
  exact mc_return_ (by decide +kernel) rfl k
def jT96 : List (List Nat) := tst jT95 80 4 94
def jT97 : List (List Nat) := tst jT96 96 0 98
def jT98 : List (List Nat) := tst jT97 96 1 99
theorem iv_25 {L fr lo : Nat} {σ : mG} {Φ : mcPost} (hfr : 1 ≤ fr) (hlo : 40 ≤ lo) (k : Φ (.inl none) (tb jT98) (jS8 σ) 100 13268) : mcE L fr lo M_Answer_init 0 (mcEnt M_Answer_init.2.2.1 [mr 97]) [] (tb jT96) (jS8 σ) 98 13260 Φ := by
  show mcE L fr lo M_Answer_init 0 [some (mr 97)] [] (tb jT96) (jS8 σ) 98 13260 Φ
  refine mc_aload_n (j := 0) (by decide +kernel) rfl ?_
  show mcE L fr lo M_Answer_init 1 [some (mr 97)] [mr 97] (tb jT96) (jS8 σ) 98 13260 Φ
  refine mc_objInit (idx := 3) (by decide +kernel) (List.mem_of_getElem? (i := 202) (by decide +kernel)) (List.mem_of_getElem? (i := 77) (by decide +kernel)) (List.mem_of_getElem? (i := 78) (by decide +kernel)) (by omega) (show 0 + 12 ≤ lo by omega) ?_
  show mcE L fr lo M_Answer_init 4 [some (mr 97)] [] (tb jT96) (jS8 σ) 98 13260 Φ
  refine mc_aload_n (j := 0) (by decide +kernel) rfl ?_
  show mcE L fr lo M_Answer_init 5 [some (mr 97)] [mr 97] (tb jT96) (jS8 σ) 98 13260 Φ
  refine mc_iconst (i := 4) (by decide +kernel) ?_
  show mcE L fr lo M_Answer_init 6 [some (mr 97)] [mi 4, mr 97] (tb jT96) (jS8 σ) 98 13260 Φ
  refine mc_newarray (at' := .int) (t := 0) (len := 4) (by decide +kernel) (by decide) rfl (List.mem_of_getElem? (i := 120) (by decide +kernel)) rfl rfl (by decide) (by decide) ?_
  show mcE L fr lo M_Answer_init 8 [some (mr 97)] [mr 98, mr 97] (tb jT96) (jS8 σ) 99 13264 Φ
  refine mc_putR (idx := 9) (ci := 3) (k := 0) (by decide +kernel) ⟨mcFdB_spec (w := 203) (by decide +kernel), rfl, finOk_spec (by decide +kernel)⟩ (by decide) (by decide) rfl ?_
  rw [show upc (tb jT96) 97 (upi (tb jT96 97) ((0 : Nat) : Int) (some 98)) = tb jT97 from tb_put (a := 96) (k := 0) (t := 97) (by decide +kernel) (by decide +kernel)]
  show mcE L fr lo M_Answer_init 11 [some (mr 97)] [] (tb jT97) (jS8 σ) 99 13264 Φ
  refine mc_aload_n (j := 0) (by decide +kernel) rfl ?_
  show mcE L fr lo M_Answer_init 12 [some (mr 97)] [mr 97] (tb jT97) (jS8 σ) 99 13264 Φ
  refine mc_iconst (i := 4) (by decide +kernel) ?_
  show mcE L fr lo M_Answer_init 13 [some (mr 97)] [mi 4, mr 97] (tb jT97) (jS8 σ) 99 13264 Φ
  refine mc_newarray (at' := .int) (t := 0) (len := 4) (by decide +kernel) (by decide) rfl (List.mem_of_getElem? (i := 120) (by decide +kernel)) rfl rfl (by decide) (by decide) ?_
  show mcE L fr lo M_Answer_init 15 [some (mr 97)] [mr 99, mr 97] (tb jT97) (jS8 σ) 100 13268 Φ
  refine mc_putR (idx := 15) (ci := 3) (k := 1) (by decide +kernel) ⟨mcFdB_spec (w := 205) (by decide +kernel), rfl, finOk_spec (by decide +kernel)⟩ (by decide) (by decide) rfl ?_
  rw [show upc (tb jT97) 97 (upi (tb jT97 97) ((1 : Nat) : Int) (some 99)) = tb jT98 from tb_put (a := 96) (k := 1) (t := 98) (by decide +kernel) (by decide +kernel)]
  show mcE L fr lo M_Answer_init 18 [some (mr 97)] [] (tb jT98) (jS8 σ) 100 13268 Φ
  exact mc_return_ (by decide +kernel) rfl k
def jT99 : List (List Nat) := tst jT98 80 5 97
def jT100 : List (List Nat) := tst jT99 99 0 101
def jT101 : List (List Nat) := tst jT100 99 1 102
theorem iv_26 {L fr lo : Nat} {σ : mG} {Φ : mcPost} (hfr : 1 ≤ fr) (hlo : 40 ≤ lo) (k : Φ (.inl none) (tb jT101) (jS8 σ) 103 13279) : mcE L fr lo M_Answer_init 0 (mcEnt M_Answer_init.2.2.1 [mr 100]) [] (tb jT99) (jS8 σ) 101 13271 Φ := by
  show mcE L fr lo M_Answer_init 0 [some (mr 100)] [] (tb jT99) (jS8 σ) 101 13271 Φ
  refine mc_aload_n (j := 0) (by decide +kernel) rfl ?_
  show mcE L fr lo M_Answer_init 1 [some (mr 100)] [mr 100] (tb jT99) (jS8 σ) 101 13271 Φ
  refine mc_objInit (idx := 3) (by decide +kernel) (List.mem_of_getElem? (i := 202) (by decide +kernel)) (List.mem_of_getElem? (i := 77) (by decide +kernel)) (List.mem_of_getElem? (i := 78) (by decide +kernel)) (by omega) (show 0 + 12 ≤ lo by omega) ?_
  show mcE L fr lo M_Answer_init 4 [some (mr 100)] [] (tb jT99) (jS8 σ) 101 13271 Φ
  refine mc_aload_n (j := 0) (by decide +kernel) rfl ?_
  show mcE L fr lo M_Answer_init 5 [some (mr 100)] [mr 100] (tb jT99) (jS8 σ) 101 13271 Φ
  refine mc_iconst (i := 4) (by decide +kernel) ?_
  show mcE L fr lo M_Answer_init 6 [some (mr 100)] [mi 4, mr 100] (tb jT99) (jS8 σ) 101 13271 Φ
  refine mc_newarray (at' := .int) (t := 0) (len := 4) (by decide +kernel) (by decide) rfl (List.mem_of_getElem? (i := 120) (by decide +kernel)) rfl rfl (by decide) (by decide) ?_
  show mcE L fr lo M_Answer_init 8 [some (mr 100)] [mr 101, mr 100] (tb jT99) (jS8 σ) 102 13275 Φ
  refine mc_putR (idx := 9) (ci := 3) (k := 0) (by decide +kernel) ⟨mcFdB_spec (w := 203) (by decide +kernel), rfl, finOk_spec (by decide +kernel)⟩ (by decide) (by decide) rfl ?_
  rw [show upc (tb jT99) 100 (upi (tb jT99 100) ((0 : Nat) : Int) (some 101)) = tb jT100 from tb_put (a := 99) (k := 0) (t := 100) (by decide +kernel) (by decide +kernel)]
  show mcE L fr lo M_Answer_init 11 [some (mr 100)] [] (tb jT100) (jS8 σ) 102 13275 Φ
  refine mc_aload_n (j := 0) (by decide +kernel) rfl ?_
  show mcE L fr lo M_Answer_init 12 [some (mr 100)] [mr 100] (tb jT100) (jS8 σ) 102 13275 Φ
  refine mc_iconst (i := 4) (by decide +kernel) ?_
  show mcE L fr lo M_Answer_init 13 [some (mr 100)] [mi 4, mr 100] (tb jT100) (jS8 σ) 102 13275 Φ
  refine mc_newarray (at' := .int) (t := 0) (len := 4) (by decide +kernel) (by decide) rfl (List.mem_of_getElem? (i := 120) (by decide +kernel)) rfl rfl (by decide) (by decide) ?_
  show mcE L fr lo M_Answer_init 15 [some (mr 100)] [mr 102, mr 100] (tb jT100) (jS8 σ) 103 13279 Φ
  refine mc_putR (idx := 15) (ci := 3) (k := 1) (by decide +kernel) ⟨mcFdB_spec (w := 205) (by decide +kernel), rfl, finOk_spec (by decide +kernel)⟩ (by decide) (by decide) rfl ?_
  rw [show upc (tb jT100) 100 (upi (tb jT100 100) ((1 : Nat) : Int) (some 102)) = tb jT101 from tb_put (a := 99) (k := 1) (t := 101) (by decide +kernel) (by decide +kernel)]
  show mcE L fr lo M_Answer_init 18 [some (mr 100)] [] (tb jT101) (jS8 σ) 103 13279 Φ
  exact mc_return_ (by decide +kernel) rfl k
def jT102 : List (List Nat) := tst jT101 80 6 100
def jT103 : List (List Nat) := tst jT102 102 0 104
def jT104 : List (List Nat) := tst jT103 102 1 105
theorem iv_27 {L fr lo : Nat} {σ : mG} {Φ : mcPost} (hfr : 1 ≤ fr) (hlo : 40 ≤ lo) (k : Φ (.inl none) (tb jT104) (jS8 σ) 106 13290) : mcE L fr lo M_Answer_init 0 (mcEnt M_Answer_init.2.2.1 [mr 103]) [] (tb jT102) (jS8 σ) 104 13282 Φ := by
  show mcE L fr lo M_Answer_init 0 [some (mr 103)] [] (tb jT102) (jS8 σ) 104 13282 Φ
  refine mc_aload_n (j := 0) (by decide +kernel) rfl ?_
  show mcE L fr lo M_Answer_init 1 [some (mr 103)] [mr 103] (tb jT102) (jS8 σ) 104 13282 Φ
  refine mc_objInit (idx := 3) (by decide +kernel) (List.mem_of_getElem? (i := 202) (by decide +kernel)) (List.mem_of_getElem? (i := 77) (by decide +kernel)) (List.mem_of_getElem? (i := 78) (by decide +kernel)) (by omega) (show 0 + 12 ≤ lo by omega) ?_
  show mcE L fr lo M_Answer_init 4 [some (mr 103)] [] (tb jT102) (jS8 σ) 104 13282 Φ
  refine mc_aload_n (j := 0) (by decide +kernel) rfl ?_
  show mcE L fr lo M_Answer_init 5 [some (mr 103)] [mr 103] (tb jT102) (jS8 σ) 104 13282 Φ
  refine mc_iconst (i := 4) (by decide +kernel) ?_
  show mcE L fr lo M_Answer_init 6 [some (mr 103)] [mi 4, mr 103] (tb jT102) (jS8 σ) 104 13282 Φ
  refine mc_newarray (at' := .int) (t := 0) (len := 4) (by decide +kernel) (by decide) rfl (List.mem_of_getElem? (i := 120) (by decide +kernel)) rfl rfl (by decide) (by decide) ?_
  show mcE L fr lo M_Answer_init 8 [some (mr 103)] [mr 104, mr 103] (tb jT102) (jS8 σ) 105 13286 Φ
  refine mc_putR (idx := 9) (ci := 3) (k := 0) (by decide +kernel) ⟨mcFdB_spec (w := 203) (by decide +kernel), rfl, finOk_spec (by decide +kernel)⟩ (by decide) (by decide) rfl ?_
  rw [show upc (tb jT102) 103 (upi (tb jT102 103) ((0 : Nat) : Int) (some 104)) = tb jT103 from tb_put (a := 102) (k := 0) (t := 103) (by decide +kernel) (by decide +kernel)]
  show mcE L fr lo M_Answer_init 11 [some (mr 103)] [] (tb jT103) (jS8 σ) 105 13286 Φ
  refine mc_aload_n (j := 0) (by decide +kernel) rfl ?_
  show mcE L fr lo M_Answer_init 12 [some (mr 103)] [mr 103] (tb jT103) (jS8 σ) 105 13286 Φ
  refine mc_iconst (i := 4) (by decide +kernel) ?_
  show mcE L fr lo M_Answer_init 13 [some (mr 103)] [mi 4, mr 103] (tb jT103) (jS8 σ) 105 13286 Φ
  refine mc_newarray (at' := .int) (t := 0) (len := 4) (by decide +kernel) (by decide) rfl (List.mem_of_getElem? (i := 120) (by decide +kernel)) rfl rfl (by decide) (by decide) ?_
  show mcE L fr lo M_Answer_init 15 [some (mr 103)] [mr 105, mr 103] (tb jT103) (jS8 σ) 106 13290 Φ
  refine mc_putR (idx := 15) (ci := 3) (k := 1) (by decide +kernel) ⟨mcFdB_spec (w := 205) (by decide +kernel), rfl, finOk_spec (by decide +kernel)⟩ (by decide) (by decide) rfl ?_
  rw [show upc (tb jT103) 103 (upi (tb jT103 103) ((1 : Nat) : Int) (some 105)) = tb jT104 from tb_put (a := 102) (k := 1) (t := 104) (by decide +kernel) (by decide +kernel)]
  show mcE L fr lo M_Answer_init 18 [some (mr 103)] [] (tb jT104) (jS8 σ) 106 13290 Φ
  exact mc_return_ (by decide +kernel) rfl k
def jT105 : List (List Nat) := tst jT104 80 7 103
def jT106 : List (List Nat) := tst jT105 105 0 107
def jT107 : List (List Nat) := tst jT106 105 1 108
theorem iv_28 {L fr lo : Nat} {σ : mG} {Φ : mcPost} (hfr : 1 ≤ fr) (hlo : 40 ≤ lo) (k : Φ (.inl none) (tb jT107) (jS8 σ) 109 13301) : mcE L fr lo M_Answer_init 0 (mcEnt M_Answer_init.2.2.1 [mr 106]) [] (tb jT105) (jS8 σ) 107 13293 Φ := by
  show mcE L fr lo M_Answer_init 0 [some (mr 106)] [] (tb jT105) (jS8 σ) 107 13293 Φ
  refine mc_aload_n (j := 0) (by decide +kernel) rfl ?_
  show mcE L fr lo M_Answer_init 1 [some (mr 106)] [mr 106] (tb jT105) (jS8 σ) 107 13293 Φ
  refine mc_objInit (idx := 3) (by decide +kernel) (List.mem_of_getElem? (i := 202) (by decide +kernel)) (List.mem_of_getElem? (i := 77) (by decide +kernel)) (List.mem_of_getElem? (i := 78) (by decide +kernel)) (by omega) (show 0 + 12 ≤ lo by omega) ?_
  show mcE L fr lo M_Answer_init 4 [some (mr 106)] [] (tb jT105) (jS8 σ) 107 13293 Φ
  refine mc_aload_n (j := 0) (by decide +kernel) rfl ?_
  show mcE L fr lo M_Answer_init 5 [some (mr 106)] [mr 106] (tb jT105) (jS8 σ) 107 13293 Φ
  refine mc_iconst (i := 4) (by decide +kernel) ?_
  show mcE L fr lo M_Answer_init 6 [some (mr 106)] [mi 4, mr 106] (tb jT105) (jS8 σ) 107 13293 Φ
  refine mc_newarray (at' := .int) (t := 0) (len := 4) (by decide +kernel) (by decide) rfl (List.mem_of_getElem? (i := 120) (by decide +kernel)) rfl rfl (by decide) (by decide) ?_
  show mcE L fr lo M_Answer_init 8 [some (mr 106)] [mr 107, mr 106] (tb jT105) (jS8 σ) 108 13297 Φ
  refine mc_putR (idx := 9) (ci := 3) (k := 0) (by decide +kernel) ⟨mcFdB_spec (w := 203) (by decide +kernel), rfl, finOk_spec (by decide +kernel)⟩ (by decide) (by decide) rfl ?_
  rw [show upc (tb jT105) 106 (upi (tb jT105 106) ((0 : Nat) : Int) (some 107)) = tb jT106 from tb_put (a := 105) (k := 0) (t := 106) (by decide +kernel) (by decide +kernel)]
  show mcE L fr lo M_Answer_init 11 [some (mr 106)] [] (tb jT106) (jS8 σ) 108 13297 Φ
  refine mc_aload_n (j := 0) (by decide +kernel) rfl ?_
  show mcE L fr lo M_Answer_init 12 [some (mr 106)] [mr 106] (tb jT106) (jS8 σ) 108 13297 Φ
  refine mc_iconst (i := 4) (by decide +kernel) ?_
  show mcE L fr lo M_Answer_init 13 [some (mr 106)] [mi 4, mr 106] (tb jT106) (jS8 σ) 108 13297 Φ
  refine mc_newarray (at' := .int) (t := 0) (len := 4) (by decide +kernel) (by decide) rfl (List.mem_of_getElem? (i := 120) (by decide +kernel)) rfl rfl (by decide) (by decide) ?_
  show mcE L fr lo M_Answer_init 15 [some (mr 106)] [mr 108, mr 106] (tb jT106) (jS8 σ) 109 13301 Φ
  refine mc_putR (idx := 15) (ci := 3) (k := 1) (by decide +kernel) ⟨mcFdB_spec (w := 205) (by decide +kernel), rfl, finOk_spec (by decide +kernel)⟩ (by decide) (by decide) rfl ?_
  rw [show upc (tb jT106) 106 (upi (tb jT106 106) ((1 : Nat) : Int) (some 108)) = tb jT107 from tb_put (a := 105) (k := 1) (t := 107) (by decide +kernel) (by decide +kernel)]
  show mcE L fr lo M_Answer_init 18 [some (mr 106)] [] (tb jT107) (jS8 σ) 109 13301 Φ
  exact mc_return_ (by decide +kernel) rfl k
def jT108 : List (List Nat) := tst jT107 80 8 106
def jT109 : List (List Nat) := tst jT108 108 0 110
def jT110 : List (List Nat) := tst jT109 108 1 111
theorem iv_29 {L fr lo : Nat} {σ : mG} {Φ : mcPost} (hfr : 1 ≤ fr) (hlo : 40 ≤ lo) (k : Φ (.inl none) (tb jT110) (jS8 σ) 112 13312) : mcE L fr lo M_Answer_init 0 (mcEnt M_Answer_init.2.2.1 [mr 109]) [] (tb jT108) (jS8 σ) 110 13304 Φ := by
  show mcE L fr lo M_Answer_init 0 [some (mr 109)] [] (tb jT108) (jS8 σ) 110 13304 Φ
  refine mc_aload_n (j := 0) (by decide +kernel) rfl ?_
  show mcE L fr lo M_Answer_init 1 [some (mr 109)] [mr 109] (tb jT108) (jS8 σ) 110 13304 Φ
  refine mc_objInit (idx := 3) (by decide +kernel) (List.mem_of_getElem? (i := 202) (by decide +kernel)) (List.mem_of_getElem? (i := 77) (by decide +kernel)) (List.mem_of_getElem? (i := 78) (by decide +kernel)) (by omega) (show 0 + 12 ≤ lo by omega) ?_
  show mcE L fr lo M_Answer_init 4 [some (mr 109)] [] (tb jT108) (jS8 σ) 110 13304 Φ
  refine mc_aload_n (j := 0) (by decide +kernel) rfl ?_
  show mcE L fr lo M_Answer_init 5 [some (mr 109)] [mr 109] (tb jT108) (jS8 σ) 110 13304 Φ
  refine mc_iconst (i := 4) (by decide +kernel) ?_
  show mcE L fr lo M_Answer_init 6 [some (mr 109)] [mi 4, mr 109] (tb jT108) (jS8 σ) 110 13304 Φ
  refine mc_newarray (at' := .int) (t := 0) (len := 4) (by decide +kernel) (by decide) rfl (List.mem_of_getElem? (i := 120) (by decide +kernel)) rfl rfl (by decide) (by decide) ?_
  show mcE L fr lo M_Answer_init 8 [some (mr 109)] [mr 110, mr 109] (tb jT108) (jS8 σ) 111 13308 Φ
  refine mc_putR (idx := 9) (ci := 3) (k := 0) (by decide +kernel) ⟨mcFdB_spec (w := 203) (by decide +kernel), rfl, finOk_spec (by decide +kernel)⟩ (by decide) (by decide) rfl ?_
  rw [show upc (tb jT108) 109 (upi (tb jT108 109) ((0 : Nat) : Int) (some 110)) = tb jT109 from tb_put (a := 108) (k := 0) (t := 109) (by decide +kernel) (by decide +kernel)]
  show mcE L fr lo M_Answer_init 11 [some (mr 109)] [] (tb jT109) (jS8 σ) 111 13308 Φ
  refine mc_aload_n (j := 0) (by decide +kernel) rfl ?_
  show mcE L fr lo M_Answer_init 12 [some (mr 109)] [mr 109] (tb jT109) (jS8 σ) 111 13308 Φ
  refine mc_iconst (i := 4) (by decide +kernel) ?_
  show mcE L fr lo M_Answer_init 13 [some (mr 109)] [mi 4, mr 109] (tb jT109) (jS8 σ) 111 13308 Φ
  refine mc_newarray (at' := .int) (t := 0) (len := 4) (by decide +kernel) (by decide) rfl (List.mem_of_getElem? (i := 120) (by decide +kernel)) rfl rfl (by decide) (by decide) ?_
  show mcE L fr lo M_Answer_init 15 [some (mr 109)] [mr 111, mr 109] (tb jT109) (jS8 σ) 112 13312 Φ
  refine mc_putR (idx := 15) (ci := 3) (k := 1) (by decide +kernel) ⟨mcFdB_spec (w := 205) (by decide +kernel), rfl, finOk_spec (by decide +kernel)⟩ (by decide) (by decide) rfl ?_
  rw [show upc (tb jT109) 109 (upi (tb jT109 109) ((1 : Nat) : Int) (some 111)) = tb jT110 from tb_put (a := 108) (k := 1) (t := 110) (by decide +kernel) (by decide +kernel)]
  show mcE L fr lo M_Answer_init 18 [some (mr 109)] [] (tb jT110) (jS8 σ) 112 13312 Φ
  exact mc_return_ (by decide +kernel) rfl k
def jT111 : List (List Nat) := tst jT110 80 9 109
def jT112 : List (List Nat) := tst jT111 111 0 113
def jT113 : List (List Nat) := tst jT112 111 1 114
theorem iv_30 {L fr lo : Nat} {σ : mG} {Φ : mcPost} (hfr : 1 ≤ fr) (hlo : 40 ≤ lo) (k : Φ (.inl none) (tb jT113) (jS8 σ) 115 13323) : mcE L fr lo M_Answer_init 0 (mcEnt M_Answer_init.2.2.1 [mr 112]) [] (tb jT111) (jS8 σ) 113 13315 Φ := by
  show mcE L fr lo M_Answer_init 0 [some (mr 112)] [] (tb jT111) (jS8 σ) 113 13315 Φ
  refine mc_aload_n (j := 0) (by decide +kernel) rfl ?_
  show mcE L fr lo M_Answer_init 1 [some (mr 112)] [mr 112] (tb jT111) (jS8 σ) 113 13315 Φ
  refine mc_objInit (idx := 3) (by decide +kernel) (List.mem_of_getElem? (i := 202) (by decide +kernel)) (List.mem_of_getElem? (i := 77) (by decide +kernel)) (List.mem_of_getElem? (i := 78) (by decide +kernel)) (by omega) (show 0 + 12 ≤ lo by omega) ?_
  show mcE L fr lo M_Answer_init 4 [some (mr 112)] [] (tb jT111) (jS8 σ) 113 13315 Φ
  refine mc_aload_n (j := 0) (by decide +kernel) rfl ?_
  show mcE L fr lo M_Answer_init 5 [some (mr 112)] [mr 112] (tb jT111) (jS8 σ) 113 13315 Φ
  refine mc_iconst (i := 4) (by decide +kernel) ?_
  show mcE L fr lo M_Answer_init 6 [some (mr 112)] [mi 4, mr 112] (tb jT111) (jS8 σ) 113 13315 Φ
  refine mc_newarray (at' := .int) (t := 0) (len := 4) (by decide +kernel) (by decide) rfl (List.mem_of_getElem? (i := 120) (by decide +kernel)) rfl rfl (by decide) (by decide) ?_
  show mcE L fr lo M_Answer_init 8 [some (mr 112)] [mr 113, mr 112] (tb jT111) (jS8 σ) 114 13319 Φ
  refine mc_putR (idx := 9) (ci := 3) (k := 0) (by decide +kernel) ⟨mcFdB_spec (w := 203) (by decide +kernel), rfl, finOk_spec (by decide +kernel)⟩ (by decide) (by decide) rfl ?_
  rw [show upc (tb jT111) 112 (upi (tb jT111 112) ((0 : Nat) : Int) (some 113)) = tb jT112 from tb_put (a := 111) (k := 0) (t := 112) (by decide +kernel) (by decide +kernel)]
  show mcE L fr lo M_Answer_init 11 [some (mr 112)] [] (tb jT112) (jS8 σ) 114 13319 Φ
  refine mc_aload_n (j := 0) (by decide +kernel) rfl ?_
  show mcE L fr lo M_Answer_init 12 [some (mr 112)] [mr 112] (tb jT112) (jS8 σ) 114 13319 Φ
  refine mc_iconst (i := 4) (by decide +kernel) ?_
  show mcE L fr lo M_Answer_init 13 [some (mr 112)] [mi 4, mr 112] (tb jT112) (jS8 σ) 114 13319 Φ
  refine mc_newarray (at' := .int) (t := 0) (len := 4) (by decide +kernel) (by decide) rfl (List.mem_of_getElem? (i := 120) (by decide +kernel)) rfl rfl (by decide) (by decide) ?_
  show mcE L fr lo M_Answer_init 15 [some (mr 112)] [mr 114, mr 112] (tb jT112) (jS8 σ) 115 13323 Φ
  refine mc_putR (idx := 15) (ci := 3) (k := 1) (by decide +kernel) ⟨mcFdB_spec (w := 205) (by decide +kernel), rfl, finOk_spec (by decide +kernel)⟩ (by decide) (by decide) rfl ?_
  rw [show upc (tb jT112) 112 (upi (tb jT112 112) ((1 : Nat) : Int) (some 114)) = tb jT113 from tb_put (a := 111) (k := 1) (t := 113) (by decide +kernel) (by decide +kernel)]
  show mcE L fr lo M_Answer_init 18 [some (mr 112)] [] (tb jT113) (jS8 σ) 115 13323 Φ
  exact mc_return_ (by decide +kernel) rfl k
def jT114 : List (List Nat) := tst jT113 80 10 112
def jT115 : List (List Nat) := tst jT114 114 0 116
def jT116 : List (List Nat) := tst jT115 114 1 117
theorem iv_31 {L fr lo : Nat} {σ : mG} {Φ : mcPost} (hfr : 1 ≤ fr) (hlo : 40 ≤ lo) (k : Φ (.inl none) (tb jT116) (jS8 σ) 118 13334) : mcE L fr lo M_Answer_init 0 (mcEnt M_Answer_init.2.2.1 [mr 115]) [] (tb jT114) (jS8 σ) 116 13326 Φ := by
  show mcE L fr lo M_Answer_init 0 [some (mr 115)] [] (tb jT114) (jS8 σ) 116 13326 Φ
  refine mc_aload_n (j := 0) (by decide +kernel) rfl ?_
  show mcE L fr lo M_Answer_init 1 [some (mr 115)] [mr 115] (tb jT114) (jS8 σ) 116 13326 Φ
  refine mc_objInit (idx := 3) (by decide +kernel) (List.mem_of_getElem? (i := 202) (by decide +kernel)) (List.mem_of_getElem? (i := 77) (by decide +kernel)) (List.mem_of_getElem? (i := 78) (by decide +kernel)) (by omega) (show 0 + 12 ≤ lo by omega) ?_
  show mcE L fr lo M_Answer_init 4 [some (mr 115)] [] (tb jT114) (jS8 σ) 116 13326 Φ
  refine mc_aload_n (j := 0) (by decide +kernel) rfl ?_
  show mcE L fr lo M_Answer_init 5 [some (mr 115)] [mr 115] (tb jT114) (jS8 σ) 116 13326 Φ
  refine mc_iconst (i := 4) (by decide +kernel) ?_
  show mcE L fr lo M_Answer_init 6 [some (mr 115)] [mi 4, mr 115] (tb jT114) (jS8 σ) 116 13326 Φ
  refine mc_newarray (at' := .int) (t := 0) (len := 4) (by decide +kernel) (by decide) rfl (List.mem_of_getElem? (i := 120) (by decide +kernel)) rfl rfl (by decide) (by decide) ?_
  show mcE L fr lo M_Answer_init 8 [some (mr 115)] [mr 116, mr 115] (tb jT114) (jS8 σ) 117 13330 Φ
  refine mc_putR (idx := 9) (ci := 3) (k := 0) (by decide +kernel) ⟨mcFdB_spec (w := 203) (by decide +kernel), rfl, finOk_spec (by decide +kernel)⟩ (by decide) (by decide) rfl ?_
  rw [show upc (tb jT114) 115 (upi (tb jT114 115) ((0 : Nat) : Int) (some 116)) = tb jT115 from tb_put (a := 114) (k := 0) (t := 115) (by decide +kernel) (by decide +kernel)]
  show mcE L fr lo M_Answer_init 11 [some (mr 115)] [] (tb jT115) (jS8 σ) 117 13330 Φ
  refine mc_aload_n (j := 0) (by decide +kernel) rfl ?_
  show mcE L fr lo M_Answer_init 12 [some (mr 115)] [mr 115] (tb jT115) (jS8 σ) 117 13330 Φ
  refine mc_iconst (i := 4) (by decide +kernel) ?_
  show mcE L fr lo M_Answer_init 13 [some (mr 115)] [mi 4, mr 115] (tb jT115) (jS8 σ) 117 13330 Φ
  refine mc_newarray (at' := .int) (t := 0) (len := 4) (by decide +kernel) (by decide) rfl (List.mem_of_getElem? (i := 120) (by decide +kernel)) rfl rfl (by decide) (by decide) ?_
  show mcE L fr lo M_Answer_init 15 [some (mr 115)] [mr 117, mr 115] (tb jT115) (jS8 σ) 118 13334 Φ
  refine mc_putR (idx := 15) (ci := 3) (k := 1) (by decide +kernel) ⟨mcFdB_spec (w := 205) (by decide +kernel), rfl, finOk_spec (by decide +kernel)⟩ (by decide) (by decide) rfl ?_
  rw [show upc (tb jT115) 115 (upi (tb jT115 115) ((1 : Nat) : Int) (some 117)) = tb jT116 from tb_put (a := 114) (k := 1) (t := 116) (by decide +kernel) (by decide +kernel)]
  show mcE L fr lo M_Answer_init 18 [some (mr 115)] [] (tb jT116) (jS8 σ) 118 13334 Φ
  exact mc_return_ (by decide +kernel) rfl k
def jT117 : List (List Nat) := tst jT116 80 11 115
theorem iv_32 {L fr lo : Nat} {σ : mG} {Φ : mcPost} (hfr : 3 ≤ fr) (hlo : 120 ≤ lo) (k : Φ (.inl none) (tb jT117) (jS8 σ) 118 13334) : mcE L fr lo M_Disk_init 0 (mcEnt M_Disk_init.2.2.1 [mr 65]) [] (tb jT65) (jS4 σ) 66 10440 Φ := by
  show mcE L fr lo M_Disk_init 0 [some (mr 65), none] [] (tb jT65) (jS4 σ) 66 10440 Φ
  refine mc_aload_n (j := 0) (by decide +kernel) rfl ?_
  show mcE L fr lo M_Disk_init 1 [some (mr 65), none] [mr 65] (tb jT65) (jS4 σ) 66 10440 Φ
  refine mc_objInit (idx := 3) (by decide +kernel) (List.mem_of_getElem? (i := 138) (by decide +kernel)) (List.mem_of_getElem? (i := 77) (by decide +kernel)) (List.mem_of_getElem? (i := 78) (by decide +kernel)) (by omega) (show 0 + 12 ≤ lo by omega) ?_
  show mcE L fr lo M_Disk_init 4 [some (mr 65), none] [] (tb jT65) (jS4 σ) 66 10440 Φ
  refine mc_aload_n (j := 0) (by decide +kernel) rfl ?_
  show mcE L fr lo M_Disk_init 5 [some (mr 65), none] [mr 65] (tb jT65) (jS4 σ) 66 10440 Φ
  refine mc_new (idx := 9) (ci := 1) (N := 5) (by decide +kernel) ⟨_, _, _, rfl, rfl, (List.mem_of_getElem? (i := 139) (by decide +kernel)), (List.mem_of_getElem? (i := 140) (by decide +kernel)), (List.mem_of_getElem? (i := 57) (by decide +kernel))⟩ rfl (by decide) (by decide) ?_
  show mcE L fr lo M_Disk_init 8 [some (mr 65), none] [mr 66, mr 65] (tb jT65) (jS4 σ) 67 10445 Φ
  refine mc_dup (by decide +kernel) rfl ?_
  show mcE L fr lo M_Disk_init 9 [some (mr 65), none] [mr 66, mr 66, mr 65] (tb jT65) (jS4 σ) 67 10445 Φ
  refine mc_init (M' := M_Tree_init) (fr' := fr - 1) (lo' := lo - 40) (idx := 11) (a := 66) (vs := []) (by decide +kernel) (List.mem_of_getElem? (i := 141) (by decide +kernel)) (List.mem_of_getElem? (i := 142) (by decide +kernel)) (List.mem_of_getElem? (i := 143) (by decide +kernel)) rfl (mcCdB_spec (wi := 57) (wc := 143) (by decide +kernel)) (Or.inl rfl) (mcArB_spec (by decide +kernel)) (by decide) (by omega) (show 2 + (1 + 11) + (lo - 40) ≤ lo by omega) (by decide) ?_
  refine iv_18 (by omega) (by omega) ?_
  show mcE L fr lo M_Disk_init 12 [some (mr 65), none] [mr 66, mr 65] (tb jT70) (jS7 σ) 72 12621 Φ
  refine mc_putR (idx := 12) (ci := 4) (k := 0) (by decide +kernel) ⟨mcFdB_spec (w := 217) (by decide +kernel), rfl, finOk_spec (by decide +kernel)⟩ (by decide) (by decide) rfl ?_
  rw [show upc (tb jT70) 65 (upi (tb jT70 65) ((0 : Nat) : Int) (some 66)) = tb jT71 from tb_put (a := 64) (k := 0) (t := 65) (by decide +kernel) (by decide +kernel)]
  show mcE L fr lo M_Disk_init 15 [some (mr 65), none] [] (tb jT71) (jS7 σ) 72 12621 Φ
  refine mc_aload_n (j := 0) (by decide +kernel) rfl ?_
  show mcE L fr lo M_Disk_init 16 [some (mr 65), none] [mr 65] (tb jT71) (jS7 σ) 72 12621 Φ
  refine mc_new (idx := 18) (ci := 2) (N := 5) (by decide +kernel) ⟨_, _, _, rfl, rfl, (List.mem_of_getElem? (i := 171) (by decide +kernel)), (List.mem_of_getElem? (i := 172) (by decide +kernel)), (List.mem_of_getElem? (i := 59) (by decide +kernel))⟩ rfl (by decide) (by decide) ?_
  show mcE L fr lo M_Disk_init 19 [some (mr 65), none] [mr 72, mr 65] (tb jT71) (jS7 σ) 73 12626 Φ
  refine mc_dup (by decide +kernel) rfl ?_
  show mcE L fr lo M_Disk_init 20 [some (mr 65), none] [mr 72, mr 72, mr 65] (tb jT71) (jS7 σ) 73 12626 Φ
  refine mc_init (M' := M_Locks_init) (fr' := fr - 1) (lo' := lo - 40) (idx := 20) (a := 72) (vs := []) (by decide +kernel) (List.mem_of_getElem? (i := 173) (by decide +kernel)) (List.mem_of_getElem? (i := 174) (by decide +kernel)) (List.mem_of_getElem? (i := 175) (by decide +kernel)) rfl (mcCdB_spec (wi := 59) (wc := 175) (by decide +kernel)) (Or.inl rfl) (mcArB_spec (by decide +kernel)) (by decide) (by omega) (show 2 + (1 + 11) + (lo - 40) ≤ lo by omega) (by decide) ?_
  refine iv_19 (by omega) (by omega) ?_
  show mcE L fr lo M_Disk_init 23 [some (mr 65), none] [mr 72, mr 65] (tb jT76) (jS7 σ) 78 13142 Φ
  refine mc_putR (idx := 21) (ci := 4) (k := 1) (by decide +kernel) ⟨mcFdB_spec (w := 220) (by decide +kernel), rfl, finOk_spec (by decide +kernel)⟩ (by decide) (by decide) rfl ?_
  rw [show upc (tb jT76) 65 (upi (tb jT76 65) ((1 : Nat) : Int) (some 72)) = tb jT77 from tb_put (a := 64) (k := 1) (t := 71) (by decide +kernel) (by decide +kernel)]
  show mcE L fr lo M_Disk_init 26 [some (mr 65), none] [] (tb jT77) (jS7 σ) 78 13142 Φ
  refine mc_aload_n (j := 0) (by decide +kernel) rfl ?_
  show mcE L fr lo M_Disk_init 27 [some (mr 65), none] [mr 65] (tb jT77) (jS7 σ) 78 13142 Φ
  refine mc_bipush (i := 32) (by decide +kernel) (by decide) ?_
  show mcE L fr lo M_Disk_init 29 [some (mr 65), none] [mi 32, mr 65] (tb jT77) (jS7 σ) 78 13142 Φ
  refine mc_newarray (at' := .int) (t := 0) (len := 32) (by decide +kernel) (by decide) rfl (List.mem_of_getElem? (i := 120) (by decide +kernel)) rfl rfl (by decide) (by decide) ?_
  show mcE L fr lo M_Disk_init 31 [some (mr 65), none] [mr 78, mr 65] (tb jT77) (jS7 σ) 79 13174 Φ
  refine mc_putR (idx := 25) (ci := 4) (k := 2) (by decide +kernel) ⟨mcFdB_spec (w := 224) (by decide +kernel), rfl, finOk_spec (by decide +kernel)⟩ (by decide) (by decide) rfl ?_
  rw [show upc (tb jT77) 65 (upi (tb jT77 65) ((2 : Nat) : Int) (some 78)) = tb jT78 from tb_put (a := 64) (k := 2) (t := 77) (by decide +kernel) (by decide +kernel)]
  show mcE L fr lo M_Disk_init 34 [some (mr 65), none] [] (tb jT78) (jS7 σ) 79 13174 Φ
  refine mc_aload_n (j := 0) (by decide +kernel) rfl ?_
  show mcE L fr lo M_Disk_init 35 [some (mr 65), none] [mr 65] (tb jT78) (jS7 σ) 79 13174 Φ
  refine mc_iconst (i := 4) (by decide +kernel) ?_
  show mcE L fr lo M_Disk_init 36 [some (mr 65), none] [mi 4, mr 65] (tb jT78) (jS7 σ) 79 13174 Φ
  refine mc_newarray (at' := .int) (t := 0) (len := 4) (by decide +kernel) (by decide) rfl (List.mem_of_getElem? (i := 120) (by decide +kernel)) rfl rfl (by decide) (by decide) ?_
  show mcE L fr lo M_Disk_init 38 [some (mr 65), none] [mr 79, mr 65] (tb jT78) (jS7 σ) 80 13178 Φ
  refine mc_putR (idx := 29) (ci := 4) (k := 3) (by decide +kernel) ⟨mcFdB_spec (w := 225) (by decide +kernel), rfl, finOk_spec (by decide +kernel)⟩ (by decide) (by decide) rfl ?_
  rw [show upc (tb jT78) 65 (upi (tb jT78 65) ((3 : Nat) : Int) (some 79)) = tb jT79 from tb_put (a := 64) (k := 3) (t := 78) (by decide +kernel) (by decide +kernel)]
  show mcE L fr lo M_Disk_init 41 [some (mr 65), none] [] (tb jT79) (jS7 σ) 80 13178 Φ
  refine mc_aload_n (j := 0) (by decide +kernel) rfl ?_
  show mcE L fr lo M_Disk_init 42 [some (mr 65), none] [mr 65] (tb jT79) (jS7 σ) 80 13178 Φ
  refine mc_bipush (i := 12) (by decide +kernel) (by decide) ?_
  show mcE L fr lo M_Disk_init 44 [some (mr 65), none] [mi 12, mr 65] (tb jT79) (jS7 σ) 80 13178 Φ
  refine mc_newarray (at' := .int) (t := 0) (len := 12) (by decide +kernel) (by decide) rfl (List.mem_of_getElem? (i := 120) (by decide +kernel)) rfl rfl (by decide) (by decide) ?_
  show mcE L fr lo M_Disk_init 46 [some (mr 65), none] [mr 80, mr 65] (tb jT79) (jS7 σ) 81 13190 Φ
  refine mc_putR (idx := 32) (ci := 4) (k := 4) (by decide +kernel) ⟨mcFdB_spec (w := 227) (by decide +kernel), rfl, finOk_spec (by decide +kernel)⟩ (by decide) (by decide) rfl ?_
  rw [show upc (tb jT79) 65 (upi (tb jT79 65) ((4 : Nat) : Int) (some 80)) = tb jT80 from tb_put (a := 64) (k := 4) (t := 79) (by decide +kernel) (by decide +kernel)]
  show mcE L fr lo M_Disk_init 49 [some (mr 65), none] [] (tb jT80) (jS7 σ) 81 13190 Φ
  refine mc_aload_n (j := 0) (by decide +kernel) rfl ?_
  show mcE L fr lo M_Disk_init 50 [some (mr 65), none] [mr 65] (tb jT80) (jS7 σ) 81 13190 Φ
  refine mc_bipush (i := 12) (by decide +kernel) (by decide) ?_
  show mcE L fr lo M_Disk_init 52 [some (mr 65), none] [mi 12, mr 65] (tb jT80) (jS7 σ) 81 13190 Φ
  refine mc_anewarray (idx := 35) (t := 5) (len := 12) (C := "SlotServer$Answer") (by decide +kernel) (by decide) rfl (List.mem_of_getElem? (i := 195) (by decide +kernel)) (List.mem_of_getElem? (i := 196) (by decide +kernel)) rfl rfl (by decide) (by decide) (by decide) ?_
  show mcE L fr lo M_Disk_init 55 [some (mr 65), none] [mr 81, mr 65] (tb jT80) (jS7 σ) 82 13202 Φ
  refine mc_putR (idx := 37) (ci := 4) (k := 5) (by decide +kernel) ⟨mcFdB_spec (w := 229) (by decide +kernel), rfl, finOk_spec (by decide +kernel)⟩ (by decide) (by decide) rfl ?_
  rw [show upc (tb jT80) 65 (upi (tb jT80 65) ((5 : Nat) : Int) (some 81)) = tb jT81 from tb_put (a := 64) (k := 5) (t := 80) (by decide +kernel) (by decide +kernel)]
  show mcE L fr lo M_Disk_init 58 [some (mr 65), none] [] (tb jT81) (jS7 σ) 82 13202 Φ
  refine mc_aload_n (j := 0) (by decide +kernel) rfl ?_
  show mcE L fr lo M_Disk_init 59 [some (mr 65), none] [mr 65] (tb jT81) (jS7 σ) 82 13202 Φ
  refine mc_getR (idx := 25) (ci := 4) (k := 2) (t := 78) (by decide +kernel) (mcFdB_spec (w := 224) (by decide +kernel)) (by decide) (by decide) rfl (show tb jT81 65 ((2 : Nat) : Int) = some 78 by decide +kernel) ?_
  show mcE L fr lo M_Disk_init 62 [some (mr 65), none] [mr 78] (tb jT81) (jS7 σ) 82 13202 Φ
  refine mc_iconst (i := -1) (by decide +kernel) ?_
  show mcE L fr lo M_Disk_init 63 [some (mr 65), none] [mi (-1), mr 78] (tb jT81) (jS7 σ) 82 13202 Φ
  refine mc_static (M' := M_Arrays_fill_0) (fr' := fr - 1) (lo' := lo - 40) (idx := 41) (vs := [mr 78, mi (-1)]) (by decide +kernel) (Or.inl (List.mem_of_getElem? (i := 197) (by decide +kernel))) (List.mem_of_getElem? (i := 146) (by decide +kernel)) (mcCdB_spec (wi := 58) (wc := 147) (by decide +kernel)) (Or.inl rfl) (mcArB_spec (by decide +kernel)) (by omega) (show 0 + (4 + 11) + (lo - 40) ≤ lo by omega) (by decide) ?_
  refine mcE.at0 ?_
  refine in_fill (a := 78) (len := 32) (v := (-1)) (by decide) (by decide) rfl (by decide) (by unfold in32; decide) ?_
  show mcE L fr lo M_Disk_init 66 [some (mr 65), none] [] (tb jT81) (jS8 σ) 82 13202 Φ
  refine mc_iconst (i := 0) (by decide +kernel) ?_
  show mcE L fr lo M_Disk_init 67 [some (mr 65), none] [mi 0] (tb jT81) (jS8 σ) 82 13202 Φ
  refine mc_istore_n (j := 1) (by decide +kernel) (by decide) ?_
  show mcE L fr lo M_Disk_init 68 [some (mr 65), some (mi 0)] [] (tb jT81) (jS8 σ) 82 13202 Φ
  refine mc_iload_n (j := 1) (by decide +kernel) rfl ?_
  show mcE L fr lo M_Disk_init 69 [some (mr 65), some (mi 0)] [mi 0] (tb jT81) (jS8 σ) 82 13202 Φ
  refine mc_bipush (i := 12) (by decide +kernel) (by decide) ?_
  show mcE L fr lo M_Disk_init 71 [some (mr 65), some (mi 0)] [mi 12, mi 0] (tb jT81) (jS8 σ) 82 13202 Φ
  refine mc_icmp_ge (off := 22) (by decide +kernel) (by decide) (by unfold in32; decide) (by unfold in32; decide) (fun w => absurd w (by decide)) (fun _ => ?_)
  show mcE L fr lo M_Disk_init 74 [some (mr 65), some (mi 0)] [] (tb jT81) (jS8 σ) 82 13202 Φ
  refine mc_aload_n (j := 0) (by decide +kernel) rfl ?_
  show mcE L fr lo M_Disk_init 75 [some (mr 65), some (mi 0)] [mr 65] (tb jT81) (jS8 σ) 82 13202 Φ
  refine mc_getR (idx := 37) (ci := 4) (k := 5) (t := 81) (by decide +kernel) (mcFdB_spec (w := 229) (by decide +kernel)) (by decide) (by decide) rfl (show tb jT81 65 ((5 : Nat) : Int) = some 81 by decide +kernel) ?_
  show mcE L fr lo M_Disk_init 78 [some (mr 65), some (mi 0)] [mr 81] (tb jT81) (jS8 σ) 82 13202 Φ
  refine mc_iload_n (j := 1) (by decide +kernel) rfl ?_
  show mcE L fr lo M_Disk_init 79 [some (mr 65), some (mi 0)] [mi 0, mr 81] (tb jT81) (jS8 σ) 82 13202 Φ
  refine mc_new (idx := 35) (ci := 3) (N := 3) (by decide +kernel) ⟨_, _, _, rfl, rfl, (List.mem_of_getElem? (i := 195) (by decide +kernel)), (List.mem_of_getElem? (i := 198) (by decide +kernel)), (List.mem_of_getElem? (i := 60) (by decide +kernel))⟩ rfl (by decide) (by decide) ?_
  show mcE L fr lo M_Disk_init 82 [some (mr 65), some (mi 0)] [mr 82, mi 0, mr 81] (tb jT81) (jS8 σ) 83 13205 Φ
  refine mc_dup (by decide +kernel) rfl ?_
  show mcE L fr lo M_Disk_init 83 [some (mr 65), some (mi 0)] [mr 82, mr 82, mi 0, mr 81] (tb jT81) (jS8 σ) 83 13205 Φ
  refine mc_init (M' := M_Answer_init) (fr' := fr - 1) (lo' := lo - 40) (idx := 47) (a := 82) (vs := []) (by decide +kernel) (List.mem_of_getElem? (i := 199) (by decide +kernel)) (List.mem_of_getElem? (i := 200) (by decide +kernel)) (List.mem_of_getElem? (i := 201) (by decide +kernel)) rfl (mcCdB_spec (wi := 60) (wc := 201) (by decide +kernel)) (Or.inl rfl) (mcArB_spec (by decide +kernel)) (by decide) (by omega) (show 3 + (1 + 11) + (lo - 40) ≤ lo by omega) (by decide) ?_
  refine iv_20 (by omega) (by omega) ?_
  show mcE L fr lo M_Disk_init 86 [some (mr 65), some (mi 0)] [mr 82, mi 0, mr 81] (tb jT83) (jS8 σ) 85 13213 Φ
  refine mc_aastore (a := 81) (u := 82) (x := 0) (by decide +kernel) (by decide) (by decide) (by decide) rfl (by decide) (by decide) (by decide) rfl rfl rfl ?_
  rw [show upc (tb jT83) 81 (upi (tb jT83 81) (0 : Int) (some 82)) = tb jT84 from tb_put (a := 80) (k := 0) (t := 81) (by decide +kernel) (by decide +kernel)]
  show mcE L fr lo M_Disk_init 87 [some (mr 65), some (mi 0)] [] (tb jT84) (jS8 σ) 85 13213 Φ
  refine mc_iinc (i := 1) (q := 1) (by decide +kernel) rfl (by decide) ?_
  show mcE L fr lo M_Disk_init 90 [some (mr 65), some (mi 1)] [] (tb jT84) (jS8 σ) 85 13213 Φ
  refine mc_goto (off := -22) (by decide +kernel) (by decide) ?_
  show mcE L fr lo M_Disk_init 68 [some (mr 65), some (mi 1)] [] (tb jT84) (jS8 σ) 85 13213 Φ
  refine mc_iload_n (j := 1) (by decide +kernel) rfl ?_
  show mcE L fr lo M_Disk_init 69 [some (mr 65), some (mi 1)] [mi 1] (tb jT84) (jS8 σ) 85 13213 Φ
  refine mc_bipush (i := 12) (by decide +kernel) (by decide) ?_
  show mcE L fr lo M_Disk_init 71 [some (mr 65), some (mi 1)] [mi 12, mi 1] (tb jT84) (jS8 σ) 85 13213 Φ
  refine mc_icmp_ge (off := 22) (by decide +kernel) (by decide) (by unfold in32; decide) (by unfold in32; decide) (fun w => absurd w (by decide)) (fun _ => ?_)
  show mcE L fr lo M_Disk_init 74 [some (mr 65), some (mi 1)] [] (tb jT84) (jS8 σ) 85 13213 Φ
  refine mc_aload_n (j := 0) (by decide +kernel) rfl ?_
  show mcE L fr lo M_Disk_init 75 [some (mr 65), some (mi 1)] [mr 65] (tb jT84) (jS8 σ) 85 13213 Φ
  refine mc_getR (idx := 37) (ci := 4) (k := 5) (t := 81) (by decide +kernel) (mcFdB_spec (w := 229) (by decide +kernel)) (by decide) (by decide) rfl (show tb jT84 65 ((5 : Nat) : Int) = some 81 by decide +kernel) ?_
  show mcE L fr lo M_Disk_init 78 [some (mr 65), some (mi 1)] [mr 81] (tb jT84) (jS8 σ) 85 13213 Φ
  refine mc_iload_n (j := 1) (by decide +kernel) rfl ?_
  show mcE L fr lo M_Disk_init 79 [some (mr 65), some (mi 1)] [mi 1, mr 81] (tb jT84) (jS8 σ) 85 13213 Φ
  refine mc_new (idx := 35) (ci := 3) (N := 3) (by decide +kernel) ⟨_, _, _, rfl, rfl, (List.mem_of_getElem? (i := 195) (by decide +kernel)), (List.mem_of_getElem? (i := 198) (by decide +kernel)), (List.mem_of_getElem? (i := 60) (by decide +kernel))⟩ rfl (by decide) (by decide) ?_
  show mcE L fr lo M_Disk_init 82 [some (mr 65), some (mi 1)] [mr 85, mi 1, mr 81] (tb jT84) (jS8 σ) 86 13216 Φ
  refine mc_dup (by decide +kernel) rfl ?_
  show mcE L fr lo M_Disk_init 83 [some (mr 65), some (mi 1)] [mr 85, mr 85, mi 1, mr 81] (tb jT84) (jS8 σ) 86 13216 Φ
  refine mc_init (M' := M_Answer_init) (fr' := fr - 1) (lo' := lo - 40) (idx := 47) (a := 85) (vs := []) (by decide +kernel) (List.mem_of_getElem? (i := 199) (by decide +kernel)) (List.mem_of_getElem? (i := 200) (by decide +kernel)) (List.mem_of_getElem? (i := 201) (by decide +kernel)) rfl (mcCdB_spec (wi := 60) (wc := 201) (by decide +kernel)) (Or.inl rfl) (mcArB_spec (by decide +kernel)) (by decide) (by omega) (show 3 + (1 + 11) + (lo - 40) ≤ lo by omega) (by decide) ?_
  refine iv_21 (by omega) (by omega) ?_
  show mcE L fr lo M_Disk_init 86 [some (mr 65), some (mi 1)] [mr 85, mi 1, mr 81] (tb jT86) (jS8 σ) 88 13224 Φ
  refine mc_aastore (a := 81) (u := 85) (x := 1) (by decide +kernel) (by decide) (by decide) (by decide) rfl (by decide) (by decide) (by decide) rfl rfl rfl ?_
  rw [show upc (tb jT86) 81 (upi (tb jT86 81) (1 : Int) (some 85)) = tb jT87 from tb_put (a := 80) (k := 1) (t := 84) (by decide +kernel) (by decide +kernel)]
  show mcE L fr lo M_Disk_init 87 [some (mr 65), some (mi 1)] [] (tb jT87) (jS8 σ) 88 13224 Φ
  refine mc_iinc (i := 1) (q := 1) (by decide +kernel) rfl (by decide) ?_
  show mcE L fr lo M_Disk_init 90 [some (mr 65), some (mi 2)] [] (tb jT87) (jS8 σ) 88 13224 Φ
  refine mc_goto (off := -22) (by decide +kernel) (by decide) ?_
  show mcE L fr lo M_Disk_init 68 [some (mr 65), some (mi 2)] [] (tb jT87) (jS8 σ) 88 13224 Φ
  refine mc_iload_n (j := 1) (by decide +kernel) rfl ?_
  show mcE L fr lo M_Disk_init 69 [some (mr 65), some (mi 2)] [mi 2] (tb jT87) (jS8 σ) 88 13224 Φ
  refine mc_bipush (i := 12) (by decide +kernel) (by decide) ?_
  show mcE L fr lo M_Disk_init 71 [some (mr 65), some (mi 2)] [mi 12, mi 2] (tb jT87) (jS8 σ) 88 13224 Φ
  refine mc_icmp_ge (off := 22) (by decide +kernel) (by decide) (by unfold in32; decide) (by unfold in32; decide) (fun w => absurd w (by decide)) (fun _ => ?_)
  show mcE L fr lo M_Disk_init 74 [some (mr 65), some (mi 2)] [] (tb jT87) (jS8 σ) 88 13224 Φ
  refine mc_aload_n (j := 0) (by decide +kernel) rfl ?_
  show mcE L fr lo M_Disk_init 75 [some (mr 65), some (mi 2)] [mr 65] (tb jT87) (jS8 σ) 88 13224 Φ
  refine mc_getR (idx := 37) (ci := 4) (k := 5) (t := 81) (by decide +kernel) (mcFdB_spec (w := 229) (by decide +kernel)) (by decide) (by decide) rfl (show tb jT87 65 ((5 : Nat) : Int) = some 81 by decide +kernel) ?_
  show mcE L fr lo M_Disk_init 78 [some (mr 65), some (mi 2)] [mr 81] (tb jT87) (jS8 σ) 88 13224 Φ
  refine mc_iload_n (j := 1) (by decide +kernel) rfl ?_
  show mcE L fr lo M_Disk_init 79 [some (mr 65), some (mi 2)] [mi 2, mr 81] (tb jT87) (jS8 σ) 88 13224 Φ
  refine mc_new (idx := 35) (ci := 3) (N := 3) (by decide +kernel) ⟨_, _, _, rfl, rfl, (List.mem_of_getElem? (i := 195) (by decide +kernel)), (List.mem_of_getElem? (i := 198) (by decide +kernel)), (List.mem_of_getElem? (i := 60) (by decide +kernel))⟩ rfl (by decide) (by decide) ?_
  show mcE L fr lo M_Disk_init 82 [some (mr 65), some (mi 2)] [mr 88, mi 2, mr 81] (tb jT87) (jS8 σ) 89 13227 Φ
  refine mc_dup (by decide +kernel) rfl ?_
  show mcE L fr lo M_Disk_init 83 [some (mr 65), some (mi 2)] [mr 88, mr 88, mi 2, mr 81] (tb jT87) (jS8 σ) 89 13227 Φ
  refine mc_init (M' := M_Answer_init) (fr' := fr - 1) (lo' := lo - 40) (idx := 47) (a := 88) (vs := []) (by decide +kernel) (List.mem_of_getElem? (i := 199) (by decide +kernel)) (List.mem_of_getElem? (i := 200) (by decide +kernel)) (List.mem_of_getElem? (i := 201) (by decide +kernel)) rfl (mcCdB_spec (wi := 60) (wc := 201) (by decide +kernel)) (Or.inl rfl) (mcArB_spec (by decide +kernel)) (by decide) (by omega) (show 3 + (1 + 11) + (lo - 40) ≤ lo by omega) (by decide) ?_
  refine iv_22 (by omega) (by omega) ?_
  show mcE L fr lo M_Disk_init 86 [some (mr 65), some (mi 2)] [mr 88, mi 2, mr 81] (tb jT89) (jS8 σ) 91 13235 Φ
  refine mc_aastore (a := 81) (u := 88) (x := 2) (by decide +kernel) (by decide) (by decide) (by decide) rfl (by decide) (by decide) (by decide) rfl rfl rfl ?_
  rw [show upc (tb jT89) 81 (upi (tb jT89 81) (2 : Int) (some 88)) = tb jT90 from tb_put (a := 80) (k := 2) (t := 87) (by decide +kernel) (by decide +kernel)]
  show mcE L fr lo M_Disk_init 87 [some (mr 65), some (mi 2)] [] (tb jT90) (jS8 σ) 91 13235 Φ
  refine mc_iinc (i := 1) (q := 1) (by decide +kernel) rfl (by decide) ?_
  show mcE L fr lo M_Disk_init 90 [some (mr 65), some (mi 3)] [] (tb jT90) (jS8 σ) 91 13235 Φ
  refine mc_goto (off := -22) (by decide +kernel) (by decide) ?_
  show mcE L fr lo M_Disk_init 68 [some (mr 65), some (mi 3)] [] (tb jT90) (jS8 σ) 91 13235 Φ
  refine mc_iload_n (j := 1) (by decide +kernel) rfl ?_
  show mcE L fr lo M_Disk_init 69 [some (mr 65), some (mi 3)] [mi 3] (tb jT90) (jS8 σ) 91 13235 Φ
  refine mc_bipush (i := 12) (by decide +kernel) (by decide) ?_
  show mcE L fr lo M_Disk_init 71 [some (mr 65), some (mi 3)] [mi 12, mi 3] (tb jT90) (jS8 σ) 91 13235 Φ
  refine mc_icmp_ge (off := 22) (by decide +kernel) (by decide) (by unfold in32; decide) (by unfold in32; decide) (fun w => absurd w (by decide)) (fun _ => ?_)
  show mcE L fr lo M_Disk_init 74 [some (mr 65), some (mi 3)] [] (tb jT90) (jS8 σ) 91 13235 Φ
  refine mc_aload_n (j := 0) (by decide +kernel) rfl ?_
  show mcE L fr lo M_Disk_init 75 [some (mr 65), some (mi 3)] [mr 65] (tb jT90) (jS8 σ) 91 13235 Φ
  refine mc_getR (idx := 37) (ci := 4) (k := 5) (t := 81) (by decide +kernel) (mcFdB_spec (w := 229) (by decide +kernel)) (by decide) (by decide) rfl (show tb jT90 65 ((5 : Nat) : Int) = some 81 by decide +kernel) ?_
  show mcE L fr lo M_Disk_init 78 [some (mr 65), some (mi 3)] [mr 81] (tb jT90) (jS8 σ) 91 13235 Φ
  refine mc_iload_n (j := 1) (by decide +kernel) rfl ?_
  show mcE L fr lo M_Disk_init 79 [some (mr 65), some (mi 3)] [mi 3, mr 81] (tb jT90) (jS8 σ) 91 13235 Φ
  refine mc_new (idx := 35) (ci := 3) (N := 3) (by decide +kernel) ⟨_, _, _, rfl, rfl, (List.mem_of_getElem? (i := 195) (by decide +kernel)), (List.mem_of_getElem? (i := 198) (by decide +kernel)), (List.mem_of_getElem? (i := 60) (by decide +kernel))⟩ rfl (by decide) (by decide) ?_
  show mcE L fr lo M_Disk_init 82 [some (mr 65), some (mi 3)] [mr 91, mi 3, mr 81] (tb jT90) (jS8 σ) 92 13238 Φ
  refine mc_dup (by decide +kernel) rfl ?_
  show mcE L fr lo M_Disk_init 83 [some (mr 65), some (mi 3)] [mr 91, mr 91, mi 3, mr 81] (tb jT90) (jS8 σ) 92 13238 Φ
  refine mc_init (M' := M_Answer_init) (fr' := fr - 1) (lo' := lo - 40) (idx := 47) (a := 91) (vs := []) (by decide +kernel) (List.mem_of_getElem? (i := 199) (by decide +kernel)) (List.mem_of_getElem? (i := 200) (by decide +kernel)) (List.mem_of_getElem? (i := 201) (by decide +kernel)) rfl (mcCdB_spec (wi := 60) (wc := 201) (by decide +kernel)) (Or.inl rfl) (mcArB_spec (by decide +kernel)) (by decide) (by omega) (show 3 + (1 + 11) + (lo - 40) ≤ lo by omega) (by decide) ?_
  refine iv_23 (by omega) (by omega) ?_
  show mcE L fr lo M_Disk_init 86 [some (mr 65), some (mi 3)] [mr 91, mi 3, mr 81] (tb jT92) (jS8 σ) 94 13246 Φ
  refine mc_aastore (a := 81) (u := 91) (x := 3) (by decide +kernel) (by decide) (by decide) (by decide) rfl (by decide) (by decide) (by decide) rfl rfl rfl ?_
  rw [show upc (tb jT92) 81 (upi (tb jT92 81) (3 : Int) (some 91)) = tb jT93 from tb_put (a := 80) (k := 3) (t := 90) (by decide +kernel) (by decide +kernel)]
  show mcE L fr lo M_Disk_init 87 [some (mr 65), some (mi 3)] [] (tb jT93) (jS8 σ) 94 13246 Φ
  refine mc_iinc (i := 1) (q := 1) (by decide +kernel) rfl (by decide) ?_
  show mcE L fr lo M_Disk_init 90 [some (mr 65), some (mi 4)] [] (tb jT93) (jS8 σ) 94 13246 Φ
  refine mc_goto (off := -22) (by decide +kernel) (by decide) ?_
  show mcE L fr lo M_Disk_init 68 [some (mr 65), some (mi 4)] [] (tb jT93) (jS8 σ) 94 13246 Φ
  refine mc_iload_n (j := 1) (by decide +kernel) rfl ?_
  show mcE L fr lo M_Disk_init 69 [some (mr 65), some (mi 4)] [mi 4] (tb jT93) (jS8 σ) 94 13246 Φ
  refine mc_bipush (i := 12) (by decide +kernel) (by decide) ?_
  show mcE L fr lo M_Disk_init 71 [some (mr 65), some (mi 4)] [mi 12, mi 4] (tb jT93) (jS8 σ) 94 13246 Φ
  refine mc_icmp_ge (off := 22) (by decide +kernel) (by decide) (by unfold in32; decide) (by unfold in32; decide) (fun w => absurd w (by decide)) (fun _ => ?_)
  show mcE L fr lo M_Disk_init 74 [some (mr 65), some (mi 4)] [] (tb jT93) (jS8 σ) 94 13246 Φ
  refine mc_aload_n (j := 0) (by decide +kernel) rfl ?_
  show mcE L fr lo M_Disk_init 75 [some (mr 65), some (mi 4)] [mr 65] (tb jT93) (jS8 σ) 94 13246 Φ
  refine mc_getR (idx := 37) (ci := 4) (k := 5) (t := 81) (by decide +kernel) (mcFdB_spec (w := 229) (by decide +kernel)) (by decide) (by decide) rfl (show tb jT93 65 ((5 : Nat) : Int) = some 81 by decide +kernel) ?_
  show mcE L fr lo M_Disk_init 78 [some (mr 65), some (mi 4)] [mr 81] (tb jT93) (jS8 σ) 94 13246 Φ
  refine mc_iload_n (j := 1) (by decide +kernel) rfl ?_
  show mcE L fr lo M_Disk_init 79 [some (mr 65), some (mi 4)] [mi 4, mr 81] (tb jT93) (jS8 σ) 94 13246 Φ
  refine mc_new (idx := 35) (ci := 3) (N := 3) (by decide +kernel) ⟨_, _, _, rfl, rfl, (List.mem_of_getElem? (i := 195) (by decide +kernel)), (List.mem_of_getElem? (i := 198) (by decide +kernel)), (List.mem_of_getElem? (i := 60) (by decide +kernel))⟩ rfl (by decide) (by decide) ?_
  show mcE L fr lo M_Disk_init 82 [some (mr 65), some (mi 4)] [mr 94, mi 4, mr 81] (tb jT93) (jS8 σ) 95 13249 Φ
  refine mc_dup (by decide +kernel) rfl ?_
  show mcE L fr lo M_Disk_init 83 [some (mr 65), some (mi 4)] [mr 94, mr 94, mi 4, mr 81] (tb jT93) (jS8 σ) 95 13249 Φ
  refine mc_init (M' := M_Answer_init) (fr' := fr - 1) (lo' := lo - 40) (idx := 47) (a := 94) (vs := []) (by decide +kernel) (List.mem_of_getElem? (i := 199) (by decide +kernel)) (List.mem_of_getElem? (i := 200) (by decide +kernel)) (List.mem_of_getElem? (i := 201) (by decide +kernel)) rfl (mcCdB_spec (wi := 60) (wc := 201) (by decide +kernel)) (Or.inl rfl) (mcArB_spec (by decide +kernel)) (by decide) (by omega) (show 3 + (1 + 11) + (lo - 40) ≤ lo by omega) (by decide) ?_
  refine iv_24 (by omega) (by omega) ?_
  show mcE L fr lo M_Disk_init 86 [some (mr 65), some (mi 4)] [mr 94, mi 4, mr 81] (tb jT95) (jS8 σ) 97 13257 Φ
  refine mc_aastore (a := 81) (u := 94) (x := 4) (by decide +kernel) (by decide) (by decide) (by decide) rfl (by decide) (by decide) (by decide) rfl rfl rfl ?_
  rw [show upc (tb jT95) 81 (upi (tb jT95 81) (4 : Int) (some 94)) = tb jT96 from tb_put (a := 80) (k := 4) (t := 93) (by decide +kernel) (by decide +kernel)]
  show mcE L fr lo M_Disk_init 87 [some (mr 65), some (mi 4)] [] (tb jT96) (jS8 σ) 97 13257 Φ
  refine mc_iinc (i := 1) (q := 1) (by decide +kernel) rfl (by decide) ?_
  show mcE L fr lo M_Disk_init 90 [some (mr 65), some (mi 5)] [] (tb jT96) (jS8 σ) 97 13257 Φ
  refine mc_goto (off := -22) (by decide +kernel) (by decide) ?_
  show mcE L fr lo M_Disk_init 68 [some (mr 65), some (mi 5)] [] (tb jT96) (jS8 σ) 97 13257 Φ
  refine mc_iload_n (j := 1) (by decide +kernel) rfl ?_
  show mcE L fr lo M_Disk_init 69 [some (mr 65), some (mi 5)] [mi 5] (tb jT96) (jS8 σ) 97 13257 Φ
  refine mc_bipush (i := 12) (by decide +kernel) (by decide) ?_
  show mcE L fr lo M_Disk_init 71 [some (mr 65), some (mi 5)] [mi 12, mi 5] (tb jT96) (jS8 σ) 97 13257 Φ
  refine mc_icmp_ge (off := 22) (by decide +kernel) (by decide) (by unfold in32; decide) (by unfold in32; decide) (fun w => absurd w (by decide)) (fun _ => ?_)
  show mcE L fr lo M_Disk_init 74 [some (mr 65), some (mi 5)] [] (tb jT96) (jS8 σ) 97 13257 Φ
  refine mc_aload_n (j := 0) (by decide +kernel) rfl ?_
  show mcE L fr lo M_Disk_init 75 [some (mr 65), some (mi 5)] [mr 65] (tb jT96) (jS8 σ) 97 13257 Φ
  refine mc_getR (idx := 37) (ci := 4) (k := 5) (t := 81) (by decide +kernel) (mcFdB_spec (w := 229) (by decide +kernel)) (by decide) (by decide) rfl (show tb jT96 65 ((5 : Nat) : Int) = some 81 by decide +kernel) ?_
  show mcE L fr lo M_Disk_init 78 [some (mr 65), some (mi 5)] [mr 81] (tb jT96) (jS8 σ) 97 13257 Φ
  refine mc_iload_n (j := 1) (by decide +kernel) rfl ?_
  show mcE L fr lo M_Disk_init 79 [some (mr 65), some (mi 5)] [mi 5, mr 81] (tb jT96) (jS8 σ) 97 13257 Φ
  refine mc_new (idx := 35) (ci := 3) (N := 3) (by decide +kernel) ⟨_, _, _, rfl, rfl, (List.mem_of_getElem? (i := 195) (by decide +kernel)), (List.mem_of_getElem? (i := 198) (by decide +kernel)), (List.mem_of_getElem? (i := 60) (by decide +kernel))⟩ rfl (by decide) (by decide) ?_
  show mcE L fr lo M_Disk_init 82 [some (mr 65), some (mi 5)] [mr 97, mi 5, mr 81] (tb jT96) (jS8 σ) 98 13260 Φ
  refine mc_dup (by decide +kernel) rfl ?_
  show mcE L fr lo M_Disk_init 83 [some (mr 65), some (mi 5)] [mr 97, mr 97, mi 5, mr 81] (tb jT96) (jS8 σ) 98 13260 Φ
  refine mc_init (M' := M_Answer_init) (fr' := fr - 1) (lo' := lo - 40) (idx := 47) (a := 97) (vs := []) (by decide +kernel) (List.mem_of_getElem? (i := 199) (by decide +kernel)) (List.mem_of_getElem? (i := 200) (by decide +kernel)) (List.mem_of_getElem? (i := 201) (by decide +kernel)) rfl (mcCdB_spec (wi := 60) (wc := 201) (by decide +kernel)) (Or.inl rfl) (mcArB_spec (by decide +kernel)) (by decide) (by omega) (show 3 + (1 + 11) + (lo - 40) ≤ lo by omega) (by decide) ?_
  refine iv_25 (by omega) (by omega) ?_
  show mcE L fr lo M_Disk_init 86 [some (mr 65), some (mi 5)] [mr 97, mi 5, mr 81] (tb jT98) (jS8 σ) 100 13268 Φ
  refine mc_aastore (a := 81) (u := 97) (x := 5) (by decide +kernel) (by decide) (by decide) (by decide) rfl (by decide) (by decide) (by decide) rfl rfl rfl ?_
  rw [show upc (tb jT98) 81 (upi (tb jT98 81) (5 : Int) (some 97)) = tb jT99 from tb_put (a := 80) (k := 5) (t := 96) (by decide +kernel) (by decide +kernel)]
  show mcE L fr lo M_Disk_init 87 [some (mr 65), some (mi 5)] [] (tb jT99) (jS8 σ) 100 13268 Φ
  refine mc_iinc (i := 1) (q := 1) (by decide +kernel) rfl (by decide) ?_
  show mcE L fr lo M_Disk_init 90 [some (mr 65), some (mi 6)] [] (tb jT99) (jS8 σ) 100 13268 Φ
  refine mc_goto (off := -22) (by decide +kernel) (by decide) ?_
  show mcE L fr lo M_Disk_init 68 [some (mr 65), some (mi 6)] [] (tb jT99) (jS8 σ) 100 13268 Φ
  refine mc_iload_n (j := 1) (by decide +kernel) rfl ?_
  show mcE L fr lo M_Disk_init 69 [some (mr 65), some (mi 6)] [mi 6] (tb jT99) (jS8 σ) 100 13268 Φ
  refine mc_bipush (i := 12) (by decide +kernel) (by decide) ?_
  show mcE L fr lo M_Disk_init 71 [some (mr 65), some (mi 6)] [mi 12, mi 6] (tb jT99) (jS8 σ) 100 13268 Φ
  refine mc_icmp_ge (off := 22) (by decide +kernel) (by decide) (by unfold in32; decide) (by unfold in32; decide) (fun w => absurd w (by decide)) (fun _ => ?_)
  show mcE L fr lo M_Disk_init 74 [some (mr 65), some (mi 6)] [] (tb jT99) (jS8 σ) 100 13268 Φ
  refine mc_aload_n (j := 0) (by decide +kernel) rfl ?_
  show mcE L fr lo M_Disk_init 75 [some (mr 65), some (mi 6)] [mr 65] (tb jT99) (jS8 σ) 100 13268 Φ
  refine mc_getR (idx := 37) (ci := 4) (k := 5) (t := 81) (by decide +kernel) (mcFdB_spec (w := 229) (by decide +kernel)) (by decide) (by decide) rfl (show tb jT99 65 ((5 : Nat) : Int) = some 81 by decide +kernel) ?_
  show mcE L fr lo M_Disk_init 78 [some (mr 65), some (mi 6)] [mr 81] (tb jT99) (jS8 σ) 100 13268 Φ
  refine mc_iload_n (j := 1) (by decide +kernel) rfl ?_
  show mcE L fr lo M_Disk_init 79 [some (mr 65), some (mi 6)] [mi 6, mr 81] (tb jT99) (jS8 σ) 100 13268 Φ
  refine mc_new (idx := 35) (ci := 3) (N := 3) (by decide +kernel) ⟨_, _, _, rfl, rfl, (List.mem_of_getElem? (i := 195) (by decide +kernel)), (List.mem_of_getElem? (i := 198) (by decide +kernel)), (List.mem_of_getElem? (i := 60) (by decide +kernel))⟩ rfl (by decide) (by decide) ?_
  show mcE L fr lo M_Disk_init 82 [some (mr 65), some (mi 6)] [mr 100, mi 6, mr 81] (tb jT99) (jS8 σ) 101 13271 Φ
  refine mc_dup (by decide +kernel) rfl ?_
  show mcE L fr lo M_Disk_init 83 [some (mr 65), some (mi 6)] [mr 100, mr 100, mi 6, mr 81] (tb jT99) (jS8 σ) 101 13271 Φ
  refine mc_init (M' := M_Answer_init) (fr' := fr - 1) (lo' := lo - 40) (idx := 47) (a := 100) (vs := []) (by decide +kernel) (List.mem_of_getElem? (i := 199) (by decide +kernel)) (List.mem_of_getElem? (i := 200) (by decide +kernel)) (List.mem_of_getElem? (i := 201) (by decide +kernel)) rfl (mcCdB_spec (wi := 60) (wc := 201) (by decide +kernel)) (Or.inl rfl) (mcArB_spec (by decide +kernel)) (by decide) (by omega) (show 3 + (1 + 11) + (lo - 40) ≤ lo by omega) (by decide) ?_
  refine iv_26 (by omega) (by omega) ?_
  show mcE L fr lo M_Disk_init 86 [some (mr 65), some (mi 6)] [mr 100, mi 6, mr 81] (tb jT101) (jS8 σ) 103 13279 Φ
  refine mc_aastore (a := 81) (u := 100) (x := 6) (by decide +kernel) (by decide) (by decide) (by decide) rfl (by decide) (by decide) (by decide) rfl rfl rfl ?_
  rw [show upc (tb jT101) 81 (upi (tb jT101 81) (6 : Int) (some 100)) = tb jT102 from tb_put (a := 80) (k := 6) (t := 99) (by decide +kernel) (by decide +kernel)]
  show mcE L fr lo M_Disk_init 87 [some (mr 65), some (mi 6)] [] (tb jT102) (jS8 σ) 103 13279 Φ
  refine mc_iinc (i := 1) (q := 1) (by decide +kernel) rfl (by decide) ?_
  show mcE L fr lo M_Disk_init 90 [some (mr 65), some (mi 7)] [] (tb jT102) (jS8 σ) 103 13279 Φ
  refine mc_goto (off := -22) (by decide +kernel) (by decide) ?_
  show mcE L fr lo M_Disk_init 68 [some (mr 65), some (mi 7)] [] (tb jT102) (jS8 σ) 103 13279 Φ
  refine mc_iload_n (j := 1) (by decide +kernel) rfl ?_
  show mcE L fr lo M_Disk_init 69 [some (mr 65), some (mi 7)] [mi 7] (tb jT102) (jS8 σ) 103 13279 Φ
  refine mc_bipush (i := 12) (by decide +kernel) (by decide) ?_
  show mcE L fr lo M_Disk_init 71 [some (mr 65), some (mi 7)] [mi 12, mi 7] (tb jT102) (jS8 σ) 103 13279 Φ
  refine mc_icmp_ge (off := 22) (by decide +kernel) (by decide) (by unfold in32; decide) (by unfold in32; decide) (fun w => absurd w (by decide)) (fun _ => ?_)
  show mcE L fr lo M_Disk_init 74 [some (mr 65), some (mi 7)] [] (tb jT102) (jS8 σ) 103 13279 Φ
  refine mc_aload_n (j := 0) (by decide +kernel) rfl ?_
  show mcE L fr lo M_Disk_init 75 [some (mr 65), some (mi 7)] [mr 65] (tb jT102) (jS8 σ) 103 13279 Φ
  refine mc_getR (idx := 37) (ci := 4) (k := 5) (t := 81) (by decide +kernel) (mcFdB_spec (w := 229) (by decide +kernel)) (by decide) (by decide) rfl (show tb jT102 65 ((5 : Nat) : Int) = some 81 by decide +kernel) ?_
  show mcE L fr lo M_Disk_init 78 [some (mr 65), some (mi 7)] [mr 81] (tb jT102) (jS8 σ) 103 13279 Φ
  refine mc_iload_n (j := 1) (by decide +kernel) rfl ?_
  show mcE L fr lo M_Disk_init 79 [some (mr 65), some (mi 7)] [mi 7, mr 81] (tb jT102) (jS8 σ) 103 13279 Φ
  refine mc_new (idx := 35) (ci := 3) (N := 3) (by decide +kernel) ⟨_, _, _, rfl, rfl, (List.mem_of_getElem? (i := 195) (by decide +kernel)), (List.mem_of_getElem? (i := 198) (by decide +kernel)), (List.mem_of_getElem? (i := 60) (by decide +kernel))⟩ rfl (by decide) (by decide) ?_
  show mcE L fr lo M_Disk_init 82 [some (mr 65), some (mi 7)] [mr 103, mi 7, mr 81] (tb jT102) (jS8 σ) 104 13282 Φ
  refine mc_dup (by decide +kernel) rfl ?_
  show mcE L fr lo M_Disk_init 83 [some (mr 65), some (mi 7)] [mr 103, mr 103, mi 7, mr 81] (tb jT102) (jS8 σ) 104 13282 Φ
  refine mc_init (M' := M_Answer_init) (fr' := fr - 1) (lo' := lo - 40) (idx := 47) (a := 103) (vs := []) (by decide +kernel) (List.mem_of_getElem? (i := 199) (by decide +kernel)) (List.mem_of_getElem? (i := 200) (by decide +kernel)) (List.mem_of_getElem? (i := 201) (by decide +kernel)) rfl (mcCdB_spec (wi := 60) (wc := 201) (by decide +kernel)) (Or.inl rfl) (mcArB_spec (by decide +kernel)) (by decide) (by omega) (show 3 + (1 + 11) + (lo - 40) ≤ lo by omega) (by decide) ?_
  refine iv_27 (by omega) (by omega) ?_
  show mcE L fr lo M_Disk_init 86 [some (mr 65), some (mi 7)] [mr 103, mi 7, mr 81] (tb jT104) (jS8 σ) 106 13290 Φ
  refine mc_aastore (a := 81) (u := 103) (x := 7) (by decide +kernel) (by decide) (by decide) (by decide) rfl (by decide) (by decide) (by decide) rfl rfl rfl ?_
  rw [show upc (tb jT104) 81 (upi (tb jT104 81) (7 : Int) (some 103)) = tb jT105 from tb_put (a := 80) (k := 7) (t := 102) (by decide +kernel) (by decide +kernel)]
  show mcE L fr lo M_Disk_init 87 [some (mr 65), some (mi 7)] [] (tb jT105) (jS8 σ) 106 13290 Φ
  refine mc_iinc (i := 1) (q := 1) (by decide +kernel) rfl (by decide) ?_
  show mcE L fr lo M_Disk_init 90 [some (mr 65), some (mi 8)] [] (tb jT105) (jS8 σ) 106 13290 Φ
  refine mc_goto (off := -22) (by decide +kernel) (by decide) ?_
  show mcE L fr lo M_Disk_init 68 [some (mr 65), some (mi 8)] [] (tb jT105) (jS8 σ) 106 13290 Φ
  refine mc_iload_n (j := 1) (by decide +kernel) rfl ?_
  show mcE L fr lo M_Disk_init 69 [some (mr 65), some (mi 8)] [mi 8] (tb jT105) (jS8 σ) 106 13290 Φ
  refine mc_bipush (i := 12) (by decide +kernel) (by decide) ?_
  show mcE L fr lo M_Disk_init 71 [some (mr 65), some (mi 8)] [mi 12, mi 8] (tb jT105) (jS8 σ) 106 13290 Φ
  refine mc_icmp_ge (off := 22) (by decide +kernel) (by decide) (by unfold in32; decide) (by unfold in32; decide) (fun w => absurd w (by decide)) (fun _ => ?_)
  show mcE L fr lo M_Disk_init 74 [some (mr 65), some (mi 8)] [] (tb jT105) (jS8 σ) 106 13290 Φ
  refine mc_aload_n (j := 0) (by decide +kernel) rfl ?_
  show mcE L fr lo M_Disk_init 75 [some (mr 65), some (mi 8)] [mr 65] (tb jT105) (jS8 σ) 106 13290 Φ
  refine mc_getR (idx := 37) (ci := 4) (k := 5) (t := 81) (by decide +kernel) (mcFdB_spec (w := 229) (by decide +kernel)) (by decide) (by decide) rfl (show tb jT105 65 ((5 : Nat) : Int) = some 81 by decide +kernel) ?_
  show mcE L fr lo M_Disk_init 78 [some (mr 65), some (mi 8)] [mr 81] (tb jT105) (jS8 σ) 106 13290 Φ
  refine mc_iload_n (j := 1) (by decide +kernel) rfl ?_
  show mcE L fr lo M_Disk_init 79 [some (mr 65), some (mi 8)] [mi 8, mr 81] (tb jT105) (jS8 σ) 106 13290 Φ
  refine mc_new (idx := 35) (ci := 3) (N := 3) (by decide +kernel) ⟨_, _, _, rfl, rfl, (List.mem_of_getElem? (i := 195) (by decide +kernel)), (List.mem_of_getElem? (i := 198) (by decide +kernel)), (List.mem_of_getElem? (i := 60) (by decide +kernel))⟩ rfl (by decide) (by decide) ?_
  show mcE L fr lo M_Disk_init 82 [some (mr 65), some (mi 8)] [mr 106, mi 8, mr 81] (tb jT105) (jS8 σ) 107 13293 Φ
  refine mc_dup (by decide +kernel) rfl ?_
  show mcE L fr lo M_Disk_init 83 [some (mr 65), some (mi 8)] [mr 106, mr 106, mi 8, mr 81] (tb jT105) (jS8 σ) 107 13293 Φ
  refine mc_init (M' := M_Answer_init) (fr' := fr - 1) (lo' := lo - 40) (idx := 47) (a := 106) (vs := []) (by decide +kernel) (List.mem_of_getElem? (i := 199) (by decide +kernel)) (List.mem_of_getElem? (i := 200) (by decide +kernel)) (List.mem_of_getElem? (i := 201) (by decide +kernel)) rfl (mcCdB_spec (wi := 60) (wc := 201) (by decide +kernel)) (Or.inl rfl) (mcArB_spec (by decide +kernel)) (by decide) (by omega) (show 3 + (1 + 11) + (lo - 40) ≤ lo by omega) (by decide) ?_
  refine iv_28 (by omega) (by omega) ?_
  show mcE L fr lo M_Disk_init 86 [some (mr 65), some (mi 8)] [mr 106, mi 8, mr 81] (tb jT107) (jS8 σ) 109 13301 Φ
  refine mc_aastore (a := 81) (u := 106) (x := 8) (by decide +kernel) (by decide) (by decide) (by decide) rfl (by decide) (by decide) (by decide) rfl rfl rfl ?_
  rw [show upc (tb jT107) 81 (upi (tb jT107 81) (8 : Int) (some 106)) = tb jT108 from tb_put (a := 80) (k := 8) (t := 105) (by decide +kernel) (by decide +kernel)]
  show mcE L fr lo M_Disk_init 87 [some (mr 65), some (mi 8)] [] (tb jT108) (jS8 σ) 109 13301 Φ
  refine mc_iinc (i := 1) (q := 1) (by decide +kernel) rfl (by decide) ?_
  show mcE L fr lo M_Disk_init 90 [some (mr 65), some (mi 9)] [] (tb jT108) (jS8 σ) 109 13301 Φ
  refine mc_goto (off := -22) (by decide +kernel) (by decide) ?_
  show mcE L fr lo M_Disk_init 68 [some (mr 65), some (mi 9)] [] (tb jT108) (jS8 σ) 109 13301 Φ
  refine mc_iload_n (j := 1) (by decide +kernel) rfl ?_
  show mcE L fr lo M_Disk_init 69 [some (mr 65), some (mi 9)] [mi 9] (tb jT108) (jS8 σ) 109 13301 Φ
  refine mc_bipush (i := 12) (by decide +kernel) (by decide) ?_
  show mcE L fr lo M_Disk_init 71 [some (mr 65), some (mi 9)] [mi 12, mi 9] (tb jT108) (jS8 σ) 109 13301 Φ
  refine mc_icmp_ge (off := 22) (by decide +kernel) (by decide) (by unfold in32; decide) (by unfold in32; decide) (fun w => absurd w (by decide)) (fun _ => ?_)
  show mcE L fr lo M_Disk_init 74 [some (mr 65), some (mi 9)] [] (tb jT108) (jS8 σ) 109 13301 Φ
  refine mc_aload_n (j := 0) (by decide +kernel) rfl ?_
  show mcE L fr lo M_Disk_init 75 [some (mr 65), some (mi 9)] [mr 65] (tb jT108) (jS8 σ) 109 13301 Φ
  refine mc_getR (idx := 37) (ci := 4) (k := 5) (t := 81) (by decide +kernel) (mcFdB_spec (w := 229) (by decide +kernel)) (by decide) (by decide) rfl (show tb jT108 65 ((5 : Nat) : Int) = some 81 by decide +kernel) ?_
  show mcE L fr lo M_Disk_init 78 [some (mr 65), some (mi 9)] [mr 81] (tb jT108) (jS8 σ) 109 13301 Φ
  refine mc_iload_n (j := 1) (by decide +kernel) rfl ?_
  show mcE L fr lo M_Disk_init 79 [some (mr 65), some (mi 9)] [mi 9, mr 81] (tb jT108) (jS8 σ) 109 13301 Φ
  refine mc_new (idx := 35) (ci := 3) (N := 3) (by decide +kernel) ⟨_, _, _, rfl, rfl, (List.mem_of_getElem? (i := 195) (by decide +kernel)), (List.mem_of_getElem? (i := 198) (by decide +kernel)), (List.mem_of_getElem? (i := 60) (by decide +kernel))⟩ rfl (by decide) (by decide) ?_
  show mcE L fr lo M_Disk_init 82 [some (mr 65), some (mi 9)] [mr 109, mi 9, mr 81] (tb jT108) (jS8 σ) 110 13304 Φ
  refine mc_dup (by decide +kernel) rfl ?_
  show mcE L fr lo M_Disk_init 83 [some (mr 65), some (mi 9)] [mr 109, mr 109, mi 9, mr 81] (tb jT108) (jS8 σ) 110 13304 Φ
  refine mc_init (M' := M_Answer_init) (fr' := fr - 1) (lo' := lo - 40) (idx := 47) (a := 109) (vs := []) (by decide +kernel) (List.mem_of_getElem? (i := 199) (by decide +kernel)) (List.mem_of_getElem? (i := 200) (by decide +kernel)) (List.mem_of_getElem? (i := 201) (by decide +kernel)) rfl (mcCdB_spec (wi := 60) (wc := 201) (by decide +kernel)) (Or.inl rfl) (mcArB_spec (by decide +kernel)) (by decide) (by omega) (show 3 + (1 + 11) + (lo - 40) ≤ lo by omega) (by decide) ?_
  refine iv_29 (by omega) (by omega) ?_
  show mcE L fr lo M_Disk_init 86 [some (mr 65), some (mi 9)] [mr 109, mi 9, mr 81] (tb jT110) (jS8 σ) 112 13312 Φ
  refine mc_aastore (a := 81) (u := 109) (x := 9) (by decide +kernel) (by decide) (by decide) (by decide) rfl (by decide) (by decide) (by decide) rfl rfl rfl ?_
  rw [show upc (tb jT110) 81 (upi (tb jT110 81) (9 : Int) (some 109)) = tb jT111 from tb_put (a := 80) (k := 9) (t := 108) (by decide +kernel) (by decide +kernel)]
  show mcE L fr lo M_Disk_init 87 [some (mr 65), some (mi 9)] [] (tb jT111) (jS8 σ) 112 13312 Φ
  refine mc_iinc (i := 1) (q := 1) (by decide +kernel) rfl (by decide) ?_
  show mcE L fr lo M_Disk_init 90 [some (mr 65), some (mi 10)] [] (tb jT111) (jS8 σ) 112 13312 Φ
  refine mc_goto (off := -22) (by decide +kernel) (by decide) ?_
  show mcE L fr lo M_Disk_init 68 [some (mr 65), some (mi 10)] [] (tb jT111) (jS8 σ) 112 13312 Φ
  refine mc_iload_n (j := 1) (by decide +kernel) rfl ?_
  show mcE L fr lo M_Disk_init 69 [some (mr 65), some (mi 10)] [mi 10] (tb jT111) (jS8 σ) 112 13312 Φ
  refine mc_bipush (i := 12) (by decide +kernel) (by decide) ?_
  show mcE L fr lo M_Disk_init 71 [some (mr 65), some (mi 10)] [mi 12, mi 10] (tb jT111) (jS8 σ) 112 13312 Φ
  refine mc_icmp_ge (off := 22) (by decide +kernel) (by decide) (by unfold in32; decide) (by unfold in32; decide) (fun w => absurd w (by decide)) (fun _ => ?_)
  show mcE L fr lo M_Disk_init 74 [some (mr 65), some (mi 10)] [] (tb jT111) (jS8 σ) 112 13312 Φ
  refine mc_aload_n (j := 0) (by decide +kernel) rfl ?_
  show mcE L fr lo M_Disk_init 75 [some (mr 65), some (mi 10)] [mr 65] (tb jT111) (jS8 σ) 112 13312 Φ
  refine mc_getR (idx := 37) (ci := 4) (k := 5) (t := 81) (by decide +kernel) (mcFdB_spec (w := 229) (by decide +kernel)) (by decide) (by decide) rfl (show tb jT111 65 ((5 : Nat) : Int) = some 81 by decide +kernel) ?_
  show mcE L fr lo M_Disk_init 78 [some (mr 65), some (mi 10)] [mr 81] (tb jT111) (jS8 σ) 112 13312 Φ
  refine mc_iload_n (j := 1) (by decide +kernel) rfl ?_
  show mcE L fr lo M_Disk_init 79 [some (mr 65), some (mi 10)] [mi 10, mr 81] (tb jT111) (jS8 σ) 112 13312 Φ
  refine mc_new (idx := 35) (ci := 3) (N := 3) (by decide +kernel) ⟨_, _, _, rfl, rfl, (List.mem_of_getElem? (i := 195) (by decide +kernel)), (List.mem_of_getElem? (i := 198) (by decide +kernel)), (List.mem_of_getElem? (i := 60) (by decide +kernel))⟩ rfl (by decide) (by decide) ?_
  show mcE L fr lo M_Disk_init 82 [some (mr 65), some (mi 10)] [mr 112, mi 10, mr 81] (tb jT111) (jS8 σ) 113 13315 Φ
  refine mc_dup (by decide +kernel) rfl ?_
  show mcE L fr lo M_Disk_init 83 [some (mr 65), some (mi 10)] [mr 112, mr 112, mi 10, mr 81] (tb jT111) (jS8 σ) 113 13315 Φ
  refine mc_init (M' := M_Answer_init) (fr' := fr - 1) (lo' := lo - 40) (idx := 47) (a := 112) (vs := []) (by decide +kernel) (List.mem_of_getElem? (i := 199) (by decide +kernel)) (List.mem_of_getElem? (i := 200) (by decide +kernel)) (List.mem_of_getElem? (i := 201) (by decide +kernel)) rfl (mcCdB_spec (wi := 60) (wc := 201) (by decide +kernel)) (Or.inl rfl) (mcArB_spec (by decide +kernel)) (by decide) (by omega) (show 3 + (1 + 11) + (lo - 40) ≤ lo by omega) (by decide) ?_
  refine iv_30 (by omega) (by omega) ?_
  show mcE L fr lo M_Disk_init 86 [some (mr 65), some (mi 10)] [mr 112, mi 10, mr 81] (tb jT113) (jS8 σ) 115 13323 Φ
  refine mc_aastore (a := 81) (u := 112) (x := 10) (by decide +kernel) (by decide) (by decide) (by decide) rfl (by decide) (by decide) (by decide) rfl rfl rfl ?_
  rw [show upc (tb jT113) 81 (upi (tb jT113 81) (10 : Int) (some 112)) = tb jT114 from tb_put (a := 80) (k := 10) (t := 111) (by decide +kernel) (by decide +kernel)]
  show mcE L fr lo M_Disk_init 87 [some (mr 65), some (mi 10)] [] (tb jT114) (jS8 σ) 115 13323 Φ
  refine mc_iinc (i := 1) (q := 1) (by decide +kernel) rfl (by decide) ?_
  show mcE L fr lo M_Disk_init 90 [some (mr 65), some (mi 11)] [] (tb jT114) (jS8 σ) 115 13323 Φ
  refine mc_goto (off := -22) (by decide +kernel) (by decide) ?_
  show mcE L fr lo M_Disk_init 68 [some (mr 65), some (mi 11)] [] (tb jT114) (jS8 σ) 115 13323 Φ
  refine mc_iload_n (j := 1) (by decide +kernel) rfl ?_
  show mcE L fr lo M_Disk_init 69 [some (mr 65), some (mi 11)] [mi 11] (tb jT114) (jS8 σ) 115 13323 Φ
  refine mc_bipush (i := 12) (by decide +kernel) (by decide) ?_
  show mcE L fr lo M_Disk_init 71 [some (mr 65), some (mi 11)] [mi 12, mi 11] (tb jT114) (jS8 σ) 115 13323 Φ
  refine mc_icmp_ge (off := 22) (by decide +kernel) (by decide) (by unfold in32; decide) (by unfold in32; decide) (fun w => absurd w (by decide)) (fun _ => ?_)
  show mcE L fr lo M_Disk_init 74 [some (mr 65), some (mi 11)] [] (tb jT114) (jS8 σ) 115 13323 Φ
  refine mc_aload_n (j := 0) (by decide +kernel) rfl ?_
  show mcE L fr lo M_Disk_init 75 [some (mr 65), some (mi 11)] [mr 65] (tb jT114) (jS8 σ) 115 13323 Φ
  refine mc_getR (idx := 37) (ci := 4) (k := 5) (t := 81) (by decide +kernel) (mcFdB_spec (w := 229) (by decide +kernel)) (by decide) (by decide) rfl (show tb jT114 65 ((5 : Nat) : Int) = some 81 by decide +kernel) ?_
  show mcE L fr lo M_Disk_init 78 [some (mr 65), some (mi 11)] [mr 81] (tb jT114) (jS8 σ) 115 13323 Φ
  refine mc_iload_n (j := 1) (by decide +kernel) rfl ?_
  show mcE L fr lo M_Disk_init 79 [some (mr 65), some (mi 11)] [mi 11, mr 81] (tb jT114) (jS8 σ) 115 13323 Φ
  refine mc_new (idx := 35) (ci := 3) (N := 3) (by decide +kernel) ⟨_, _, _, rfl, rfl, (List.mem_of_getElem? (i := 195) (by decide +kernel)), (List.mem_of_getElem? (i := 198) (by decide +kernel)), (List.mem_of_getElem? (i := 60) (by decide +kernel))⟩ rfl (by decide) (by decide) ?_
  show mcE L fr lo M_Disk_init 82 [some (mr 65), some (mi 11)] [mr 115, mi 11, mr 81] (tb jT114) (jS8 σ) 116 13326 Φ
  refine mc_dup (by decide +kernel) rfl ?_
  show mcE L fr lo M_Disk_init 83 [some (mr 65), some (mi 11)] [mr 115, mr 115, mi 11, mr 81] (tb jT114) (jS8 σ) 116 13326 Φ
  refine mc_init (M' := M_Answer_init) (fr' := fr - 1) (lo' := lo - 40) (idx := 47) (a := 115) (vs := []) (by decide +kernel) (List.mem_of_getElem? (i := 199) (by decide +kernel)) (List.mem_of_getElem? (i := 200) (by decide +kernel)) (List.mem_of_getElem? (i := 201) (by decide +kernel)) rfl (mcCdB_spec (wi := 60) (wc := 201) (by decide +kernel)) (Or.inl rfl) (mcArB_spec (by decide +kernel)) (by decide) (by omega) (show 3 + (1 + 11) + (lo - 40) ≤ lo by omega) (by decide) ?_
  refine iv_31 (by omega) (by omega) ?_
  show mcE L fr lo M_Disk_init 86 [some (mr 65), some (mi 11)] [mr 115, mi 11, mr 81] (tb jT116) (jS8 σ) 118 13334 Φ
  refine mc_aastore (a := 81) (u := 115) (x := 11) (by decide +kernel) (by decide) (by decide) (by decide) rfl (by decide) (by decide) (by decide) rfl rfl rfl ?_
  rw [show upc (tb jT116) 81 (upi (tb jT116 81) (11 : Int) (some 115)) = tb jT117 from tb_put (a := 80) (k := 11) (t := 114) (by decide +kernel) (by decide +kernel)]
  show mcE L fr lo M_Disk_init 87 [some (mr 65), some (mi 11)] [] (tb jT117) (jS8 σ) 118 13334 Φ
  refine mc_iinc (i := 1) (q := 1) (by decide +kernel) rfl (by decide) ?_
  show mcE L fr lo M_Disk_init 90 [some (mr 65), some (mi 12)] [] (tb jT117) (jS8 σ) 118 13334 Φ
  refine mc_goto (off := -22) (by decide +kernel) (by decide) ?_
  show mcE L fr lo M_Disk_init 68 [some (mr 65), some (mi 12)] [] (tb jT117) (jS8 σ) 118 13334 Φ
  refine mc_iload_n (j := 1) (by decide +kernel) rfl ?_
  show mcE L fr lo M_Disk_init 69 [some (mr 65), some (mi 12)] [mi 12] (tb jT117) (jS8 σ) 118 13334 Φ
  refine mc_bipush (i := 12) (by decide +kernel) (by decide) ?_
  show mcE L fr lo M_Disk_init 71 [some (mr 65), some (mi 12)] [mi 12, mi 12] (tb jT117) (jS8 σ) 118 13334 Φ
  refine mc_icmp_ge (off := 22) (by decide +kernel) (by decide) (by unfold in32; decide) (by unfold in32; decide) (fun _ => ?_) (fun w => absurd (by decide) w)
  show mcE L fr lo M_Disk_init 93 [some (mr 65), some (mi 12)] [] (tb jT117) (jS8 σ) 118 13334 Φ
  exact mc_return_ (by decide +kernel) rfl k
def jT118 : List (List Nat) := tst jT117 9 2 65
def jS9 (σ : mG) : mG := upc (jS8 σ) 10 (upi ((jS8 σ) 10) 3 1)
def jS10 (σ : mG) : mG := upc (jS9 σ) 10 (upi ((jS9 σ) 10) 4 (-1))
theorem iv_33 {L fr lo : Nat} {σ : mG} {Φ : mcPost} (hfr : 5 ≤ fr) (hlo : 200 ≤ lo) (k : Φ (.inl none) (tb jT118) (jS10 σ) 118 13334) : mcE L fr lo M_Server_init 0 (mcEnt M_Server_init.2.2.1 [mr 10]) [] (tb jT8) (jS0 σ) 11 7521 Φ := by
  show mcE L fr lo M_Server_init 0 [some (mr 10)] [] (tb jT8) (jS0 σ) 11 7521 Φ
  refine mc_aload_n (j := 0) (by decide +kernel) rfl ?_
  show mcE L fr lo M_Server_init 1 [some (mr 10)] [mr 10] (tb jT8) (jS0 σ) 11 7521 Φ
  refine mc_objInit (idx := 3) (by decide +kernel) (List.mem_of_getElem? (i := 126) (by decide +kernel)) (List.mem_of_getElem? (i := 77) (by decide +kernel)) (List.mem_of_getElem? (i := 78) (by decide +kernel)) (by omega) (show 0 + 12 ≤ lo by omega) ?_
  show mcE L fr lo M_Server_init 4 [some (mr 10)] [] (tb jT8) (jS0 σ) 11 7521 Φ
  refine mc_aload_n (j := 0) (by decide +kernel) rfl ?_
  show mcE L fr lo M_Server_init 5 [some (mr 10)] [mr 10] (tb jT8) (jS0 σ) 11 7521 Φ
  refine mc_new (idx := 9) (ci := 5) (N := 13) (by decide +kernel) ⟨_, _, _, rfl, rfl, (List.mem_of_getElem? (i := 127) (by decide +kernel)), (List.mem_of_getElem? (i := 128) (by decide +kernel)), (List.mem_of_getElem? (i := 55) (by decide +kernel))⟩ rfl (by decide) (by decide) ?_
  show mcE L fr lo M_Server_init 8 [some (mr 10)] [mr 11, mr 10] (tb jT8) (jS0 σ) 12 7534 Φ
  refine mc_dup (by decide +kernel) rfl ?_
  show mcE L fr lo M_Server_init 9 [some (mr 10)] [mr 11, mr 11, mr 10] (tb jT8) (jS0 σ) 12 7534 Φ
  refine mc_init (M' := M_Worker_init) (fr' := fr - 1) (lo' := lo - 40) (idx := 11) (a := 11) (vs := []) (by decide +kernel) (List.mem_of_getElem? (i := 129) (by decide +kernel)) (List.mem_of_getElem? (i := 130) (by decide +kernel)) (List.mem_of_getElem? (i := 131) (by decide +kernel)) rfl (mcCdB_spec (wi := 55) (wc := 131) (by decide +kernel)) (Or.inl rfl) (mcArB_spec (by decide +kernel)) (by decide) (by omega) (show 2 + (1 + 11) + (lo - 40) ≤ lo by omega) (by decide) ?_
  refine iv_17 (by omega) (by omega) ?_
  show mcE L fr lo M_Server_init 12 [some (mr 10)] [mr 11, mr 10] (tb jT63) (jS4 σ) 65 10434 Φ
  refine mc_putR (idx := 12) (ci := 6) (k := 0) (by decide +kernel) ⟨mcFdB_spec (w := 289) (by decide +kernel), rfl, finOk_spec (by decide +kernel)⟩ (by decide) (by decide) rfl ?_
  rw [show upc (tb jT63) 10 (upi (tb jT63 10) ((0 : Nat) : Int) (some 11)) = tb jT64 from tb_put (a := 9) (k := 0) (t := 10) (by decide +kernel) (by decide +kernel)]
  show mcE L fr lo M_Server_init 15 [some (mr 10)] [] (tb jT64) (jS4 σ) 65 10434 Φ
  refine mc_aload_n (j := 0) (by decide +kernel) rfl ?_
  show mcE L fr lo M_Server_init 16 [some (mr 10)] [mr 10] (tb jT64) (jS4 σ) 65 10434 Φ
  refine mc_aload_n (j := 0) (by decide +kernel) rfl ?_
  show mcE L fr lo M_Server_init 17 [some (mr 10)] [mr 10, mr 10] (tb jT64) (jS4 σ) 65 10434 Φ
  refine mc_getR (idx := 12) (ci := 6) (k := 0) (t := 11) (by decide +kernel) (mcFdB_spec (w := 289) (by decide +kernel)) (by decide) (by decide) rfl (show tb jT64 10 ((0 : Nat) : Int) = some 11 by decide +kernel) ?_
  show mcE L fr lo M_Server_init 20 [some (mr 10)] [mr 11, mr 10] (tb jT64) (jS4 σ) 65 10434 Φ
  refine mc_getR (idx := 18) (ci := 5) (k := 0) (t := 12) (by decide +kernel) (mcFdB_spec (w := 246) (by decide +kernel)) (by decide) (by decide) rfl (show tb jT64 11 ((0 : Nat) : Int) = some 12 by decide +kernel) ?_
  show mcE L fr lo M_Server_init 23 [some (mr 10)] [mr 12, mr 10] (tb jT64) (jS4 σ) 65 10434 Φ
  refine mc_putR (idx := 22) (ci := 6) (k := 1) (by decide +kernel) ⟨mcFdB_spec (w := 290) (by decide +kernel), rfl, finOk_spec (by decide +kernel)⟩ (by decide) (by decide) rfl ?_
  rw [show upc (tb jT64) 10 (upi (tb jT64 10) ((1 : Nat) : Int) (some 12)) = tb jT65 from tb_put (a := 9) (k := 1) (t := 11) (by decide +kernel) (by decide +kernel)]
  show mcE L fr lo M_Server_init 26 [some (mr 10)] [] (tb jT65) (jS4 σ) 65 10434 Φ
  refine mc_aload_n (j := 0) (by decide +kernel) rfl ?_
  show mcE L fr lo M_Server_init 27 [some (mr 10)] [mr 10] (tb jT65) (jS4 σ) 65 10434 Φ
  refine mc_new (idx := 23) (ci := 4) (N := 6) (by decide +kernel) ⟨_, _, _, rfl, rfl, (List.mem_of_getElem? (i := 287) (by decide +kernel)), (List.mem_of_getElem? (i := 134) (by decide +kernel)), (List.mem_of_getElem? (i := 56) (by decide +kernel))⟩ rfl (by decide) (by decide) ?_
  show mcE L fr lo M_Server_init 30 [some (mr 10)] [mr 65, mr 10] (tb jT65) (jS4 σ) 66 10440 Φ
  refine mc_dup (by decide +kernel) rfl ?_
  show mcE L fr lo M_Server_init 31 [some (mr 10)] [mr 65, mr 65, mr 10] (tb jT65) (jS4 σ) 66 10440 Φ
  refine mc_init (M' := M_Disk_init) (fr' := fr - 1) (lo' := lo - 40) (idx := 25) (a := 65) (vs := []) (by decide +kernel) (List.mem_of_getElem? (i := 288) (by decide +kernel)) (List.mem_of_getElem? (i := 136) (by decide +kernel)) (List.mem_of_getElem? (i := 137) (by decide +kernel)) rfl (mcCdB_spec (wi := 56) (wc := 137) (by decide +kernel)) (Or.inl rfl) (mcArB_spec (by decide +kernel)) (by decide) (by omega) (show 2 + (2 + 11) + (lo - 40) ≤ lo by omega) (by decide) ?_
  refine iv_32 (by omega) (by omega) ?_
  show mcE L fr lo M_Server_init 34 [some (mr 10)] [mr 65, mr 10] (tb jT117) (jS8 σ) 118 13334 Φ
  refine mc_putR (idx := 26) (ci := 6) (k := 2) (by decide +kernel) ⟨mcFdB_spec (w := 292) (by decide +kernel), rfl, finOk_spec (by decide +kernel)⟩ (by decide) (by decide) rfl ?_
  rw [show upc (tb jT117) 10 (upi (tb jT117 10) ((2 : Nat) : Int) (some 65)) = tb jT118 from tb_put (a := 9) (k := 2) (t := 64) (by decide +kernel) (by decide +kernel)]
  show mcE L fr lo M_Server_init 37 [some (mr 10)] [] (tb jT118) (jS8 σ) 118 13334 Φ
  refine mc_aload_n (j := 0) (by decide +kernel) rfl ?_
  show mcE L fr lo M_Server_init 38 [some (mr 10)] [mr 10] (tb jT118) (jS8 σ) 118 13334 Φ
  refine mc_iconst (i := 1) (by decide +kernel) ?_
  show mcE L fr lo M_Server_init 39 [some (mr 10)] [mi 1, mr 10] (tb jT118) (jS8 σ) 118 13334 Φ
  refine mc_putI (idx := 29) (ci := 6) (k := 3) (kd := 2) (by decide +kernel) ⟨mcFdB_spec (w := 293) (by decide +kernel), mcNfB_spec (by decide +kernel)⟩ (by decide) (by decide) (by decide) rfl (by unfold in32; decide) (by decide) ?_
  show mcE L fr lo M_Server_init 42 [some (mr 10)] [] (tb jT118) (jS9 σ) 118 13334 Φ
  refine mc_aload_n (j := 0) (by decide +kernel) rfl ?_
  show mcE L fr lo M_Server_init 43 [some (mr 10)] [mr 10] (tb jT118) (jS9 σ) 118 13334 Φ
  refine mc_iconst (i := -1) (by decide +kernel) ?_
  show mcE L fr lo M_Server_init 44 [some (mr 10)] [mi (-1), mr 10] (tb jT118) (jS9 σ) 118 13334 Φ
  refine mc_putI (idx := 33) (ci := 6) (k := 4) (kd := 0) (by decide +kernel) ⟨mcFdB_spec (w := 295) (by decide +kernel), mcNfB_spec (by decide +kernel)⟩ (by decide) (by decide) (by decide) rfl (by unfold in32; decide) (by decide) ?_
  show mcE L fr lo M_Server_init 47 [some (mr 10)] [] (tb jT118) (jS10 σ) 118 13334 Φ
  exact mc_return_ (by decide +kernel) rfl k
def jT119 : List (List Nat) := tst jT118 0 2 10
def jT120 : List (List Nat) := tst jT119 117 0 119
def jT121 : List (List Nat) := tst jT120 119 0 121
def jT122 : List (List Nat) := tst jT121 121 0 123
def jT123 : List (List Nat) := tst jT122 121 1 124
theorem iv_34 {L fr lo : Nat} {σ : mG} {Φ : mcPost} (hfr : 1 ≤ fr) (hlo : 40 ≤ lo) (k : Φ (.inl none) (tb jT123) (jS10 σ) 125 13375) : mcE L fr lo M_Answer_init 0 (mcEnt M_Answer_init.2.2.1 [mr 122]) [] (tb jT121) (jS10 σ) 123 13367 Φ := by
  show mcE L fr lo M_Answer_init 0 [some (mr 122)] [] (tb jT121) (jS10 σ) 123 13367 Φ
  refine mc_aload_n (j := 0) (by decide +kernel) rfl ?_
  show mcE L fr lo M_Answer_init 1 [some (mr 122)] [mr 122] (tb jT121) (jS10 σ) 123 13367 Φ
  refine mc_objInit (idx := 3) (by decide +kernel) (List.mem_of_getElem? (i := 202) (by decide +kernel)) (List.mem_of_getElem? (i := 77) (by decide +kernel)) (List.mem_of_getElem? (i := 78) (by decide +kernel)) (by omega) (show 0 + 12 ≤ lo by omega) ?_
  show mcE L fr lo M_Answer_init 4 [some (mr 122)] [] (tb jT121) (jS10 σ) 123 13367 Φ
  refine mc_aload_n (j := 0) (by decide +kernel) rfl ?_
  show mcE L fr lo M_Answer_init 5 [some (mr 122)] [mr 122] (tb jT121) (jS10 σ) 123 13367 Φ
  refine mc_iconst (i := 4) (by decide +kernel) ?_
  show mcE L fr lo M_Answer_init 6 [some (mr 122)] [mi 4, mr 122] (tb jT121) (jS10 σ) 123 13367 Φ
  refine mc_newarray (at' := .int) (t := 0) (len := 4) (by decide +kernel) (by decide) rfl (List.mem_of_getElem? (i := 120) (by decide +kernel)) rfl rfl (by decide) (by decide) ?_
  show mcE L fr lo M_Answer_init 8 [some (mr 122)] [mr 123, mr 122] (tb jT121) (jS10 σ) 124 13371 Φ
  refine mc_putR (idx := 9) (ci := 3) (k := 0) (by decide +kernel) ⟨mcFdB_spec (w := 203) (by decide +kernel), rfl, finOk_spec (by decide +kernel)⟩ (by decide) (by decide) rfl ?_
  rw [show upc (tb jT121) 122 (upi (tb jT121 122) ((0 : Nat) : Int) (some 123)) = tb jT122 from tb_put (a := 121) (k := 0) (t := 122) (by decide +kernel) (by decide +kernel)]
  show mcE L fr lo M_Answer_init 11 [some (mr 122)] [] (tb jT122) (jS10 σ) 124 13371 Φ
  refine mc_aload_n (j := 0) (by decide +kernel) rfl ?_
  show mcE L fr lo M_Answer_init 12 [some (mr 122)] [mr 122] (tb jT122) (jS10 σ) 124 13371 Φ
  refine mc_iconst (i := 4) (by decide +kernel) ?_
  show mcE L fr lo M_Answer_init 13 [some (mr 122)] [mi 4, mr 122] (tb jT122) (jS10 σ) 124 13371 Φ
  refine mc_newarray (at' := .int) (t := 0) (len := 4) (by decide +kernel) (by decide) rfl (List.mem_of_getElem? (i := 120) (by decide +kernel)) rfl rfl (by decide) (by decide) ?_
  show mcE L fr lo M_Answer_init 15 [some (mr 122)] [mr 124, mr 122] (tb jT122) (jS10 σ) 125 13375 Φ
  refine mc_putR (idx := 15) (ci := 3) (k := 1) (by decide +kernel) ⟨mcFdB_spec (w := 205) (by decide +kernel), rfl, finOk_spec (by decide +kernel)⟩ (by decide) (by decide) rfl ?_
  rw [show upc (tb jT122) 122 (upi (tb jT122 122) ((1 : Nat) : Int) (some 124)) = tb jT123 from tb_put (a := 121) (k := 1) (t := 123) (by decide +kernel) (by decide +kernel)]
  show mcE L fr lo M_Answer_init 18 [some (mr 122)] [] (tb jT123) (jS10 σ) 125 13375 Φ
  exact mc_return_ (by decide +kernel) rfl k
def jT124 : List (List Nat) := tst jT123 119 1 122
def jS11 (σ : mG) : mG := upc (jS10 σ) 120 (upi ((jS10 σ) 120) 2 0)
theorem iv_35 {L fr lo : Nat} {σ : mG} {Φ : mcPost} (hfr : 2 ≤ fr) (hlo : 80 ≤ lo) (k : Φ (.inl none) (tb jT124) (jS11 σ) 125 13375) : mcE L fr lo M_Desk_init 0 (mcEnt M_Desk_init.2.2.1 [mr 120]) [] (tb jT120) (jS10 σ) 121 13344 Φ := by
  show mcE L fr lo M_Desk_init 0 [some (mr 120)] [] (tb jT120) (jS10 σ) 121 13344 Φ
  refine mc_aload_n (j := 0) (by decide +kernel) rfl ?_
  show mcE L fr lo M_Desk_init 1 [some (mr 120)] [mr 120] (tb jT120) (jS10 σ) 121 13344 Φ
  refine mc_objInit (idx := 3) (by decide +kernel) (List.mem_of_getElem? (i := 326) (by decide +kernel)) (List.mem_of_getElem? (i := 77) (by decide +kernel)) (List.mem_of_getElem? (i := 78) (by decide +kernel)) (by omega) (show 0 + 12 ≤ lo by omega) ?_
  show mcE L fr lo M_Desk_init 4 [some (mr 120)] [] (tb jT120) (jS10 σ) 121 13344 Φ
  refine mc_aload_n (j := 0) (by decide +kernel) rfl ?_
  show mcE L fr lo M_Desk_init 5 [some (mr 120)] [mr 120] (tb jT120) (jS10 σ) 121 13344 Φ
  refine mc_bipush (i := 20) (by decide +kernel) (by decide) ?_
  show mcE L fr lo M_Desk_init 7 [some (mr 120)] [mi 20, mr 120] (tb jT120) (jS10 σ) 121 13344 Φ
  refine mc_newarray (at' := .int) (t := 0) (len := 20) (by decide +kernel) (by decide) rfl (List.mem_of_getElem? (i := 120) (by decide +kernel)) rfl rfl (by decide) (by decide) ?_
  show mcE L fr lo M_Desk_init 9 [some (mr 120)] [mr 121, mr 120] (tb jT120) (jS10 σ) 122 13364 Φ
  refine mc_putR (idx := 9) (ci := 7) (k := 0) (by decide +kernel) ⟨mcFdB_spec (w := 329) (by decide +kernel), rfl, finOk_spec (by decide +kernel)⟩ (by decide) (by decide) rfl ?_
  rw [show upc (tb jT120) 120 (upi (tb jT120 120) ((0 : Nat) : Int) (some 121)) = tb jT121 from tb_put (a := 119) (k := 0) (t := 120) (by decide +kernel) (by decide +kernel)]
  show mcE L fr lo M_Desk_init 12 [some (mr 120)] [] (tb jT121) (jS10 σ) 122 13364 Φ
  refine mc_aload_n (j := 0) (by decide +kernel) rfl ?_
  show mcE L fr lo M_Desk_init 13 [some (mr 120)] [mr 120] (tb jT121) (jS10 σ) 122 13364 Φ
  refine mc_new (idx := 15) (ci := 3) (N := 3) (by decide +kernel) ⟨_, _, _, rfl, rfl, (List.mem_of_getElem? (i := 327) (by decide +kernel)), (List.mem_of_getElem? (i := 198) (by decide +kernel)), (List.mem_of_getElem? (i := 60) (by decide +kernel))⟩ rfl (by decide) (by decide) ?_
  show mcE L fr lo M_Desk_init 16 [some (mr 120)] [mr 122, mr 120] (tb jT121) (jS10 σ) 123 13367 Φ
  refine mc_dup (by decide +kernel) rfl ?_
  show mcE L fr lo M_Desk_init 17 [some (mr 120)] [mr 122, mr 122, mr 120] (tb jT121) (jS10 σ) 123 13367 Φ
  refine mc_init (M' := M_Answer_init) (fr' := fr - 1) (lo' := lo - 40) (idx := 17) (a := 122) (vs := []) (by decide +kernel) (List.mem_of_getElem? (i := 328) (by decide +kernel)) (List.mem_of_getElem? (i := 200) (by decide +kernel)) (List.mem_of_getElem? (i := 201) (by decide +kernel)) rfl (mcCdB_spec (wi := 60) (wc := 201) (by decide +kernel)) (Or.inl rfl) (mcArB_spec (by decide +kernel)) (by decide) (by omega) (show 2 + (1 + 11) + (lo - 40) ≤ lo by omega) (by decide) ?_
  refine iv_34 (by omega) (by omega) ?_
  show mcE L fr lo M_Desk_init 20 [some (mr 120)] [mr 122, mr 120] (tb jT123) (jS10 σ) 125 13375 Φ
  refine mc_putR (idx := 18) (ci := 7) (k := 1) (by decide +kernel) ⟨mcFdB_spec (w := 331) (by decide +kernel), rfl, finOk_spec (by decide +kernel)⟩ (by decide) (by decide) rfl ?_
  rw [show upc (tb jT123) 120 (upi (tb jT123 120) ((1 : Nat) : Int) (some 122)) = tb jT124 from tb_put (a := 119) (k := 1) (t := 121) (by decide +kernel) (by decide +kernel)]
  show mcE L fr lo M_Desk_init 23 [some (mr 120)] [] (tb jT124) (jS10 σ) 125 13375 Φ
  refine mc_aload_n (j := 0) (by decide +kernel) rfl ?_
  show mcE L fr lo M_Desk_init 24 [some (mr 120)] [mr 120] (tb jT124) (jS10 σ) 125 13375 Φ
  refine mc_iconst (i := 0) (by decide +kernel) ?_
  show mcE L fr lo M_Desk_init 25 [some (mr 120)] [mi 0, mr 120] (tb jT124) (jS10 σ) 125 13375 Φ
  refine mc_putI (idx := 22) (ci := 7) (k := 2) (kd := 0) (by decide +kernel) ⟨mcFdB_spec (w := 333) (by decide +kernel), mcNfB_spec (by decide +kernel)⟩ (by decide) (by decide) (by decide) rfl (by unfold in32; decide) (by decide) ?_
  show mcE L fr lo M_Desk_init 28 [some (mr 120)] [] (tb jT124) (jS11 σ) 125 13375 Φ
  exact mc_return_ (by decide +kernel) rfl k
def jT125 : List (List Nat) := tst jT124 118 0 120
def jT126 : List (List Nat) := tst jT125 124 0 126
def jT127 : List (List Nat) := tst jT126 126 0 128
def jT128 : List (List Nat) := tst jT127 126 1 129
theorem iv_36 {L fr lo : Nat} {σ : mG} {Φ : mcPost} (hfr : 1 ≤ fr) (hlo : 40 ≤ lo) (k : Φ (.inl none) (tb jT128) (jS11 σ) 130 13411) : mcE L fr lo M_Answer_init 0 (mcEnt M_Answer_init.2.2.1 [mr 127]) [] (tb jT126) (jS11 σ) 128 13403 Φ := by
  show mcE L fr lo M_Answer_init 0 [some (mr 127)] [] (tb jT126) (jS11 σ) 128 13403 Φ
  refine mc_aload_n (j := 0) (by decide +kernel) rfl ?_
  show mcE L fr lo M_Answer_init 1 [some (mr 127)] [mr 127] (tb jT126) (jS11 σ) 128 13403 Φ
  refine mc_objInit (idx := 3) (by decide +kernel) (List.mem_of_getElem? (i := 202) (by decide +kernel)) (List.mem_of_getElem? (i := 77) (by decide +kernel)) (List.mem_of_getElem? (i := 78) (by decide +kernel)) (by omega) (show 0 + 12 ≤ lo by omega) ?_
  show mcE L fr lo M_Answer_init 4 [some (mr 127)] [] (tb jT126) (jS11 σ) 128 13403 Φ
  refine mc_aload_n (j := 0) (by decide +kernel) rfl ?_
  show mcE L fr lo M_Answer_init 5 [some (mr 127)] [mr 127] (tb jT126) (jS11 σ) 128 13403 Φ
  refine mc_iconst (i := 4) (by decide +kernel) ?_
  show mcE L fr lo M_Answer_init 6 [some (mr 127)] [mi 4, mr 127] (tb jT126) (jS11 σ) 128 13403 Φ
  refine mc_newarray (at' := .int) (t := 0) (len := 4) (by decide +kernel) (by decide) rfl (List.mem_of_getElem? (i := 120) (by decide +kernel)) rfl rfl (by decide) (by decide) ?_
  show mcE L fr lo M_Answer_init 8 [some (mr 127)] [mr 128, mr 127] (tb jT126) (jS11 σ) 129 13407 Φ
  refine mc_putR (idx := 9) (ci := 3) (k := 0) (by decide +kernel) ⟨mcFdB_spec (w := 203) (by decide +kernel), rfl, finOk_spec (by decide +kernel)⟩ (by decide) (by decide) rfl ?_
  rw [show upc (tb jT126) 127 (upi (tb jT126 127) ((0 : Nat) : Int) (some 128)) = tb jT127 from tb_put (a := 126) (k := 0) (t := 127) (by decide +kernel) (by decide +kernel)]
  show mcE L fr lo M_Answer_init 11 [some (mr 127)] [] (tb jT127) (jS11 σ) 129 13407 Φ
  refine mc_aload_n (j := 0) (by decide +kernel) rfl ?_
  show mcE L fr lo M_Answer_init 12 [some (mr 127)] [mr 127] (tb jT127) (jS11 σ) 129 13407 Φ
  refine mc_iconst (i := 4) (by decide +kernel) ?_
  show mcE L fr lo M_Answer_init 13 [some (mr 127)] [mi 4, mr 127] (tb jT127) (jS11 σ) 129 13407 Φ
  refine mc_newarray (at' := .int) (t := 0) (len := 4) (by decide +kernel) (by decide) rfl (List.mem_of_getElem? (i := 120) (by decide +kernel)) rfl rfl (by decide) (by decide) ?_
  show mcE L fr lo M_Answer_init 15 [some (mr 127)] [mr 129, mr 127] (tb jT127) (jS11 σ) 130 13411 Φ
  refine mc_putR (idx := 15) (ci := 3) (k := 1) (by decide +kernel) ⟨mcFdB_spec (w := 205) (by decide +kernel), rfl, finOk_spec (by decide +kernel)⟩ (by decide) (by decide) rfl ?_
  rw [show upc (tb jT127) 127 (upi (tb jT127 127) ((1 : Nat) : Int) (some 129)) = tb jT128 from tb_put (a := 126) (k := 1) (t := 128) (by decide +kernel) (by decide +kernel)]
  show mcE L fr lo M_Answer_init 18 [some (mr 127)] [] (tb jT128) (jS11 σ) 130 13411 Φ
  exact mc_return_ (by decide +kernel) rfl k
def jT129 : List (List Nat) := tst jT128 124 1 127
def jS12 (σ : mG) : mG := upc (jS11 σ) 125 (upi ((jS11 σ) 125) 2 0)
theorem iv_37 {L fr lo : Nat} {σ : mG} {Φ : mcPost} (hfr : 2 ≤ fr) (hlo : 80 ≤ lo) (k : Φ (.inl none) (tb jT129) (jS12 σ) 130 13411) : mcE L fr lo M_Desk_init 0 (mcEnt M_Desk_init.2.2.1 [mr 125]) [] (tb jT125) (jS11 σ) 126 13380 Φ := by
  show mcE L fr lo M_Desk_init 0 [some (mr 125)] [] (tb jT125) (jS11 σ) 126 13380 Φ
  refine mc_aload_n (j := 0) (by decide +kernel) rfl ?_
  show mcE L fr lo M_Desk_init 1 [some (mr 125)] [mr 125] (tb jT125) (jS11 σ) 126 13380 Φ
  refine mc_objInit (idx := 3) (by decide +kernel) (List.mem_of_getElem? (i := 326) (by decide +kernel)) (List.mem_of_getElem? (i := 77) (by decide +kernel)) (List.mem_of_getElem? (i := 78) (by decide +kernel)) (by omega) (show 0 + 12 ≤ lo by omega) ?_
  show mcE L fr lo M_Desk_init 4 [some (mr 125)] [] (tb jT125) (jS11 σ) 126 13380 Φ
  refine mc_aload_n (j := 0) (by decide +kernel) rfl ?_
  show mcE L fr lo M_Desk_init 5 [some (mr 125)] [mr 125] (tb jT125) (jS11 σ) 126 13380 Φ
  refine mc_bipush (i := 20) (by decide +kernel) (by decide) ?_
  show mcE L fr lo M_Desk_init 7 [some (mr 125)] [mi 20, mr 125] (tb jT125) (jS11 σ) 126 13380 Φ
  refine mc_newarray (at' := .int) (t := 0) (len := 20) (by decide +kernel) (by decide) rfl (List.mem_of_getElem? (i := 120) (by decide +kernel)) rfl rfl (by decide) (by decide) ?_
  show mcE L fr lo M_Desk_init 9 [some (mr 125)] [mr 126, mr 125] (tb jT125) (jS11 σ) 127 13400 Φ
  refine mc_putR (idx := 9) (ci := 7) (k := 0) (by decide +kernel) ⟨mcFdB_spec (w := 329) (by decide +kernel), rfl, finOk_spec (by decide +kernel)⟩ (by decide) (by decide) rfl ?_
  rw [show upc (tb jT125) 125 (upi (tb jT125 125) ((0 : Nat) : Int) (some 126)) = tb jT126 from tb_put (a := 124) (k := 0) (t := 125) (by decide +kernel) (by decide +kernel)]
  show mcE L fr lo M_Desk_init 12 [some (mr 125)] [] (tb jT126) (jS11 σ) 127 13400 Φ
  refine mc_aload_n (j := 0) (by decide +kernel) rfl ?_
  show mcE L fr lo M_Desk_init 13 [some (mr 125)] [mr 125] (tb jT126) (jS11 σ) 127 13400 Φ
  refine mc_new (idx := 15) (ci := 3) (N := 3) (by decide +kernel) ⟨_, _, _, rfl, rfl, (List.mem_of_getElem? (i := 327) (by decide +kernel)), (List.mem_of_getElem? (i := 198) (by decide +kernel)), (List.mem_of_getElem? (i := 60) (by decide +kernel))⟩ rfl (by decide) (by decide) ?_
  show mcE L fr lo M_Desk_init 16 [some (mr 125)] [mr 127, mr 125] (tb jT126) (jS11 σ) 128 13403 Φ
  refine mc_dup (by decide +kernel) rfl ?_
  show mcE L fr lo M_Desk_init 17 [some (mr 125)] [mr 127, mr 127, mr 125] (tb jT126) (jS11 σ) 128 13403 Φ
  refine mc_init (M' := M_Answer_init) (fr' := fr - 1) (lo' := lo - 40) (idx := 17) (a := 127) (vs := []) (by decide +kernel) (List.mem_of_getElem? (i := 328) (by decide +kernel)) (List.mem_of_getElem? (i := 200) (by decide +kernel)) (List.mem_of_getElem? (i := 201) (by decide +kernel)) rfl (mcCdB_spec (wi := 60) (wc := 201) (by decide +kernel)) (Or.inl rfl) (mcArB_spec (by decide +kernel)) (by decide) (by omega) (show 2 + (1 + 11) + (lo - 40) ≤ lo by omega) (by decide) ?_
  refine iv_36 (by omega) (by omega) ?_
  show mcE L fr lo M_Desk_init 20 [some (mr 125)] [mr 127, mr 125] (tb jT128) (jS11 σ) 130 13411 Φ
  refine mc_putR (idx := 18) (ci := 7) (k := 1) (by decide +kernel) ⟨mcFdB_spec (w := 331) (by decide +kernel), rfl, finOk_spec (by decide +kernel)⟩ (by decide) (by decide) rfl ?_
  rw [show upc (tb jT128) 125 (upi (tb jT128 125) ((1 : Nat) : Int) (some 127)) = tb jT129 from tb_put (a := 124) (k := 1) (t := 126) (by decide +kernel) (by decide +kernel)]
  show mcE L fr lo M_Desk_init 23 [some (mr 125)] [] (tb jT129) (jS11 σ) 130 13411 Φ
  refine mc_aload_n (j := 0) (by decide +kernel) rfl ?_
  show mcE L fr lo M_Desk_init 24 [some (mr 125)] [mr 125] (tb jT129) (jS11 σ) 130 13411 Φ
  refine mc_iconst (i := 0) (by decide +kernel) ?_
  show mcE L fr lo M_Desk_init 25 [some (mr 125)] [mi 0, mr 125] (tb jT129) (jS11 σ) 130 13411 Φ
  refine mc_putI (idx := 22) (ci := 7) (k := 2) (kd := 0) (by decide +kernel) ⟨mcFdB_spec (w := 333) (by decide +kernel), mcNfB_spec (by decide +kernel)⟩ (by decide) (by decide) (by decide) rfl (by unfold in32; decide) (by decide) ?_
  show mcE L fr lo M_Desk_init 28 [some (mr 125)] [] (tb jT129) (jS12 σ) 130 13411 Φ
  exact mc_return_ (by decide +kernel) rfl k
def jT130 : List (List Nat) := tst jT129 118 1 125
def jT131 : List (List Nat) := tst jT130 129 0 131
def jT132 : List (List Nat) := tst jT131 131 0 133
def jT133 : List (List Nat) := tst jT132 131 1 134
theorem iv_38 {L fr lo : Nat} {σ : mG} {Φ : mcPost} (hfr : 1 ≤ fr) (hlo : 40 ≤ lo) (k : Φ (.inl none) (tb jT133) (jS12 σ) 135 13447) : mcE L fr lo M_Answer_init 0 (mcEnt M_Answer_init.2.2.1 [mr 132]) [] (tb jT131) (jS12 σ) 133 13439 Φ := by
  show mcE L fr lo M_Answer_init 0 [some (mr 132)] [] (tb jT131) (jS12 σ) 133 13439 Φ
  refine mc_aload_n (j := 0) (by decide +kernel) rfl ?_
  show mcE L fr lo M_Answer_init 1 [some (mr 132)] [mr 132] (tb jT131) (jS12 σ) 133 13439 Φ
  refine mc_objInit (idx := 3) (by decide +kernel) (List.mem_of_getElem? (i := 202) (by decide +kernel)) (List.mem_of_getElem? (i := 77) (by decide +kernel)) (List.mem_of_getElem? (i := 78) (by decide +kernel)) (by omega) (show 0 + 12 ≤ lo by omega) ?_
  show mcE L fr lo M_Answer_init 4 [some (mr 132)] [] (tb jT131) (jS12 σ) 133 13439 Φ
  refine mc_aload_n (j := 0) (by decide +kernel) rfl ?_
  show mcE L fr lo M_Answer_init 5 [some (mr 132)] [mr 132] (tb jT131) (jS12 σ) 133 13439 Φ
  refine mc_iconst (i := 4) (by decide +kernel) ?_
  show mcE L fr lo M_Answer_init 6 [some (mr 132)] [mi 4, mr 132] (tb jT131) (jS12 σ) 133 13439 Φ
  refine mc_newarray (at' := .int) (t := 0) (len := 4) (by decide +kernel) (by decide) rfl (List.mem_of_getElem? (i := 120) (by decide +kernel)) rfl rfl (by decide) (by decide) ?_
  show mcE L fr lo M_Answer_init 8 [some (mr 132)] [mr 133, mr 132] (tb jT131) (jS12 σ) 134 13443 Φ
  refine mc_putR (idx := 9) (ci := 3) (k := 0) (by decide +kernel) ⟨mcFdB_spec (w := 203) (by decide +kernel), rfl, finOk_spec (by decide +kernel)⟩ (by decide) (by decide) rfl ?_
  rw [show upc (tb jT131) 132 (upi (tb jT131 132) ((0 : Nat) : Int) (some 133)) = tb jT132 from tb_put (a := 131) (k := 0) (t := 132) (by decide +kernel) (by decide +kernel)]
  show mcE L fr lo M_Answer_init 11 [some (mr 132)] [] (tb jT132) (jS12 σ) 134 13443 Φ
  refine mc_aload_n (j := 0) (by decide +kernel) rfl ?_
  show mcE L fr lo M_Answer_init 12 [some (mr 132)] [mr 132] (tb jT132) (jS12 σ) 134 13443 Φ
  refine mc_iconst (i := 4) (by decide +kernel) ?_
  show mcE L fr lo M_Answer_init 13 [some (mr 132)] [mi 4, mr 132] (tb jT132) (jS12 σ) 134 13443 Φ
  refine mc_newarray (at' := .int) (t := 0) (len := 4) (by decide +kernel) (by decide) rfl (List.mem_of_getElem? (i := 120) (by decide +kernel)) rfl rfl (by decide) (by decide) ?_
  show mcE L fr lo M_Answer_init 15 [some (mr 132)] [mr 134, mr 132] (tb jT132) (jS12 σ) 135 13447 Φ
  refine mc_putR (idx := 15) (ci := 3) (k := 1) (by decide +kernel) ⟨mcFdB_spec (w := 205) (by decide +kernel), rfl, finOk_spec (by decide +kernel)⟩ (by decide) (by decide) rfl ?_
  rw [show upc (tb jT132) 132 (upi (tb jT132 132) ((1 : Nat) : Int) (some 134)) = tb jT133 from tb_put (a := 131) (k := 1) (t := 133) (by decide +kernel) (by decide +kernel)]
  show mcE L fr lo M_Answer_init 18 [some (mr 132)] [] (tb jT133) (jS12 σ) 135 13447 Φ
  exact mc_return_ (by decide +kernel) rfl k
def jT134 : List (List Nat) := tst jT133 129 1 132
def jS13 (σ : mG) : mG := upc (jS12 σ) 130 (upi ((jS12 σ) 130) 2 0)
theorem iv_39 {L fr lo : Nat} {σ : mG} {Φ : mcPost} (hfr : 2 ≤ fr) (hlo : 80 ≤ lo) (k : Φ (.inl none) (tb jT134) (jS13 σ) 135 13447) : mcE L fr lo M_Desk_init 0 (mcEnt M_Desk_init.2.2.1 [mr 130]) [] (tb jT130) (jS12 σ) 131 13416 Φ := by
  show mcE L fr lo M_Desk_init 0 [some (mr 130)] [] (tb jT130) (jS12 σ) 131 13416 Φ
  refine mc_aload_n (j := 0) (by decide +kernel) rfl ?_
  show mcE L fr lo M_Desk_init 1 [some (mr 130)] [mr 130] (tb jT130) (jS12 σ) 131 13416 Φ
  refine mc_objInit (idx := 3) (by decide +kernel) (List.mem_of_getElem? (i := 326) (by decide +kernel)) (List.mem_of_getElem? (i := 77) (by decide +kernel)) (List.mem_of_getElem? (i := 78) (by decide +kernel)) (by omega) (show 0 + 12 ≤ lo by omega) ?_
  show mcE L fr lo M_Desk_init 4 [some (mr 130)] [] (tb jT130) (jS12 σ) 131 13416 Φ
  refine mc_aload_n (j := 0) (by decide +kernel) rfl ?_
  show mcE L fr lo M_Desk_init 5 [some (mr 130)] [mr 130] (tb jT130) (jS12 σ) 131 13416 Φ
  refine mc_bipush (i := 20) (by decide +kernel) (by decide) ?_
  show mcE L fr lo M_Desk_init 7 [some (mr 130)] [mi 20, mr 130] (tb jT130) (jS12 σ) 131 13416 Φ
  refine mc_newarray (at' := .int) (t := 0) (len := 20) (by decide +kernel) (by decide) rfl (List.mem_of_getElem? (i := 120) (by decide +kernel)) rfl rfl (by decide) (by decide) ?_
  show mcE L fr lo M_Desk_init 9 [some (mr 130)] [mr 131, mr 130] (tb jT130) (jS12 σ) 132 13436 Φ
  refine mc_putR (idx := 9) (ci := 7) (k := 0) (by decide +kernel) ⟨mcFdB_spec (w := 329) (by decide +kernel), rfl, finOk_spec (by decide +kernel)⟩ (by decide) (by decide) rfl ?_
  rw [show upc (tb jT130) 130 (upi (tb jT130 130) ((0 : Nat) : Int) (some 131)) = tb jT131 from tb_put (a := 129) (k := 0) (t := 130) (by decide +kernel) (by decide +kernel)]
  show mcE L fr lo M_Desk_init 12 [some (mr 130)] [] (tb jT131) (jS12 σ) 132 13436 Φ
  refine mc_aload_n (j := 0) (by decide +kernel) rfl ?_
  show mcE L fr lo M_Desk_init 13 [some (mr 130)] [mr 130] (tb jT131) (jS12 σ) 132 13436 Φ
  refine mc_new (idx := 15) (ci := 3) (N := 3) (by decide +kernel) ⟨_, _, _, rfl, rfl, (List.mem_of_getElem? (i := 327) (by decide +kernel)), (List.mem_of_getElem? (i := 198) (by decide +kernel)), (List.mem_of_getElem? (i := 60) (by decide +kernel))⟩ rfl (by decide) (by decide) ?_
  show mcE L fr lo M_Desk_init 16 [some (mr 130)] [mr 132, mr 130] (tb jT131) (jS12 σ) 133 13439 Φ
  refine mc_dup (by decide +kernel) rfl ?_
  show mcE L fr lo M_Desk_init 17 [some (mr 130)] [mr 132, mr 132, mr 130] (tb jT131) (jS12 σ) 133 13439 Φ
  refine mc_init (M' := M_Answer_init) (fr' := fr - 1) (lo' := lo - 40) (idx := 17) (a := 132) (vs := []) (by decide +kernel) (List.mem_of_getElem? (i := 328) (by decide +kernel)) (List.mem_of_getElem? (i := 200) (by decide +kernel)) (List.mem_of_getElem? (i := 201) (by decide +kernel)) rfl (mcCdB_spec (wi := 60) (wc := 201) (by decide +kernel)) (Or.inl rfl) (mcArB_spec (by decide +kernel)) (by decide) (by omega) (show 2 + (1 + 11) + (lo - 40) ≤ lo by omega) (by decide) ?_
  refine iv_38 (by omega) (by omega) ?_
  show mcE L fr lo M_Desk_init 20 [some (mr 130)] [mr 132, mr 130] (tb jT133) (jS12 σ) 135 13447 Φ
  refine mc_putR (idx := 18) (ci := 7) (k := 1) (by decide +kernel) ⟨mcFdB_spec (w := 331) (by decide +kernel), rfl, finOk_spec (by decide +kernel)⟩ (by decide) (by decide) rfl ?_
  rw [show upc (tb jT133) 130 (upi (tb jT133 130) ((1 : Nat) : Int) (some 132)) = tb jT134 from tb_put (a := 129) (k := 1) (t := 131) (by decide +kernel) (by decide +kernel)]
  show mcE L fr lo M_Desk_init 23 [some (mr 130)] [] (tb jT134) (jS12 σ) 135 13447 Φ
  refine mc_aload_n (j := 0) (by decide +kernel) rfl ?_
  show mcE L fr lo M_Desk_init 24 [some (mr 130)] [mr 130] (tb jT134) (jS12 σ) 135 13447 Φ
  refine mc_iconst (i := 0) (by decide +kernel) ?_
  show mcE L fr lo M_Desk_init 25 [some (mr 130)] [mi 0, mr 130] (tb jT134) (jS12 σ) 135 13447 Φ
  refine mc_putI (idx := 22) (ci := 7) (k := 2) (kd := 0) (by decide +kernel) ⟨mcFdB_spec (w := 333) (by decide +kernel), mcNfB_spec (by decide +kernel)⟩ (by decide) (by decide) (by decide) rfl (by unfold in32; decide) (by decide) ?_
  show mcE L fr lo M_Desk_init 28 [some (mr 130)] [] (tb jT134) (jS13 σ) 135 13447 Φ
  exact mc_return_ (by decide +kernel) rfl k
def jT135 : List (List Nat) := tst jT134 118 2 130
theorem iv_40 {L fr lo : Nat} {σ : mG} {Φ : mcPost} (hfr : 3 ≤ fr) (hlo : 120 ≤ lo) (k : Φ (.inl none) (tb jT135) (jS13 σ) 135 13447) : mcE L fr lo M_Client_init 0 (mcEnt M_Client_init.2.2.1 [mr 118]) [] (tb jT119) (jS10 σ) 119 13336 Φ := by
  show mcE L fr lo M_Client_init 0 [some (mr 118), none] [] (tb jT119) (jS10 σ) 119 13336 Φ
  refine mc_aload_n (j := 0) (by decide +kernel) rfl ?_
  show mcE L fr lo M_Client_init 1 [some (mr 118), none] [mr 118] (tb jT119) (jS10 σ) 119 13336 Φ
  refine mc_objInit (idx := 3) (by decide +kernel) (List.mem_of_getElem? (i := 319) (by decide +kernel)) (List.mem_of_getElem? (i := 77) (by decide +kernel)) (List.mem_of_getElem? (i := 78) (by decide +kernel)) (by omega) (show 0 + 12 ≤ lo by omega) ?_
  show mcE L fr lo M_Client_init 4 [some (mr 118), none] [] (tb jT119) (jS10 σ) 119 13336 Φ
  refine mc_aload_n (j := 0) (by decide +kernel) rfl ?_
  show mcE L fr lo M_Client_init 5 [some (mr 118), none] [mr 118] (tb jT119) (jS10 σ) 119 13336 Φ
  refine mc_iconst (i := 3) (by decide +kernel) ?_
  show mcE L fr lo M_Client_init 6 [some (mr 118), none] [mi 3, mr 118] (tb jT119) (jS10 σ) 119 13336 Φ
  refine mc_anewarray (idx := 9) (t := 6) (len := 3) (C := "SlotServer$Desk") (by decide +kernel) (by decide) rfl (List.mem_of_getElem? (i := 320) (by decide +kernel)) (List.mem_of_getElem? (i := 321) (by decide +kernel)) rfl rfl (by decide) (by decide) (by decide) ?_
  show mcE L fr lo M_Client_init 9 [some (mr 118), none] [mr 119, mr 118] (tb jT119) (jS10 σ) 120 13339 Φ
  refine mc_putR (idx := 11) (ci := 8) (k := 0) (by decide +kernel) ⟨mcFdB_spec (w := 351) (by decide +kernel), rfl, finOk_spec (by decide +kernel)⟩ (by decide) (by decide) rfl ?_
  rw [show upc (tb jT119) 118 (upi (tb jT119 118) ((0 : Nat) : Int) (some 119)) = tb jT120 from tb_put (a := 117) (k := 0) (t := 118) (by decide +kernel) (by decide +kernel)]
  show mcE L fr lo M_Client_init 12 [some (mr 118), none] [] (tb jT120) (jS10 σ) 120 13339 Φ
  refine mc_iconst (i := 0) (by decide +kernel) ?_
  show mcE L fr lo M_Client_init 13 [some (mr 118), none] [mi 0] (tb jT120) (jS10 σ) 120 13339 Φ
  refine mc_istore_n (j := 1) (by decide +kernel) (by decide) ?_
  show mcE L fr lo M_Client_init 14 [some (mr 118), some (mi 0)] [] (tb jT120) (jS10 σ) 120 13339 Φ
  refine mc_iload_n (j := 1) (by decide +kernel) rfl ?_
  show mcE L fr lo M_Client_init 15 [some (mr 118), some (mi 0)] [mi 0] (tb jT120) (jS10 σ) 120 13339 Φ
  refine mc_iconst (i := 3) (by decide +kernel) ?_
  show mcE L fr lo M_Client_init 16 [some (mr 118), some (mi 0)] [mi 3, mi 0] (tb jT120) (jS10 σ) 120 13339 Φ
  refine mc_icmp_ge (off := 22) (by decide +kernel) (by decide) (by unfold in32; decide) (by unfold in32; decide) (fun w => absurd w (by decide)) (fun _ => ?_)
  show mcE L fr lo M_Client_init 19 [some (mr 118), some (mi 0)] [] (tb jT120) (jS10 σ) 120 13339 Φ
  refine mc_aload_n (j := 0) (by decide +kernel) rfl ?_
  show mcE L fr lo M_Client_init 20 [some (mr 118), some (mi 0)] [mr 118] (tb jT120) (jS10 σ) 120 13339 Φ
  refine mc_getR (idx := 11) (ci := 8) (k := 0) (t := 119) (by decide +kernel) (mcFdB_spec (w := 351) (by decide +kernel)) (by decide) (by decide) rfl (show tb jT120 118 ((0 : Nat) : Int) = some 119 by decide +kernel) ?_
  show mcE L fr lo M_Client_init 23 [some (mr 118), some (mi 0)] [mr 119] (tb jT120) (jS10 σ) 120 13339 Φ
  refine mc_iload_n (j := 1) (by decide +kernel) rfl ?_
  show mcE L fr lo M_Client_init 24 [some (mr 118), some (mi 0)] [mi 0, mr 119] (tb jT120) (jS10 σ) 120 13339 Φ
  refine mc_new (idx := 9) (ci := 7) (N := 5) (by decide +kernel) ⟨_, _, _, rfl, rfl, (List.mem_of_getElem? (i := 320) (by decide +kernel)), (List.mem_of_getElem? (i := 322) (by decide +kernel)), (List.mem_of_getElem? (i := 62) (by decide +kernel))⟩ rfl (by decide) (by decide) ?_
  show mcE L fr lo M_Client_init 27 [some (mr 118), some (mi 0)] [mr 120, mi 0, mr 119] (tb jT120) (jS10 σ) 121 13344 Φ
  refine mc_dup (by decide +kernel) rfl ?_
  show mcE L fr lo M_Client_init 28 [some (mr 118), some (mi 0)] [mr 120, mr 120, mi 0, mr 119] (tb jT120) (jS10 σ) 121 13344 Φ
  refine mc_init (M' := M_Desk_init) (fr' := fr - 1) (lo' := lo - 40) (idx := 17) (a := 120) (vs := []) (by decide +kernel) (List.mem_of_getElem? (i := 323) (by decide +kernel)) (List.mem_of_getElem? (i := 324) (by decide +kernel)) (List.mem_of_getElem? (i := 325) (by decide +kernel)) rfl (mcCdB_spec (wi := 62) (wc := 325) (by decide +kernel)) (Or.inl rfl) (mcArB_spec (by decide +kernel)) (by decide) (by omega) (show 3 + (1 + 11) + (lo - 40) ≤ lo by omega) (by decide) ?_
  refine iv_35 (by omega) (by omega) ?_
  show mcE L fr lo M_Client_init 31 [some (mr 118), some (mi 0)] [mr 120, mi 0, mr 119] (tb jT124) (jS11 σ) 125 13375 Φ
  refine mc_aastore (a := 119) (u := 120) (x := 0) (by decide +kernel) (by decide) (by decide) (by decide) rfl (by decide) (by decide) (by decide) rfl rfl rfl ?_
  rw [show upc (tb jT124) 119 (upi (tb jT124 119) (0 : Int) (some 120)) = tb jT125 from tb_put (a := 118) (k := 0) (t := 119) (by decide +kernel) (by decide +kernel)]
  show mcE L fr lo M_Client_init 32 [some (mr 118), some (mi 0)] [] (tb jT125) (jS11 σ) 125 13375 Φ
  refine mc_iinc (i := 1) (q := 1) (by decide +kernel) rfl (by decide) ?_
  show mcE L fr lo M_Client_init 35 [some (mr 118), some (mi 1)] [] (tb jT125) (jS11 σ) 125 13375 Φ
  refine mc_goto (off := -21) (by decide +kernel) (by decide) ?_
  show mcE L fr lo M_Client_init 14 [some (mr 118), some (mi 1)] [] (tb jT125) (jS11 σ) 125 13375 Φ
  refine mc_iload_n (j := 1) (by decide +kernel) rfl ?_
  show mcE L fr lo M_Client_init 15 [some (mr 118), some (mi 1)] [mi 1] (tb jT125) (jS11 σ) 125 13375 Φ
  refine mc_iconst (i := 3) (by decide +kernel) ?_
  show mcE L fr lo M_Client_init 16 [some (mr 118), some (mi 1)] [mi 3, mi 1] (tb jT125) (jS11 σ) 125 13375 Φ
  refine mc_icmp_ge (off := 22) (by decide +kernel) (by decide) (by unfold in32; decide) (by unfold in32; decide) (fun w => absurd w (by decide)) (fun _ => ?_)
  show mcE L fr lo M_Client_init 19 [some (mr 118), some (mi 1)] [] (tb jT125) (jS11 σ) 125 13375 Φ
  refine mc_aload_n (j := 0) (by decide +kernel) rfl ?_
  show mcE L fr lo M_Client_init 20 [some (mr 118), some (mi 1)] [mr 118] (tb jT125) (jS11 σ) 125 13375 Φ
  refine mc_getR (idx := 11) (ci := 8) (k := 0) (t := 119) (by decide +kernel) (mcFdB_spec (w := 351) (by decide +kernel)) (by decide) (by decide) rfl (show tb jT125 118 ((0 : Nat) : Int) = some 119 by decide +kernel) ?_
  show mcE L fr lo M_Client_init 23 [some (mr 118), some (mi 1)] [mr 119] (tb jT125) (jS11 σ) 125 13375 Φ
  refine mc_iload_n (j := 1) (by decide +kernel) rfl ?_
  show mcE L fr lo M_Client_init 24 [some (mr 118), some (mi 1)] [mi 1, mr 119] (tb jT125) (jS11 σ) 125 13375 Φ
  refine mc_new (idx := 9) (ci := 7) (N := 5) (by decide +kernel) ⟨_, _, _, rfl, rfl, (List.mem_of_getElem? (i := 320) (by decide +kernel)), (List.mem_of_getElem? (i := 322) (by decide +kernel)), (List.mem_of_getElem? (i := 62) (by decide +kernel))⟩ rfl (by decide) (by decide) ?_
  show mcE L fr lo M_Client_init 27 [some (mr 118), some (mi 1)] [mr 125, mi 1, mr 119] (tb jT125) (jS11 σ) 126 13380 Φ
  refine mc_dup (by decide +kernel) rfl ?_
  show mcE L fr lo M_Client_init 28 [some (mr 118), some (mi 1)] [mr 125, mr 125, mi 1, mr 119] (tb jT125) (jS11 σ) 126 13380 Φ
  refine mc_init (M' := M_Desk_init) (fr' := fr - 1) (lo' := lo - 40) (idx := 17) (a := 125) (vs := []) (by decide +kernel) (List.mem_of_getElem? (i := 323) (by decide +kernel)) (List.mem_of_getElem? (i := 324) (by decide +kernel)) (List.mem_of_getElem? (i := 325) (by decide +kernel)) rfl (mcCdB_spec (wi := 62) (wc := 325) (by decide +kernel)) (Or.inl rfl) (mcArB_spec (by decide +kernel)) (by decide) (by omega) (show 3 + (1 + 11) + (lo - 40) ≤ lo by omega) (by decide) ?_
  refine iv_37 (by omega) (by omega) ?_
  show mcE L fr lo M_Client_init 31 [some (mr 118), some (mi 1)] [mr 125, mi 1, mr 119] (tb jT129) (jS12 σ) 130 13411 Φ
  refine mc_aastore (a := 119) (u := 125) (x := 1) (by decide +kernel) (by decide) (by decide) (by decide) rfl (by decide) (by decide) (by decide) rfl rfl rfl ?_
  rw [show upc (tb jT129) 119 (upi (tb jT129 119) (1 : Int) (some 125)) = tb jT130 from tb_put (a := 118) (k := 1) (t := 124) (by decide +kernel) (by decide +kernel)]
  show mcE L fr lo M_Client_init 32 [some (mr 118), some (mi 1)] [] (tb jT130) (jS12 σ) 130 13411 Φ
  refine mc_iinc (i := 1) (q := 1) (by decide +kernel) rfl (by decide) ?_
  show mcE L fr lo M_Client_init 35 [some (mr 118), some (mi 2)] [] (tb jT130) (jS12 σ) 130 13411 Φ
  refine mc_goto (off := -21) (by decide +kernel) (by decide) ?_
  show mcE L fr lo M_Client_init 14 [some (mr 118), some (mi 2)] [] (tb jT130) (jS12 σ) 130 13411 Φ
  refine mc_iload_n (j := 1) (by decide +kernel) rfl ?_
  show mcE L fr lo M_Client_init 15 [some (mr 118), some (mi 2)] [mi 2] (tb jT130) (jS12 σ) 130 13411 Φ
  refine mc_iconst (i := 3) (by decide +kernel) ?_
  show mcE L fr lo M_Client_init 16 [some (mr 118), some (mi 2)] [mi 3, mi 2] (tb jT130) (jS12 σ) 130 13411 Φ
  refine mc_icmp_ge (off := 22) (by decide +kernel) (by decide) (by unfold in32; decide) (by unfold in32; decide) (fun w => absurd w (by decide)) (fun _ => ?_)
  show mcE L fr lo M_Client_init 19 [some (mr 118), some (mi 2)] [] (tb jT130) (jS12 σ) 130 13411 Φ
  refine mc_aload_n (j := 0) (by decide +kernel) rfl ?_
  show mcE L fr lo M_Client_init 20 [some (mr 118), some (mi 2)] [mr 118] (tb jT130) (jS12 σ) 130 13411 Φ
  refine mc_getR (idx := 11) (ci := 8) (k := 0) (t := 119) (by decide +kernel) (mcFdB_spec (w := 351) (by decide +kernel)) (by decide) (by decide) rfl (show tb jT130 118 ((0 : Nat) : Int) = some 119 by decide +kernel) ?_
  show mcE L fr lo M_Client_init 23 [some (mr 118), some (mi 2)] [mr 119] (tb jT130) (jS12 σ) 130 13411 Φ
  refine mc_iload_n (j := 1) (by decide +kernel) rfl ?_
  show mcE L fr lo M_Client_init 24 [some (mr 118), some (mi 2)] [mi 2, mr 119] (tb jT130) (jS12 σ) 130 13411 Φ
  refine mc_new (idx := 9) (ci := 7) (N := 5) (by decide +kernel) ⟨_, _, _, rfl, rfl, (List.mem_of_getElem? (i := 320) (by decide +kernel)), (List.mem_of_getElem? (i := 322) (by decide +kernel)), (List.mem_of_getElem? (i := 62) (by decide +kernel))⟩ rfl (by decide) (by decide) ?_
  show mcE L fr lo M_Client_init 27 [some (mr 118), some (mi 2)] [mr 130, mi 2, mr 119] (tb jT130) (jS12 σ) 131 13416 Φ
  refine mc_dup (by decide +kernel) rfl ?_
  show mcE L fr lo M_Client_init 28 [some (mr 118), some (mi 2)] [mr 130, mr 130, mi 2, mr 119] (tb jT130) (jS12 σ) 131 13416 Φ
  refine mc_init (M' := M_Desk_init) (fr' := fr - 1) (lo' := lo - 40) (idx := 17) (a := 130) (vs := []) (by decide +kernel) (List.mem_of_getElem? (i := 323) (by decide +kernel)) (List.mem_of_getElem? (i := 324) (by decide +kernel)) (List.mem_of_getElem? (i := 325) (by decide +kernel)) rfl (mcCdB_spec (wi := 62) (wc := 325) (by decide +kernel)) (Or.inl rfl) (mcArB_spec (by decide +kernel)) (by decide) (by omega) (show 3 + (1 + 11) + (lo - 40) ≤ lo by omega) (by decide) ?_
  refine iv_39 (by omega) (by omega) ?_
  show mcE L fr lo M_Client_init 31 [some (mr 118), some (mi 2)] [mr 130, mi 2, mr 119] (tb jT134) (jS13 σ) 135 13447 Φ
  refine mc_aastore (a := 119) (u := 130) (x := 2) (by decide +kernel) (by decide) (by decide) (by decide) rfl (by decide) (by decide) (by decide) rfl rfl rfl ?_
  rw [show upc (tb jT134) 119 (upi (tb jT134 119) (2 : Int) (some 130)) = tb jT135 from tb_put (a := 118) (k := 2) (t := 129) (by decide +kernel) (by decide +kernel)]
  show mcE L fr lo M_Client_init 32 [some (mr 118), some (mi 2)] [] (tb jT135) (jS13 σ) 135 13447 Φ
  refine mc_iinc (i := 1) (q := 1) (by decide +kernel) rfl (by decide) ?_
  show mcE L fr lo M_Client_init 35 [some (mr 118), some (mi 3)] [] (tb jT135) (jS13 σ) 135 13447 Φ
  refine mc_goto (off := -21) (by decide +kernel) (by decide) ?_
  show mcE L fr lo M_Client_init 14 [some (mr 118), some (mi 3)] [] (tb jT135) (jS13 σ) 135 13447 Φ
  refine mc_iload_n (j := 1) (by decide +kernel) rfl ?_
  show mcE L fr lo M_Client_init 15 [some (mr 118), some (mi 3)] [mi 3] (tb jT135) (jS13 σ) 135 13447 Φ
  refine mc_iconst (i := 3) (by decide +kernel) ?_
  show mcE L fr lo M_Client_init 16 [some (mr 118), some (mi 3)] [mi 3, mi 3] (tb jT135) (jS13 σ) 135 13447 Φ
  refine mc_icmp_ge (off := 22) (by decide +kernel) (by decide) (by unfold in32; decide) (by unfold in32; decide) (fun _ => ?_) (fun w => absurd (by decide) w)
  show mcE L fr lo M_Client_init 38 [some (mr 118), some (mi 3)] [] (tb jT135) (jS13 σ) 135 13447 Φ
  exact mc_return_ (by decide +kernel) rfl k
def jT136 : List (List Nat) := tst jT135 1 0 118
def jT137 : List (List Nat) := tst jT136 134 0 136
def jT138 : List (List Nat) := tst jT137 136 0 138
def jT139 : List (List Nat) := tst jT138 138 0 140
def jT140 : List (List Nat) := tst jT139 138 1 141
theorem iv_41 {L fr lo : Nat} {σ : mG} {Φ : mcPost} (hfr : 1 ≤ fr) (hlo : 40 ≤ lo) (k : Φ (.inl none) (tb jT140) (jS13 σ) 142 13488) : mcE L fr lo M_Answer_init 0 (mcEnt M_Answer_init.2.2.1 [mr 139]) [] (tb jT138) (jS13 σ) 140 13480 Φ := by
  show mcE L fr lo M_Answer_init 0 [some (mr 139)] [] (tb jT138) (jS13 σ) 140 13480 Φ
  refine mc_aload_n (j := 0) (by decide +kernel) rfl ?_
  show mcE L fr lo M_Answer_init 1 [some (mr 139)] [mr 139] (tb jT138) (jS13 σ) 140 13480 Φ
  refine mc_objInit (idx := 3) (by decide +kernel) (List.mem_of_getElem? (i := 202) (by decide +kernel)) (List.mem_of_getElem? (i := 77) (by decide +kernel)) (List.mem_of_getElem? (i := 78) (by decide +kernel)) (by omega) (show 0 + 12 ≤ lo by omega) ?_
  show mcE L fr lo M_Answer_init 4 [some (mr 139)] [] (tb jT138) (jS13 σ) 140 13480 Φ
  refine mc_aload_n (j := 0) (by decide +kernel) rfl ?_
  show mcE L fr lo M_Answer_init 5 [some (mr 139)] [mr 139] (tb jT138) (jS13 σ) 140 13480 Φ
  refine mc_iconst (i := 4) (by decide +kernel) ?_
  show mcE L fr lo M_Answer_init 6 [some (mr 139)] [mi 4, mr 139] (tb jT138) (jS13 σ) 140 13480 Φ
  refine mc_newarray (at' := .int) (t := 0) (len := 4) (by decide +kernel) (by decide) rfl (List.mem_of_getElem? (i := 120) (by decide +kernel)) rfl rfl (by decide) (by decide) ?_
  show mcE L fr lo M_Answer_init 8 [some (mr 139)] [mr 140, mr 139] (tb jT138) (jS13 σ) 141 13484 Φ
  refine mc_putR (idx := 9) (ci := 3) (k := 0) (by decide +kernel) ⟨mcFdB_spec (w := 203) (by decide +kernel), rfl, finOk_spec (by decide +kernel)⟩ (by decide) (by decide) rfl ?_
  rw [show upc (tb jT138) 139 (upi (tb jT138 139) ((0 : Nat) : Int) (some 140)) = tb jT139 from tb_put (a := 138) (k := 0) (t := 139) (by decide +kernel) (by decide +kernel)]
  show mcE L fr lo M_Answer_init 11 [some (mr 139)] [] (tb jT139) (jS13 σ) 141 13484 Φ
  refine mc_aload_n (j := 0) (by decide +kernel) rfl ?_
  show mcE L fr lo M_Answer_init 12 [some (mr 139)] [mr 139] (tb jT139) (jS13 σ) 141 13484 Φ
  refine mc_iconst (i := 4) (by decide +kernel) ?_
  show mcE L fr lo M_Answer_init 13 [some (mr 139)] [mi 4, mr 139] (tb jT139) (jS13 σ) 141 13484 Φ
  refine mc_newarray (at' := .int) (t := 0) (len := 4) (by decide +kernel) (by decide) rfl (List.mem_of_getElem? (i := 120) (by decide +kernel)) rfl rfl (by decide) (by decide) ?_
  show mcE L fr lo M_Answer_init 15 [some (mr 139)] [mr 141, mr 139] (tb jT139) (jS13 σ) 142 13488 Φ
  refine mc_putR (idx := 15) (ci := 3) (k := 1) (by decide +kernel) ⟨mcFdB_spec (w := 205) (by decide +kernel), rfl, finOk_spec (by decide +kernel)⟩ (by decide) (by decide) rfl ?_
  rw [show upc (tb jT139) 139 (upi (tb jT139 139) ((1 : Nat) : Int) (some 141)) = tb jT140 from tb_put (a := 138) (k := 1) (t := 140) (by decide +kernel) (by decide +kernel)]
  show mcE L fr lo M_Answer_init 18 [some (mr 139)] [] (tb jT140) (jS13 σ) 142 13488 Φ
  exact mc_return_ (by decide +kernel) rfl k
def jT141 : List (List Nat) := tst jT140 136 1 139
def jS14 (σ : mG) : mG := upc (jS13 σ) 137 (upi ((jS13 σ) 137) 2 0)
theorem iv_42 {L fr lo : Nat} {σ : mG} {Φ : mcPost} (hfr : 2 ≤ fr) (hlo : 80 ≤ lo) (k : Φ (.inl none) (tb jT141) (jS14 σ) 142 13488) : mcE L fr lo M_Desk_init 0 (mcEnt M_Desk_init.2.2.1 [mr 137]) [] (tb jT137) (jS13 σ) 138 13457 Φ := by
  show mcE L fr lo M_Desk_init 0 [some (mr 137)] [] (tb jT137) (jS13 σ) 138 13457 Φ
  refine mc_aload_n (j := 0) (by decide +kernel) rfl ?_
  show mcE L fr lo M_Desk_init 1 [some (mr 137)] [mr 137] (tb jT137) (jS13 σ) 138 13457 Φ
  refine mc_objInit (idx := 3) (by decide +kernel) (List.mem_of_getElem? (i := 326) (by decide +kernel)) (List.mem_of_getElem? (i := 77) (by decide +kernel)) (List.mem_of_getElem? (i := 78) (by decide +kernel)) (by omega) (show 0 + 12 ≤ lo by omega) ?_
  show mcE L fr lo M_Desk_init 4 [some (mr 137)] [] (tb jT137) (jS13 σ) 138 13457 Φ
  refine mc_aload_n (j := 0) (by decide +kernel) rfl ?_
  show mcE L fr lo M_Desk_init 5 [some (mr 137)] [mr 137] (tb jT137) (jS13 σ) 138 13457 Φ
  refine mc_bipush (i := 20) (by decide +kernel) (by decide) ?_
  show mcE L fr lo M_Desk_init 7 [some (mr 137)] [mi 20, mr 137] (tb jT137) (jS13 σ) 138 13457 Φ
  refine mc_newarray (at' := .int) (t := 0) (len := 20) (by decide +kernel) (by decide) rfl (List.mem_of_getElem? (i := 120) (by decide +kernel)) rfl rfl (by decide) (by decide) ?_
  show mcE L fr lo M_Desk_init 9 [some (mr 137)] [mr 138, mr 137] (tb jT137) (jS13 σ) 139 13477 Φ
  refine mc_putR (idx := 9) (ci := 7) (k := 0) (by decide +kernel) ⟨mcFdB_spec (w := 329) (by decide +kernel), rfl, finOk_spec (by decide +kernel)⟩ (by decide) (by decide) rfl ?_
  rw [show upc (tb jT137) 137 (upi (tb jT137 137) ((0 : Nat) : Int) (some 138)) = tb jT138 from tb_put (a := 136) (k := 0) (t := 137) (by decide +kernel) (by decide +kernel)]
  show mcE L fr lo M_Desk_init 12 [some (mr 137)] [] (tb jT138) (jS13 σ) 139 13477 Φ
  refine mc_aload_n (j := 0) (by decide +kernel) rfl ?_
  show mcE L fr lo M_Desk_init 13 [some (mr 137)] [mr 137] (tb jT138) (jS13 σ) 139 13477 Φ
  refine mc_new (idx := 15) (ci := 3) (N := 3) (by decide +kernel) ⟨_, _, _, rfl, rfl, (List.mem_of_getElem? (i := 327) (by decide +kernel)), (List.mem_of_getElem? (i := 198) (by decide +kernel)), (List.mem_of_getElem? (i := 60) (by decide +kernel))⟩ rfl (by decide) (by decide) ?_
  show mcE L fr lo M_Desk_init 16 [some (mr 137)] [mr 139, mr 137] (tb jT138) (jS13 σ) 140 13480 Φ
  refine mc_dup (by decide +kernel) rfl ?_
  show mcE L fr lo M_Desk_init 17 [some (mr 137)] [mr 139, mr 139, mr 137] (tb jT138) (jS13 σ) 140 13480 Φ
  refine mc_init (M' := M_Answer_init) (fr' := fr - 1) (lo' := lo - 40) (idx := 17) (a := 139) (vs := []) (by decide +kernel) (List.mem_of_getElem? (i := 328) (by decide +kernel)) (List.mem_of_getElem? (i := 200) (by decide +kernel)) (List.mem_of_getElem? (i := 201) (by decide +kernel)) rfl (mcCdB_spec (wi := 60) (wc := 201) (by decide +kernel)) (Or.inl rfl) (mcArB_spec (by decide +kernel)) (by decide) (by omega) (show 2 + (1 + 11) + (lo - 40) ≤ lo by omega) (by decide) ?_
  refine iv_41 (by omega) (by omega) ?_
  show mcE L fr lo M_Desk_init 20 [some (mr 137)] [mr 139, mr 137] (tb jT140) (jS13 σ) 142 13488 Φ
  refine mc_putR (idx := 18) (ci := 7) (k := 1) (by decide +kernel) ⟨mcFdB_spec (w := 331) (by decide +kernel), rfl, finOk_spec (by decide +kernel)⟩ (by decide) (by decide) rfl ?_
  rw [show upc (tb jT140) 137 (upi (tb jT140 137) ((1 : Nat) : Int) (some 139)) = tb jT141 from tb_put (a := 136) (k := 1) (t := 138) (by decide +kernel) (by decide +kernel)]
  show mcE L fr lo M_Desk_init 23 [some (mr 137)] [] (tb jT141) (jS13 σ) 142 13488 Φ
  refine mc_aload_n (j := 0) (by decide +kernel) rfl ?_
  show mcE L fr lo M_Desk_init 24 [some (mr 137)] [mr 137] (tb jT141) (jS13 σ) 142 13488 Φ
  refine mc_iconst (i := 0) (by decide +kernel) ?_
  show mcE L fr lo M_Desk_init 25 [some (mr 137)] [mi 0, mr 137] (tb jT141) (jS13 σ) 142 13488 Φ
  refine mc_putI (idx := 22) (ci := 7) (k := 2) (kd := 0) (by decide +kernel) ⟨mcFdB_spec (w := 333) (by decide +kernel), mcNfB_spec (by decide +kernel)⟩ (by decide) (by decide) (by decide) rfl (by unfold in32; decide) (by decide) ?_
  show mcE L fr lo M_Desk_init 28 [some (mr 137)] [] (tb jT141) (jS14 σ) 142 13488 Φ
  exact mc_return_ (by decide +kernel) rfl k
def jT142 : List (List Nat) := tst jT141 135 0 137
def jT143 : List (List Nat) := tst jT142 141 0 143
def jT144 : List (List Nat) := tst jT143 143 0 145
def jT145 : List (List Nat) := tst jT144 143 1 146
theorem iv_43 {L fr lo : Nat} {σ : mG} {Φ : mcPost} (hfr : 1 ≤ fr) (hlo : 40 ≤ lo) (k : Φ (.inl none) (tb jT145) (jS14 σ) 147 13524) : mcE L fr lo M_Answer_init 0 (mcEnt M_Answer_init.2.2.1 [mr 144]) [] (tb jT143) (jS14 σ) 145 13516 Φ := by
  show mcE L fr lo M_Answer_init 0 [some (mr 144)] [] (tb jT143) (jS14 σ) 145 13516 Φ
  refine mc_aload_n (j := 0) (by decide +kernel) rfl ?_
  show mcE L fr lo M_Answer_init 1 [some (mr 144)] [mr 144] (tb jT143) (jS14 σ) 145 13516 Φ
  refine mc_objInit (idx := 3) (by decide +kernel) (List.mem_of_getElem? (i := 202) (by decide +kernel)) (List.mem_of_getElem? (i := 77) (by decide +kernel)) (List.mem_of_getElem? (i := 78) (by decide +kernel)) (by omega) (show 0 + 12 ≤ lo by omega) ?_
  show mcE L fr lo M_Answer_init 4 [some (mr 144)] [] (tb jT143) (jS14 σ) 145 13516 Φ
  refine mc_aload_n (j := 0) (by decide +kernel) rfl ?_
  show mcE L fr lo M_Answer_init 5 [some (mr 144)] [mr 144] (tb jT143) (jS14 σ) 145 13516 Φ
  refine mc_iconst (i := 4) (by decide +kernel) ?_
  show mcE L fr lo M_Answer_init 6 [some (mr 144)] [mi 4, mr 144] (tb jT143) (jS14 σ) 145 13516 Φ
  refine mc_newarray (at' := .int) (t := 0) (len := 4) (by decide +kernel) (by decide) rfl (List.mem_of_getElem? (i := 120) (by decide +kernel)) rfl rfl (by decide) (by decide) ?_
  show mcE L fr lo M_Answer_init 8 [some (mr 144)] [mr 145, mr 144] (tb jT143) (jS14 σ) 146 13520 Φ
  refine mc_putR (idx := 9) (ci := 3) (k := 0) (by decide +kernel) ⟨mcFdB_spec (w := 203) (by decide +kernel), rfl, finOk_spec (by decide +kernel)⟩ (by decide) (by decide) rfl ?_
  rw [show upc (tb jT143) 144 (upi (tb jT143 144) ((0 : Nat) : Int) (some 145)) = tb jT144 from tb_put (a := 143) (k := 0) (t := 144) (by decide +kernel) (by decide +kernel)]
  show mcE L fr lo M_Answer_init 11 [some (mr 144)] [] (tb jT144) (jS14 σ) 146 13520 Φ
  refine mc_aload_n (j := 0) (by decide +kernel) rfl ?_
  show mcE L fr lo M_Answer_init 12 [some (mr 144)] [mr 144] (tb jT144) (jS14 σ) 146 13520 Φ
  refine mc_iconst (i := 4) (by decide +kernel) ?_
  show mcE L fr lo M_Answer_init 13 [some (mr 144)] [mi 4, mr 144] (tb jT144) (jS14 σ) 146 13520 Φ
  refine mc_newarray (at' := .int) (t := 0) (len := 4) (by decide +kernel) (by decide) rfl (List.mem_of_getElem? (i := 120) (by decide +kernel)) rfl rfl (by decide) (by decide) ?_
  show mcE L fr lo M_Answer_init 15 [some (mr 144)] [mr 146, mr 144] (tb jT144) (jS14 σ) 147 13524 Φ
  refine mc_putR (idx := 15) (ci := 3) (k := 1) (by decide +kernel) ⟨mcFdB_spec (w := 205) (by decide +kernel), rfl, finOk_spec (by decide +kernel)⟩ (by decide) (by decide) rfl ?_
  rw [show upc (tb jT144) 144 (upi (tb jT144 144) ((1 : Nat) : Int) (some 146)) = tb jT145 from tb_put (a := 143) (k := 1) (t := 145) (by decide +kernel) (by decide +kernel)]
  show mcE L fr lo M_Answer_init 18 [some (mr 144)] [] (tb jT145) (jS14 σ) 147 13524 Φ
  exact mc_return_ (by decide +kernel) rfl k
def jT146 : List (List Nat) := tst jT145 141 1 144
def jS15 (σ : mG) : mG := upc (jS14 σ) 142 (upi ((jS14 σ) 142) 2 0)
theorem iv_44 {L fr lo : Nat} {σ : mG} {Φ : mcPost} (hfr : 2 ≤ fr) (hlo : 80 ≤ lo) (k : Φ (.inl none) (tb jT146) (jS15 σ) 147 13524) : mcE L fr lo M_Desk_init 0 (mcEnt M_Desk_init.2.2.1 [mr 142]) [] (tb jT142) (jS14 σ) 143 13493 Φ := by
  show mcE L fr lo M_Desk_init 0 [some (mr 142)] [] (tb jT142) (jS14 σ) 143 13493 Φ
  refine mc_aload_n (j := 0) (by decide +kernel) rfl ?_
  show mcE L fr lo M_Desk_init 1 [some (mr 142)] [mr 142] (tb jT142) (jS14 σ) 143 13493 Φ
  refine mc_objInit (idx := 3) (by decide +kernel) (List.mem_of_getElem? (i := 326) (by decide +kernel)) (List.mem_of_getElem? (i := 77) (by decide +kernel)) (List.mem_of_getElem? (i := 78) (by decide +kernel)) (by omega) (show 0 + 12 ≤ lo by omega) ?_
  show mcE L fr lo M_Desk_init 4 [some (mr 142)] [] (tb jT142) (jS14 σ) 143 13493 Φ
  refine mc_aload_n (j := 0) (by decide +kernel) rfl ?_
  show mcE L fr lo M_Desk_init 5 [some (mr 142)] [mr 142] (tb jT142) (jS14 σ) 143 13493 Φ
  refine mc_bipush (i := 20) (by decide +kernel) (by decide) ?_
  show mcE L fr lo M_Desk_init 7 [some (mr 142)] [mi 20, mr 142] (tb jT142) (jS14 σ) 143 13493 Φ
  refine mc_newarray (at' := .int) (t := 0) (len := 20) (by decide +kernel) (by decide) rfl (List.mem_of_getElem? (i := 120) (by decide +kernel)) rfl rfl (by decide) (by decide) ?_
  show mcE L fr lo M_Desk_init 9 [some (mr 142)] [mr 143, mr 142] (tb jT142) (jS14 σ) 144 13513 Φ
  refine mc_putR (idx := 9) (ci := 7) (k := 0) (by decide +kernel) ⟨mcFdB_spec (w := 329) (by decide +kernel), rfl, finOk_spec (by decide +kernel)⟩ (by decide) (by decide) rfl ?_
  rw [show upc (tb jT142) 142 (upi (tb jT142 142) ((0 : Nat) : Int) (some 143)) = tb jT143 from tb_put (a := 141) (k := 0) (t := 142) (by decide +kernel) (by decide +kernel)]
  show mcE L fr lo M_Desk_init 12 [some (mr 142)] [] (tb jT143) (jS14 σ) 144 13513 Φ
  refine mc_aload_n (j := 0) (by decide +kernel) rfl ?_
  show mcE L fr lo M_Desk_init 13 [some (mr 142)] [mr 142] (tb jT143) (jS14 σ) 144 13513 Φ
  refine mc_new (idx := 15) (ci := 3) (N := 3) (by decide +kernel) ⟨_, _, _, rfl, rfl, (List.mem_of_getElem? (i := 327) (by decide +kernel)), (List.mem_of_getElem? (i := 198) (by decide +kernel)), (List.mem_of_getElem? (i := 60) (by decide +kernel))⟩ rfl (by decide) (by decide) ?_
  show mcE L fr lo M_Desk_init 16 [some (mr 142)] [mr 144, mr 142] (tb jT143) (jS14 σ) 145 13516 Φ
  refine mc_dup (by decide +kernel) rfl ?_
  show mcE L fr lo M_Desk_init 17 [some (mr 142)] [mr 144, mr 144, mr 142] (tb jT143) (jS14 σ) 145 13516 Φ
  refine mc_init (M' := M_Answer_init) (fr' := fr - 1) (lo' := lo - 40) (idx := 17) (a := 144) (vs := []) (by decide +kernel) (List.mem_of_getElem? (i := 328) (by decide +kernel)) (List.mem_of_getElem? (i := 200) (by decide +kernel)) (List.mem_of_getElem? (i := 201) (by decide +kernel)) rfl (mcCdB_spec (wi := 60) (wc := 201) (by decide +kernel)) (Or.inl rfl) (mcArB_spec (by decide +kernel)) (by decide) (by omega) (show 2 + (1 + 11) + (lo - 40) ≤ lo by omega) (by decide) ?_
  refine iv_43 (by omega) (by omega) ?_
  show mcE L fr lo M_Desk_init 20 [some (mr 142)] [mr 144, mr 142] (tb jT145) (jS14 σ) 147 13524 Φ
  refine mc_putR (idx := 18) (ci := 7) (k := 1) (by decide +kernel) ⟨mcFdB_spec (w := 331) (by decide +kernel), rfl, finOk_spec (by decide +kernel)⟩ (by decide) (by decide) rfl ?_
  rw [show upc (tb jT145) 142 (upi (tb jT145 142) ((1 : Nat) : Int) (some 144)) = tb jT146 from tb_put (a := 141) (k := 1) (t := 143) (by decide +kernel) (by decide +kernel)]
  show mcE L fr lo M_Desk_init 23 [some (mr 142)] [] (tb jT146) (jS14 σ) 147 13524 Φ
  refine mc_aload_n (j := 0) (by decide +kernel) rfl ?_
  show mcE L fr lo M_Desk_init 24 [some (mr 142)] [mr 142] (tb jT146) (jS14 σ) 147 13524 Φ
  refine mc_iconst (i := 0) (by decide +kernel) ?_
  show mcE L fr lo M_Desk_init 25 [some (mr 142)] [mi 0, mr 142] (tb jT146) (jS14 σ) 147 13524 Φ
  refine mc_putI (idx := 22) (ci := 7) (k := 2) (kd := 0) (by decide +kernel) ⟨mcFdB_spec (w := 333) (by decide +kernel), mcNfB_spec (by decide +kernel)⟩ (by decide) (by decide) (by decide) rfl (by unfold in32; decide) (by decide) ?_
  show mcE L fr lo M_Desk_init 28 [some (mr 142)] [] (tb jT146) (jS15 σ) 147 13524 Φ
  exact mc_return_ (by decide +kernel) rfl k
def jT147 : List (List Nat) := tst jT146 135 1 142
def jT148 : List (List Nat) := tst jT147 146 0 148
def jT149 : List (List Nat) := tst jT148 148 0 150
def jT150 : List (List Nat) := tst jT149 148 1 151
theorem iv_45 {L fr lo : Nat} {σ : mG} {Φ : mcPost} (hfr : 1 ≤ fr) (hlo : 40 ≤ lo) (k : Φ (.inl none) (tb jT150) (jS15 σ) 152 13560) : mcE L fr lo M_Answer_init 0 (mcEnt M_Answer_init.2.2.1 [mr 149]) [] (tb jT148) (jS15 σ) 150 13552 Φ := by
  show mcE L fr lo M_Answer_init 0 [some (mr 149)] [] (tb jT148) (jS15 σ) 150 13552 Φ
  refine mc_aload_n (j := 0) (by decide +kernel) rfl ?_
  show mcE L fr lo M_Answer_init 1 [some (mr 149)] [mr 149] (tb jT148) (jS15 σ) 150 13552 Φ
  refine mc_objInit (idx := 3) (by decide +kernel) (List.mem_of_getElem? (i := 202) (by decide +kernel)) (List.mem_of_getElem? (i := 77) (by decide +kernel)) (List.mem_of_getElem? (i := 78) (by decide +kernel)) (by omega) (show 0 + 12 ≤ lo by omega) ?_
  show mcE L fr lo M_Answer_init 4 [some (mr 149)] [] (tb jT148) (jS15 σ) 150 13552 Φ
  refine mc_aload_n (j := 0) (by decide +kernel) rfl ?_
  show mcE L fr lo M_Answer_init 5 [some (mr 149)] [mr 149] (tb jT148) (jS15 σ) 150 13552 Φ
  refine mc_iconst (i := 4) (by decide +kernel) ?_
  show mcE L fr lo M_Answer_init 6 [some (mr 149)] [mi 4, mr 149] (tb jT148) (jS15 σ) 150 13552 Φ
  refine mc_newarray (at' := .int) (t := 0) (len := 4) (by decide +kernel) (by decide) rfl (List.mem_of_getElem? (i := 120) (by decide +kernel)) rfl rfl (by decide) (by decide) ?_
  show mcE L fr lo M_Answer_init 8 [some (mr 149)] [mr 150, mr 149] (tb jT148) (jS15 σ) 151 13556 Φ
  refine mc_putR (idx := 9) (ci := 3) (k := 0) (by decide +kernel) ⟨mcFdB_spec (w := 203) (by decide +kernel), rfl, finOk_spec (by decide +kernel)⟩ (by decide) (by decide) rfl ?_
  rw [show upc (tb jT148) 149 (upi (tb jT148 149) ((0 : Nat) : Int) (some 150)) = tb jT149 from tb_put (a := 148) (k := 0) (t := 149) (by decide +kernel) (by decide +kernel)]
  show mcE L fr lo M_Answer_init 11 [some (mr 149)] [] (tb jT149) (jS15 σ) 151 13556 Φ
  refine mc_aload_n (j := 0) (by decide +kernel) rfl ?_
  show mcE L fr lo M_Answer_init 12 [some (mr 149)] [mr 149] (tb jT149) (jS15 σ) 151 13556 Φ
  refine mc_iconst (i := 4) (by decide +kernel) ?_
  show mcE L fr lo M_Answer_init 13 [some (mr 149)] [mi 4, mr 149] (tb jT149) (jS15 σ) 151 13556 Φ
  refine mc_newarray (at' := .int) (t := 0) (len := 4) (by decide +kernel) (by decide) rfl (List.mem_of_getElem? (i := 120) (by decide +kernel)) rfl rfl (by decide) (by decide) ?_
  show mcE L fr lo M_Answer_init 15 [some (mr 149)] [mr 151, mr 149] (tb jT149) (jS15 σ) 152 13560 Φ
  refine mc_putR (idx := 15) (ci := 3) (k := 1) (by decide +kernel) ⟨mcFdB_spec (w := 205) (by decide +kernel), rfl, finOk_spec (by decide +kernel)⟩ (by decide) (by decide) rfl ?_
  rw [show upc (tb jT149) 149 (upi (tb jT149 149) ((1 : Nat) : Int) (some 151)) = tb jT150 from tb_put (a := 148) (k := 1) (t := 150) (by decide +kernel) (by decide +kernel)]
  show mcE L fr lo M_Answer_init 18 [some (mr 149)] [] (tb jT150) (jS15 σ) 152 13560 Φ
  exact mc_return_ (by decide +kernel) rfl k
def jT151 : List (List Nat) := tst jT150 146 1 149
def jS16 (σ : mG) : mG := upc (jS15 σ) 147 (upi ((jS15 σ) 147) 2 0)
theorem iv_46 {L fr lo : Nat} {σ : mG} {Φ : mcPost} (hfr : 2 ≤ fr) (hlo : 80 ≤ lo) (k : Φ (.inl none) (tb jT151) (jS16 σ) 152 13560) : mcE L fr lo M_Desk_init 0 (mcEnt M_Desk_init.2.2.1 [mr 147]) [] (tb jT147) (jS15 σ) 148 13529 Φ := by
  show mcE L fr lo M_Desk_init 0 [some (mr 147)] [] (tb jT147) (jS15 σ) 148 13529 Φ
  refine mc_aload_n (j := 0) (by decide +kernel) rfl ?_
  show mcE L fr lo M_Desk_init 1 [some (mr 147)] [mr 147] (tb jT147) (jS15 σ) 148 13529 Φ
  refine mc_objInit (idx := 3) (by decide +kernel) (List.mem_of_getElem? (i := 326) (by decide +kernel)) (List.mem_of_getElem? (i := 77) (by decide +kernel)) (List.mem_of_getElem? (i := 78) (by decide +kernel)) (by omega) (show 0 + 12 ≤ lo by omega) ?_
  show mcE L fr lo M_Desk_init 4 [some (mr 147)] [] (tb jT147) (jS15 σ) 148 13529 Φ
  refine mc_aload_n (j := 0) (by decide +kernel) rfl ?_
  show mcE L fr lo M_Desk_init 5 [some (mr 147)] [mr 147] (tb jT147) (jS15 σ) 148 13529 Φ
  refine mc_bipush (i := 20) (by decide +kernel) (by decide) ?_
  show mcE L fr lo M_Desk_init 7 [some (mr 147)] [mi 20, mr 147] (tb jT147) (jS15 σ) 148 13529 Φ
  refine mc_newarray (at' := .int) (t := 0) (len := 20) (by decide +kernel) (by decide) rfl (List.mem_of_getElem? (i := 120) (by decide +kernel)) rfl rfl (by decide) (by decide) ?_
  show mcE L fr lo M_Desk_init 9 [some (mr 147)] [mr 148, mr 147] (tb jT147) (jS15 σ) 149 13549 Φ
  refine mc_putR (idx := 9) (ci := 7) (k := 0) (by decide +kernel) ⟨mcFdB_spec (w := 329) (by decide +kernel), rfl, finOk_spec (by decide +kernel)⟩ (by decide) (by decide) rfl ?_
  rw [show upc (tb jT147) 147 (upi (tb jT147 147) ((0 : Nat) : Int) (some 148)) = tb jT148 from tb_put (a := 146) (k := 0) (t := 147) (by decide +kernel) (by decide +kernel)]
  show mcE L fr lo M_Desk_init 12 [some (mr 147)] [] (tb jT148) (jS15 σ) 149 13549 Φ
  refine mc_aload_n (j := 0) (by decide +kernel) rfl ?_
  show mcE L fr lo M_Desk_init 13 [some (mr 147)] [mr 147] (tb jT148) (jS15 σ) 149 13549 Φ
  refine mc_new (idx := 15) (ci := 3) (N := 3) (by decide +kernel) ⟨_, _, _, rfl, rfl, (List.mem_of_getElem? (i := 327) (by decide +kernel)), (List.mem_of_getElem? (i := 198) (by decide +kernel)), (List.mem_of_getElem? (i := 60) (by decide +kernel))⟩ rfl (by decide) (by decide) ?_
  show mcE L fr lo M_Desk_init 16 [some (mr 147)] [mr 149, mr 147] (tb jT148) (jS15 σ) 150 13552 Φ
  refine mc_dup (by decide +kernel) rfl ?_
  show mcE L fr lo M_Desk_init 17 [some (mr 147)] [mr 149, mr 149, mr 147] (tb jT148) (jS15 σ) 150 13552 Φ
  refine mc_init (M' := M_Answer_init) (fr' := fr - 1) (lo' := lo - 40) (idx := 17) (a := 149) (vs := []) (by decide +kernel) (List.mem_of_getElem? (i := 328) (by decide +kernel)) (List.mem_of_getElem? (i := 200) (by decide +kernel)) (List.mem_of_getElem? (i := 201) (by decide +kernel)) rfl (mcCdB_spec (wi := 60) (wc := 201) (by decide +kernel)) (Or.inl rfl) (mcArB_spec (by decide +kernel)) (by decide) (by omega) (show 2 + (1 + 11) + (lo - 40) ≤ lo by omega) (by decide) ?_
  refine iv_45 (by omega) (by omega) ?_
  show mcE L fr lo M_Desk_init 20 [some (mr 147)] [mr 149, mr 147] (tb jT150) (jS15 σ) 152 13560 Φ
  refine mc_putR (idx := 18) (ci := 7) (k := 1) (by decide +kernel) ⟨mcFdB_spec (w := 331) (by decide +kernel), rfl, finOk_spec (by decide +kernel)⟩ (by decide) (by decide) rfl ?_
  rw [show upc (tb jT150) 147 (upi (tb jT150 147) ((1 : Nat) : Int) (some 149)) = tb jT151 from tb_put (a := 146) (k := 1) (t := 148) (by decide +kernel) (by decide +kernel)]
  show mcE L fr lo M_Desk_init 23 [some (mr 147)] [] (tb jT151) (jS15 σ) 152 13560 Φ
  refine mc_aload_n (j := 0) (by decide +kernel) rfl ?_
  show mcE L fr lo M_Desk_init 24 [some (mr 147)] [mr 147] (tb jT151) (jS15 σ) 152 13560 Φ
  refine mc_iconst (i := 0) (by decide +kernel) ?_
  show mcE L fr lo M_Desk_init 25 [some (mr 147)] [mi 0, mr 147] (tb jT151) (jS15 σ) 152 13560 Φ
  refine mc_putI (idx := 22) (ci := 7) (k := 2) (kd := 0) (by decide +kernel) ⟨mcFdB_spec (w := 333) (by decide +kernel), mcNfB_spec (by decide +kernel)⟩ (by decide) (by decide) (by decide) rfl (by unfold in32; decide) (by decide) ?_
  show mcE L fr lo M_Desk_init 28 [some (mr 147)] [] (tb jT151) (jS16 σ) 152 13560 Φ
  exact mc_return_ (by decide +kernel) rfl k
def jT152 : List (List Nat) := tst jT151 135 2 147
theorem iv_47 {L fr lo : Nat} {σ : mG} {Φ : mcPost} (hfr : 3 ≤ fr) (hlo : 120 ≤ lo) (k : Φ (.inl none) (tb jT152) (jS16 σ) 152 13560) : mcE L fr lo M_Client_init 0 (mcEnt M_Client_init.2.2.1 [mr 135]) [] (tb jT136) (jS13 σ) 136 13449 Φ := by
  show mcE L fr lo M_Client_init 0 [some (mr 135), none] [] (tb jT136) (jS13 σ) 136 13449 Φ
  refine mc_aload_n (j := 0) (by decide +kernel) rfl ?_
  show mcE L fr lo M_Client_init 1 [some (mr 135), none] [mr 135] (tb jT136) (jS13 σ) 136 13449 Φ
  refine mc_objInit (idx := 3) (by decide +kernel) (List.mem_of_getElem? (i := 319) (by decide +kernel)) (List.mem_of_getElem? (i := 77) (by decide +kernel)) (List.mem_of_getElem? (i := 78) (by decide +kernel)) (by omega) (show 0 + 12 ≤ lo by omega) ?_
  show mcE L fr lo M_Client_init 4 [some (mr 135), none] [] (tb jT136) (jS13 σ) 136 13449 Φ
  refine mc_aload_n (j := 0) (by decide +kernel) rfl ?_
  show mcE L fr lo M_Client_init 5 [some (mr 135), none] [mr 135] (tb jT136) (jS13 σ) 136 13449 Φ
  refine mc_iconst (i := 3) (by decide +kernel) ?_
  show mcE L fr lo M_Client_init 6 [some (mr 135), none] [mi 3, mr 135] (tb jT136) (jS13 σ) 136 13449 Φ
  refine mc_anewarray (idx := 9) (t := 6) (len := 3) (C := "SlotServer$Desk") (by decide +kernel) (by decide) rfl (List.mem_of_getElem? (i := 320) (by decide +kernel)) (List.mem_of_getElem? (i := 321) (by decide +kernel)) rfl rfl (by decide) (by decide) (by decide) ?_
  show mcE L fr lo M_Client_init 9 [some (mr 135), none] [mr 136, mr 135] (tb jT136) (jS13 σ) 137 13452 Φ
  refine mc_putR (idx := 11) (ci := 8) (k := 0) (by decide +kernel) ⟨mcFdB_spec (w := 351) (by decide +kernel), rfl, finOk_spec (by decide +kernel)⟩ (by decide) (by decide) rfl ?_
  rw [show upc (tb jT136) 135 (upi (tb jT136 135) ((0 : Nat) : Int) (some 136)) = tb jT137 from tb_put (a := 134) (k := 0) (t := 135) (by decide +kernel) (by decide +kernel)]
  show mcE L fr lo M_Client_init 12 [some (mr 135), none] [] (tb jT137) (jS13 σ) 137 13452 Φ
  refine mc_iconst (i := 0) (by decide +kernel) ?_
  show mcE L fr lo M_Client_init 13 [some (mr 135), none] [mi 0] (tb jT137) (jS13 σ) 137 13452 Φ
  refine mc_istore_n (j := 1) (by decide +kernel) (by decide) ?_
  show mcE L fr lo M_Client_init 14 [some (mr 135), some (mi 0)] [] (tb jT137) (jS13 σ) 137 13452 Φ
  refine mc_iload_n (j := 1) (by decide +kernel) rfl ?_
  show mcE L fr lo M_Client_init 15 [some (mr 135), some (mi 0)] [mi 0] (tb jT137) (jS13 σ) 137 13452 Φ
  refine mc_iconst (i := 3) (by decide +kernel) ?_
  show mcE L fr lo M_Client_init 16 [some (mr 135), some (mi 0)] [mi 3, mi 0] (tb jT137) (jS13 σ) 137 13452 Φ
  refine mc_icmp_ge (off := 22) (by decide +kernel) (by decide) (by unfold in32; decide) (by unfold in32; decide) (fun w => absurd w (by decide)) (fun _ => ?_)
  show mcE L fr lo M_Client_init 19 [some (mr 135), some (mi 0)] [] (tb jT137) (jS13 σ) 137 13452 Φ
  refine mc_aload_n (j := 0) (by decide +kernel) rfl ?_
  show mcE L fr lo M_Client_init 20 [some (mr 135), some (mi 0)] [mr 135] (tb jT137) (jS13 σ) 137 13452 Φ
  refine mc_getR (idx := 11) (ci := 8) (k := 0) (t := 136) (by decide +kernel) (mcFdB_spec (w := 351) (by decide +kernel)) (by decide) (by decide) rfl (show tb jT137 135 ((0 : Nat) : Int) = some 136 by decide +kernel) ?_
  show mcE L fr lo M_Client_init 23 [some (mr 135), some (mi 0)] [mr 136] (tb jT137) (jS13 σ) 137 13452 Φ
  refine mc_iload_n (j := 1) (by decide +kernel) rfl ?_
  show mcE L fr lo M_Client_init 24 [some (mr 135), some (mi 0)] [mi 0, mr 136] (tb jT137) (jS13 σ) 137 13452 Φ
  refine mc_new (idx := 9) (ci := 7) (N := 5) (by decide +kernel) ⟨_, _, _, rfl, rfl, (List.mem_of_getElem? (i := 320) (by decide +kernel)), (List.mem_of_getElem? (i := 322) (by decide +kernel)), (List.mem_of_getElem? (i := 62) (by decide +kernel))⟩ rfl (by decide) (by decide) ?_
  show mcE L fr lo M_Client_init 27 [some (mr 135), some (mi 0)] [mr 137, mi 0, mr 136] (tb jT137) (jS13 σ) 138 13457 Φ
  refine mc_dup (by decide +kernel) rfl ?_
  show mcE L fr lo M_Client_init 28 [some (mr 135), some (mi 0)] [mr 137, mr 137, mi 0, mr 136] (tb jT137) (jS13 σ) 138 13457 Φ
  refine mc_init (M' := M_Desk_init) (fr' := fr - 1) (lo' := lo - 40) (idx := 17) (a := 137) (vs := []) (by decide +kernel) (List.mem_of_getElem? (i := 323) (by decide +kernel)) (List.mem_of_getElem? (i := 324) (by decide +kernel)) (List.mem_of_getElem? (i := 325) (by decide +kernel)) rfl (mcCdB_spec (wi := 62) (wc := 325) (by decide +kernel)) (Or.inl rfl) (mcArB_spec (by decide +kernel)) (by decide) (by omega) (show 3 + (1 + 11) + (lo - 40) ≤ lo by omega) (by decide) ?_
  refine iv_42 (by omega) (by omega) ?_
  show mcE L fr lo M_Client_init 31 [some (mr 135), some (mi 0)] [mr 137, mi 0, mr 136] (tb jT141) (jS14 σ) 142 13488 Φ
  refine mc_aastore (a := 136) (u := 137) (x := 0) (by decide +kernel) (by decide) (by decide) (by decide) rfl (by decide) (by decide) (by decide) rfl rfl rfl ?_
  rw [show upc (tb jT141) 136 (upi (tb jT141 136) (0 : Int) (some 137)) = tb jT142 from tb_put (a := 135) (k := 0) (t := 136) (by decide +kernel) (by decide +kernel)]
  show mcE L fr lo M_Client_init 32 [some (mr 135), some (mi 0)] [] (tb jT142) (jS14 σ) 142 13488 Φ
  refine mc_iinc (i := 1) (q := 1) (by decide +kernel) rfl (by decide) ?_
  show mcE L fr lo M_Client_init 35 [some (mr 135), some (mi 1)] [] (tb jT142) (jS14 σ) 142 13488 Φ
  refine mc_goto (off := -21) (by decide +kernel) (by decide) ?_
  show mcE L fr lo M_Client_init 14 [some (mr 135), some (mi 1)] [] (tb jT142) (jS14 σ) 142 13488 Φ
  refine mc_iload_n (j := 1) (by decide +kernel) rfl ?_
  show mcE L fr lo M_Client_init 15 [some (mr 135), some (mi 1)] [mi 1] (tb jT142) (jS14 σ) 142 13488 Φ
  refine mc_iconst (i := 3) (by decide +kernel) ?_
  show mcE L fr lo M_Client_init 16 [some (mr 135), some (mi 1)] [mi 3, mi 1] (tb jT142) (jS14 σ) 142 13488 Φ
  refine mc_icmp_ge (off := 22) (by decide +kernel) (by decide) (by unfold in32; decide) (by unfold in32; decide) (fun w => absurd w (by decide)) (fun _ => ?_)
  show mcE L fr lo M_Client_init 19 [some (mr 135), some (mi 1)] [] (tb jT142) (jS14 σ) 142 13488 Φ
  refine mc_aload_n (j := 0) (by decide +kernel) rfl ?_
  show mcE L fr lo M_Client_init 20 [some (mr 135), some (mi 1)] [mr 135] (tb jT142) (jS14 σ) 142 13488 Φ
  refine mc_getR (idx := 11) (ci := 8) (k := 0) (t := 136) (by decide +kernel) (mcFdB_spec (w := 351) (by decide +kernel)) (by decide) (by decide) rfl (show tb jT142 135 ((0 : Nat) : Int) = some 136 by decide +kernel) ?_
  show mcE L fr lo M_Client_init 23 [some (mr 135), some (mi 1)] [mr 136] (tb jT142) (jS14 σ) 142 13488 Φ
  refine mc_iload_n (j := 1) (by decide +kernel) rfl ?_
  show mcE L fr lo M_Client_init 24 [some (mr 135), some (mi 1)] [mi 1, mr 136] (tb jT142) (jS14 σ) 142 13488 Φ
  refine mc_new (idx := 9) (ci := 7) (N := 5) (by decide +kernel) ⟨_, _, _, rfl, rfl, (List.mem_of_getElem? (i := 320) (by decide +kernel)), (List.mem_of_getElem? (i := 322) (by decide +kernel)), (List.mem_of_getElem? (i := 62) (by decide +kernel))⟩ rfl (by decide) (by decide) ?_
  show mcE L fr lo M_Client_init 27 [some (mr 135), some (mi 1)] [mr 142, mi 1, mr 136] (tb jT142) (jS14 σ) 143 13493 Φ
  refine mc_dup (by decide +kernel) rfl ?_
  show mcE L fr lo M_Client_init 28 [some (mr 135), some (mi 1)] [mr 142, mr 142, mi 1, mr 136] (tb jT142) (jS14 σ) 143 13493 Φ
  refine mc_init (M' := M_Desk_init) (fr' := fr - 1) (lo' := lo - 40) (idx := 17) (a := 142) (vs := []) (by decide +kernel) (List.mem_of_getElem? (i := 323) (by decide +kernel)) (List.mem_of_getElem? (i := 324) (by decide +kernel)) (List.mem_of_getElem? (i := 325) (by decide +kernel)) rfl (mcCdB_spec (wi := 62) (wc := 325) (by decide +kernel)) (Or.inl rfl) (mcArB_spec (by decide +kernel)) (by decide) (by omega) (show 3 + (1 + 11) + (lo - 40) ≤ lo by omega) (by decide) ?_
  refine iv_44 (by omega) (by omega) ?_
  show mcE L fr lo M_Client_init 31 [some (mr 135), some (mi 1)] [mr 142, mi 1, mr 136] (tb jT146) (jS15 σ) 147 13524 Φ
  refine mc_aastore (a := 136) (u := 142) (x := 1) (by decide +kernel) (by decide) (by decide) (by decide) rfl (by decide) (by decide) (by decide) rfl rfl rfl ?_
  rw [show upc (tb jT146) 136 (upi (tb jT146 136) (1 : Int) (some 142)) = tb jT147 from tb_put (a := 135) (k := 1) (t := 141) (by decide +kernel) (by decide +kernel)]
  show mcE L fr lo M_Client_init 32 [some (mr 135), some (mi 1)] [] (tb jT147) (jS15 σ) 147 13524 Φ
  refine mc_iinc (i := 1) (q := 1) (by decide +kernel) rfl (by decide) ?_
  show mcE L fr lo M_Client_init 35 [some (mr 135), some (mi 2)] [] (tb jT147) (jS15 σ) 147 13524 Φ
  refine mc_goto (off := -21) (by decide +kernel) (by decide) ?_
  show mcE L fr lo M_Client_init 14 [some (mr 135), some (mi 2)] [] (tb jT147) (jS15 σ) 147 13524 Φ
  refine mc_iload_n (j := 1) (by decide +kernel) rfl ?_
  show mcE L fr lo M_Client_init 15 [some (mr 135), some (mi 2)] [mi 2] (tb jT147) (jS15 σ) 147 13524 Φ
  refine mc_iconst (i := 3) (by decide +kernel) ?_
  show mcE L fr lo M_Client_init 16 [some (mr 135), some (mi 2)] [mi 3, mi 2] (tb jT147) (jS15 σ) 147 13524 Φ
  refine mc_icmp_ge (off := 22) (by decide +kernel) (by decide) (by unfold in32; decide) (by unfold in32; decide) (fun w => absurd w (by decide)) (fun _ => ?_)
  show mcE L fr lo M_Client_init 19 [some (mr 135), some (mi 2)] [] (tb jT147) (jS15 σ) 147 13524 Φ
  refine mc_aload_n (j := 0) (by decide +kernel) rfl ?_
  show mcE L fr lo M_Client_init 20 [some (mr 135), some (mi 2)] [mr 135] (tb jT147) (jS15 σ) 147 13524 Φ
  refine mc_getR (idx := 11) (ci := 8) (k := 0) (t := 136) (by decide +kernel) (mcFdB_spec (w := 351) (by decide +kernel)) (by decide) (by decide) rfl (show tb jT147 135 ((0 : Nat) : Int) = some 136 by decide +kernel) ?_
  show mcE L fr lo M_Client_init 23 [some (mr 135), some (mi 2)] [mr 136] (tb jT147) (jS15 σ) 147 13524 Φ
  refine mc_iload_n (j := 1) (by decide +kernel) rfl ?_
  show mcE L fr lo M_Client_init 24 [some (mr 135), some (mi 2)] [mi 2, mr 136] (tb jT147) (jS15 σ) 147 13524 Φ
  refine mc_new (idx := 9) (ci := 7) (N := 5) (by decide +kernel) ⟨_, _, _, rfl, rfl, (List.mem_of_getElem? (i := 320) (by decide +kernel)), (List.mem_of_getElem? (i := 322) (by decide +kernel)), (List.mem_of_getElem? (i := 62) (by decide +kernel))⟩ rfl (by decide) (by decide) ?_
  show mcE L fr lo M_Client_init 27 [some (mr 135), some (mi 2)] [mr 147, mi 2, mr 136] (tb jT147) (jS15 σ) 148 13529 Φ
  refine mc_dup (by decide +kernel) rfl ?_
  show mcE L fr lo M_Client_init 28 [some (mr 135), some (mi 2)] [mr 147, mr 147, mi 2, mr 136] (tb jT147) (jS15 σ) 148 13529 Φ
  refine mc_init (M' := M_Desk_init) (fr' := fr - 1) (lo' := lo - 40) (idx := 17) (a := 147) (vs := []) (by decide +kernel) (List.mem_of_getElem? (i := 323) (by decide +kernel)) (List.mem_of_getElem? (i := 324) (by decide +kernel)) (List.mem_of_getElem? (i := 325) (by decide +kernel)) rfl (mcCdB_spec (wi := 62) (wc := 325) (by decide +kernel)) (Or.inl rfl) (mcArB_spec (by decide +kernel)) (by decide) (by omega) (show 3 + (1 + 11) + (lo - 40) ≤ lo by omega) (by decide) ?_
  refine iv_46 (by omega) (by omega) ?_
  show mcE L fr lo M_Client_init 31 [some (mr 135), some (mi 2)] [mr 147, mi 2, mr 136] (tb jT151) (jS16 σ) 152 13560 Φ
  refine mc_aastore (a := 136) (u := 147) (x := 2) (by decide +kernel) (by decide) (by decide) (by decide) rfl (by decide) (by decide) (by decide) rfl rfl rfl ?_
  rw [show upc (tb jT151) 136 (upi (tb jT151 136) (2 : Int) (some 147)) = tb jT152 from tb_put (a := 135) (k := 2) (t := 146) (by decide +kernel) (by decide +kernel)]
  show mcE L fr lo M_Client_init 32 [some (mr 135), some (mi 2)] [] (tb jT152) (jS16 σ) 152 13560 Φ
  refine mc_iinc (i := 1) (q := 1) (by decide +kernel) rfl (by decide) ?_
  show mcE L fr lo M_Client_init 35 [some (mr 135), some (mi 3)] [] (tb jT152) (jS16 σ) 152 13560 Φ
  refine mc_goto (off := -21) (by decide +kernel) (by decide) ?_
  show mcE L fr lo M_Client_init 14 [some (mr 135), some (mi 3)] [] (tb jT152) (jS16 σ) 152 13560 Φ
  refine mc_iload_n (j := 1) (by decide +kernel) rfl ?_
  show mcE L fr lo M_Client_init 15 [some (mr 135), some (mi 3)] [mi 3] (tb jT152) (jS16 σ) 152 13560 Φ
  refine mc_iconst (i := 3) (by decide +kernel) ?_
  show mcE L fr lo M_Client_init 16 [some (mr 135), some (mi 3)] [mi 3, mi 3] (tb jT152) (jS16 σ) 152 13560 Φ
  refine mc_icmp_ge (off := 22) (by decide +kernel) (by decide) (by unfold in32; decide) (by unfold in32; decide) (fun _ => ?_) (fun w => absurd (by decide) w)
  show mcE L fr lo M_Client_init 38 [some (mr 135), some (mi 3)] [] (tb jT152) (jS16 σ) 152 13560 Φ
  exact mc_return_ (by decide +kernel) rfl k
def jT153 : List (List Nat) := tst jT152 1 1 135
def jT154 : List (List Nat) := tst jT153 151 0 153
def jT155 : List (List Nat) := tst jT154 153 0 155
def jT156 : List (List Nat) := tst jT155 155 0 157
def jT157 : List (List Nat) := tst jT156 155 1 158
theorem iv_48 {L fr lo : Nat} {σ : mG} {Φ : mcPost} (hfr : 1 ≤ fr) (hlo : 40 ≤ lo) (k : Φ (.inl none) (tb jT157) (jS16 σ) 159 13601) : mcE L fr lo M_Answer_init 0 (mcEnt M_Answer_init.2.2.1 [mr 156]) [] (tb jT155) (jS16 σ) 157 13593 Φ := by
  show mcE L fr lo M_Answer_init 0 [some (mr 156)] [] (tb jT155) (jS16 σ) 157 13593 Φ
  refine mc_aload_n (j := 0) (by decide +kernel) rfl ?_
  show mcE L fr lo M_Answer_init 1 [some (mr 156)] [mr 156] (tb jT155) (jS16 σ) 157 13593 Φ
  refine mc_objInit (idx := 3) (by decide +kernel) (List.mem_of_getElem? (i := 202) (by decide +kernel)) (List.mem_of_getElem? (i := 77) (by decide +kernel)) (List.mem_of_getElem? (i := 78) (by decide +kernel)) (by omega) (show 0 + 12 ≤ lo by omega) ?_
  show mcE L fr lo M_Answer_init 4 [some (mr 156)] [] (tb jT155) (jS16 σ) 157 13593 Φ
  refine mc_aload_n (j := 0) (by decide +kernel) rfl ?_
  show mcE L fr lo M_Answer_init 5 [some (mr 156)] [mr 156] (tb jT155) (jS16 σ) 157 13593 Φ
  refine mc_iconst (i := 4) (by decide +kernel) ?_
  show mcE L fr lo M_Answer_init 6 [some (mr 156)] [mi 4, mr 156] (tb jT155) (jS16 σ) 157 13593 Φ
  refine mc_newarray (at' := .int) (t := 0) (len := 4) (by decide +kernel) (by decide) rfl (List.mem_of_getElem? (i := 120) (by decide +kernel)) rfl rfl (by decide) (by decide) ?_
  show mcE L fr lo M_Answer_init 8 [some (mr 156)] [mr 157, mr 156] (tb jT155) (jS16 σ) 158 13597 Φ
  refine mc_putR (idx := 9) (ci := 3) (k := 0) (by decide +kernel) ⟨mcFdB_spec (w := 203) (by decide +kernel), rfl, finOk_spec (by decide +kernel)⟩ (by decide) (by decide) rfl ?_
  rw [show upc (tb jT155) 156 (upi (tb jT155 156) ((0 : Nat) : Int) (some 157)) = tb jT156 from tb_put (a := 155) (k := 0) (t := 156) (by decide +kernel) (by decide +kernel)]
  show mcE L fr lo M_Answer_init 11 [some (mr 156)] [] (tb jT156) (jS16 σ) 158 13597 Φ
  refine mc_aload_n (j := 0) (by decide +kernel) rfl ?_
  show mcE L fr lo M_Answer_init 12 [some (mr 156)] [mr 156] (tb jT156) (jS16 σ) 158 13597 Φ
  refine mc_iconst (i := 4) (by decide +kernel) ?_
  show mcE L fr lo M_Answer_init 13 [some (mr 156)] [mi 4, mr 156] (tb jT156) (jS16 σ) 158 13597 Φ
  refine mc_newarray (at' := .int) (t := 0) (len := 4) (by decide +kernel) (by decide) rfl (List.mem_of_getElem? (i := 120) (by decide +kernel)) rfl rfl (by decide) (by decide) ?_
  show mcE L fr lo M_Answer_init 15 [some (mr 156)] [mr 158, mr 156] (tb jT156) (jS16 σ) 159 13601 Φ
  refine mc_putR (idx := 15) (ci := 3) (k := 1) (by decide +kernel) ⟨mcFdB_spec (w := 205) (by decide +kernel), rfl, finOk_spec (by decide +kernel)⟩ (by decide) (by decide) rfl ?_
  rw [show upc (tb jT156) 156 (upi (tb jT156 156) ((1 : Nat) : Int) (some 158)) = tb jT157 from tb_put (a := 155) (k := 1) (t := 157) (by decide +kernel) (by decide +kernel)]
  show mcE L fr lo M_Answer_init 18 [some (mr 156)] [] (tb jT157) (jS16 σ) 159 13601 Φ
  exact mc_return_ (by decide +kernel) rfl k
def jT158 : List (List Nat) := tst jT157 153 1 156
def jS17 (σ : mG) : mG := upc (jS16 σ) 154 (upi ((jS16 σ) 154) 2 0)
theorem iv_49 {L fr lo : Nat} {σ : mG} {Φ : mcPost} (hfr : 2 ≤ fr) (hlo : 80 ≤ lo) (k : Φ (.inl none) (tb jT158) (jS17 σ) 159 13601) : mcE L fr lo M_Desk_init 0 (mcEnt M_Desk_init.2.2.1 [mr 154]) [] (tb jT154) (jS16 σ) 155 13570 Φ := by
  show mcE L fr lo M_Desk_init 0 [some (mr 154)] [] (tb jT154) (jS16 σ) 155 13570 Φ
  refine mc_aload_n (j := 0) (by decide +kernel) rfl ?_
  show mcE L fr lo M_Desk_init 1 [some (mr 154)] [mr 154] (tb jT154) (jS16 σ) 155 13570 Φ
  refine mc_objInit (idx := 3) (by decide +kernel) (List.mem_of_getElem? (i := 326) (by decide +kernel)) (List.mem_of_getElem? (i := 77) (by decide +kernel)) (List.mem_of_getElem? (i := 78) (by decide +kernel)) (by omega) (show 0 + 12 ≤ lo by omega) ?_
  show mcE L fr lo M_Desk_init 4 [some (mr 154)] [] (tb jT154) (jS16 σ) 155 13570 Φ
  refine mc_aload_n (j := 0) (by decide +kernel) rfl ?_
  show mcE L fr lo M_Desk_init 5 [some (mr 154)] [mr 154] (tb jT154) (jS16 σ) 155 13570 Φ
  refine mc_bipush (i := 20) (by decide +kernel) (by decide) ?_
  show mcE L fr lo M_Desk_init 7 [some (mr 154)] [mi 20, mr 154] (tb jT154) (jS16 σ) 155 13570 Φ
  refine mc_newarray (at' := .int) (t := 0) (len := 20) (by decide +kernel) (by decide) rfl (List.mem_of_getElem? (i := 120) (by decide +kernel)) rfl rfl (by decide) (by decide) ?_
  show mcE L fr lo M_Desk_init 9 [some (mr 154)] [mr 155, mr 154] (tb jT154) (jS16 σ) 156 13590 Φ
  refine mc_putR (idx := 9) (ci := 7) (k := 0) (by decide +kernel) ⟨mcFdB_spec (w := 329) (by decide +kernel), rfl, finOk_spec (by decide +kernel)⟩ (by decide) (by decide) rfl ?_
  rw [show upc (tb jT154) 154 (upi (tb jT154 154) ((0 : Nat) : Int) (some 155)) = tb jT155 from tb_put (a := 153) (k := 0) (t := 154) (by decide +kernel) (by decide +kernel)]
  show mcE L fr lo M_Desk_init 12 [some (mr 154)] [] (tb jT155) (jS16 σ) 156 13590 Φ
  refine mc_aload_n (j := 0) (by decide +kernel) rfl ?_
  show mcE L fr lo M_Desk_init 13 [some (mr 154)] [mr 154] (tb jT155) (jS16 σ) 156 13590 Φ
  refine mc_new (idx := 15) (ci := 3) (N := 3) (by decide +kernel) ⟨_, _, _, rfl, rfl, (List.mem_of_getElem? (i := 327) (by decide +kernel)), (List.mem_of_getElem? (i := 198) (by decide +kernel)), (List.mem_of_getElem? (i := 60) (by decide +kernel))⟩ rfl (by decide) (by decide) ?_
  show mcE L fr lo M_Desk_init 16 [some (mr 154)] [mr 156, mr 154] (tb jT155) (jS16 σ) 157 13593 Φ
  refine mc_dup (by decide +kernel) rfl ?_
  show mcE L fr lo M_Desk_init 17 [some (mr 154)] [mr 156, mr 156, mr 154] (tb jT155) (jS16 σ) 157 13593 Φ
  refine mc_init (M' := M_Answer_init) (fr' := fr - 1) (lo' := lo - 40) (idx := 17) (a := 156) (vs := []) (by decide +kernel) (List.mem_of_getElem? (i := 328) (by decide +kernel)) (List.mem_of_getElem? (i := 200) (by decide +kernel)) (List.mem_of_getElem? (i := 201) (by decide +kernel)) rfl (mcCdB_spec (wi := 60) (wc := 201) (by decide +kernel)) (Or.inl rfl) (mcArB_spec (by decide +kernel)) (by decide) (by omega) (show 2 + (1 + 11) + (lo - 40) ≤ lo by omega) (by decide) ?_
  refine iv_48 (by omega) (by omega) ?_
  show mcE L fr lo M_Desk_init 20 [some (mr 154)] [mr 156, mr 154] (tb jT157) (jS16 σ) 159 13601 Φ
  refine mc_putR (idx := 18) (ci := 7) (k := 1) (by decide +kernel) ⟨mcFdB_spec (w := 331) (by decide +kernel), rfl, finOk_spec (by decide +kernel)⟩ (by decide) (by decide) rfl ?_
  rw [show upc (tb jT157) 154 (upi (tb jT157 154) ((1 : Nat) : Int) (some 156)) = tb jT158 from tb_put (a := 153) (k := 1) (t := 155) (by decide +kernel) (by decide +kernel)]
  show mcE L fr lo M_Desk_init 23 [some (mr 154)] [] (tb jT158) (jS16 σ) 159 13601 Φ
  refine mc_aload_n (j := 0) (by decide +kernel) rfl ?_
  show mcE L fr lo M_Desk_init 24 [some (mr 154)] [mr 154] (tb jT158) (jS16 σ) 159 13601 Φ
  refine mc_iconst (i := 0) (by decide +kernel) ?_
  show mcE L fr lo M_Desk_init 25 [some (mr 154)] [mi 0, mr 154] (tb jT158) (jS16 σ) 159 13601 Φ
  refine mc_putI (idx := 22) (ci := 7) (k := 2) (kd := 0) (by decide +kernel) ⟨mcFdB_spec (w := 333) (by decide +kernel), mcNfB_spec (by decide +kernel)⟩ (by decide) (by decide) (by decide) rfl (by unfold in32; decide) (by decide) ?_
  show mcE L fr lo M_Desk_init 28 [some (mr 154)] [] (tb jT158) (jS17 σ) 159 13601 Φ
  exact mc_return_ (by decide +kernel) rfl k
def jT159 : List (List Nat) := tst jT158 152 0 154
def jT160 : List (List Nat) := tst jT159 158 0 160
def jT161 : List (List Nat) := tst jT160 160 0 162
def jT162 : List (List Nat) := tst jT161 160 1 163
theorem iv_50 {L fr lo : Nat} {σ : mG} {Φ : mcPost} (hfr : 1 ≤ fr) (hlo : 40 ≤ lo) (k : Φ (.inl none) (tb jT162) (jS17 σ) 164 13637) : mcE L fr lo M_Answer_init 0 (mcEnt M_Answer_init.2.2.1 [mr 161]) [] (tb jT160) (jS17 σ) 162 13629 Φ := by
  show mcE L fr lo M_Answer_init 0 [some (mr 161)] [] (tb jT160) (jS17 σ) 162 13629 Φ
  refine mc_aload_n (j := 0) (by decide +kernel) rfl ?_
  show mcE L fr lo M_Answer_init 1 [some (mr 161)] [mr 161] (tb jT160) (jS17 σ) 162 13629 Φ
  refine mc_objInit (idx := 3) (by decide +kernel) (List.mem_of_getElem? (i := 202) (by decide +kernel)) (List.mem_of_getElem? (i := 77) (by decide +kernel)) (List.mem_of_getElem? (i := 78) (by decide +kernel)) (by omega) (show 0 + 12 ≤ lo by omega) ?_
  show mcE L fr lo M_Answer_init 4 [some (mr 161)] [] (tb jT160) (jS17 σ) 162 13629 Φ
  refine mc_aload_n (j := 0) (by decide +kernel) rfl ?_
  show mcE L fr lo M_Answer_init 5 [some (mr 161)] [mr 161] (tb jT160) (jS17 σ) 162 13629 Φ
  refine mc_iconst (i := 4) (by decide +kernel) ?_
  show mcE L fr lo M_Answer_init 6 [some (mr 161)] [mi 4, mr 161] (tb jT160) (jS17 σ) 162 13629 Φ
  refine mc_newarray (at' := .int) (t := 0) (len := 4) (by decide +kernel) (by decide) rfl (List.mem_of_getElem? (i := 120) (by decide +kernel)) rfl rfl (by decide) (by decide) ?_
  show mcE L fr lo M_Answer_init 8 [some (mr 161)] [mr 162, mr 161] (tb jT160) (jS17 σ) 163 13633 Φ
  refine mc_putR (idx := 9) (ci := 3) (k := 0) (by decide +kernel) ⟨mcFdB_spec (w := 203) (by decide +kernel), rfl, finOk_spec (by decide +kernel)⟩ (by decide) (by decide) rfl ?_
  rw [show upc (tb jT160) 161 (upi (tb jT160 161) ((0 : Nat) : Int) (some 162)) = tb jT161 from tb_put (a := 160) (k := 0) (t := 161) (by decide +kernel) (by decide +kernel)]
  show mcE L fr lo M_Answer_init 11 [some (mr 161)] [] (tb jT161) (jS17 σ) 163 13633 Φ
  refine mc_aload_n (j := 0) (by decide +kernel) rfl ?_
  show mcE L fr lo M_Answer_init 12 [some (mr 161)] [mr 161] (tb jT161) (jS17 σ) 163 13633 Φ
  refine mc_iconst (i := 4) (by decide +kernel) ?_
  show mcE L fr lo M_Answer_init 13 [some (mr 161)] [mi 4, mr 161] (tb jT161) (jS17 σ) 163 13633 Φ
  refine mc_newarray (at' := .int) (t := 0) (len := 4) (by decide +kernel) (by decide) rfl (List.mem_of_getElem? (i := 120) (by decide +kernel)) rfl rfl (by decide) (by decide) ?_
  show mcE L fr lo M_Answer_init 15 [some (mr 161)] [mr 163, mr 161] (tb jT161) (jS17 σ) 164 13637 Φ
  refine mc_putR (idx := 15) (ci := 3) (k := 1) (by decide +kernel) ⟨mcFdB_spec (w := 205) (by decide +kernel), rfl, finOk_spec (by decide +kernel)⟩ (by decide) (by decide) rfl ?_
  rw [show upc (tb jT161) 161 (upi (tb jT161 161) ((1 : Nat) : Int) (some 163)) = tb jT162 from tb_put (a := 160) (k := 1) (t := 162) (by decide +kernel) (by decide +kernel)]
  show mcE L fr lo M_Answer_init 18 [some (mr 161)] [] (tb jT162) (jS17 σ) 164 13637 Φ
  exact mc_return_ (by decide +kernel) rfl k
def jT163 : List (List Nat) := tst jT162 158 1 161
def jS18 (σ : mG) : mG := upc (jS17 σ) 159 (upi ((jS17 σ) 159) 2 0)
theorem iv_51 {L fr lo : Nat} {σ : mG} {Φ : mcPost} (hfr : 2 ≤ fr) (hlo : 80 ≤ lo) (k : Φ (.inl none) (tb jT163) (jS18 σ) 164 13637) : mcE L fr lo M_Desk_init 0 (mcEnt M_Desk_init.2.2.1 [mr 159]) [] (tb jT159) (jS17 σ) 160 13606 Φ := by
  show mcE L fr lo M_Desk_init 0 [some (mr 159)] [] (tb jT159) (jS17 σ) 160 13606 Φ
  refine mc_aload_n (j := 0) (by decide +kernel) rfl ?_
  show mcE L fr lo M_Desk_init 1 [some (mr 159)] [mr 159] (tb jT159) (jS17 σ) 160 13606 Φ
  refine mc_objInit (idx := 3) (by decide +kernel) (List.mem_of_getElem? (i := 326) (by decide +kernel)) (List.mem_of_getElem? (i := 77) (by decide +kernel)) (List.mem_of_getElem? (i := 78) (by decide +kernel)) (by omega) (show 0 + 12 ≤ lo by omega) ?_
  show mcE L fr lo M_Desk_init 4 [some (mr 159)] [] (tb jT159) (jS17 σ) 160 13606 Φ
  refine mc_aload_n (j := 0) (by decide +kernel) rfl ?_
  show mcE L fr lo M_Desk_init 5 [some (mr 159)] [mr 159] (tb jT159) (jS17 σ) 160 13606 Φ
  refine mc_bipush (i := 20) (by decide +kernel) (by decide) ?_
  show mcE L fr lo M_Desk_init 7 [some (mr 159)] [mi 20, mr 159] (tb jT159) (jS17 σ) 160 13606 Φ
  refine mc_newarray (at' := .int) (t := 0) (len := 20) (by decide +kernel) (by decide) rfl (List.mem_of_getElem? (i := 120) (by decide +kernel)) rfl rfl (by decide) (by decide) ?_
  show mcE L fr lo M_Desk_init 9 [some (mr 159)] [mr 160, mr 159] (tb jT159) (jS17 σ) 161 13626 Φ
  refine mc_putR (idx := 9) (ci := 7) (k := 0) (by decide +kernel) ⟨mcFdB_spec (w := 329) (by decide +kernel), rfl, finOk_spec (by decide +kernel)⟩ (by decide) (by decide) rfl ?_
  rw [show upc (tb jT159) 159 (upi (tb jT159 159) ((0 : Nat) : Int) (some 160)) = tb jT160 from tb_put (a := 158) (k := 0) (t := 159) (by decide +kernel) (by decide +kernel)]
  show mcE L fr lo M_Desk_init 12 [some (mr 159)] [] (tb jT160) (jS17 σ) 161 13626 Φ
  refine mc_aload_n (j := 0) (by decide +kernel) rfl ?_
  show mcE L fr lo M_Desk_init 13 [some (mr 159)] [mr 159] (tb jT160) (jS17 σ) 161 13626 Φ
  refine mc_new (idx := 15) (ci := 3) (N := 3) (by decide +kernel) ⟨_, _, _, rfl, rfl, (List.mem_of_getElem? (i := 327) (by decide +kernel)), (List.mem_of_getElem? (i := 198) (by decide +kernel)), (List.mem_of_getElem? (i := 60) (by decide +kernel))⟩ rfl (by decide) (by decide) ?_
  show mcE L fr lo M_Desk_init 16 [some (mr 159)] [mr 161, mr 159] (tb jT160) (jS17 σ) 162 13629 Φ
  refine mc_dup (by decide +kernel) rfl ?_
  show mcE L fr lo M_Desk_init 17 [some (mr 159)] [mr 161, mr 161, mr 159] (tb jT160) (jS17 σ) 162 13629 Φ
  refine mc_init (M' := M_Answer_init) (fr' := fr - 1) (lo' := lo - 40) (idx := 17) (a := 161) (vs := []) (by decide +kernel) (List.mem_of_getElem? (i := 328) (by decide +kernel)) (List.mem_of_getElem? (i := 200) (by decide +kernel)) (List.mem_of_getElem? (i := 201) (by decide +kernel)) rfl (mcCdB_spec (wi := 60) (wc := 201) (by decide +kernel)) (Or.inl rfl) (mcArB_spec (by decide +kernel)) (by decide) (by omega) (show 2 + (1 + 11) + (lo - 40) ≤ lo by omega) (by decide) ?_
  refine iv_50 (by omega) (by omega) ?_
  show mcE L fr lo M_Desk_init 20 [some (mr 159)] [mr 161, mr 159] (tb jT162) (jS17 σ) 164 13637 Φ
  refine mc_putR (idx := 18) (ci := 7) (k := 1) (by decide +kernel) ⟨mcFdB_spec (w := 331) (by decide +kernel), rfl, finOk_spec (by decide +kernel)⟩ (by decide) (by decide) rfl ?_
  rw [show upc (tb jT162) 159 (upi (tb jT162 159) ((1 : Nat) : Int) (some 161)) = tb jT163 from tb_put (a := 158) (k := 1) (t := 160) (by decide +kernel) (by decide +kernel)]
  show mcE L fr lo M_Desk_init 23 [some (mr 159)] [] (tb jT163) (jS17 σ) 164 13637 Φ
  refine mc_aload_n (j := 0) (by decide +kernel) rfl ?_
  show mcE L fr lo M_Desk_init 24 [some (mr 159)] [mr 159] (tb jT163) (jS17 σ) 164 13637 Φ
  refine mc_iconst (i := 0) (by decide +kernel) ?_
  show mcE L fr lo M_Desk_init 25 [some (mr 159)] [mi 0, mr 159] (tb jT163) (jS17 σ) 164 13637 Φ
  refine mc_putI (idx := 22) (ci := 7) (k := 2) (kd := 0) (by decide +kernel) ⟨mcFdB_spec (w := 333) (by decide +kernel), mcNfB_spec (by decide +kernel)⟩ (by decide) (by decide) (by decide) rfl (by unfold in32; decide) (by decide) ?_
  show mcE L fr lo M_Desk_init 28 [some (mr 159)] [] (tb jT163) (jS18 σ) 164 13637 Φ
  exact mc_return_ (by decide +kernel) rfl k
def jT164 : List (List Nat) := tst jT163 152 1 159
def jT165 : List (List Nat) := tst jT164 163 0 165
def jT166 : List (List Nat) := tst jT165 165 0 167
def jT167 : List (List Nat) := tst jT166 165 1 168
theorem iv_52 {L fr lo : Nat} {σ : mG} {Φ : mcPost} (hfr : 1 ≤ fr) (hlo : 40 ≤ lo) (k : Φ (.inl none) (tb jT167) (jS18 σ) 169 13673) : mcE L fr lo M_Answer_init 0 (mcEnt M_Answer_init.2.2.1 [mr 166]) [] (tb jT165) (jS18 σ) 167 13665 Φ := by
  show mcE L fr lo M_Answer_init 0 [some (mr 166)] [] (tb jT165) (jS18 σ) 167 13665 Φ
  refine mc_aload_n (j := 0) (by decide +kernel) rfl ?_
  show mcE L fr lo M_Answer_init 1 [some (mr 166)] [mr 166] (tb jT165) (jS18 σ) 167 13665 Φ
  refine mc_objInit (idx := 3) (by decide +kernel) (List.mem_of_getElem? (i := 202) (by decide +kernel)) (List.mem_of_getElem? (i := 77) (by decide +kernel)) (List.mem_of_getElem? (i := 78) (by decide +kernel)) (by omega) (show 0 + 12 ≤ lo by omega) ?_
  show mcE L fr lo M_Answer_init 4 [some (mr 166)] [] (tb jT165) (jS18 σ) 167 13665 Φ
  refine mc_aload_n (j := 0) (by decide +kernel) rfl ?_
  show mcE L fr lo M_Answer_init 5 [some (mr 166)] [mr 166] (tb jT165) (jS18 σ) 167 13665 Φ
  refine mc_iconst (i := 4) (by decide +kernel) ?_
  show mcE L fr lo M_Answer_init 6 [some (mr 166)] [mi 4, mr 166] (tb jT165) (jS18 σ) 167 13665 Φ
  refine mc_newarray (at' := .int) (t := 0) (len := 4) (by decide +kernel) (by decide) rfl (List.mem_of_getElem? (i := 120) (by decide +kernel)) rfl rfl (by decide) (by decide) ?_
  show mcE L fr lo M_Answer_init 8 [some (mr 166)] [mr 167, mr 166] (tb jT165) (jS18 σ) 168 13669 Φ
  refine mc_putR (idx := 9) (ci := 3) (k := 0) (by decide +kernel) ⟨mcFdB_spec (w := 203) (by decide +kernel), rfl, finOk_spec (by decide +kernel)⟩ (by decide) (by decide) rfl ?_
  rw [show upc (tb jT165) 166 (upi (tb jT165 166) ((0 : Nat) : Int) (some 167)) = tb jT166 from tb_put (a := 165) (k := 0) (t := 166) (by decide +kernel) (by decide +kernel)]
  show mcE L fr lo M_Answer_init 11 [some (mr 166)] [] (tb jT166) (jS18 σ) 168 13669 Φ
  refine mc_aload_n (j := 0) (by decide +kernel) rfl ?_
  show mcE L fr lo M_Answer_init 12 [some (mr 166)] [mr 166] (tb jT166) (jS18 σ) 168 13669 Φ
  refine mc_iconst (i := 4) (by decide +kernel) ?_
  show mcE L fr lo M_Answer_init 13 [some (mr 166)] [mi 4, mr 166] (tb jT166) (jS18 σ) 168 13669 Φ
  refine mc_newarray (at' := .int) (t := 0) (len := 4) (by decide +kernel) (by decide) rfl (List.mem_of_getElem? (i := 120) (by decide +kernel)) rfl rfl (by decide) (by decide) ?_
  show mcE L fr lo M_Answer_init 15 [some (mr 166)] [mr 168, mr 166] (tb jT166) (jS18 σ) 169 13673 Φ
  refine mc_putR (idx := 15) (ci := 3) (k := 1) (by decide +kernel) ⟨mcFdB_spec (w := 205) (by decide +kernel), rfl, finOk_spec (by decide +kernel)⟩ (by decide) (by decide) rfl ?_
  rw [show upc (tb jT166) 166 (upi (tb jT166 166) ((1 : Nat) : Int) (some 168)) = tb jT167 from tb_put (a := 165) (k := 1) (t := 167) (by decide +kernel) (by decide +kernel)]
  show mcE L fr lo M_Answer_init 18 [some (mr 166)] [] (tb jT167) (jS18 σ) 169 13673 Φ
  exact mc_return_ (by decide +kernel) rfl k
def jT168 : List (List Nat) := tst jT167 163 1 166
def jS19 (σ : mG) : mG := upc (jS18 σ) 164 (upi ((jS18 σ) 164) 2 0)
theorem iv_53 {L fr lo : Nat} {σ : mG} {Φ : mcPost} (hfr : 2 ≤ fr) (hlo : 80 ≤ lo) (k : Φ (.inl none) (tb jT168) (jS19 σ) 169 13673) : mcE L fr lo M_Desk_init 0 (mcEnt M_Desk_init.2.2.1 [mr 164]) [] (tb jT164) (jS18 σ) 165 13642 Φ := by
  show mcE L fr lo M_Desk_init 0 [some (mr 164)] [] (tb jT164) (jS18 σ) 165 13642 Φ
  refine mc_aload_n (j := 0) (by decide +kernel) rfl ?_
  show mcE L fr lo M_Desk_init 1 [some (mr 164)] [mr 164] (tb jT164) (jS18 σ) 165 13642 Φ
  refine mc_objInit (idx := 3) (by decide +kernel) (List.mem_of_getElem? (i := 326) (by decide +kernel)) (List.mem_of_getElem? (i := 77) (by decide +kernel)) (List.mem_of_getElem? (i := 78) (by decide +kernel)) (by omega) (show 0 + 12 ≤ lo by omega) ?_
  show mcE L fr lo M_Desk_init 4 [some (mr 164)] [] (tb jT164) (jS18 σ) 165 13642 Φ
  refine mc_aload_n (j := 0) (by decide +kernel) rfl ?_
  show mcE L fr lo M_Desk_init 5 [some (mr 164)] [mr 164] (tb jT164) (jS18 σ) 165 13642 Φ
  refine mc_bipush (i := 20) (by decide +kernel) (by decide) ?_
  show mcE L fr lo M_Desk_init 7 [some (mr 164)] [mi 20, mr 164] (tb jT164) (jS18 σ) 165 13642 Φ
  refine mc_newarray (at' := .int) (t := 0) (len := 20) (by decide +kernel) (by decide) rfl (List.mem_of_getElem? (i := 120) (by decide +kernel)) rfl rfl (by decide) (by decide) ?_
  show mcE L fr lo M_Desk_init 9 [some (mr 164)] [mr 165, mr 164] (tb jT164) (jS18 σ) 166 13662 Φ
  refine mc_putR (idx := 9) (ci := 7) (k := 0) (by decide +kernel) ⟨mcFdB_spec (w := 329) (by decide +kernel), rfl, finOk_spec (by decide +kernel)⟩ (by decide) (by decide) rfl ?_
  rw [show upc (tb jT164) 164 (upi (tb jT164 164) ((0 : Nat) : Int) (some 165)) = tb jT165 from tb_put (a := 163) (k := 0) (t := 164) (by decide +kernel) (by decide +kernel)]
  show mcE L fr lo M_Desk_init 12 [some (mr 164)] [] (tb jT165) (jS18 σ) 166 13662 Φ
  refine mc_aload_n (j := 0) (by decide +kernel) rfl ?_
  show mcE L fr lo M_Desk_init 13 [some (mr 164)] [mr 164] (tb jT165) (jS18 σ) 166 13662 Φ
  refine mc_new (idx := 15) (ci := 3) (N := 3) (by decide +kernel) ⟨_, _, _, rfl, rfl, (List.mem_of_getElem? (i := 327) (by decide +kernel)), (List.mem_of_getElem? (i := 198) (by decide +kernel)), (List.mem_of_getElem? (i := 60) (by decide +kernel))⟩ rfl (by decide) (by decide) ?_
  show mcE L fr lo M_Desk_init 16 [some (mr 164)] [mr 166, mr 164] (tb jT165) (jS18 σ) 167 13665 Φ
  refine mc_dup (by decide +kernel) rfl ?_
  show mcE L fr lo M_Desk_init 17 [some (mr 164)] [mr 166, mr 166, mr 164] (tb jT165) (jS18 σ) 167 13665 Φ
  refine mc_init (M' := M_Answer_init) (fr' := fr - 1) (lo' := lo - 40) (idx := 17) (a := 166) (vs := []) (by decide +kernel) (List.mem_of_getElem? (i := 328) (by decide +kernel)) (List.mem_of_getElem? (i := 200) (by decide +kernel)) (List.mem_of_getElem? (i := 201) (by decide +kernel)) rfl (mcCdB_spec (wi := 60) (wc := 201) (by decide +kernel)) (Or.inl rfl) (mcArB_spec (by decide +kernel)) (by decide) (by omega) (show 2 + (1 + 11) + (lo - 40) ≤ lo by omega) (by decide) ?_
  refine iv_52 (by omega) (by omega) ?_
  show mcE L fr lo M_Desk_init 20 [some (mr 164)] [mr 166, mr 164] (tb jT167) (jS18 σ) 169 13673 Φ
  refine mc_putR (idx := 18) (ci := 7) (k := 1) (by decide +kernel) ⟨mcFdB_spec (w := 331) (by decide +kernel), rfl, finOk_spec (by decide +kernel)⟩ (by decide) (by decide) rfl ?_
  rw [show upc (tb jT167) 164 (upi (tb jT167 164) ((1 : Nat) : Int) (some 166)) = tb jT168 from tb_put (a := 163) (k := 1) (t := 165) (by decide +kernel) (by decide +kernel)]
  show mcE L fr lo M_Desk_init 23 [some (mr 164)] [] (tb jT168) (jS18 σ) 169 13673 Φ
  refine mc_aload_n (j := 0) (by decide +kernel) rfl ?_
  show mcE L fr lo M_Desk_init 24 [some (mr 164)] [mr 164] (tb jT168) (jS18 σ) 169 13673 Φ
  refine mc_iconst (i := 0) (by decide +kernel) ?_
  show mcE L fr lo M_Desk_init 25 [some (mr 164)] [mi 0, mr 164] (tb jT168) (jS18 σ) 169 13673 Φ
  refine mc_putI (idx := 22) (ci := 7) (k := 2) (kd := 0) (by decide +kernel) ⟨mcFdB_spec (w := 333) (by decide +kernel), mcNfB_spec (by decide +kernel)⟩ (by decide) (by decide) (by decide) rfl (by unfold in32; decide) (by decide) ?_
  show mcE L fr lo M_Desk_init 28 [some (mr 164)] [] (tb jT168) (jS19 σ) 169 13673 Φ
  exact mc_return_ (by decide +kernel) rfl k
def jT169 : List (List Nat) := tst jT168 152 2 164
theorem iv_54 {L fr lo : Nat} {σ : mG} {Φ : mcPost} (hfr : 3 ≤ fr) (hlo : 120 ≤ lo) (k : Φ (.inl none) (tb jT169) (jS19 σ) 169 13673) : mcE L fr lo M_Client_init 0 (mcEnt M_Client_init.2.2.1 [mr 152]) [] (tb jT153) (jS16 σ) 153 13562 Φ := by
  show mcE L fr lo M_Client_init 0 [some (mr 152), none] [] (tb jT153) (jS16 σ) 153 13562 Φ
  refine mc_aload_n (j := 0) (by decide +kernel) rfl ?_
  show mcE L fr lo M_Client_init 1 [some (mr 152), none] [mr 152] (tb jT153) (jS16 σ) 153 13562 Φ
  refine mc_objInit (idx := 3) (by decide +kernel) (List.mem_of_getElem? (i := 319) (by decide +kernel)) (List.mem_of_getElem? (i := 77) (by decide +kernel)) (List.mem_of_getElem? (i := 78) (by decide +kernel)) (by omega) (show 0 + 12 ≤ lo by omega) ?_
  show mcE L fr lo M_Client_init 4 [some (mr 152), none] [] (tb jT153) (jS16 σ) 153 13562 Φ
  refine mc_aload_n (j := 0) (by decide +kernel) rfl ?_
  show mcE L fr lo M_Client_init 5 [some (mr 152), none] [mr 152] (tb jT153) (jS16 σ) 153 13562 Φ
  refine mc_iconst (i := 3) (by decide +kernel) ?_
  show mcE L fr lo M_Client_init 6 [some (mr 152), none] [mi 3, mr 152] (tb jT153) (jS16 σ) 153 13562 Φ
  refine mc_anewarray (idx := 9) (t := 6) (len := 3) (C := "SlotServer$Desk") (by decide +kernel) (by decide) rfl (List.mem_of_getElem? (i := 320) (by decide +kernel)) (List.mem_of_getElem? (i := 321) (by decide +kernel)) rfl rfl (by decide) (by decide) (by decide) ?_
  show mcE L fr lo M_Client_init 9 [some (mr 152), none] [mr 153, mr 152] (tb jT153) (jS16 σ) 154 13565 Φ
  refine mc_putR (idx := 11) (ci := 8) (k := 0) (by decide +kernel) ⟨mcFdB_spec (w := 351) (by decide +kernel), rfl, finOk_spec (by decide +kernel)⟩ (by decide) (by decide) rfl ?_
  rw [show upc (tb jT153) 152 (upi (tb jT153 152) ((0 : Nat) : Int) (some 153)) = tb jT154 from tb_put (a := 151) (k := 0) (t := 152) (by decide +kernel) (by decide +kernel)]
  show mcE L fr lo M_Client_init 12 [some (mr 152), none] [] (tb jT154) (jS16 σ) 154 13565 Φ
  refine mc_iconst (i := 0) (by decide +kernel) ?_
  show mcE L fr lo M_Client_init 13 [some (mr 152), none] [mi 0] (tb jT154) (jS16 σ) 154 13565 Φ
  refine mc_istore_n (j := 1) (by decide +kernel) (by decide) ?_
  show mcE L fr lo M_Client_init 14 [some (mr 152), some (mi 0)] [] (tb jT154) (jS16 σ) 154 13565 Φ
  refine mc_iload_n (j := 1) (by decide +kernel) rfl ?_
  show mcE L fr lo M_Client_init 15 [some (mr 152), some (mi 0)] [mi 0] (tb jT154) (jS16 σ) 154 13565 Φ
  refine mc_iconst (i := 3) (by decide +kernel) ?_
  show mcE L fr lo M_Client_init 16 [some (mr 152), some (mi 0)] [mi 3, mi 0] (tb jT154) (jS16 σ) 154 13565 Φ
  refine mc_icmp_ge (off := 22) (by decide +kernel) (by decide) (by unfold in32; decide) (by unfold in32; decide) (fun w => absurd w (by decide)) (fun _ => ?_)
  show mcE L fr lo M_Client_init 19 [some (mr 152), some (mi 0)] [] (tb jT154) (jS16 σ) 154 13565 Φ
  refine mc_aload_n (j := 0) (by decide +kernel) rfl ?_
  show mcE L fr lo M_Client_init 20 [some (mr 152), some (mi 0)] [mr 152] (tb jT154) (jS16 σ) 154 13565 Φ
  refine mc_getR (idx := 11) (ci := 8) (k := 0) (t := 153) (by decide +kernel) (mcFdB_spec (w := 351) (by decide +kernel)) (by decide) (by decide) rfl (show tb jT154 152 ((0 : Nat) : Int) = some 153 by decide +kernel) ?_
  show mcE L fr lo M_Client_init 23 [some (mr 152), some (mi 0)] [mr 153] (tb jT154) (jS16 σ) 154 13565 Φ
  refine mc_iload_n (j := 1) (by decide +kernel) rfl ?_
  show mcE L fr lo M_Client_init 24 [some (mr 152), some (mi 0)] [mi 0, mr 153] (tb jT154) (jS16 σ) 154 13565 Φ
  refine mc_new (idx := 9) (ci := 7) (N := 5) (by decide +kernel) ⟨_, _, _, rfl, rfl, (List.mem_of_getElem? (i := 320) (by decide +kernel)), (List.mem_of_getElem? (i := 322) (by decide +kernel)), (List.mem_of_getElem? (i := 62) (by decide +kernel))⟩ rfl (by decide) (by decide) ?_
  show mcE L fr lo M_Client_init 27 [some (mr 152), some (mi 0)] [mr 154, mi 0, mr 153] (tb jT154) (jS16 σ) 155 13570 Φ
  refine mc_dup (by decide +kernel) rfl ?_
  show mcE L fr lo M_Client_init 28 [some (mr 152), some (mi 0)] [mr 154, mr 154, mi 0, mr 153] (tb jT154) (jS16 σ) 155 13570 Φ
  refine mc_init (M' := M_Desk_init) (fr' := fr - 1) (lo' := lo - 40) (idx := 17) (a := 154) (vs := []) (by decide +kernel) (List.mem_of_getElem? (i := 323) (by decide +kernel)) (List.mem_of_getElem? (i := 324) (by decide +kernel)) (List.mem_of_getElem? (i := 325) (by decide +kernel)) rfl (mcCdB_spec (wi := 62) (wc := 325) (by decide +kernel)) (Or.inl rfl) (mcArB_spec (by decide +kernel)) (by decide) (by omega) (show 3 + (1 + 11) + (lo - 40) ≤ lo by omega) (by decide) ?_
  refine iv_49 (by omega) (by omega) ?_
  show mcE L fr lo M_Client_init 31 [some (mr 152), some (mi 0)] [mr 154, mi 0, mr 153] (tb jT158) (jS17 σ) 159 13601 Φ
  refine mc_aastore (a := 153) (u := 154) (x := 0) (by decide +kernel) (by decide) (by decide) (by decide) rfl (by decide) (by decide) (by decide) rfl rfl rfl ?_
  rw [show upc (tb jT158) 153 (upi (tb jT158 153) (0 : Int) (some 154)) = tb jT159 from tb_put (a := 152) (k := 0) (t := 153) (by decide +kernel) (by decide +kernel)]
  show mcE L fr lo M_Client_init 32 [some (mr 152), some (mi 0)] [] (tb jT159) (jS17 σ) 159 13601 Φ
  refine mc_iinc (i := 1) (q := 1) (by decide +kernel) rfl (by decide) ?_
  show mcE L fr lo M_Client_init 35 [some (mr 152), some (mi 1)] [] (tb jT159) (jS17 σ) 159 13601 Φ
  refine mc_goto (off := -21) (by decide +kernel) (by decide) ?_
  show mcE L fr lo M_Client_init 14 [some (mr 152), some (mi 1)] [] (tb jT159) (jS17 σ) 159 13601 Φ
  refine mc_iload_n (j := 1) (by decide +kernel) rfl ?_
  show mcE L fr lo M_Client_init 15 [some (mr 152), some (mi 1)] [mi 1] (tb jT159) (jS17 σ) 159 13601 Φ
  refine mc_iconst (i := 3) (by decide +kernel) ?_
  show mcE L fr lo M_Client_init 16 [some (mr 152), some (mi 1)] [mi 3, mi 1] (tb jT159) (jS17 σ) 159 13601 Φ
  refine mc_icmp_ge (off := 22) (by decide +kernel) (by decide) (by unfold in32; decide) (by unfold in32; decide) (fun w => absurd w (by decide)) (fun _ => ?_)
  show mcE L fr lo M_Client_init 19 [some (mr 152), some (mi 1)] [] (tb jT159) (jS17 σ) 159 13601 Φ
  refine mc_aload_n (j := 0) (by decide +kernel) rfl ?_
  show mcE L fr lo M_Client_init 20 [some (mr 152), some (mi 1)] [mr 152] (tb jT159) (jS17 σ) 159 13601 Φ
  refine mc_getR (idx := 11) (ci := 8) (k := 0) (t := 153) (by decide +kernel) (mcFdB_spec (w := 351) (by decide +kernel)) (by decide) (by decide) rfl (show tb jT159 152 ((0 : Nat) : Int) = some 153 by decide +kernel) ?_
  show mcE L fr lo M_Client_init 23 [some (mr 152), some (mi 1)] [mr 153] (tb jT159) (jS17 σ) 159 13601 Φ
  refine mc_iload_n (j := 1) (by decide +kernel) rfl ?_
  show mcE L fr lo M_Client_init 24 [some (mr 152), some (mi 1)] [mi 1, mr 153] (tb jT159) (jS17 σ) 159 13601 Φ
  refine mc_new (idx := 9) (ci := 7) (N := 5) (by decide +kernel) ⟨_, _, _, rfl, rfl, (List.mem_of_getElem? (i := 320) (by decide +kernel)), (List.mem_of_getElem? (i := 322) (by decide +kernel)), (List.mem_of_getElem? (i := 62) (by decide +kernel))⟩ rfl (by decide) (by decide) ?_
  show mcE L fr lo M_Client_init 27 [some (mr 152), some (mi 1)] [mr 159, mi 1, mr 153] (tb jT159) (jS17 σ) 160 13606 Φ
  refine mc_dup (by decide +kernel) rfl ?_
  show mcE L fr lo M_Client_init 28 [some (mr 152), some (mi 1)] [mr 159, mr 159, mi 1, mr 153] (tb jT159) (jS17 σ) 160 13606 Φ
  refine mc_init (M' := M_Desk_init) (fr' := fr - 1) (lo' := lo - 40) (idx := 17) (a := 159) (vs := []) (by decide +kernel) (List.mem_of_getElem? (i := 323) (by decide +kernel)) (List.mem_of_getElem? (i := 324) (by decide +kernel)) (List.mem_of_getElem? (i := 325) (by decide +kernel)) rfl (mcCdB_spec (wi := 62) (wc := 325) (by decide +kernel)) (Or.inl rfl) (mcArB_spec (by decide +kernel)) (by decide) (by omega) (show 3 + (1 + 11) + (lo - 40) ≤ lo by omega) (by decide) ?_
  refine iv_51 (by omega) (by omega) ?_
  show mcE L fr lo M_Client_init 31 [some (mr 152), some (mi 1)] [mr 159, mi 1, mr 153] (tb jT163) (jS18 σ) 164 13637 Φ
  refine mc_aastore (a := 153) (u := 159) (x := 1) (by decide +kernel) (by decide) (by decide) (by decide) rfl (by decide) (by decide) (by decide) rfl rfl rfl ?_
  rw [show upc (tb jT163) 153 (upi (tb jT163 153) (1 : Int) (some 159)) = tb jT164 from tb_put (a := 152) (k := 1) (t := 158) (by decide +kernel) (by decide +kernel)]
  show mcE L fr lo M_Client_init 32 [some (mr 152), some (mi 1)] [] (tb jT164) (jS18 σ) 164 13637 Φ
  refine mc_iinc (i := 1) (q := 1) (by decide +kernel) rfl (by decide) ?_
  show mcE L fr lo M_Client_init 35 [some (mr 152), some (mi 2)] [] (tb jT164) (jS18 σ) 164 13637 Φ
  refine mc_goto (off := -21) (by decide +kernel) (by decide) ?_
  show mcE L fr lo M_Client_init 14 [some (mr 152), some (mi 2)] [] (tb jT164) (jS18 σ) 164 13637 Φ
  refine mc_iload_n (j := 1) (by decide +kernel) rfl ?_
  show mcE L fr lo M_Client_init 15 [some (mr 152), some (mi 2)] [mi 2] (tb jT164) (jS18 σ) 164 13637 Φ
  refine mc_iconst (i := 3) (by decide +kernel) ?_
  show mcE L fr lo M_Client_init 16 [some (mr 152), some (mi 2)] [mi 3, mi 2] (tb jT164) (jS18 σ) 164 13637 Φ
  refine mc_icmp_ge (off := 22) (by decide +kernel) (by decide) (by unfold in32; decide) (by unfold in32; decide) (fun w => absurd w (by decide)) (fun _ => ?_)
  show mcE L fr lo M_Client_init 19 [some (mr 152), some (mi 2)] [] (tb jT164) (jS18 σ) 164 13637 Φ
  refine mc_aload_n (j := 0) (by decide +kernel) rfl ?_
  show mcE L fr lo M_Client_init 20 [some (mr 152), some (mi 2)] [mr 152] (tb jT164) (jS18 σ) 164 13637 Φ
  refine mc_getR (idx := 11) (ci := 8) (k := 0) (t := 153) (by decide +kernel) (mcFdB_spec (w := 351) (by decide +kernel)) (by decide) (by decide) rfl (show tb jT164 152 ((0 : Nat) : Int) = some 153 by decide +kernel) ?_
  show mcE L fr lo M_Client_init 23 [some (mr 152), some (mi 2)] [mr 153] (tb jT164) (jS18 σ) 164 13637 Φ
  refine mc_iload_n (j := 1) (by decide +kernel) rfl ?_
  show mcE L fr lo M_Client_init 24 [some (mr 152), some (mi 2)] [mi 2, mr 153] (tb jT164) (jS18 σ) 164 13637 Φ
  refine mc_new (idx := 9) (ci := 7) (N := 5) (by decide +kernel) ⟨_, _, _, rfl, rfl, (List.mem_of_getElem? (i := 320) (by decide +kernel)), (List.mem_of_getElem? (i := 322) (by decide +kernel)), (List.mem_of_getElem? (i := 62) (by decide +kernel))⟩ rfl (by decide) (by decide) ?_
  show mcE L fr lo M_Client_init 27 [some (mr 152), some (mi 2)] [mr 164, mi 2, mr 153] (tb jT164) (jS18 σ) 165 13642 Φ
  refine mc_dup (by decide +kernel) rfl ?_
  show mcE L fr lo M_Client_init 28 [some (mr 152), some (mi 2)] [mr 164, mr 164, mi 2, mr 153] (tb jT164) (jS18 σ) 165 13642 Φ
  refine mc_init (M' := M_Desk_init) (fr' := fr - 1) (lo' := lo - 40) (idx := 17) (a := 164) (vs := []) (by decide +kernel) (List.mem_of_getElem? (i := 323) (by decide +kernel)) (List.mem_of_getElem? (i := 324) (by decide +kernel)) (List.mem_of_getElem? (i := 325) (by decide +kernel)) rfl (mcCdB_spec (wi := 62) (wc := 325) (by decide +kernel)) (Or.inl rfl) (mcArB_spec (by decide +kernel)) (by decide) (by omega) (show 3 + (1 + 11) + (lo - 40) ≤ lo by omega) (by decide) ?_
  refine iv_53 (by omega) (by omega) ?_
  show mcE L fr lo M_Client_init 31 [some (mr 152), some (mi 2)] [mr 164, mi 2, mr 153] (tb jT168) (jS19 σ) 169 13673 Φ
  refine mc_aastore (a := 153) (u := 164) (x := 2) (by decide +kernel) (by decide) (by decide) (by decide) rfl (by decide) (by decide) (by decide) rfl rfl rfl ?_
  rw [show upc (tb jT168) 153 (upi (tb jT168 153) (2 : Int) (some 164)) = tb jT169 from tb_put (a := 152) (k := 2) (t := 163) (by decide +kernel) (by decide +kernel)]
  show mcE L fr lo M_Client_init 32 [some (mr 152), some (mi 2)] [] (tb jT169) (jS19 σ) 169 13673 Φ
  refine mc_iinc (i := 1) (q := 1) (by decide +kernel) rfl (by decide) ?_
  show mcE L fr lo M_Client_init 35 [some (mr 152), some (mi 3)] [] (tb jT169) (jS19 σ) 169 13673 Φ
  refine mc_goto (off := -21) (by decide +kernel) (by decide) ?_
  show mcE L fr lo M_Client_init 14 [some (mr 152), some (mi 3)] [] (tb jT169) (jS19 σ) 169 13673 Φ
  refine mc_iload_n (j := 1) (by decide +kernel) rfl ?_
  show mcE L fr lo M_Client_init 15 [some (mr 152), some (mi 3)] [mi 3] (tb jT169) (jS19 σ) 169 13673 Φ
  refine mc_iconst (i := 3) (by decide +kernel) ?_
  show mcE L fr lo M_Client_init 16 [some (mr 152), some (mi 3)] [mi 3, mi 3] (tb jT169) (jS19 σ) 169 13673 Φ
  refine mc_icmp_ge (off := 22) (by decide +kernel) (by decide) (by unfold in32; decide) (by unfold in32; decide) (fun _ => ?_) (fun w => absurd (by decide) w)
  show mcE L fr lo M_Client_init 38 [some (mr 152), some (mi 3)] [] (tb jT169) (jS19 σ) 169 13673 Φ
  exact mc_return_ (by decide +kernel) rfl k
def jT170 : List (List Nat) := tst jT169 1 2 152
def jT171 : List (List Nat) := tst jT170 168 0 170
def jT172 : List (List Nat) := tst jT171 170 0 172
def jT173 : List (List Nat) := tst jT172 172 0 174
def jT174 : List (List Nat) := tst jT173 172 1 175
theorem iv_55 {L fr lo : Nat} {σ : mG} {Φ : mcPost} (hfr : 1 ≤ fr) (hlo : 40 ≤ lo) (k : Φ (.inl none) (tb jT174) (jS19 σ) 176 13714) : mcE L fr lo M_Answer_init 0 (mcEnt M_Answer_init.2.2.1 [mr 173]) [] (tb jT172) (jS19 σ) 174 13706 Φ := by
  show mcE L fr lo M_Answer_init 0 [some (mr 173)] [] (tb jT172) (jS19 σ) 174 13706 Φ
  refine mc_aload_n (j := 0) (by decide +kernel) rfl ?_
  show mcE L fr lo M_Answer_init 1 [some (mr 173)] [mr 173] (tb jT172) (jS19 σ) 174 13706 Φ
  refine mc_objInit (idx := 3) (by decide +kernel) (List.mem_of_getElem? (i := 202) (by decide +kernel)) (List.mem_of_getElem? (i := 77) (by decide +kernel)) (List.mem_of_getElem? (i := 78) (by decide +kernel)) (by omega) (show 0 + 12 ≤ lo by omega) ?_
  show mcE L fr lo M_Answer_init 4 [some (mr 173)] [] (tb jT172) (jS19 σ) 174 13706 Φ
  refine mc_aload_n (j := 0) (by decide +kernel) rfl ?_
  show mcE L fr lo M_Answer_init 5 [some (mr 173)] [mr 173] (tb jT172) (jS19 σ) 174 13706 Φ
  refine mc_iconst (i := 4) (by decide +kernel) ?_
  show mcE L fr lo M_Answer_init 6 [some (mr 173)] [mi 4, mr 173] (tb jT172) (jS19 σ) 174 13706 Φ
  refine mc_newarray (at' := .int) (t := 0) (len := 4) (by decide +kernel) (by decide) rfl (List.mem_of_getElem? (i := 120) (by decide +kernel)) rfl rfl (by decide) (by decide) ?_
  show mcE L fr lo M_Answer_init 8 [some (mr 173)] [mr 174, mr 173] (tb jT172) (jS19 σ) 175 13710 Φ
  refine mc_putR (idx := 9) (ci := 3) (k := 0) (by decide +kernel) ⟨mcFdB_spec (w := 203) (by decide +kernel), rfl, finOk_spec (by decide +kernel)⟩ (by decide) (by decide) rfl ?_
  rw [show upc (tb jT172) 173 (upi (tb jT172 173) ((0 : Nat) : Int) (some 174)) = tb jT173 from tb_put (a := 172) (k := 0) (t := 173) (by decide +kernel) (by decide +kernel)]
  show mcE L fr lo M_Answer_init 11 [some (mr 173)] [] (tb jT173) (jS19 σ) 175 13710 Φ
  refine mc_aload_n (j := 0) (by decide +kernel) rfl ?_
  show mcE L fr lo M_Answer_init 12 [some (mr 173)] [mr 173] (tb jT173) (jS19 σ) 175 13710 Φ
  refine mc_iconst (i := 4) (by decide +kernel) ?_
  show mcE L fr lo M_Answer_init 13 [some (mr 173)] [mi 4, mr 173] (tb jT173) (jS19 σ) 175 13710 Φ
  refine mc_newarray (at' := .int) (t := 0) (len := 4) (by decide +kernel) (by decide) rfl (List.mem_of_getElem? (i := 120) (by decide +kernel)) rfl rfl (by decide) (by decide) ?_
  show mcE L fr lo M_Answer_init 15 [some (mr 173)] [mr 175, mr 173] (tb jT173) (jS19 σ) 176 13714 Φ
  refine mc_putR (idx := 15) (ci := 3) (k := 1) (by decide +kernel) ⟨mcFdB_spec (w := 205) (by decide +kernel), rfl, finOk_spec (by decide +kernel)⟩ (by decide) (by decide) rfl ?_
  rw [show upc (tb jT173) 173 (upi (tb jT173 173) ((1 : Nat) : Int) (some 175)) = tb jT174 from tb_put (a := 172) (k := 1) (t := 174) (by decide +kernel) (by decide +kernel)]
  show mcE L fr lo M_Answer_init 18 [some (mr 173)] [] (tb jT174) (jS19 σ) 176 13714 Φ
  exact mc_return_ (by decide +kernel) rfl k
def jT175 : List (List Nat) := tst jT174 170 1 173
def jS20 (σ : mG) : mG := upc (jS19 σ) 171 (upi ((jS19 σ) 171) 2 0)
theorem iv_56 {L fr lo : Nat} {σ : mG} {Φ : mcPost} (hfr : 2 ≤ fr) (hlo : 80 ≤ lo) (k : Φ (.inl none) (tb jT175) (jS20 σ) 176 13714) : mcE L fr lo M_Desk_init 0 (mcEnt M_Desk_init.2.2.1 [mr 171]) [] (tb jT171) (jS19 σ) 172 13683 Φ := by
  show mcE L fr lo M_Desk_init 0 [some (mr 171)] [] (tb jT171) (jS19 σ) 172 13683 Φ
  refine mc_aload_n (j := 0) (by decide +kernel) rfl ?_
  show mcE L fr lo M_Desk_init 1 [some (mr 171)] [mr 171] (tb jT171) (jS19 σ) 172 13683 Φ
  refine mc_objInit (idx := 3) (by decide +kernel) (List.mem_of_getElem? (i := 326) (by decide +kernel)) (List.mem_of_getElem? (i := 77) (by decide +kernel)) (List.mem_of_getElem? (i := 78) (by decide +kernel)) (by omega) (show 0 + 12 ≤ lo by omega) ?_
  show mcE L fr lo M_Desk_init 4 [some (mr 171)] [] (tb jT171) (jS19 σ) 172 13683 Φ
  refine mc_aload_n (j := 0) (by decide +kernel) rfl ?_
  show mcE L fr lo M_Desk_init 5 [some (mr 171)] [mr 171] (tb jT171) (jS19 σ) 172 13683 Φ
  refine mc_bipush (i := 20) (by decide +kernel) (by decide) ?_
  show mcE L fr lo M_Desk_init 7 [some (mr 171)] [mi 20, mr 171] (tb jT171) (jS19 σ) 172 13683 Φ
  refine mc_newarray (at' := .int) (t := 0) (len := 20) (by decide +kernel) (by decide) rfl (List.mem_of_getElem? (i := 120) (by decide +kernel)) rfl rfl (by decide) (by decide) ?_
  show mcE L fr lo M_Desk_init 9 [some (mr 171)] [mr 172, mr 171] (tb jT171) (jS19 σ) 173 13703 Φ
  refine mc_putR (idx := 9) (ci := 7) (k := 0) (by decide +kernel) ⟨mcFdB_spec (w := 329) (by decide +kernel), rfl, finOk_spec (by decide +kernel)⟩ (by decide) (by decide) rfl ?_
  rw [show upc (tb jT171) 171 (upi (tb jT171 171) ((0 : Nat) : Int) (some 172)) = tb jT172 from tb_put (a := 170) (k := 0) (t := 171) (by decide +kernel) (by decide +kernel)]
  show mcE L fr lo M_Desk_init 12 [some (mr 171)] [] (tb jT172) (jS19 σ) 173 13703 Φ
  refine mc_aload_n (j := 0) (by decide +kernel) rfl ?_
  show mcE L fr lo M_Desk_init 13 [some (mr 171)] [mr 171] (tb jT172) (jS19 σ) 173 13703 Φ
  refine mc_new (idx := 15) (ci := 3) (N := 3) (by decide +kernel) ⟨_, _, _, rfl, rfl, (List.mem_of_getElem? (i := 327) (by decide +kernel)), (List.mem_of_getElem? (i := 198) (by decide +kernel)), (List.mem_of_getElem? (i := 60) (by decide +kernel))⟩ rfl (by decide) (by decide) ?_
  show mcE L fr lo M_Desk_init 16 [some (mr 171)] [mr 173, mr 171] (tb jT172) (jS19 σ) 174 13706 Φ
  refine mc_dup (by decide +kernel) rfl ?_
  show mcE L fr lo M_Desk_init 17 [some (mr 171)] [mr 173, mr 173, mr 171] (tb jT172) (jS19 σ) 174 13706 Φ
  refine mc_init (M' := M_Answer_init) (fr' := fr - 1) (lo' := lo - 40) (idx := 17) (a := 173) (vs := []) (by decide +kernel) (List.mem_of_getElem? (i := 328) (by decide +kernel)) (List.mem_of_getElem? (i := 200) (by decide +kernel)) (List.mem_of_getElem? (i := 201) (by decide +kernel)) rfl (mcCdB_spec (wi := 60) (wc := 201) (by decide +kernel)) (Or.inl rfl) (mcArB_spec (by decide +kernel)) (by decide) (by omega) (show 2 + (1 + 11) + (lo - 40) ≤ lo by omega) (by decide) ?_
  refine iv_55 (by omega) (by omega) ?_
  show mcE L fr lo M_Desk_init 20 [some (mr 171)] [mr 173, mr 171] (tb jT174) (jS19 σ) 176 13714 Φ
  refine mc_putR (idx := 18) (ci := 7) (k := 1) (by decide +kernel) ⟨mcFdB_spec (w := 331) (by decide +kernel), rfl, finOk_spec (by decide +kernel)⟩ (by decide) (by decide) rfl ?_
  rw [show upc (tb jT174) 171 (upi (tb jT174 171) ((1 : Nat) : Int) (some 173)) = tb jT175 from tb_put (a := 170) (k := 1) (t := 172) (by decide +kernel) (by decide +kernel)]
  show mcE L fr lo M_Desk_init 23 [some (mr 171)] [] (tb jT175) (jS19 σ) 176 13714 Φ
  refine mc_aload_n (j := 0) (by decide +kernel) rfl ?_
  show mcE L fr lo M_Desk_init 24 [some (mr 171)] [mr 171] (tb jT175) (jS19 σ) 176 13714 Φ
  refine mc_iconst (i := 0) (by decide +kernel) ?_
  show mcE L fr lo M_Desk_init 25 [some (mr 171)] [mi 0, mr 171] (tb jT175) (jS19 σ) 176 13714 Φ
  refine mc_putI (idx := 22) (ci := 7) (k := 2) (kd := 0) (by decide +kernel) ⟨mcFdB_spec (w := 333) (by decide +kernel), mcNfB_spec (by decide +kernel)⟩ (by decide) (by decide) (by decide) rfl (by unfold in32; decide) (by decide) ?_
  show mcE L fr lo M_Desk_init 28 [some (mr 171)] [] (tb jT175) (jS20 σ) 176 13714 Φ
  exact mc_return_ (by decide +kernel) rfl k
def jT176 : List (List Nat) := tst jT175 169 0 171
def jT177 : List (List Nat) := tst jT176 175 0 177
def jT178 : List (List Nat) := tst jT177 177 0 179
def jT179 : List (List Nat) := tst jT178 177 1 180
theorem iv_57 {L fr lo : Nat} {σ : mG} {Φ : mcPost} (hfr : 1 ≤ fr) (hlo : 40 ≤ lo) (k : Φ (.inl none) (tb jT179) (jS20 σ) 181 13750) : mcE L fr lo M_Answer_init 0 (mcEnt M_Answer_init.2.2.1 [mr 178]) [] (tb jT177) (jS20 σ) 179 13742 Φ := by
  show mcE L fr lo M_Answer_init 0 [some (mr 178)] [] (tb jT177) (jS20 σ) 179 13742 Φ
  refine mc_aload_n (j := 0) (by decide +kernel) rfl ?_
  show mcE L fr lo M_Answer_init 1 [some (mr 178)] [mr 178] (tb jT177) (jS20 σ) 179 13742 Φ
  refine mc_objInit (idx := 3) (by decide +kernel) (List.mem_of_getElem? (i := 202) (by decide +kernel)) (List.mem_of_getElem? (i := 77) (by decide +kernel)) (List.mem_of_getElem? (i := 78) (by decide +kernel)) (by omega) (show 0 + 12 ≤ lo by omega) ?_
  show mcE L fr lo M_Answer_init 4 [some (mr 178)] [] (tb jT177) (jS20 σ) 179 13742 Φ
  refine mc_aload_n (j := 0) (by decide +kernel) rfl ?_
  show mcE L fr lo M_Answer_init 5 [some (mr 178)] [mr 178] (tb jT177) (jS20 σ) 179 13742 Φ
  refine mc_iconst (i := 4) (by decide +kernel) ?_
  show mcE L fr lo M_Answer_init 6 [some (mr 178)] [mi 4, mr 178] (tb jT177) (jS20 σ) 179 13742 Φ
  refine mc_newarray (at' := .int) (t := 0) (len := 4) (by decide +kernel) (by decide) rfl (List.mem_of_getElem? (i := 120) (by decide +kernel)) rfl rfl (by decide) (by decide) ?_
  show mcE L fr lo M_Answer_init 8 [some (mr 178)] [mr 179, mr 178] (tb jT177) (jS20 σ) 180 13746 Φ
  refine mc_putR (idx := 9) (ci := 3) (k := 0) (by decide +kernel) ⟨mcFdB_spec (w := 203) (by decide +kernel), rfl, finOk_spec (by decide +kernel)⟩ (by decide) (by decide) rfl ?_
  rw [show upc (tb jT177) 178 (upi (tb jT177 178) ((0 : Nat) : Int) (some 179)) = tb jT178 from tb_put (a := 177) (k := 0) (t := 178) (by decide +kernel) (by decide +kernel)]
  show mcE L fr lo M_Answer_init 11 [some (mr 178)] [] (tb jT178) (jS20 σ) 180 13746 Φ
  refine mc_aload_n (j := 0) (by decide +kernel) rfl ?_
  show mcE L fr lo M_Answer_init 12 [some (mr 178)] [mr 178] (tb jT178) (jS20 σ) 180 13746 Φ
  refine mc_iconst (i := 4) (by decide +kernel) ?_
  show mcE L fr lo M_Answer_init 13 [some (mr 178)] [mi 4, mr 178] (tb jT178) (jS20 σ) 180 13746 Φ
  refine mc_newarray (at' := .int) (t := 0) (len := 4) (by decide +kernel) (by decide) rfl (List.mem_of_getElem? (i := 120) (by decide +kernel)) rfl rfl (by decide) (by decide) ?_
  show mcE L fr lo M_Answer_init 15 [some (mr 178)] [mr 180, mr 178] (tb jT178) (jS20 σ) 181 13750 Φ
  refine mc_putR (idx := 15) (ci := 3) (k := 1) (by decide +kernel) ⟨mcFdB_spec (w := 205) (by decide +kernel), rfl, finOk_spec (by decide +kernel)⟩ (by decide) (by decide) rfl ?_
  rw [show upc (tb jT178) 178 (upi (tb jT178 178) ((1 : Nat) : Int) (some 180)) = tb jT179 from tb_put (a := 177) (k := 1) (t := 179) (by decide +kernel) (by decide +kernel)]
  show mcE L fr lo M_Answer_init 18 [some (mr 178)] [] (tb jT179) (jS20 σ) 181 13750 Φ
  exact mc_return_ (by decide +kernel) rfl k
def jT180 : List (List Nat) := tst jT179 175 1 178
def jS21 (σ : mG) : mG := upc (jS20 σ) 176 (upi ((jS20 σ) 176) 2 0)
theorem iv_58 {L fr lo : Nat} {σ : mG} {Φ : mcPost} (hfr : 2 ≤ fr) (hlo : 80 ≤ lo) (k : Φ (.inl none) (tb jT180) (jS21 σ) 181 13750) : mcE L fr lo M_Desk_init 0 (mcEnt M_Desk_init.2.2.1 [mr 176]) [] (tb jT176) (jS20 σ) 177 13719 Φ := by
  show mcE L fr lo M_Desk_init 0 [some (mr 176)] [] (tb jT176) (jS20 σ) 177 13719 Φ
  refine mc_aload_n (j := 0) (by decide +kernel) rfl ?_
  show mcE L fr lo M_Desk_init 1 [some (mr 176)] [mr 176] (tb jT176) (jS20 σ) 177 13719 Φ
  refine mc_objInit (idx := 3) (by decide +kernel) (List.mem_of_getElem? (i := 326) (by decide +kernel)) (List.mem_of_getElem? (i := 77) (by decide +kernel)) (List.mem_of_getElem? (i := 78) (by decide +kernel)) (by omega) (show 0 + 12 ≤ lo by omega) ?_
  show mcE L fr lo M_Desk_init 4 [some (mr 176)] [] (tb jT176) (jS20 σ) 177 13719 Φ
  refine mc_aload_n (j := 0) (by decide +kernel) rfl ?_
  show mcE L fr lo M_Desk_init 5 [some (mr 176)] [mr 176] (tb jT176) (jS20 σ) 177 13719 Φ
  refine mc_bipush (i := 20) (by decide +kernel) (by decide) ?_
  show mcE L fr lo M_Desk_init 7 [some (mr 176)] [mi 20, mr 176] (tb jT176) (jS20 σ) 177 13719 Φ
  refine mc_newarray (at' := .int) (t := 0) (len := 20) (by decide +kernel) (by decide) rfl (List.mem_of_getElem? (i := 120) (by decide +kernel)) rfl rfl (by decide) (by decide) ?_
  show mcE L fr lo M_Desk_init 9 [some (mr 176)] [mr 177, mr 176] (tb jT176) (jS20 σ) 178 13739 Φ
  refine mc_putR (idx := 9) (ci := 7) (k := 0) (by decide +kernel) ⟨mcFdB_spec (w := 329) (by decide +kernel), rfl, finOk_spec (by decide +kernel)⟩ (by decide) (by decide) rfl ?_
  rw [show upc (tb jT176) 176 (upi (tb jT176 176) ((0 : Nat) : Int) (some 177)) = tb jT177 from tb_put (a := 175) (k := 0) (t := 176) (by decide +kernel) (by decide +kernel)]
  show mcE L fr lo M_Desk_init 12 [some (mr 176)] [] (tb jT177) (jS20 σ) 178 13739 Φ
  refine mc_aload_n (j := 0) (by decide +kernel) rfl ?_
  show mcE L fr lo M_Desk_init 13 [some (mr 176)] [mr 176] (tb jT177) (jS20 σ) 178 13739 Φ
  refine mc_new (idx := 15) (ci := 3) (N := 3) (by decide +kernel) ⟨_, _, _, rfl, rfl, (List.mem_of_getElem? (i := 327) (by decide +kernel)), (List.mem_of_getElem? (i := 198) (by decide +kernel)), (List.mem_of_getElem? (i := 60) (by decide +kernel))⟩ rfl (by decide) (by decide) ?_
  show mcE L fr lo M_Desk_init 16 [some (mr 176)] [mr 178, mr 176] (tb jT177) (jS20 σ) 179 13742 Φ
  refine mc_dup (by decide +kernel) rfl ?_
  show mcE L fr lo M_Desk_init 17 [some (mr 176)] [mr 178, mr 178, mr 176] (tb jT177) (jS20 σ) 179 13742 Φ
  refine mc_init (M' := M_Answer_init) (fr' := fr - 1) (lo' := lo - 40) (idx := 17) (a := 178) (vs := []) (by decide +kernel) (List.mem_of_getElem? (i := 328) (by decide +kernel)) (List.mem_of_getElem? (i := 200) (by decide +kernel)) (List.mem_of_getElem? (i := 201) (by decide +kernel)) rfl (mcCdB_spec (wi := 60) (wc := 201) (by decide +kernel)) (Or.inl rfl) (mcArB_spec (by decide +kernel)) (by decide) (by omega) (show 2 + (1 + 11) + (lo - 40) ≤ lo by omega) (by decide) ?_
  refine iv_57 (by omega) (by omega) ?_
  show mcE L fr lo M_Desk_init 20 [some (mr 176)] [mr 178, mr 176] (tb jT179) (jS20 σ) 181 13750 Φ
  refine mc_putR (idx := 18) (ci := 7) (k := 1) (by decide +kernel) ⟨mcFdB_spec (w := 331) (by decide +kernel), rfl, finOk_spec (by decide +kernel)⟩ (by decide) (by decide) rfl ?_
  rw [show upc (tb jT179) 176 (upi (tb jT179 176) ((1 : Nat) : Int) (some 178)) = tb jT180 from tb_put (a := 175) (k := 1) (t := 177) (by decide +kernel) (by decide +kernel)]
  show mcE L fr lo M_Desk_init 23 [some (mr 176)] [] (tb jT180) (jS20 σ) 181 13750 Φ
  refine mc_aload_n (j := 0) (by decide +kernel) rfl ?_
  show mcE L fr lo M_Desk_init 24 [some (mr 176)] [mr 176] (tb jT180) (jS20 σ) 181 13750 Φ
  refine mc_iconst (i := 0) (by decide +kernel) ?_
  show mcE L fr lo M_Desk_init 25 [some (mr 176)] [mi 0, mr 176] (tb jT180) (jS20 σ) 181 13750 Φ
  refine mc_putI (idx := 22) (ci := 7) (k := 2) (kd := 0) (by decide +kernel) ⟨mcFdB_spec (w := 333) (by decide +kernel), mcNfB_spec (by decide +kernel)⟩ (by decide) (by decide) (by decide) rfl (by unfold in32; decide) (by decide) ?_
  show mcE L fr lo M_Desk_init 28 [some (mr 176)] [] (tb jT180) (jS21 σ) 181 13750 Φ
  exact mc_return_ (by decide +kernel) rfl k
def jT181 : List (List Nat) := tst jT180 169 1 176
def jT182 : List (List Nat) := tst jT181 180 0 182
def jT183 : List (List Nat) := tst jT182 182 0 184
def jT184 : List (List Nat) := tst jT183 182 1 185
theorem iv_59 {L fr lo : Nat} {σ : mG} {Φ : mcPost} (hfr : 1 ≤ fr) (hlo : 40 ≤ lo) (k : Φ (.inl none) (tb jT184) (jS21 σ) 186 13786) : mcE L fr lo M_Answer_init 0 (mcEnt M_Answer_init.2.2.1 [mr 183]) [] (tb jT182) (jS21 σ) 184 13778 Φ := by
  show mcE L fr lo M_Answer_init 0 [some (mr 183)] [] (tb jT182) (jS21 σ) 184 13778 Φ
  refine mc_aload_n (j := 0) (by decide +kernel) rfl ?_
  show mcE L fr lo M_Answer_init 1 [some (mr 183)] [mr 183] (tb jT182) (jS21 σ) 184 13778 Φ
  refine mc_objInit (idx := 3) (by decide +kernel) (List.mem_of_getElem? (i := 202) (by decide +kernel)) (List.mem_of_getElem? (i := 77) (by decide +kernel)) (List.mem_of_getElem? (i := 78) (by decide +kernel)) (by omega) (show 0 + 12 ≤ lo by omega) ?_
  show mcE L fr lo M_Answer_init 4 [some (mr 183)] [] (tb jT182) (jS21 σ) 184 13778 Φ
  refine mc_aload_n (j := 0) (by decide +kernel) rfl ?_
  show mcE L fr lo M_Answer_init 5 [some (mr 183)] [mr 183] (tb jT182) (jS21 σ) 184 13778 Φ
  refine mc_iconst (i := 4) (by decide +kernel) ?_
  show mcE L fr lo M_Answer_init 6 [some (mr 183)] [mi 4, mr 183] (tb jT182) (jS21 σ) 184 13778 Φ
  refine mc_newarray (at' := .int) (t := 0) (len := 4) (by decide +kernel) (by decide) rfl (List.mem_of_getElem? (i := 120) (by decide +kernel)) rfl rfl (by decide) (by decide) ?_
  show mcE L fr lo M_Answer_init 8 [some (mr 183)] [mr 184, mr 183] (tb jT182) (jS21 σ) 185 13782 Φ
  refine mc_putR (idx := 9) (ci := 3) (k := 0) (by decide +kernel) ⟨mcFdB_spec (w := 203) (by decide +kernel), rfl, finOk_spec (by decide +kernel)⟩ (by decide) (by decide) rfl ?_
  rw [show upc (tb jT182) 183 (upi (tb jT182 183) ((0 : Nat) : Int) (some 184)) = tb jT183 from tb_put (a := 182) (k := 0) (t := 183) (by decide +kernel) (by decide +kernel)]
  show mcE L fr lo M_Answer_init 11 [some (mr 183)] [] (tb jT183) (jS21 σ) 185 13782 Φ
  refine mc_aload_n (j := 0) (by decide +kernel) rfl ?_
  show mcE L fr lo M_Answer_init 12 [some (mr 183)] [mr 183] (tb jT183) (jS21 σ) 185 13782 Φ
  refine mc_iconst (i := 4) (by decide +kernel) ?_
  show mcE L fr lo M_Answer_init 13 [some (mr 183)] [mi 4, mr 183] (tb jT183) (jS21 σ) 185 13782 Φ
  refine mc_newarray (at' := .int) (t := 0) (len := 4) (by decide +kernel) (by decide) rfl (List.mem_of_getElem? (i := 120) (by decide +kernel)) rfl rfl (by decide) (by decide) ?_
  show mcE L fr lo M_Answer_init 15 [some (mr 183)] [mr 185, mr 183] (tb jT183) (jS21 σ) 186 13786 Φ
  refine mc_putR (idx := 15) (ci := 3) (k := 1) (by decide +kernel) ⟨mcFdB_spec (w := 205) (by decide +kernel), rfl, finOk_spec (by decide +kernel)⟩ (by decide) (by decide) rfl ?_
  rw [show upc (tb jT183) 183 (upi (tb jT183 183) ((1 : Nat) : Int) (some 185)) = tb jT184 from tb_put (a := 182) (k := 1) (t := 184) (by decide +kernel) (by decide +kernel)]
  show mcE L fr lo M_Answer_init 18 [some (mr 183)] [] (tb jT184) (jS21 σ) 186 13786 Φ
  exact mc_return_ (by decide +kernel) rfl k
def jT185 : List (List Nat) := tst jT184 180 1 183
def jS22 (σ : mG) : mG := upc (jS21 σ) 181 (upi ((jS21 σ) 181) 2 0)
theorem iv_60 {L fr lo : Nat} {σ : mG} {Φ : mcPost} (hfr : 2 ≤ fr) (hlo : 80 ≤ lo) (k : Φ (.inl none) (tb jT185) (jS22 σ) 186 13786) : mcE L fr lo M_Desk_init 0 (mcEnt M_Desk_init.2.2.1 [mr 181]) [] (tb jT181) (jS21 σ) 182 13755 Φ := by
  show mcE L fr lo M_Desk_init 0 [some (mr 181)] [] (tb jT181) (jS21 σ) 182 13755 Φ
  refine mc_aload_n (j := 0) (by decide +kernel) rfl ?_
  show mcE L fr lo M_Desk_init 1 [some (mr 181)] [mr 181] (tb jT181) (jS21 σ) 182 13755 Φ
  refine mc_objInit (idx := 3) (by decide +kernel) (List.mem_of_getElem? (i := 326) (by decide +kernel)) (List.mem_of_getElem? (i := 77) (by decide +kernel)) (List.mem_of_getElem? (i := 78) (by decide +kernel)) (by omega) (show 0 + 12 ≤ lo by omega) ?_
  show mcE L fr lo M_Desk_init 4 [some (mr 181)] [] (tb jT181) (jS21 σ) 182 13755 Φ
  refine mc_aload_n (j := 0) (by decide +kernel) rfl ?_
  show mcE L fr lo M_Desk_init 5 [some (mr 181)] [mr 181] (tb jT181) (jS21 σ) 182 13755 Φ
  refine mc_bipush (i := 20) (by decide +kernel) (by decide) ?_
  show mcE L fr lo M_Desk_init 7 [some (mr 181)] [mi 20, mr 181] (tb jT181) (jS21 σ) 182 13755 Φ
  refine mc_newarray (at' := .int) (t := 0) (len := 20) (by decide +kernel) (by decide) rfl (List.mem_of_getElem? (i := 120) (by decide +kernel)) rfl rfl (by decide) (by decide) ?_
  show mcE L fr lo M_Desk_init 9 [some (mr 181)] [mr 182, mr 181] (tb jT181) (jS21 σ) 183 13775 Φ
  refine mc_putR (idx := 9) (ci := 7) (k := 0) (by decide +kernel) ⟨mcFdB_spec (w := 329) (by decide +kernel), rfl, finOk_spec (by decide +kernel)⟩ (by decide) (by decide) rfl ?_
  rw [show upc (tb jT181) 181 (upi (tb jT181 181) ((0 : Nat) : Int) (some 182)) = tb jT182 from tb_put (a := 180) (k := 0) (t := 181) (by decide +kernel) (by decide +kernel)]
  show mcE L fr lo M_Desk_init 12 [some (mr 181)] [] (tb jT182) (jS21 σ) 183 13775 Φ
  refine mc_aload_n (j := 0) (by decide +kernel) rfl ?_
  show mcE L fr lo M_Desk_init 13 [some (mr 181)] [mr 181] (tb jT182) (jS21 σ) 183 13775 Φ
  refine mc_new (idx := 15) (ci := 3) (N := 3) (by decide +kernel) ⟨_, _, _, rfl, rfl, (List.mem_of_getElem? (i := 327) (by decide +kernel)), (List.mem_of_getElem? (i := 198) (by decide +kernel)), (List.mem_of_getElem? (i := 60) (by decide +kernel))⟩ rfl (by decide) (by decide) ?_
  show mcE L fr lo M_Desk_init 16 [some (mr 181)] [mr 183, mr 181] (tb jT182) (jS21 σ) 184 13778 Φ
  refine mc_dup (by decide +kernel) rfl ?_
  show mcE L fr lo M_Desk_init 17 [some (mr 181)] [mr 183, mr 183, mr 181] (tb jT182) (jS21 σ) 184 13778 Φ
  refine mc_init (M' := M_Answer_init) (fr' := fr - 1) (lo' := lo - 40) (idx := 17) (a := 183) (vs := []) (by decide +kernel) (List.mem_of_getElem? (i := 328) (by decide +kernel)) (List.mem_of_getElem? (i := 200) (by decide +kernel)) (List.mem_of_getElem? (i := 201) (by decide +kernel)) rfl (mcCdB_spec (wi := 60) (wc := 201) (by decide +kernel)) (Or.inl rfl) (mcArB_spec (by decide +kernel)) (by decide) (by omega) (show 2 + (1 + 11) + (lo - 40) ≤ lo by omega) (by decide) ?_
  refine iv_59 (by omega) (by omega) ?_
  show mcE L fr lo M_Desk_init 20 [some (mr 181)] [mr 183, mr 181] (tb jT184) (jS21 σ) 186 13786 Φ
  refine mc_putR (idx := 18) (ci := 7) (k := 1) (by decide +kernel) ⟨mcFdB_spec (w := 331) (by decide +kernel), rfl, finOk_spec (by decide +kernel)⟩ (by decide) (by decide) rfl ?_
  rw [show upc (tb jT184) 181 (upi (tb jT184 181) ((1 : Nat) : Int) (some 183)) = tb jT185 from tb_put (a := 180) (k := 1) (t := 182) (by decide +kernel) (by decide +kernel)]
  show mcE L fr lo M_Desk_init 23 [some (mr 181)] [] (tb jT185) (jS21 σ) 186 13786 Φ
  refine mc_aload_n (j := 0) (by decide +kernel) rfl ?_
  show mcE L fr lo M_Desk_init 24 [some (mr 181)] [mr 181] (tb jT185) (jS21 σ) 186 13786 Φ
  refine mc_iconst (i := 0) (by decide +kernel) ?_
  show mcE L fr lo M_Desk_init 25 [some (mr 181)] [mi 0, mr 181] (tb jT185) (jS21 σ) 186 13786 Φ
  refine mc_putI (idx := 22) (ci := 7) (k := 2) (kd := 0) (by decide +kernel) ⟨mcFdB_spec (w := 333) (by decide +kernel), mcNfB_spec (by decide +kernel)⟩ (by decide) (by decide) (by decide) rfl (by unfold in32; decide) (by decide) ?_
  show mcE L fr lo M_Desk_init 28 [some (mr 181)] [] (tb jT185) (jS22 σ) 186 13786 Φ
  exact mc_return_ (by decide +kernel) rfl k
def jT186 : List (List Nat) := tst jT185 169 2 181
theorem iv_61 {L fr lo : Nat} {σ : mG} {Φ : mcPost} (hfr : 3 ≤ fr) (hlo : 120 ≤ lo) (k : Φ (.inl none) (tb jT186) (jS22 σ) 186 13786) : mcE L fr lo M_Client_init 0 (mcEnt M_Client_init.2.2.1 [mr 169]) [] (tb jT170) (jS19 σ) 170 13675 Φ := by
  show mcE L fr lo M_Client_init 0 [some (mr 169), none] [] (tb jT170) (jS19 σ) 170 13675 Φ
  refine mc_aload_n (j := 0) (by decide +kernel) rfl ?_
  show mcE L fr lo M_Client_init 1 [some (mr 169), none] [mr 169] (tb jT170) (jS19 σ) 170 13675 Φ
  refine mc_objInit (idx := 3) (by decide +kernel) (List.mem_of_getElem? (i := 319) (by decide +kernel)) (List.mem_of_getElem? (i := 77) (by decide +kernel)) (List.mem_of_getElem? (i := 78) (by decide +kernel)) (by omega) (show 0 + 12 ≤ lo by omega) ?_
  show mcE L fr lo M_Client_init 4 [some (mr 169), none] [] (tb jT170) (jS19 σ) 170 13675 Φ
  refine mc_aload_n (j := 0) (by decide +kernel) rfl ?_
  show mcE L fr lo M_Client_init 5 [some (mr 169), none] [mr 169] (tb jT170) (jS19 σ) 170 13675 Φ
  refine mc_iconst (i := 3) (by decide +kernel) ?_
  show mcE L fr lo M_Client_init 6 [some (mr 169), none] [mi 3, mr 169] (tb jT170) (jS19 σ) 170 13675 Φ
  refine mc_anewarray (idx := 9) (t := 6) (len := 3) (C := "SlotServer$Desk") (by decide +kernel) (by decide) rfl (List.mem_of_getElem? (i := 320) (by decide +kernel)) (List.mem_of_getElem? (i := 321) (by decide +kernel)) rfl rfl (by decide) (by decide) (by decide) ?_
  show mcE L fr lo M_Client_init 9 [some (mr 169), none] [mr 170, mr 169] (tb jT170) (jS19 σ) 171 13678 Φ
  refine mc_putR (idx := 11) (ci := 8) (k := 0) (by decide +kernel) ⟨mcFdB_spec (w := 351) (by decide +kernel), rfl, finOk_spec (by decide +kernel)⟩ (by decide) (by decide) rfl ?_
  rw [show upc (tb jT170) 169 (upi (tb jT170 169) ((0 : Nat) : Int) (some 170)) = tb jT171 from tb_put (a := 168) (k := 0) (t := 169) (by decide +kernel) (by decide +kernel)]
  show mcE L fr lo M_Client_init 12 [some (mr 169), none] [] (tb jT171) (jS19 σ) 171 13678 Φ
  refine mc_iconst (i := 0) (by decide +kernel) ?_
  show mcE L fr lo M_Client_init 13 [some (mr 169), none] [mi 0] (tb jT171) (jS19 σ) 171 13678 Φ
  refine mc_istore_n (j := 1) (by decide +kernel) (by decide) ?_
  show mcE L fr lo M_Client_init 14 [some (mr 169), some (mi 0)] [] (tb jT171) (jS19 σ) 171 13678 Φ
  refine mc_iload_n (j := 1) (by decide +kernel) rfl ?_
  show mcE L fr lo M_Client_init 15 [some (mr 169), some (mi 0)] [mi 0] (tb jT171) (jS19 σ) 171 13678 Φ
  refine mc_iconst (i := 3) (by decide +kernel) ?_
  show mcE L fr lo M_Client_init 16 [some (mr 169), some (mi 0)] [mi 3, mi 0] (tb jT171) (jS19 σ) 171 13678 Φ
  refine mc_icmp_ge (off := 22) (by decide +kernel) (by decide) (by unfold in32; decide) (by unfold in32; decide) (fun w => absurd w (by decide)) (fun _ => ?_)
  show mcE L fr lo M_Client_init 19 [some (mr 169), some (mi 0)] [] (tb jT171) (jS19 σ) 171 13678 Φ
  refine mc_aload_n (j := 0) (by decide +kernel) rfl ?_
  show mcE L fr lo M_Client_init 20 [some (mr 169), some (mi 0)] [mr 169] (tb jT171) (jS19 σ) 171 13678 Φ
  refine mc_getR (idx := 11) (ci := 8) (k := 0) (t := 170) (by decide +kernel) (mcFdB_spec (w := 351) (by decide +kernel)) (by decide) (by decide) rfl (show tb jT171 169 ((0 : Nat) : Int) = some 170 by decide +kernel) ?_
  show mcE L fr lo M_Client_init 23 [some (mr 169), some (mi 0)] [mr 170] (tb jT171) (jS19 σ) 171 13678 Φ
  refine mc_iload_n (j := 1) (by decide +kernel) rfl ?_
  show mcE L fr lo M_Client_init 24 [some (mr 169), some (mi 0)] [mi 0, mr 170] (tb jT171) (jS19 σ) 171 13678 Φ
  refine mc_new (idx := 9) (ci := 7) (N := 5) (by decide +kernel) ⟨_, _, _, rfl, rfl, (List.mem_of_getElem? (i := 320) (by decide +kernel)), (List.mem_of_getElem? (i := 322) (by decide +kernel)), (List.mem_of_getElem? (i := 62) (by decide +kernel))⟩ rfl (by decide) (by decide) ?_
  show mcE L fr lo M_Client_init 27 [some (mr 169), some (mi 0)] [mr 171, mi 0, mr 170] (tb jT171) (jS19 σ) 172 13683 Φ
  refine mc_dup (by decide +kernel) rfl ?_
  show mcE L fr lo M_Client_init 28 [some (mr 169), some (mi 0)] [mr 171, mr 171, mi 0, mr 170] (tb jT171) (jS19 σ) 172 13683 Φ
  refine mc_init (M' := M_Desk_init) (fr' := fr - 1) (lo' := lo - 40) (idx := 17) (a := 171) (vs := []) (by decide +kernel) (List.mem_of_getElem? (i := 323) (by decide +kernel)) (List.mem_of_getElem? (i := 324) (by decide +kernel)) (List.mem_of_getElem? (i := 325) (by decide +kernel)) rfl (mcCdB_spec (wi := 62) (wc := 325) (by decide +kernel)) (Or.inl rfl) (mcArB_spec (by decide +kernel)) (by decide) (by omega) (show 3 + (1 + 11) + (lo - 40) ≤ lo by omega) (by decide) ?_
  refine iv_56 (by omega) (by omega) ?_
  show mcE L fr lo M_Client_init 31 [some (mr 169), some (mi 0)] [mr 171, mi 0, mr 170] (tb jT175) (jS20 σ) 176 13714 Φ
  refine mc_aastore (a := 170) (u := 171) (x := 0) (by decide +kernel) (by decide) (by decide) (by decide) rfl (by decide) (by decide) (by decide) rfl rfl rfl ?_
  rw [show upc (tb jT175) 170 (upi (tb jT175 170) (0 : Int) (some 171)) = tb jT176 from tb_put (a := 169) (k := 0) (t := 170) (by decide +kernel) (by decide +kernel)]
  show mcE L fr lo M_Client_init 32 [some (mr 169), some (mi 0)] [] (tb jT176) (jS20 σ) 176 13714 Φ
  refine mc_iinc (i := 1) (q := 1) (by decide +kernel) rfl (by decide) ?_
  show mcE L fr lo M_Client_init 35 [some (mr 169), some (mi 1)] [] (tb jT176) (jS20 σ) 176 13714 Φ
  refine mc_goto (off := -21) (by decide +kernel) (by decide) ?_
  show mcE L fr lo M_Client_init 14 [some (mr 169), some (mi 1)] [] (tb jT176) (jS20 σ) 176 13714 Φ
  refine mc_iload_n (j := 1) (by decide +kernel) rfl ?_
  show mcE L fr lo M_Client_init 15 [some (mr 169), some (mi 1)] [mi 1] (tb jT176) (jS20 σ) 176 13714 Φ
  refine mc_iconst (i := 3) (by decide +kernel) ?_
  show mcE L fr lo M_Client_init 16 [some (mr 169), some (mi 1)] [mi 3, mi 1] (tb jT176) (jS20 σ) 176 13714 Φ
  refine mc_icmp_ge (off := 22) (by decide +kernel) (by decide) (by unfold in32; decide) (by unfold in32; decide) (fun w => absurd w (by decide)) (fun _ => ?_)
  show mcE L fr lo M_Client_init 19 [some (mr 169), some (mi 1)] [] (tb jT176) (jS20 σ) 176 13714 Φ
  refine mc_aload_n (j := 0) (by decide +kernel) rfl ?_
  show mcE L fr lo M_Client_init 20 [some (mr 169), some (mi 1)] [mr 169] (tb jT176) (jS20 σ) 176 13714 Φ
  refine mc_getR (idx := 11) (ci := 8) (k := 0) (t := 170) (by decide +kernel) (mcFdB_spec (w := 351) (by decide +kernel)) (by decide) (by decide) rfl (show tb jT176 169 ((0 : Nat) : Int) = some 170 by decide +kernel) ?_
  show mcE L fr lo M_Client_init 23 [some (mr 169), some (mi 1)] [mr 170] (tb jT176) (jS20 σ) 176 13714 Φ
  refine mc_iload_n (j := 1) (by decide +kernel) rfl ?_
  show mcE L fr lo M_Client_init 24 [some (mr 169), some (mi 1)] [mi 1, mr 170] (tb jT176) (jS20 σ) 176 13714 Φ
  refine mc_new (idx := 9) (ci := 7) (N := 5) (by decide +kernel) ⟨_, _, _, rfl, rfl, (List.mem_of_getElem? (i := 320) (by decide +kernel)), (List.mem_of_getElem? (i := 322) (by decide +kernel)), (List.mem_of_getElem? (i := 62) (by decide +kernel))⟩ rfl (by decide) (by decide) ?_
  show mcE L fr lo M_Client_init 27 [some (mr 169), some (mi 1)] [mr 176, mi 1, mr 170] (tb jT176) (jS20 σ) 177 13719 Φ
  refine mc_dup (by decide +kernel) rfl ?_
  show mcE L fr lo M_Client_init 28 [some (mr 169), some (mi 1)] [mr 176, mr 176, mi 1, mr 170] (tb jT176) (jS20 σ) 177 13719 Φ
  refine mc_init (M' := M_Desk_init) (fr' := fr - 1) (lo' := lo - 40) (idx := 17) (a := 176) (vs := []) (by decide +kernel) (List.mem_of_getElem? (i := 323) (by decide +kernel)) (List.mem_of_getElem? (i := 324) (by decide +kernel)) (List.mem_of_getElem? (i := 325) (by decide +kernel)) rfl (mcCdB_spec (wi := 62) (wc := 325) (by decide +kernel)) (Or.inl rfl) (mcArB_spec (by decide +kernel)) (by decide) (by omega) (show 3 + (1 + 11) + (lo - 40) ≤ lo by omega) (by decide) ?_
  refine iv_58 (by omega) (by omega) ?_
  show mcE L fr lo M_Client_init 31 [some (mr 169), some (mi 1)] [mr 176, mi 1, mr 170] (tb jT180) (jS21 σ) 181 13750 Φ
  refine mc_aastore (a := 170) (u := 176) (x := 1) (by decide +kernel) (by decide) (by decide) (by decide) rfl (by decide) (by decide) (by decide) rfl rfl rfl ?_
  rw [show upc (tb jT180) 170 (upi (tb jT180 170) (1 : Int) (some 176)) = tb jT181 from tb_put (a := 169) (k := 1) (t := 175) (by decide +kernel) (by decide +kernel)]
  show mcE L fr lo M_Client_init 32 [some (mr 169), some (mi 1)] [] (tb jT181) (jS21 σ) 181 13750 Φ
  refine mc_iinc (i := 1) (q := 1) (by decide +kernel) rfl (by decide) ?_
  show mcE L fr lo M_Client_init 35 [some (mr 169), some (mi 2)] [] (tb jT181) (jS21 σ) 181 13750 Φ
  refine mc_goto (off := -21) (by decide +kernel) (by decide) ?_
  show mcE L fr lo M_Client_init 14 [some (mr 169), some (mi 2)] [] (tb jT181) (jS21 σ) 181 13750 Φ
  refine mc_iload_n (j := 1) (by decide +kernel) rfl ?_
  show mcE L fr lo M_Client_init 15 [some (mr 169), some (mi 2)] [mi 2] (tb jT181) (jS21 σ) 181 13750 Φ
  refine mc_iconst (i := 3) (by decide +kernel) ?_
  show mcE L fr lo M_Client_init 16 [some (mr 169), some (mi 2)] [mi 3, mi 2] (tb jT181) (jS21 σ) 181 13750 Φ
  refine mc_icmp_ge (off := 22) (by decide +kernel) (by decide) (by unfold in32; decide) (by unfold in32; decide) (fun w => absurd w (by decide)) (fun _ => ?_)
  show mcE L fr lo M_Client_init 19 [some (mr 169), some (mi 2)] [] (tb jT181) (jS21 σ) 181 13750 Φ
  refine mc_aload_n (j := 0) (by decide +kernel) rfl ?_
  show mcE L fr lo M_Client_init 20 [some (mr 169), some (mi 2)] [mr 169] (tb jT181) (jS21 σ) 181 13750 Φ
  refine mc_getR (idx := 11) (ci := 8) (k := 0) (t := 170) (by decide +kernel) (mcFdB_spec (w := 351) (by decide +kernel)) (by decide) (by decide) rfl (show tb jT181 169 ((0 : Nat) : Int) = some 170 by decide +kernel) ?_
  show mcE L fr lo M_Client_init 23 [some (mr 169), some (mi 2)] [mr 170] (tb jT181) (jS21 σ) 181 13750 Φ
  refine mc_iload_n (j := 1) (by decide +kernel) rfl ?_
  show mcE L fr lo M_Client_init 24 [some (mr 169), some (mi 2)] [mi 2, mr 170] (tb jT181) (jS21 σ) 181 13750 Φ
  refine mc_new (idx := 9) (ci := 7) (N := 5) (by decide +kernel) ⟨_, _, _, rfl, rfl, (List.mem_of_getElem? (i := 320) (by decide +kernel)), (List.mem_of_getElem? (i := 322) (by decide +kernel)), (List.mem_of_getElem? (i := 62) (by decide +kernel))⟩ rfl (by decide) (by decide) ?_
  show mcE L fr lo M_Client_init 27 [some (mr 169), some (mi 2)] [mr 181, mi 2, mr 170] (tb jT181) (jS21 σ) 182 13755 Φ
  refine mc_dup (by decide +kernel) rfl ?_
  show mcE L fr lo M_Client_init 28 [some (mr 169), some (mi 2)] [mr 181, mr 181, mi 2, mr 170] (tb jT181) (jS21 σ) 182 13755 Φ
  refine mc_init (M' := M_Desk_init) (fr' := fr - 1) (lo' := lo - 40) (idx := 17) (a := 181) (vs := []) (by decide +kernel) (List.mem_of_getElem? (i := 323) (by decide +kernel)) (List.mem_of_getElem? (i := 324) (by decide +kernel)) (List.mem_of_getElem? (i := 325) (by decide +kernel)) rfl (mcCdB_spec (wi := 62) (wc := 325) (by decide +kernel)) (Or.inl rfl) (mcArB_spec (by decide +kernel)) (by decide) (by omega) (show 3 + (1 + 11) + (lo - 40) ≤ lo by omega) (by decide) ?_
  refine iv_60 (by omega) (by omega) ?_
  show mcE L fr lo M_Client_init 31 [some (mr 169), some (mi 2)] [mr 181, mi 2, mr 170] (tb jT185) (jS22 σ) 186 13786 Φ
  refine mc_aastore (a := 170) (u := 181) (x := 2) (by decide +kernel) (by decide) (by decide) (by decide) rfl (by decide) (by decide) (by decide) rfl rfl rfl ?_
  rw [show upc (tb jT185) 170 (upi (tb jT185 170) (2 : Int) (some 181)) = tb jT186 from tb_put (a := 169) (k := 2) (t := 180) (by decide +kernel) (by decide +kernel)]
  show mcE L fr lo M_Client_init 32 [some (mr 169), some (mi 2)] [] (tb jT186) (jS22 σ) 186 13786 Φ
  refine mc_iinc (i := 1) (q := 1) (by decide +kernel) rfl (by decide) ?_
  show mcE L fr lo M_Client_init 35 [some (mr 169), some (mi 3)] [] (tb jT186) (jS22 σ) 186 13786 Φ
  refine mc_goto (off := -21) (by decide +kernel) (by decide) ?_
  show mcE L fr lo M_Client_init 14 [some (mr 169), some (mi 3)] [] (tb jT186) (jS22 σ) 186 13786 Φ
  refine mc_iload_n (j := 1) (by decide +kernel) rfl ?_
  show mcE L fr lo M_Client_init 15 [some (mr 169), some (mi 3)] [mi 3] (tb jT186) (jS22 σ) 186 13786 Φ
  refine mc_iconst (i := 3) (by decide +kernel) ?_
  show mcE L fr lo M_Client_init 16 [some (mr 169), some (mi 3)] [mi 3, mi 3] (tb jT186) (jS22 σ) 186 13786 Φ
  refine mc_icmp_ge (off := 22) (by decide +kernel) (by decide) (by unfold in32; decide) (by unfold in32; decide) (fun _ => ?_) (fun w => absurd (by decide) w)
  show mcE L fr lo M_Client_init 38 [some (mr 169), some (mi 3)] [] (tb jT186) (jS22 σ) 186 13786 Φ
  exact mc_return_ (by decide +kernel) rfl k
def jT187 : List (List Nat) := tst jT186 1 3 169
theorem iv_62 {L fr lo : Nat} {σ : mG} {Φ : mcPost} (hfr : 6 ≤ fr) (hlo : 240 ≤ lo) (k : Φ (.inl none) (tb jT187) (jS22 σ) 186 13786) : mcE L fr lo M_Srv_init 0 (mcEnt M_Srv_init.2.2.1 [mr 1]) [] (tb jT0) (jS0 σ) 2 3 Φ := by
  show mcE L fr lo M_Srv_init 0 [some (mr 1), none] [] (tb jT0) (jS0 σ) 2 3 Φ
  refine mc_aload_n (j := 0) (by decide +kernel) rfl ?_
  show mcE L fr lo M_Srv_init 1 [some (mr 1), none] [mr 1] (tb jT0) (jS0 σ) 2 3 Φ
  refine mc_objInit (idx := 1) (by decide +kernel) (List.mem_of_getElem? (i := 76) (by decide +kernel)) (List.mem_of_getElem? (i := 77) (by decide +kernel)) (List.mem_of_getElem? (i := 78) (by decide +kernel)) (by omega) (show 0 + 12 ≤ lo by omega) ?_
  show mcE L fr lo M_Srv_init 4 [some (mr 1), none] [] (tb jT0) (jS0 σ) 2 3 Φ
  refine mc_aload_n (j := 0) (by decide +kernel) rfl ?_
  show mcE L fr lo M_Srv_init 5 [some (mr 1), none] [mr 1] (tb jT0) (jS0 σ) 2 3 Φ
  refine mc_iconst (i := 4) (by decide +kernel) ?_
  show mcE L fr lo M_Srv_init 6 [some (mr 1), none] [mi 4, mr 1] (tb jT0) (jS0 σ) 2 3 Φ
  refine mc_anewarray (idx := 9) (t := 4) (len := 4) (C := "SlotServer$Client") (by decide +kernel) (by decide) rfl (List.mem_of_getElem? (i := 79) (by decide +kernel)) (List.mem_of_getElem? (i := 80) (by decide +kernel)) rfl rfl (by decide) (by decide) (by decide) ?_
  show mcE L fr lo M_Srv_init 9 [some (mr 1), none] [mr 2, mr 1] (tb jT0) (jS0 σ) 3 7 Φ
  refine mc_putR (idx := 11) (ci := 9) (k := 0) (by decide +kernel) ⟨mcFdB_spec (w := 360) (by decide +kernel), rfl, finOk_spec (by decide +kernel)⟩ (by decide) (by decide) rfl ?_
  rw [show upc (tb jT0) 1 (upi (tb jT0 1) ((0 : Nat) : Int) (some 2)) = tb jT1 from tb_put (a := 0) (k := 0) (t := 1) (by decide +kernel) (by decide +kernel)]
  show mcE L fr lo M_Srv_init 12 [some (mr 1), none] [] (tb jT1) (jS0 σ) 3 7 Φ
  refine mc_aload_n (j := 0) (by decide +kernel) rfl ?_
  show mcE L fr lo M_Srv_init 13 [some (mr 1), none] [mr 1] (tb jT1) (jS0 σ) 3 7 Φ
  refine mc_new (idx := 15) (ci := 0) (N := 7) (by decide +kernel) ⟨_, _, _, rfl, rfl, (List.mem_of_getElem? (i := 81) (by decide +kernel)), (List.mem_of_getElem? (i := 82) (by decide +kernel)), (List.mem_of_getElem? (i := 53) (by decide +kernel))⟩ rfl (by decide) (by decide) ?_
  show mcE L fr lo M_Srv_init 16 [some (mr 1), none] [mr 3, mr 1] (tb jT1) (jS0 σ) 4 14 Φ
  refine mc_dup (by decide +kernel) rfl ?_
  show mcE L fr lo M_Srv_init 17 [some (mr 1), none] [mr 3, mr 3, mr 1] (tb jT1) (jS0 σ) 4 14 Φ
  refine mc_init (M' := M_Post_init) (fr' := fr - 1) (lo' := lo - 40) (idx := 17) (a := 3) (vs := []) (by decide +kernel) (List.mem_of_getElem? (i := 83) (by decide +kernel)) (List.mem_of_getElem? (i := 84) (by decide +kernel)) (List.mem_of_getElem? (i := 85) (by decide +kernel)) rfl (mcCdB_spec (wi := 53) (wc := 85) (by decide +kernel)) (Or.inl rfl) (mcArB_spec (by decide +kernel)) (by decide) (by omega) (show 2 + (1 + 11) + (lo - 40) ≤ lo by omega) (by decide) ?_
  refine iv_1 (by omega) (by omega) ?_
  show mcE L fr lo M_Srv_init 20 [some (mr 1), none] [mr 3, mr 1] (tb jT7) (jS0 σ) 10 7514 Φ
  refine mc_putR (idx := 18) (ci := 9) (k := 1) (by decide +kernel) ⟨mcFdB_spec (w := 361) (by decide +kernel), rfl, finOk_spec (by decide +kernel)⟩ (by decide) (by decide) rfl ?_
  rw [show upc (tb jT7) 1 (upi (tb jT7 1) ((1 : Nat) : Int) (some 3)) = tb jT8 from tb_put (a := 0) (k := 1) (t := 2) (by decide +kernel) (by decide +kernel)]
  show mcE L fr lo M_Srv_init 23 [some (mr 1), none] [] (tb jT8) (jS0 σ) 10 7514 Φ
  refine mc_aload_n (j := 0) (by decide +kernel) rfl ?_
  show mcE L fr lo M_Srv_init 24 [some (mr 1), none] [mr 1] (tb jT8) (jS0 σ) 10 7514 Φ
  refine mc_new (idx := 22) (ci := 6) (N := 7) (by decide +kernel) ⟨_, _, _, rfl, rfl, (List.mem_of_getElem? (i := 121) (by decide +kernel)), (List.mem_of_getElem? (i := 122) (by decide +kernel)), (List.mem_of_getElem? (i := 54) (by decide +kernel))⟩ rfl (by decide) (by decide) ?_
  show mcE L fr lo M_Srv_init 27 [some (mr 1), none] [mr 10, mr 1] (tb jT8) (jS0 σ) 11 7521 Φ
  refine mc_dup (by decide +kernel) rfl ?_
  show mcE L fr lo M_Srv_init 28 [some (mr 1), none] [mr 10, mr 10, mr 1] (tb jT8) (jS0 σ) 11 7521 Φ
  refine mc_init (M' := M_Server_init) (fr' := fr - 1) (lo' := lo - 40) (idx := 24) (a := 10) (vs := []) (by decide +kernel) (List.mem_of_getElem? (i := 123) (by decide +kernel)) (List.mem_of_getElem? (i := 124) (by decide +kernel)) (List.mem_of_getElem? (i := 125) (by decide +kernel)) rfl (mcCdB_spec (wi := 54) (wc := 125) (by decide +kernel)) (Or.inl rfl) (mcArB_spec (by decide +kernel)) (by decide) (by omega) (show 2 + (1 + 11) + (lo - 40) ≤ lo by omega) (by decide) ?_
  refine iv_33 (by omega) (by omega) ?_
  show mcE L fr lo M_Srv_init 31 [some (mr 1), none] [mr 10, mr 1] (tb jT118) (jS10 σ) 118 13334 Φ
  refine mc_putR (idx := 25) (ci := 9) (k := 2) (by decide +kernel) ⟨mcFdB_spec (w := 362) (by decide +kernel), rfl, finOk_spec (by decide +kernel)⟩ (by decide) (by decide) rfl ?_
  rw [show upc (tb jT118) 1 (upi (tb jT118 1) ((2 : Nat) : Int) (some 10)) = tb jT119 from tb_put (a := 0) (k := 2) (t := 9) (by decide +kernel) (by decide +kernel)]
  show mcE L fr lo M_Srv_init 34 [some (mr 1), none] [] (tb jT119) (jS10 σ) 118 13334 Φ
  refine mc_iconst (i := 0) (by decide +kernel) ?_
  show mcE L fr lo M_Srv_init 35 [some (mr 1), none] [mi 0] (tb jT119) (jS10 σ) 118 13334 Φ
  refine mc_istore_n (j := 1) (by decide +kernel) (by decide) ?_
  show mcE L fr lo M_Srv_init 36 [some (mr 1), some (mi 0)] [] (tb jT119) (jS10 σ) 118 13334 Φ
  refine mc_iload_n (j := 1) (by decide +kernel) rfl ?_
  show mcE L fr lo M_Srv_init 37 [some (mr 1), some (mi 0)] [mi 0] (tb jT119) (jS10 σ) 118 13334 Φ
  refine mc_iconst (i := 4) (by decide +kernel) ?_
  show mcE L fr lo M_Srv_init 38 [some (mr 1), some (mi 0)] [mi 4, mi 0] (tb jT119) (jS10 σ) 118 13334 Φ
  refine mc_icmp_ge (off := 22) (by decide +kernel) (by decide) (by unfold in32; decide) (by unfold in32; decide) (fun w => absurd w (by decide)) (fun _ => ?_)
  show mcE L fr lo M_Srv_init 41 [some (mr 1), some (mi 0)] [] (tb jT119) (jS10 σ) 118 13334 Φ
  refine mc_aload_n (j := 0) (by decide +kernel) rfl ?_
  show mcE L fr lo M_Srv_init 42 [some (mr 1), some (mi 0)] [mr 1] (tb jT119) (jS10 σ) 118 13334 Φ
  refine mc_getR (idx := 11) (ci := 9) (k := 0) (t := 2) (by decide +kernel) (mcFdB_spec (w := 360) (by decide +kernel)) (by decide) (by decide) rfl (show tb jT119 1 ((0 : Nat) : Int) = some 2 by decide +kernel) ?_
  show mcE L fr lo M_Srv_init 45 [some (mr 1), some (mi 0)] [mr 2] (tb jT119) (jS10 σ) 118 13334 Φ
  refine mc_iload_n (j := 1) (by decide +kernel) rfl ?_
  show mcE L fr lo M_Srv_init 46 [some (mr 1), some (mi 0)] [mi 0, mr 2] (tb jT119) (jS10 σ) 118 13334 Φ
  refine mc_new (idx := 9) (ci := 8) (N := 2) (by decide +kernel) ⟨_, _, _, rfl, rfl, (List.mem_of_getElem? (i := 79) (by decide +kernel)), (List.mem_of_getElem? (i := 315) (by decide +kernel)), (List.mem_of_getElem? (i := 61) (by decide +kernel))⟩ rfl (by decide) (by decide) ?_
  show mcE L fr lo M_Srv_init 49 [some (mr 1), some (mi 0)] [mr 118, mi 0, mr 2] (tb jT119) (jS10 σ) 119 13336 Φ
  refine mc_dup (by decide +kernel) rfl ?_
  show mcE L fr lo M_Srv_init 50 [some (mr 1), some (mi 0)] [mr 118, mr 118, mi 0, mr 2] (tb jT119) (jS10 σ) 119 13336 Φ
  refine mc_init (M' := M_Client_init) (fr' := fr - 1) (lo' := lo - 40) (idx := 29) (a := 118) (vs := []) (by decide +kernel) (List.mem_of_getElem? (i := 316) (by decide +kernel)) (List.mem_of_getElem? (i := 317) (by decide +kernel)) (List.mem_of_getElem? (i := 318) (by decide +kernel)) rfl (mcCdB_spec (wi := 61) (wc := 318) (by decide +kernel)) (Or.inl rfl) (mcArB_spec (by decide +kernel)) (by decide) (by omega) (show 3 + (2 + 11) + (lo - 40) ≤ lo by omega) (by decide) ?_
  refine iv_40 (by omega) (by omega) ?_
  show mcE L fr lo M_Srv_init 53 [some (mr 1), some (mi 0)] [mr 118, mi 0, mr 2] (tb jT135) (jS13 σ) 135 13447 Φ
  refine mc_aastore (a := 2) (u := 118) (x := 0) (by decide +kernel) (by decide) (by decide) (by decide) rfl (by decide) (by decide) (by decide) rfl rfl rfl ?_
  rw [show upc (tb jT135) 2 (upi (tb jT135 2) (0 : Int) (some 118)) = tb jT136 from tb_put (a := 1) (k := 0) (t := 117) (by decide +kernel) (by decide +kernel)]
  show mcE L fr lo M_Srv_init 54 [some (mr 1), some (mi 0)] [] (tb jT136) (jS13 σ) 135 13447 Φ
  refine mc_iinc (i := 1) (q := 1) (by decide +kernel) rfl (by decide) ?_
  show mcE L fr lo M_Srv_init 57 [some (mr 1), some (mi 1)] [] (tb jT136) (jS13 σ) 135 13447 Φ
  refine mc_goto (off := -21) (by decide +kernel) (by decide) ?_
  show mcE L fr lo M_Srv_init 36 [some (mr 1), some (mi 1)] [] (tb jT136) (jS13 σ) 135 13447 Φ
  refine mc_iload_n (j := 1) (by decide +kernel) rfl ?_
  show mcE L fr lo M_Srv_init 37 [some (mr 1), some (mi 1)] [mi 1] (tb jT136) (jS13 σ) 135 13447 Φ
  refine mc_iconst (i := 4) (by decide +kernel) ?_
  show mcE L fr lo M_Srv_init 38 [some (mr 1), some (mi 1)] [mi 4, mi 1] (tb jT136) (jS13 σ) 135 13447 Φ
  refine mc_icmp_ge (off := 22) (by decide +kernel) (by decide) (by unfold in32; decide) (by unfold in32; decide) (fun w => absurd w (by decide)) (fun _ => ?_)
  show mcE L fr lo M_Srv_init 41 [some (mr 1), some (mi 1)] [] (tb jT136) (jS13 σ) 135 13447 Φ
  refine mc_aload_n (j := 0) (by decide +kernel) rfl ?_
  show mcE L fr lo M_Srv_init 42 [some (mr 1), some (mi 1)] [mr 1] (tb jT136) (jS13 σ) 135 13447 Φ
  refine mc_getR (idx := 11) (ci := 9) (k := 0) (t := 2) (by decide +kernel) (mcFdB_spec (w := 360) (by decide +kernel)) (by decide) (by decide) rfl (show tb jT136 1 ((0 : Nat) : Int) = some 2 by decide +kernel) ?_
  show mcE L fr lo M_Srv_init 45 [some (mr 1), some (mi 1)] [mr 2] (tb jT136) (jS13 σ) 135 13447 Φ
  refine mc_iload_n (j := 1) (by decide +kernel) rfl ?_
  show mcE L fr lo M_Srv_init 46 [some (mr 1), some (mi 1)] [mi 1, mr 2] (tb jT136) (jS13 σ) 135 13447 Φ
  refine mc_new (idx := 9) (ci := 8) (N := 2) (by decide +kernel) ⟨_, _, _, rfl, rfl, (List.mem_of_getElem? (i := 79) (by decide +kernel)), (List.mem_of_getElem? (i := 315) (by decide +kernel)), (List.mem_of_getElem? (i := 61) (by decide +kernel))⟩ rfl (by decide) (by decide) ?_
  show mcE L fr lo M_Srv_init 49 [some (mr 1), some (mi 1)] [mr 135, mi 1, mr 2] (tb jT136) (jS13 σ) 136 13449 Φ
  refine mc_dup (by decide +kernel) rfl ?_
  show mcE L fr lo M_Srv_init 50 [some (mr 1), some (mi 1)] [mr 135, mr 135, mi 1, mr 2] (tb jT136) (jS13 σ) 136 13449 Φ
  refine mc_init (M' := M_Client_init) (fr' := fr - 1) (lo' := lo - 40) (idx := 29) (a := 135) (vs := []) (by decide +kernel) (List.mem_of_getElem? (i := 316) (by decide +kernel)) (List.mem_of_getElem? (i := 317) (by decide +kernel)) (List.mem_of_getElem? (i := 318) (by decide +kernel)) rfl (mcCdB_spec (wi := 61) (wc := 318) (by decide +kernel)) (Or.inl rfl) (mcArB_spec (by decide +kernel)) (by decide) (by omega) (show 3 + (2 + 11) + (lo - 40) ≤ lo by omega) (by decide) ?_
  refine iv_47 (by omega) (by omega) ?_
  show mcE L fr lo M_Srv_init 53 [some (mr 1), some (mi 1)] [mr 135, mi 1, mr 2] (tb jT152) (jS16 σ) 152 13560 Φ
  refine mc_aastore (a := 2) (u := 135) (x := 1) (by decide +kernel) (by decide) (by decide) (by decide) rfl (by decide) (by decide) (by decide) rfl rfl rfl ?_
  rw [show upc (tb jT152) 2 (upi (tb jT152 2) (1 : Int) (some 135)) = tb jT153 from tb_put (a := 1) (k := 1) (t := 134) (by decide +kernel) (by decide +kernel)]
  show mcE L fr lo M_Srv_init 54 [some (mr 1), some (mi 1)] [] (tb jT153) (jS16 σ) 152 13560 Φ
  refine mc_iinc (i := 1) (q := 1) (by decide +kernel) rfl (by decide) ?_
  show mcE L fr lo M_Srv_init 57 [some (mr 1), some (mi 2)] [] (tb jT153) (jS16 σ) 152 13560 Φ
  refine mc_goto (off := -21) (by decide +kernel) (by decide) ?_
  show mcE L fr lo M_Srv_init 36 [some (mr 1), some (mi 2)] [] (tb jT153) (jS16 σ) 152 13560 Φ
  refine mc_iload_n (j := 1) (by decide +kernel) rfl ?_
  show mcE L fr lo M_Srv_init 37 [some (mr 1), some (mi 2)] [mi 2] (tb jT153) (jS16 σ) 152 13560 Φ
  refine mc_iconst (i := 4) (by decide +kernel) ?_
  show mcE L fr lo M_Srv_init 38 [some (mr 1), some (mi 2)] [mi 4, mi 2] (tb jT153) (jS16 σ) 152 13560 Φ
  refine mc_icmp_ge (off := 22) (by decide +kernel) (by decide) (by unfold in32; decide) (by unfold in32; decide) (fun w => absurd w (by decide)) (fun _ => ?_)
  show mcE L fr lo M_Srv_init 41 [some (mr 1), some (mi 2)] [] (tb jT153) (jS16 σ) 152 13560 Φ
  refine mc_aload_n (j := 0) (by decide +kernel) rfl ?_
  show mcE L fr lo M_Srv_init 42 [some (mr 1), some (mi 2)] [mr 1] (tb jT153) (jS16 σ) 152 13560 Φ
  refine mc_getR (idx := 11) (ci := 9) (k := 0) (t := 2) (by decide +kernel) (mcFdB_spec (w := 360) (by decide +kernel)) (by decide) (by decide) rfl (show tb jT153 1 ((0 : Nat) : Int) = some 2 by decide +kernel) ?_
  show mcE L fr lo M_Srv_init 45 [some (mr 1), some (mi 2)] [mr 2] (tb jT153) (jS16 σ) 152 13560 Φ
  refine mc_iload_n (j := 1) (by decide +kernel) rfl ?_
  show mcE L fr lo M_Srv_init 46 [some (mr 1), some (mi 2)] [mi 2, mr 2] (tb jT153) (jS16 σ) 152 13560 Φ
  refine mc_new (idx := 9) (ci := 8) (N := 2) (by decide +kernel) ⟨_, _, _, rfl, rfl, (List.mem_of_getElem? (i := 79) (by decide +kernel)), (List.mem_of_getElem? (i := 315) (by decide +kernel)), (List.mem_of_getElem? (i := 61) (by decide +kernel))⟩ rfl (by decide) (by decide) ?_
  show mcE L fr lo M_Srv_init 49 [some (mr 1), some (mi 2)] [mr 152, mi 2, mr 2] (tb jT153) (jS16 σ) 153 13562 Φ
  refine mc_dup (by decide +kernel) rfl ?_
  show mcE L fr lo M_Srv_init 50 [some (mr 1), some (mi 2)] [mr 152, mr 152, mi 2, mr 2] (tb jT153) (jS16 σ) 153 13562 Φ
  refine mc_init (M' := M_Client_init) (fr' := fr - 1) (lo' := lo - 40) (idx := 29) (a := 152) (vs := []) (by decide +kernel) (List.mem_of_getElem? (i := 316) (by decide +kernel)) (List.mem_of_getElem? (i := 317) (by decide +kernel)) (List.mem_of_getElem? (i := 318) (by decide +kernel)) rfl (mcCdB_spec (wi := 61) (wc := 318) (by decide +kernel)) (Or.inl rfl) (mcArB_spec (by decide +kernel)) (by decide) (by omega) (show 3 + (2 + 11) + (lo - 40) ≤ lo by omega) (by decide) ?_
  refine iv_54 (by omega) (by omega) ?_
  show mcE L fr lo M_Srv_init 53 [some (mr 1), some (mi 2)] [mr 152, mi 2, mr 2] (tb jT169) (jS19 σ) 169 13673 Φ
  refine mc_aastore (a := 2) (u := 152) (x := 2) (by decide +kernel) (by decide) (by decide) (by decide) rfl (by decide) (by decide) (by decide) rfl rfl rfl ?_
  rw [show upc (tb jT169) 2 (upi (tb jT169 2) (2 : Int) (some 152)) = tb jT170 from tb_put (a := 1) (k := 2) (t := 151) (by decide +kernel) (by decide +kernel)]
  show mcE L fr lo M_Srv_init 54 [some (mr 1), some (mi 2)] [] (tb jT170) (jS19 σ) 169 13673 Φ
  refine mc_iinc (i := 1) (q := 1) (by decide +kernel) rfl (by decide) ?_
  show mcE L fr lo M_Srv_init 57 [some (mr 1), some (mi 3)] [] (tb jT170) (jS19 σ) 169 13673 Φ
  refine mc_goto (off := -21) (by decide +kernel) (by decide) ?_
  show mcE L fr lo M_Srv_init 36 [some (mr 1), some (mi 3)] [] (tb jT170) (jS19 σ) 169 13673 Φ
  refine mc_iload_n (j := 1) (by decide +kernel) rfl ?_
  show mcE L fr lo M_Srv_init 37 [some (mr 1), some (mi 3)] [mi 3] (tb jT170) (jS19 σ) 169 13673 Φ
  refine mc_iconst (i := 4) (by decide +kernel) ?_
  show mcE L fr lo M_Srv_init 38 [some (mr 1), some (mi 3)] [mi 4, mi 3] (tb jT170) (jS19 σ) 169 13673 Φ
  refine mc_icmp_ge (off := 22) (by decide +kernel) (by decide) (by unfold in32; decide) (by unfold in32; decide) (fun w => absurd w (by decide)) (fun _ => ?_)
  show mcE L fr lo M_Srv_init 41 [some (mr 1), some (mi 3)] [] (tb jT170) (jS19 σ) 169 13673 Φ
  refine mc_aload_n (j := 0) (by decide +kernel) rfl ?_
  show mcE L fr lo M_Srv_init 42 [some (mr 1), some (mi 3)] [mr 1] (tb jT170) (jS19 σ) 169 13673 Φ
  refine mc_getR (idx := 11) (ci := 9) (k := 0) (t := 2) (by decide +kernel) (mcFdB_spec (w := 360) (by decide +kernel)) (by decide) (by decide) rfl (show tb jT170 1 ((0 : Nat) : Int) = some 2 by decide +kernel) ?_
  show mcE L fr lo M_Srv_init 45 [some (mr 1), some (mi 3)] [mr 2] (tb jT170) (jS19 σ) 169 13673 Φ
  refine mc_iload_n (j := 1) (by decide +kernel) rfl ?_
  show mcE L fr lo M_Srv_init 46 [some (mr 1), some (mi 3)] [mi 3, mr 2] (tb jT170) (jS19 σ) 169 13673 Φ
  refine mc_new (idx := 9) (ci := 8) (N := 2) (by decide +kernel) ⟨_, _, _, rfl, rfl, (List.mem_of_getElem? (i := 79) (by decide +kernel)), (List.mem_of_getElem? (i := 315) (by decide +kernel)), (List.mem_of_getElem? (i := 61) (by decide +kernel))⟩ rfl (by decide) (by decide) ?_
  show mcE L fr lo M_Srv_init 49 [some (mr 1), some (mi 3)] [mr 169, mi 3, mr 2] (tb jT170) (jS19 σ) 170 13675 Φ
  refine mc_dup (by decide +kernel) rfl ?_
  show mcE L fr lo M_Srv_init 50 [some (mr 1), some (mi 3)] [mr 169, mr 169, mi 3, mr 2] (tb jT170) (jS19 σ) 170 13675 Φ
  refine mc_init (M' := M_Client_init) (fr' := fr - 1) (lo' := lo - 40) (idx := 29) (a := 169) (vs := []) (by decide +kernel) (List.mem_of_getElem? (i := 316) (by decide +kernel)) (List.mem_of_getElem? (i := 317) (by decide +kernel)) (List.mem_of_getElem? (i := 318) (by decide +kernel)) rfl (mcCdB_spec (wi := 61) (wc := 318) (by decide +kernel)) (Or.inl rfl) (mcArB_spec (by decide +kernel)) (by decide) (by omega) (show 3 + (2 + 11) + (lo - 40) ≤ lo by omega) (by decide) ?_
  refine iv_61 (by omega) (by omega) ?_
  show mcE L fr lo M_Srv_init 53 [some (mr 1), some (mi 3)] [mr 169, mi 3, mr 2] (tb jT186) (jS22 σ) 186 13786 Φ
  refine mc_aastore (a := 2) (u := 169) (x := 3) (by decide +kernel) (by decide) (by decide) (by decide) rfl (by decide) (by decide) (by decide) rfl rfl rfl ?_
  rw [show upc (tb jT186) 2 (upi (tb jT186 2) (3 : Int) (some 169)) = tb jT187 from tb_put (a := 1) (k := 3) (t := 168) (by decide +kernel) (by decide +kernel)]
  show mcE L fr lo M_Srv_init 54 [some (mr 1), some (mi 3)] [] (tb jT187) (jS22 σ) 186 13786 Φ
  refine mc_iinc (i := 1) (q := 1) (by decide +kernel) rfl (by decide) ?_
  show mcE L fr lo M_Srv_init 57 [some (mr 1), some (mi 4)] [] (tb jT187) (jS22 σ) 186 13786 Φ
  refine mc_goto (off := -21) (by decide +kernel) (by decide) ?_
  show mcE L fr lo M_Srv_init 36 [some (mr 1), some (mi 4)] [] (tb jT187) (jS22 σ) 186 13786 Φ
  refine mc_iload_n (j := 1) (by decide +kernel) rfl ?_
  show mcE L fr lo M_Srv_init 37 [some (mr 1), some (mi 4)] [mi 4] (tb jT187) (jS22 σ) 186 13786 Φ
  refine mc_iconst (i := 4) (by decide +kernel) ?_
  show mcE L fr lo M_Srv_init 38 [some (mr 1), some (mi 4)] [mi 4, mi 4] (tb jT187) (jS22 σ) 186 13786 Φ
  refine mc_icmp_ge (off := 22) (by decide +kernel) (by decide) (by unfold in32; decide) (by unfold in32; decide) (fun _ => ?_) (fun w => absurd (by decide) w)
  show mcE L fr lo M_Srv_init 60 [some (mr 1), some (mi 4)] [] (tb jT187) (jS22 σ) 186 13786 Φ
  exact mc_return_ (by decide +kernel) rfl k
-- end: T187 S22 n 186 z 13786
