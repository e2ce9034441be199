/-! 69.ctor2: printed by wip/whole/prog/ctor.py: the reference's constructor, the law's entry -/
def jT188 : List (List Nat) := tst jT187 185 1 187
def jT189 : List (List Nat) := tst jT188 185 2 188
def jT190 : List (List Nat) := tst jT189 185 3 189
def jT191 : List (List Nat) := tst jT190 185 4 190
def jT192 : List (List Nat) := tst jT191 185 5 191
def jT193 : List (List Nat) := tst jT192 185 6 192
def jT194 : List (List Nat) := tst jT193 185 7 193
def jT195 : List (List Nat) := tst jT194 185 8 194
def jT196 : List (List Nat) := tst jT195 185 10 195
def jT197 : List (List Nat) := tst jT196 185 11 196
def jT198 : List (List Nat) := tst jT197 185 12 197
def jT199 : List (List Nat) := tst jT198 185 13 198
def jT200 : List (List Nat) := tst jT199 185 14 199
def jT201 : List (List Nat) := tst jT200 185 15 200
def jT202 : List (List Nat) := tst jT201 185 16 201
def jT203 : List (List Nat) := tst jT202 185 17 202
def jS23 (σ : mG) : mG := upc (jS22 σ) 186 (upi ((jS22 σ) 186) 19 1)
def jS24 (σ : mG) : mG := upc (jS23 σ) 186 (upi ((jS23 σ) 186) 20 (-1))
theorem mo_0 {L fr lo : Nat} {σ : mG} {Φ : mcPost} (hfr : 1 ≤ fr) (hlo : 40 ≤ lo) (k : mcE L fr lo M_Mod_init 148 [some (mr 186), some (mi 0)] [] (tb jT203) (jS24 σ) 203 42892 Φ) : mcE L fr lo M_Mod_init 0 [some (mr 186), none] [] (tb jT187) (jS22 σ) 187 13812 Φ := by
  show mcE L fr lo M_Mod_init 0 [some (mr 186), none] [] (tb jT187) (jS22 σ) 187 13812 Φ
  refine mc_aload_n (j := 0) (by decide +kernel) rfl ?_
  show mcE L fr lo M_Mod_init 1 [some (mr 186), none] [mr 186] (tb jT187) (jS22 σ) 187 13812 Φ
  refine mc_objInit (idx := 1) (by decide +kernel) (List.mem_of_getElem? (i := 920) (by decide +kernel)) (List.mem_of_getElem? (i := 77) (by decide +kernel)) (List.mem_of_getElem? (i := 78) (by decide +kernel)) (by omega) (show 0 + 12 ≤ lo by omega) ?_
  show mcE L fr lo M_Mod_init 4 [some (mr 186), none] [] (tb jT187) (jS22 σ) 187 13812 Φ
  refine mc_aload_n (j := 0) (by decide +kernel) rfl ?_
  show mcE L fr lo M_Mod_init 5 [some (mr 186), none] [mr 186] (tb jT187) (jS22 σ) 187 13812 Φ
  refine mc_iconst (i := 4) (by decide +kernel) ?_
  show mcE L fr lo M_Mod_init 6 [some (mr 186), none] [mi 4, mr 186] (tb jT187) (jS22 σ) 187 13812 Φ
  refine mc_newarray (at' := .int) (t := 0) (len := 4) (by decide +kernel) (by decide) rfl (List.mem_of_getElem? (i := 120) (by decide +kernel)) rfl rfl (by decide) (by decide) ?_
  show mcE L fr lo M_Mod_init 8 [some (mr 186), none] [mr 187, mr 186] (tb jT187) (jS22 σ) 188 13816 Φ
  refine mc_putR (idx := 7) (ci := 10) (k := 1) (by decide +kernel) ⟨mcFdB_spec (w := 922) (by decide +kernel), rfl, finOk_spec (by decide +kernel)⟩ (by decide) (by decide) rfl ?_
  rw [show upc (tb jT187) 186 (upi (tb jT187 186) ((1 : Nat) : Int) (some 187)) = tb jT188 from tb_put (a := 185) (k := 1) (t := 186) (by decide +kernel) (by decide +kernel)]
  show mcE L fr lo M_Mod_init 11 [some (mr 186), none] [] (tb jT188) (jS22 σ) 188 13816 Φ
  refine mc_aload_n (j := 0) (by decide +kernel) rfl ?_
  show mcE L fr lo M_Mod_init 12 [some (mr 186), none] [mr 186] (tb jT188) (jS22 σ) 188 13816 Φ
  refine mc_bipush (i := 12) (by decide +kernel) (by decide) ?_
  show mcE L fr lo M_Mod_init 14 [some (mr 186), none] [mi 12, mr 186] (tb jT188) (jS22 σ) 188 13816 Φ
  refine mc_newarray (at' := .int) (t := 0) (len := 12) (by decide +kernel) (by decide) rfl (List.mem_of_getElem? (i := 120) (by decide +kernel)) rfl rfl (by decide) (by decide) ?_
  show mcE L fr lo M_Mod_init 16 [some (mr 186), none] [mr 188, mr 186] (tb jT188) (jS22 σ) 189 13828 Φ
  refine mc_putR (idx := 13) (ci := 10) (k := 2) (by decide +kernel) ⟨mcFdB_spec (w := 923) (by decide +kernel), rfl, finOk_spec (by decide +kernel)⟩ (by decide) (by decide) rfl ?_
  rw [show upc (tb jT188) 186 (upi (tb jT188 186) ((2 : Nat) : Int) (some 188)) = tb jT189 from tb_put (a := 185) (k := 2) (t := 187) (by decide +kernel) (by decide +kernel)]
  show mcE L fr lo M_Mod_init 19 [some (mr 186), none] [] (tb jT189) (jS22 σ) 189 13828 Φ
  refine mc_aload_n (j := 0) (by decide +kernel) rfl ?_
  show mcE L fr lo M_Mod_init 20 [some (mr 186), none] [mr 186] (tb jT189) (jS22 σ) 189 13828 Φ
  refine mc_sipush (i := 240) (by decide +kernel) (by decide) ?_
  show mcE L fr lo M_Mod_init 23 [some (mr 186), none] [mi 240, mr 186] (tb jT189) (jS22 σ) 189 13828 Φ
  refine mc_newarray (at' := .int) (t := 0) (len := 240) (by decide +kernel) (by decide) rfl (List.mem_of_getElem? (i := 120) (by decide +kernel)) rfl rfl (by decide) (by decide) ?_
  show mcE L fr lo M_Mod_init 25 [some (mr 186), none] [mr 189, mr 186] (tb jT189) (jS22 σ) 190 14068 Φ
  refine mc_putR (idx := 16) (ci := 10) (k := 3) (by decide +kernel) ⟨mcFdB_spec (w := 924) (by decide +kernel), rfl, finOk_spec (by decide +kernel)⟩ (by decide) (by decide) rfl ?_
  rw [show upc (tb jT189) 186 (upi (tb jT189 186) ((3 : Nat) : Int) (some 189)) = tb jT190 from tb_put (a := 185) (k := 3) (t := 188) (by decide +kernel) (by decide +kernel)]
  show mcE L fr lo M_Mod_init 28 [some (mr 186), none] [] (tb jT190) (jS22 σ) 190 14068 Φ
  refine mc_aload_n (j := 0) (by decide +kernel) rfl ?_
  show mcE L fr lo M_Mod_init 29 [some (mr 186), none] [mr 186] (tb jT190) (jS22 σ) 190 14068 Φ
  refine mc_bipush (i := 12) (by decide +kernel) (by decide) ?_
  show mcE L fr lo M_Mod_init 31 [some (mr 186), none] [mi 12, mr 186] (tb jT190) (jS22 σ) 190 14068 Φ
  refine mc_newarray (at' := .int) (t := 0) (len := 12) (by decide +kernel) (by decide) rfl (List.mem_of_getElem? (i := 120) (by decide +kernel)) rfl rfl (by decide) (by decide) ?_
  show mcE L fr lo M_Mod_init 33 [some (mr 186), none] [mr 190, mr 186] (tb jT190) (jS22 σ) 191 14080 Φ
  refine mc_putR (idx := 19) (ci := 10) (k := 4) (by decide +kernel) ⟨mcFdB_spec (w := 925) (by decide +kernel), rfl, finOk_spec (by decide +kernel)⟩ (by decide) (by decide) rfl ?_
  rw [show upc (tb jT190) 186 (upi (tb jT190 186) ((4 : Nat) : Int) (some 190)) = tb jT191 from tb_put (a := 185) (k := 4) (t := 189) (by decide +kernel) (by decide +kernel)]
  show mcE L fr lo M_Mod_init 36 [some (mr 186), none] [] (tb jT191) (jS22 σ) 191 14080 Φ
  refine mc_aload_n (j := 0) (by decide +kernel) rfl ?_
  show mcE L fr lo M_Mod_init 37 [some (mr 186), none] [mr 186] (tb jT191) (jS22 σ) 191 14080 Φ
  refine mc_bipush (i := 12) (by decide +kernel) (by decide) ?_
  show mcE L fr lo M_Mod_init 39 [some (mr 186), none] [mi 12, mr 186] (tb jT191) (jS22 σ) 191 14080 Φ
  refine mc_newarray (at' := .boolean) (t := 2) (len := 12) (by decide +kernel) (by decide) rfl (List.mem_of_getElem? (i := 1000) (by decide +kernel)) rfl rfl (by decide) (by decide) ?_
  show mcE L fr lo M_Mod_init 41 [some (mr 186), none] [mr 191, mr 186] (tb jT191) (jS22 σ) 192 14092 Φ
  refine mc_putR (idx := 22) (ci := 10) (k := 5) (by decide +kernel) ⟨mcFdB_spec (w := 926) (by decide +kernel), rfl, finOk_spec (by decide +kernel)⟩ (by decide) (by decide) rfl ?_
  rw [show upc (tb jT191) 186 (upi (tb jT191 186) ((5 : Nat) : Int) (some 191)) = tb jT192 from tb_put (a := 185) (k := 5) (t := 190) (by decide +kernel) (by decide +kernel)]
  show mcE L fr lo M_Mod_init 44 [some (mr 186), none] [] (tb jT192) (jS22 σ) 192 14092 Φ
  refine mc_aload_n (j := 0) (by decide +kernel) rfl ?_
  show mcE L fr lo M_Mod_init 45 [some (mr 186), none] [mr 186] (tb jT192) (jS22 σ) 192 14092 Φ
  refine mc_bipush (i := 12) (by decide +kernel) (by decide) ?_
  show mcE L fr lo M_Mod_init 47 [some (mr 186), none] [mi 12, mr 186] (tb jT192) (jS22 σ) 192 14092 Φ
  refine mc_newarray (at' := .int) (t := 0) (len := 12) (by decide +kernel) (by decide) rfl (List.mem_of_getElem? (i := 120) (by decide +kernel)) rfl rfl (by decide) (by decide) ?_
  show mcE L fr lo M_Mod_init 49 [some (mr 186), none] [mr 192, mr 186] (tb jT192) (jS22 σ) 193 14104 Φ
  refine mc_putR (idx := 26) (ci := 10) (k := 6) (by decide +kernel) ⟨mcFdB_spec (w := 927) (by decide +kernel), rfl, finOk_spec (by decide +kernel)⟩ (by decide) (by decide) rfl ?_
  rw [show upc (tb jT192) 186 (upi (tb jT192 186) ((6 : Nat) : Int) (some 192)) = tb jT193 from tb_put (a := 185) (k := 6) (t := 191) (by decide +kernel) (by decide +kernel)]
  show mcE L fr lo M_Mod_init 52 [some (mr 186), none] [] (tb jT193) (jS22 σ) 193 14104 Φ
  refine mc_aload_n (j := 0) (by decide +kernel) rfl ?_
  show mcE L fr lo M_Mod_init 53 [some (mr 186), none] [mr 186] (tb jT193) (jS22 σ) 193 14104 Φ
  refine mc_bipush (i := 48) (by decide +kernel) (by decide) ?_
  show mcE L fr lo M_Mod_init 55 [some (mr 186), none] [mi 48, mr 186] (tb jT193) (jS22 σ) 193 14104 Φ
  refine mc_newarray (at' := .int) (t := 0) (len := 48) (by decide +kernel) (by decide) rfl (List.mem_of_getElem? (i := 120) (by decide +kernel)) rfl rfl (by decide) (by decide) ?_
  show mcE L fr lo M_Mod_init 57 [some (mr 186), none] [mr 193, mr 186] (tb jT193) (jS22 σ) 194 14152 Φ
  refine mc_putR (idx := 29) (ci := 10) (k := 7) (by decide +kernel) ⟨mcFdB_spec (w := 928) (by decide +kernel), rfl, finOk_spec (by decide +kernel)⟩ (by decide) (by decide) rfl ?_
  rw [show upc (tb jT193) 186 (upi (tb jT193 186) ((7 : Nat) : Int) (some 193)) = tb jT194 from tb_put (a := 185) (k := 7) (t := 192) (by decide +kernel) (by decide +kernel)]
  show mcE L fr lo M_Mod_init 60 [some (mr 186), none] [] (tb jT194) (jS22 σ) 194 14152 Φ
  refine mc_aload_n (j := 0) (by decide +kernel) rfl ?_
  show mcE L fr lo M_Mod_init 61 [some (mr 186), none] [mr 186] (tb jT194) (jS22 σ) 194 14152 Φ
  refine mc_bipush (i := 48) (by decide +kernel) (by decide) ?_
  show mcE L fr lo M_Mod_init 63 [some (mr 186), none] [mi 48, mr 186] (tb jT194) (jS22 σ) 194 14152 Φ
  refine mc_newarray (at' := .int) (t := 0) (len := 48) (by decide +kernel) (by decide) rfl (List.mem_of_getElem? (i := 120) (by decide +kernel)) rfl rfl (by decide) (by decide) ?_
  show mcE L fr lo M_Mod_init 65 [some (mr 186), none] [mr 194, mr 186] (tb jT194) (jS22 σ) 195 14200 Φ
  refine mc_putR (idx := 32) (ci := 10) (k := 8) (by decide +kernel) ⟨mcFdB_spec (w := 929) (by decide +kernel), rfl, finOk_spec (by decide +kernel)⟩ (by decide) (by decide) rfl ?_
  rw [show upc (tb jT194) 186 (upi (tb jT194 186) ((8 : Nat) : Int) (some 194)) = tb jT195 from tb_put (a := 185) (k := 8) (t := 193) (by decide +kernel) (by decide +kernel)]
  show mcE L fr lo M_Mod_init 68 [some (mr 186), none] [] (tb jT195) (jS22 σ) 195 14200 Φ
  refine mc_aload_n (j := 0) (by decide +kernel) rfl ?_
  show mcE L fr lo M_Mod_init 69 [some (mr 186), none] [mr 186] (tb jT195) (jS22 σ) 195 14200 Φ
  refine mc_sipush (i := 1500) (by decide +kernel) (by decide) ?_
  show mcE L fr lo M_Mod_init 72 [some (mr 186), none] [mi 1500, mr 186] (tb jT195) (jS22 σ) 195 14200 Φ
  refine mc_newarray (at' := .int) (t := 0) (len := 1500) (by decide +kernel) (by decide) rfl (List.mem_of_getElem? (i := 120) (by decide +kernel)) rfl rfl (by decide) (by decide) ?_
  show mcE L fr lo M_Mod_init 74 [some (mr 186), none] [mr 195, mr 186] (tb jT195) (jS22 σ) 196 15700 Φ
  refine mc_putR (idx := 35) (ci := 10) (k := 10) (by decide +kernel) ⟨mcFdB_spec (w := 931) (by decide +kernel), rfl, finOk_spec (by decide +kernel)⟩ (by decide) (by decide) rfl ?_
  rw [show upc (tb jT195) 186 (upi (tb jT195 186) ((10 : Nat) : Int) (some 195)) = tb jT196 from tb_put (a := 185) (k := 10) (t := 194) (by decide +kernel) (by decide +kernel)]
  show mcE L fr lo M_Mod_init 77 [some (mr 186), none] [] (tb jT196) (jS22 σ) 196 15700 Φ
  refine mc_aload_n (j := 0) (by decide +kernel) rfl ?_
  show mcE L fr lo M_Mod_init 78 [some (mr 186), none] [mr 186] (tb jT196) (jS22 σ) 196 15700 Φ
  refine mc_sipush (i := 6000) (by decide +kernel) (by decide) ?_
  show mcE L fr lo M_Mod_init 81 [some (mr 186), none] [mi 6000, mr 186] (tb jT196) (jS22 σ) 196 15700 Φ
  refine mc_newarray (at' := .int) (t := 0) (len := 6000) (by decide +kernel) (by decide) rfl (List.mem_of_getElem? (i := 120) (by decide +kernel)) rfl rfl (by decide) (by decide) ?_
  show mcE L fr lo M_Mod_init 83 [some (mr 186), none] [mr 196, mr 186] (tb jT196) (jS22 σ) 197 21700 Φ
  refine mc_putR (idx := 38) (ci := 10) (k := 11) (by decide +kernel) ⟨mcFdB_spec (w := 932) (by decide +kernel), rfl, finOk_spec (by decide +kernel)⟩ (by decide) (by decide) rfl ?_
  rw [show upc (tb jT196) 186 (upi (tb jT196 186) ((11 : Nat) : Int) (some 196)) = tb jT197 from tb_put (a := 185) (k := 11) (t := 195) (by decide +kernel) (by decide +kernel)]
  show mcE L fr lo M_Mod_init 86 [some (mr 186), none] [] (tb jT197) (jS22 σ) 197 21700 Φ
  refine mc_aload_n (j := 0) (by decide +kernel) rfl ?_
  show mcE L fr lo M_Mod_init 87 [some (mr 186), none] [mr 186] (tb jT197) (jS22 σ) 197 21700 Φ
  refine mc_sipush (i := 2400) (by decide +kernel) (by decide) ?_
  show mcE L fr lo M_Mod_init 90 [some (mr 186), none] [mi 2400, mr 186] (tb jT197) (jS22 σ) 197 21700 Φ
  refine mc_newarray (at' := .int) (t := 0) (len := 2400) (by decide +kernel) (by decide) rfl (List.mem_of_getElem? (i := 120) (by decide +kernel)) rfl rfl (by decide) (by decide) ?_
  show mcE L fr lo M_Mod_init 92 [some (mr 186), none] [mr 197, mr 186] (tb jT197) (jS22 σ) 198 24100 Φ
  refine mc_putR (idx := 41) (ci := 10) (k := 12) (by decide +kernel) ⟨mcFdB_spec (w := 933) (by decide +kernel), rfl, finOk_spec (by decide +kernel)⟩ (by decide) (by decide) rfl ?_
  rw [show upc (tb jT197) 186 (upi (tb jT197 186) ((12 : Nat) : Int) (some 197)) = tb jT198 from tb_put (a := 185) (k := 12) (t := 196) (by decide +kernel) (by decide +kernel)]
  show mcE L fr lo M_Mod_init 95 [some (mr 186), none] [] (tb jT198) (jS22 σ) 198 24100 Φ
  refine mc_aload_n (j := 0) (by decide +kernel) rfl ?_
  show mcE L fr lo M_Mod_init 96 [some (mr 186), none] [mr 186] (tb jT198) (jS22 σ) 198 24100 Φ
  refine mc_sipush (i := 2400) (by decide +kernel) (by decide) ?_
  show mcE L fr lo M_Mod_init 99 [some (mr 186), none] [mi 2400, mr 186] (tb jT198) (jS22 σ) 198 24100 Φ
  refine mc_newarray (at' := .int) (t := 0) (len := 2400) (by decide +kernel) (by decide) rfl (List.mem_of_getElem? (i := 120) (by decide +kernel)) rfl rfl (by decide) (by decide) ?_
  show mcE L fr lo M_Mod_init 101 [some (mr 186), none] [mr 198, mr 186] (tb jT198) (jS22 σ) 199 26500 Φ
  refine mc_putR (idx := 44) (ci := 10) (k := 13) (by decide +kernel) ⟨mcFdB_spec (w := 934) (by decide +kernel), rfl, finOk_spec (by decide +kernel)⟩ (by decide) (by decide) rfl ?_
  rw [show upc (tb jT198) 186 (upi (tb jT198 186) ((13 : Nat) : Int) (some 198)) = tb jT199 from tb_put (a := 185) (k := 13) (t := 197) (by decide +kernel) (by decide +kernel)]
  show mcE L fr lo M_Mod_init 104 [some (mr 186), none] [] (tb jT199) (jS22 σ) 199 26500 Φ
  refine mc_aload_n (j := 0) (by decide +kernel) rfl ?_
  show mcE L fr lo M_Mod_init 105 [some (mr 186), none] [mr 186] (tb jT199) (jS22 σ) 199 26500 Φ
  refine mc_sipush (i := 8192) (by decide +kernel) (by decide) ?_
  show mcE L fr lo M_Mod_init 108 [some (mr 186), none] [mi 8192, mr 186] (tb jT199) (jS22 σ) 199 26500 Φ
  refine mc_newarray (at' := .byte) (t := 3) (len := 8192) (by decide +kernel) (by decide) rfl (List.mem_of_getElem? (i := 1001) (by decide +kernel)) rfl rfl (by decide) (by decide) ?_
  show mcE L fr lo M_Mod_init 110 [some (mr 186), none] [mr 199, mr 186] (tb jT199) (jS22 σ) 200 34692 Φ
  refine mc_putR (idx := 47) (ci := 10) (k := 14) (by decide +kernel) ⟨mcFdB_spec (w := 935) (by decide +kernel), rfl, finOk_spec (by decide +kernel)⟩ (by decide) (by decide) rfl ?_
  rw [show upc (tb jT199) 186 (upi (tb jT199 186) ((14 : Nat) : Int) (some 199)) = tb jT200 from tb_put (a := 185) (k := 14) (t := 198) (by decide +kernel) (by decide +kernel)]
  show mcE L fr lo M_Mod_init 113 [some (mr 186), none] [] (tb jT200) (jS22 σ) 200 34692 Φ
  refine mc_aload_n (j := 0) (by decide +kernel) rfl ?_
  show mcE L fr lo M_Mod_init 114 [some (mr 186), none] [mr 186] (tb jT200) (jS22 σ) 200 34692 Φ
  refine mc_sipush (i := 8192) (by decide +kernel) (by decide) ?_
  show mcE L fr lo M_Mod_init 117 [some (mr 186), none] [mi 8192, mr 186] (tb jT200) (jS22 σ) 200 34692 Φ
  refine mc_newarray (at' := .byte) (t := 3) (len := 8192) (by decide +kernel) (by decide) rfl (List.mem_of_getElem? (i := 1001) (by decide +kernel)) rfl rfl (by decide) (by decide) ?_
  show mcE L fr lo M_Mod_init 119 [some (mr 186), none] [mr 200, mr 186] (tb jT200) (jS22 σ) 201 42884 Φ
  refine mc_putR (idx := 51) (ci := 10) (k := 15) (by decide +kernel) ⟨mcFdB_spec (w := 936) (by decide +kernel), rfl, finOk_spec (by decide +kernel)⟩ (by decide) (by decide) rfl ?_
  rw [show upc (tb jT200) 186 (upi (tb jT200 186) ((15 : Nat) : Int) (some 200)) = tb jT201 from tb_put (a := 185) (k := 15) (t := 199) (by decide +kernel) (by decide +kernel)]
  show mcE L fr lo M_Mod_init 122 [some (mr 186), none] [] (tb jT201) (jS22 σ) 201 42884 Φ
  refine mc_aload_n (j := 0) (by decide +kernel) rfl ?_
  show mcE L fr lo M_Mod_init 123 [some (mr 186), none] [mr 186] (tb jT201) (jS22 σ) 201 42884 Φ
  refine mc_iconst (i := 4) (by decide +kernel) ?_
  show mcE L fr lo M_Mod_init 124 [some (mr 186), none] [mi 4, mr 186] (tb jT201) (jS22 σ) 201 42884 Φ
  refine mc_newarray (at' := .int) (t := 0) (len := 4) (by decide +kernel) (by decide) rfl (List.mem_of_getElem? (i := 120) (by decide +kernel)) rfl rfl (by decide) (by decide) ?_
  show mcE L fr lo M_Mod_init 126 [some (mr 186), none] [mr 201, mr 186] (tb jT201) (jS22 σ) 202 42888 Φ
  refine mc_putR (idx := 54) (ci := 10) (k := 16) (by decide +kernel) ⟨mcFdB_spec (w := 937) (by decide +kernel), rfl, finOk_spec (by decide +kernel)⟩ (by decide) (by decide) rfl ?_
  rw [show upc (tb jT201) 186 (upi (tb jT201 186) ((16 : Nat) : Int) (some 201)) = tb jT202 from tb_put (a := 185) (k := 16) (t := 200) (by decide +kernel) (by decide +kernel)]
  show mcE L fr lo M_Mod_init 129 [some (mr 186), none] [] (tb jT202) (jS22 σ) 202 42888 Φ
  refine mc_aload_n (j := 0) (by decide +kernel) rfl ?_
  show mcE L fr lo M_Mod_init 130 [some (mr 186), none] [mr 186] (tb jT202) (jS22 σ) 202 42888 Φ
  refine mc_iconst (i := 4) (by decide +kernel) ?_
  show mcE L fr lo M_Mod_init 131 [some (mr 186), none] [mi 4, mr 186] (tb jT202) (jS22 σ) 202 42888 Φ
  refine mc_newarray (at' := .int) (t := 0) (len := 4) (by decide +kernel) (by decide) rfl (List.mem_of_getElem? (i := 120) (by decide +kernel)) rfl rfl (by decide) (by decide) ?_
  show mcE L fr lo M_Mod_init 133 [some (mr 186), none] [mr 202, mr 186] (tb jT202) (jS22 σ) 203 42892 Φ
  refine mc_putR (idx := 57) (ci := 10) (k := 17) (by decide +kernel) ⟨mcFdB_spec (w := 938) (by decide +kernel), rfl, finOk_spec (by decide +kernel)⟩ (by decide) (by decide) rfl ?_
  rw [show upc (tb jT202) 186 (upi (tb jT202 186) ((17 : Nat) : Int) (some 202)) = tb jT203 from tb_put (a := 185) (k := 17) (t := 201) (by decide +kernel) (by decide +kernel)]
  show mcE L fr lo M_Mod_init 136 [some (mr 186), none] [] (tb jT203) (jS22 σ) 203 42892 Φ
  refine mc_aload_n (j := 0) (by decide +kernel) rfl ?_
  show mcE L fr lo M_Mod_init 137 [some (mr 186), none] [mr 186] (tb jT203) (jS22 σ) 203 42892 Φ
  refine mc_iconst (i := 1) (by decide +kernel) ?_
  show mcE L fr lo M_Mod_init 138 [some (mr 186), none] [mi 1, mr 186] (tb jT203) (jS22 σ) 203 42892 Φ
  refine mc_putI (idx := 60) (ci := 10) (k := 19) (kd := 2) (by decide +kernel) ⟨mcFdB_spec (w := 940) (by decide +kernel), mcNfB_spec (by decide +kernel)⟩ (by decide) (by decide) (by decide) rfl (by unfold in32; decide) (by decide) ?_
  show mcE L fr lo M_Mod_init 141 [some (mr 186), none] [] (tb jT203) (jS23 σ) 203 42892 Φ
  refine mc_aload_n (j := 0) (by decide +kernel) rfl ?_
  show mcE L fr lo M_Mod_init 142 [some (mr 186), none] [mr 186] (tb jT203) (jS23 σ) 203 42892 Φ
  refine mc_iconst (i := -1) (by decide +kernel) ?_
  show mcE L fr lo M_Mod_init 143 [some (mr 186), none] [mi (-1), mr 186] (tb jT203) (jS23 σ) 203 42892 Φ
  refine mc_putI (idx := 64) (ci := 10) (k := 20) (kd := 0) (by decide +kernel) ⟨mcFdB_spec (w := 941) (by decide +kernel), mcNfB_spec (by decide +kernel)⟩ (by decide) (by decide) (by decide) rfl (by unfold in32; decide) (by decide) ?_
  show mcE L fr lo M_Mod_init 146 [some (mr 186), none] [] (tb jT203) (jS24 σ) 203 42892 Φ
  refine mc_iconst (i := 0) (by decide +kernel) ?_
  show mcE L fr lo M_Mod_init 147 [some (mr 186), none] [mi 0] (tb jT203) (jS24 σ) 203 42892 Φ
  refine mc_istore_n (j := 1) (by decide +kernel) (by decide) ?_
  show mcE L fr lo M_Mod_init 148 [some (mr 186), some (mi 0)] [] (tb jT203) (jS24 σ) 203 42892 Φ
  exact k
def mF1 (f : Int → Int) (i : Int) : Int → Int := fillF (fillF f 220 (220 + i) (-1)) 252 (252 + i) (-1)
def mF2 (f : Int → Int) (i : Int) : Int → Int := fillF f 124 (124 + i) (-1)
theorem mF1_0 (f : Int → Int) : mF1 f 0 = f := by unfold mF1; rw [fillF_nil _ (by omega), fillF_nil _ (by omega)]
theorem mF2_0 (f : Int → Int) : mF2 f 0 = f := by unfold mF2; rw [fillF_nil _ (by omega)]
theorem mF1_s (f : Int → Int) {i : Int} (h : 0 ≤ i ∧ i < 32) : upi (upi (mF1 f i) (220 + i) (-1)) (252 + i) (-1) = mF1 f (i + 1) := by
  funext j
  unfold mF1 upi fillF
  repeat' split
  all_goals first | rfl | omega
theorem mF2_s (f : Int → Int) {i : Int} (h : 0 ≤ i) : upi (mF2 f i) (124 + i) (-1) = mF2 f (i + 1) := by
  funext j
  unfold mF2 upi fillF
  repeat' split
  all_goals first | rfl | omega
theorem lq_m1 {L fr lo : Nat} {σ : mG} {Φ : mcPost} (kx : mcE L fr lo M_Mod_init 182 [some (mr 186), some (mi 32)] [] (tb jT203) (upc σ 197 (mF1 (σ 197) 32)) 203 42892 Φ) : ∀ (k : Nat) (i : Int), 0 ≤ i → i + k = 32 → mcE L fr lo M_Mod_init 148 [some (mr 186), some (mi i)] [] (tb jT203) (upc σ 197 (mF1 (σ 197) i)) 203 42892 Φ := by
  intro k
  induction k with
  | zero =>
    intro i h0 hi
    obtain rfl : i = 32 := by omega
    refine mc_iload_n (j := 1) (by decide +kernel) rfl ?_
    refine mc_bipush (i := 32) (by decide +kernel) (by decide) ?_
    refine mc_icmp_ge (off := 31) (by decide +kernel) (by decide) (by unfold in32; omega) (by unfold in32; decide) (fun _ => ?_) (fun w => absurd (by decide) w)
    exact kx
  | succ k ih =>
    intro i h0 hi
    have ih := ih (i + 1) (by omega) (by omega)
    rw [← mF1_s _ ⟨h0, by omega⟩] at ih
    refine mc_iload_n (j := 1) (by decide +kernel) rfl ?_
    refine mc_bipush (i := 32) (by decide +kernel) (by decide) ?_
    refine mc_icmp_ge (off := 31) (by decide +kernel) (by decide) (by unfold in32; omega) (by unfold in32; decide) (fun w => by omega) (fun _ => ?_)
    refine mc_aload_n (j := 0) (by decide +kernel) rfl ?_
    refine mc_getR (idx := 41) (ci := 10) (k := 12) (t := 197) (by decide +kernel) (mcFdB_spec (w := 933) (by decide +kernel)) (by decide) (by decide) rfl (show tb jT203 186 ((12 : Nat) : Int) = some 197 by decide +kernel) ?_
    refine mc_sipush (i := 220) (by decide +kernel) (by decide) ?_
    refine mc_iload_n (j := 1) (by decide +kernel) rfl ?_
    refine mc_iadd (by decide +kernel) ?_
    refine mc_iconst (i := -1) (by decide +kernel) ?_
    refine mc_iastore (by decide +kernel) (by decide) (by decide) rfl (by constructor <;> omega) (by unfold in32; decide) ?_
    rw [upc_self, upc_upc]
    refine mc_aload_n (j := 0) (by decide +kernel) rfl ?_
    refine mc_getR (idx := 41) (ci := 10) (k := 12) (t := 197) (by decide +kernel) (mcFdB_spec (w := 933) (by decide +kernel)) (by decide) (by decide) rfl (show tb jT203 186 ((12 : Nat) : Int) = some 197 by decide +kernel) ?_
    refine mc_sipush (i := 252) (by decide +kernel) (by decide) ?_
    refine mc_iload_n (j := 1) (by decide +kernel) rfl ?_
    refine mc_iadd (by decide +kernel) ?_
    refine mc_iconst (i := -1) (by decide +kernel) ?_
    refine mc_iastore (by decide +kernel) (by decide) (by decide) rfl (by constructor <;> omega) (by unfold in32; decide) ?_
    rw [upc_self, upc_upc]
    refine mc_iinc (i := 1) (q := 1) (by decide +kernel) rfl (by decide) ?_
    refine mc_goto (off := -31) (by decide +kernel) (by decide) ?_
    exact ih
theorem lq_m2 {L fr lo : Nat} {σ : mG} {Φ : mcPost} (kx : mcE L fr lo M_Mod_init 206 [some (mr 186), some (mi 32)] [] (tb jT203) (upc σ 197 (mF2 (σ 197) 32)) 203 42892 Φ) : ∀ (k : Nat) (i : Int), 0 ≤ i → i + k = 32 → mcE L fr lo M_Mod_init 184 [some (mr 186), some (mi i)] [] (tb jT203) (upc σ 197 (mF2 (σ 197) i)) 203 42892 Φ := by
  intro k
  induction k with
  | zero =>
    intro i h0 hi
    obtain rfl : i = 32 := by omega
    refine mc_iload_n (j := 1) (by decide +kernel) rfl ?_
    refine mc_bipush (i := 32) (by decide +kernel) (by decide) ?_
    refine mc_icmp_ge (off := 19) (by decide +kernel) (by decide) (by unfold in32; omega) (by unfold in32; decide) (fun _ => ?_) (fun w => absurd (by decide) w)
    exact kx
  | succ k ih =>
    intro i h0 hi
    have ih := ih (i + 1) (by omega) (by omega)
    rw [← mF2_s _ h0] at ih
    refine mc_iload_n (j := 1) (by decide +kernel) rfl ?_
    refine mc_bipush (i := 32) (by decide +kernel) (by decide) ?_
    refine mc_icmp_ge (off := 19) (by decide +kernel) (by decide) (by unfold in32; omega) (by unfold in32; decide) (fun w => by omega) (fun _ => ?_)
    refine mc_aload_n (j := 0) (by decide +kernel) rfl ?_
    refine mc_getR (idx := 41) (ci := 10) (k := 12) (t := 197) (by decide +kernel) (mcFdB_spec (w := 933) (by decide +kernel)) (by decide) (by decide) rfl (show tb jT203 186 ((12 : Nat) : Int) = some 197 by decide +kernel) ?_
    refine mc_bipush (i := 124) (by decide +kernel) (by decide) ?_
    refine mc_iload_n (j := 1) (by decide +kernel) rfl ?_
    refine mc_iadd (by decide +kernel) ?_
    refine mc_iconst (i := -1) (by decide +kernel) ?_
    refine mc_iastore (by decide +kernel) (by decide) (by decide) rfl (by constructor <;> omega) (by unfold in32; decide) ?_
    rw [upc_self, upc_upc]
    refine mc_iinc (i := 1) (q := 1) (by decide +kernel) rfl (by decide) ?_
    refine mc_goto (off := -19) (by decide +kernel) (by decide) ?_
    exact ih
def jS25 (σ : mG) : mG := upc (upc (jS24 σ) 197 (mF1 (jS24 σ 197) 32)) 197 (mF2 (mF1 (jS24 σ 197) 32) 32)
def jS26 (σ : mG) : mG := upc (jS25 σ) 197 (upi ((jS25 σ) 197) 220 1)
def jS27 (σ : mG) : mG := upc (jS26 σ) 197 (upi ((jS26 σ) 197) 188 0)
def jS28 (σ : mG) : mG := upc (jS27 σ) 186 (upi ((jS27 σ) 186) 18 1)
theorem mo_3 {L fr lo : Nat} {σ : mG} {Φ : mcPost} (hfr : 1 ≤ fr) (hlo : 40 ≤ lo) (k : Φ (.inl none) (tb jT203) (jS28 σ) 203 42892) : mcE L fr lo M_Mod_init 206 [some (mr 186), some (mi 32)] [] (tb jT203) (jS25 σ) 203 42892 Φ := by
  show mcE L fr lo M_Mod_init 206 [some (mr 186), some (mi 32)] [] (tb jT203) (jS25 σ) 203 42892 Φ
  refine mc_aload_n (j := 0) (by decide +kernel) rfl ?_
  show mcE L fr lo M_Mod_init 207 [some (mr 186), some (mi 32)] [mr 186] (tb jT203) (jS25 σ) 203 42892 Φ
  refine mc_getR (idx := 41) (ci := 10) (k := 12) (t := 197) (by decide +kernel) (mcFdB_spec (w := 933) (by decide +kernel)) (by decide) (by decide) rfl (show tb jT203 186 ((12 : Nat) : Int) = some 197 by decide +kernel) ?_
  show mcE L fr lo M_Mod_init 210 [some (mr 186), some (mi 32)] [mr 197] (tb jT203) (jS25 σ) 203 42892 Φ
  refine mc_sipush (i := 220) (by decide +kernel) (by decide) ?_
  show mcE L fr lo M_Mod_init 213 [some (mr 186), some (mi 32)] [mi 220, mr 197] (tb jT203) (jS25 σ) 203 42892 Φ
  refine mc_iconst (i := 1) (by decide +kernel) ?_
  show mcE L fr lo M_Mod_init 214 [some (mr 186), some (mi 32)] [mi 1, mi 220, mr 197] (tb jT203) (jS25 σ) 203 42892 Φ
  refine mc_iastore (by decide +kernel) (by decide) (by decide) rfl (by decide) (by unfold in32; decide) ?_
  show mcE L fr lo M_Mod_init 215 [some (mr 186), some (mi 32)] [] (tb jT203) (jS26 σ) 203 42892 Φ
  refine mc_aload_n (j := 0) (by decide +kernel) rfl ?_
  show mcE L fr lo M_Mod_init 216 [some (mr 186), some (mi 32)] [mr 186] (tb jT203) (jS26 σ) 203 42892 Φ
  refine mc_getR (idx := 41) (ci := 10) (k := 12) (t := 197) (by decide +kernel) (mcFdB_spec (w := 933) (by decide +kernel)) (by decide) (by decide) rfl (show tb jT203 186 ((12 : Nat) : Int) = some 197 by decide +kernel) ?_
  show mcE L fr lo M_Mod_init 219 [some (mr 186), some (mi 32)] [mr 197] (tb jT203) (jS26 σ) 203 42892 Φ
  refine mc_sipush (i := 188) (by decide +kernel) (by decide) ?_
  show mcE L fr lo M_Mod_init 222 [some (mr 186), some (mi 32)] [mi 188, mr 197] (tb jT203) (jS26 σ) 203 42892 Φ
  refine mc_iconst (i := 0) (by decide +kernel) ?_
  show mcE L fr lo M_Mod_init 223 [some (mr 186), some (mi 32)] [mi 0, mi 188, mr 197] (tb jT203) (jS26 σ) 203 42892 Φ
  refine mc_iastore (by decide +kernel) (by decide) (by decide) rfl (by decide) (by unfold in32; decide) ?_
  show mcE L fr lo M_Mod_init 224 [some (mr 186), some (mi 32)] [] (tb jT203) (jS27 σ) 203 42892 Φ
  refine mc_aload_n (j := 0) (by decide +kernel) rfl ?_
  show mcE L fr lo M_Mod_init 225 [some (mr 186), some (mi 32)] [mr 186] (tb jT203) (jS27 σ) 203 42892 Φ
  refine mc_iconst (i := 1) (by decide +kernel) ?_
  show mcE L fr lo M_Mod_init 226 [some (mr 186), some (mi 32)] [mi 1, mr 186] (tb jT203) (jS27 σ) 203 42892 Φ
  refine mc_putI (idx := 68) (ci := 10) (k := 18) (kd := 0) (by decide +kernel) ⟨mcFdB_spec (w := 939) (by decide +kernel), mcNfB_spec (by decide +kernel)⟩ (by decide) (by decide) (by decide) rfl (by unfold in32; decide) (by decide) ?_
  show mcE L fr lo M_Mod_init 229 [some (mr 186), some (mi 32)] [] (tb jT203) (jS28 σ) 203 42892 Φ
  exact mc_return_ (by decide +kernel) rfl k
theorem mo_all {L fr lo : Nat} {σ : mG} {Φ : mcPost} (hfr : 1 ≤ fr) (hlo : 40 ≤ lo) (k : Φ (.inl none) (tb jT203) (jS28 σ) 203 42892) : mcE L fr lo M_Mod_init 0 (mcEnt M_Mod_init.2.2.1 [mr 186]) [] (tb jT187) (jS22 σ) 187 13812 Φ := by
  have w := mo_3 (L := L) hfr hlo k
  unfold jS25 at w
  have w2 := lq_m2 (σ := upc (jS24 σ) 197 (mF1 (jS24 σ 197) 32)) (by rw [upc_self]; exact w) 32 0 (by omega) (by omega)
  rw [upc_self, mF2_0, upc_upc] at w2
  refine mo_0 hfr hlo ?_
  have w1 := lq_m1 (σ := jS24 σ) (fr := fr) (lo := lo) (L := L) (Φ := Φ) ?_ 32 0 (by omega) (by omega)
  · rw [mF1_0, upc_id rfl] at w1; exact w1
  · show mcE L fr lo M_Mod_init 182 [some (mr 186), some (mi 32)] [] (tb jT203) (upc (jS24 σ) 197 (mF1 (jS24 σ 197) 32)) 203 42892 Φ
    refine mc_iconst (i := 0) (by decide +kernel) ?_
    refine mc_istore_n (j := 1) (by decide +kernel) (by decide) ?_
    exact w2
-- end: T203 S28 n 203 z 42892
