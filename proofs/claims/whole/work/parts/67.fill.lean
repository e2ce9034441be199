/-! 67.fill: tables of references; Arrays.fill of ints, before all is built -/
def tb (T : List (List Nat)) : mP := fun k i => if i < 0 then none else match k with
  | 0 => none
  | k + 1 => match (T.getD k []).getD i.toNat 0 with
    | 0 => none
    | t + 1 => some (t + 1)
theorem tb_rho : tb mcRhoL = mcRho := rfl
def tst (T : List (List Nat)) (a k t : Nat) : List (List Nat) := T.set a ((T.getD a []).set k t)
theorem tb_put {T : List (List Nat)} {a k t : Nat} (ha : a < T.length) (hk : k < (T.getD a []).length) : upc (tb T) (a + 1) (upi (tb T (a + 1)) (k : Int) (some (t + 1))) = tb (tst T a k (t + 1)) := by
  funext b i
  unfold upc upi
  by_cases e : b = a + 1
  · subst e
    rw [if_pos rfl]
    have g : (tst T a k (t + 1)).getD a [] = (T.getD a []).set k (t + 1) := by
      unfold tst
      rw [List.getD_eq_getElem?_getD, List.getElem?_set_self ha]; rfl
    unfold tb
    by_cases z : i < 0
    · rw [if_pos z, if_pos z, if_neg (by omega)]
    · rw [if_neg z, if_neg z]
      dsimp only
      rw [g]
      by_cases w : i = (k : Int)
      · subst w
        rw [if_pos rfl, Int.toNat_natCast, List.getD_eq_getElem?_getD, List.getElem?_set_self hk]; rfl
      · have g2 : ((T.getD a []).set k (t + 1)).getD i.toNat 0 = (T.getD a []).getD i.toNat 0 := by
          rw [List.getD_eq_getElem?_getD, List.getElem?_set_ne (by omega), ← List.getD_eq_getElem?_getD]
        rw [if_neg w, g2]
  · rw [if_neg e]
    unfold tb
    by_cases z : i < 0
    · rw [if_pos z, if_pos z]
    · rw [if_neg z, if_neg z]
      cases b with
      | zero => rfl
      | succ b =>
        dsimp only
        have g : (tst T a k (t + 1)).getD b [] = T.getD b [] := by
          unfold tst
          rw [List.getD_eq_getElem?_getD, List.getElem?_set_ne (by omega), ← List.getD_eq_getElem?_getD]
        rw [g]
section FILL
variable {L fr lo : Nat} {ρ : mP} {n z : Nat} {Φ : mcPost}
theorem lq_fill {a len : Nat} {v : Int} (ha : 1 ≤ a) (han : a < n) (hs : mcSk L a = some (.inl (0, len))) (hl : (len : Int) < 100000) (hv : in32 v) {σ : mG} (hk : Φ (.inl none) ρ (upc σ a (fillF (σ a) 0 len v)) n z) :
    ∀ (k : Nat) (i : Int), 0 ≤ i → i + k = len → mcE L fr lo M_Arrays_fill_0 5 [some (mr a), some (mi v), some (mi i), some (mi (len : Int))] [] ρ (upc σ a (fillF (σ a) 0 i v)) n z Φ := by
  intro k
  induction k with
  | zero =>
    intro i h0 hi
    obtain rfl : i = (len : Int) := by omega
    refine mc_iload_n (j := 2) (by decide +kernel) rfl ?_
    refine mc_iload_n (j := 3) (by decide +kernel) rfl ?_
    refine mc_icmp_ge (off := 13) (by decide +kernel) (by decide) (by unfold in32; omega) (by unfold in32; omega) (fun _ => ?_) (fun w => absurd (Int.le_refl _) w)
    exact mc_return_ (pc := 20) (by decide +kernel) rfl hk
  | succ k ih =>
    intro i h0 hi
    have ih := ih (i + 1) (by omega) (by omega)
    rw [← fillF_step _ h0] at ih
    refine mc_iload_n (j := 2) (by decide +kernel) rfl ?_
    refine mc_iload_n (j := 3) (by decide +kernel) rfl ?_
    refine mc_icmp_ge (off := 13) (by decide +kernel) (by decide) (by unfold in32; omega) (by unfold in32; omega) (fun w => by omega) (fun _ => ?_)
    refine mc_aload_n (j := 0) (by decide +kernel) rfl ?_
    refine mc_iload_n (j := 2) (by decide +kernel) rfl ?_
    refine mc_iload_n (j := 1) (by decide +kernel) rfl ?_
    refine mc_iastore (by decide +kernel) ha han hs (by omega) hv ?_
    rw [upc_self, upc_upc]
    refine mc_iinc (i := 2) (q := 1) (by decide +kernel) rfl (by decide) ?_
    refine mc_goto (off := -12) (by decide +kernel) (by decide) ?_
    exact ih
theorem in_fill {a len : Nat} {v : Int} (ha : 1 ≤ a) (han : a < n) (hs : mcSk L a = some (.inl (0, len))) (hl : (len : Int) < 100000) (hv : in32 v) {σ : mG} (hk : Φ (.inl none) ρ (upc σ a (fillF (σ a) 0 len v)) n z) :
    mcE L fr lo M_Arrays_fill_0 0 [some (mr a), some (mi v), none, none] [] ρ σ n z Φ := by
  have w := lq_fill (fr := fr) (lo := lo) ha han hs hl hv hk len 0 (by omega) (by omega)
  rw [fillF_nil _ (by omega), upc_id rfl] at w
  refine mc_iconst (i := 0) (by decide +kernel) ?_
  refine mc_istore_n (j := 2) (by decide +kernel) (by decide) ?_
  refine mc_aload_n (j := 0) (by decide +kernel) rfl ?_
  refine mc_alen (by decide +kernel) ha han hs ?_
  refine mc_istore_n (j := 3) (by decide +kernel) (by decide) ?_
  exact w
end FILL
