/-! 10.throw: demandLegal and demandState: a method that throws a new exception if its argument is 0 -/
def mcIR1 : Cond := .isRef (.static "java/lang/Throwable" "UNASSIGNED_STACK" "[Ljava/lang/StackTraceElement;")
def mcIR2 : Cond := .isRef (.static "java/lang/Throwable" "SUPPRESSED_SENTINEL" "Ljava/util/List;")
def mcXat (kd : Nat) : List Cond := Bundle.ownAtoms0 "SlotServer" (if kd = 0 then 213 else 216) (mcXn kd) ["java/lang/RuntimeException", "java/lang/Exception"]
theorem mcXat0 : ∀ w ∈ mcXat 0, w ∈ lw_tbl ∨ w = mcIR1 ∨ w = mcIR2 := by decide +kernel
theorem mcXat1 : ∀ w ∈ mcXat 1, w ∈ lw_tbl ∨ w = mcIR1 ∨ w = mcIR2 := by decide +kernel
theorem mcLs1 : Cond.laysStatic "java/lang/Throwable" "UNASSIGNED_STACK" "[Ljava/lang/StackTraceElement;" ∈ lw_tbl := by decide +kernel
theorem mcLs2 : Cond.laysStatic "java/lang/Throwable" "SUPPRESSED_SENTINEL" "Ljava/util/List;" ∈ lw_tbl := by decide +kernel
theorem mcIni : Cond.initialized "java/lang/Throwable" ∈ lw_tbl := by decide +kernel
theorem mc_zq {args : Array Value} {s : State} {C n d : String} {A : Nat → Prop} (h : va_Zq C n d A s s.heap) : (Cond.isRef (.static C n d)).before args s = true := by
  have aux : ∀ v : Value, va_Z C n d v A s s.heap → (Term.static C n d).eval args s none [] s = some v := fun v h => by
    obtain ⟨cf, kf, fi, f, a, cell, h1, h2, h3, h4, h5, h6, h7, -⟩ := h
    simp [Term.eval, State.fieldNamed?, h1, h2, h4, h5, h6, h7]
  rcases h with h | ⟨t, h⟩
  · simp [Cond.before, Cond.holds, Cond.value, aux _ h]
  · simp [Cond.before, Cond.holds, Cond.value, aux _ h]
section MCx
variable {L fr lo : Nat} {M : mcM} {ρ : mP} {σ : mG} {n z : Nat} {Φ : mcPost}
theorem mc_isRefs {xs : Nat → Int32} {p : Program} {l : Launch} {s0 : State} {H0 : Heap} {b sc : Nat} {dC : Nat → ClassId} {dI : Nat → Nat → Nat} {tyc : Nat → ClassId} (F : mcFix L xs p l s0 H0 b sc dC dI tyc) {s : State} (hW : s0.WarmedH s.vm) (hS : mcHs b H0 s) (args : Array Value) : mcIR1.before args s = true ∧ mcIR2.before args s = true := by
  obtain ⟨a0, hn⟩ := F.2.2.2.2.2.2.2.1
  have hflat := flat_of_before _ hn
  have w0 : s0.WarmedH s0.vm := State.WarmedH.refl s0
  have e0 : ∀ q : Nat, q < b + 1 → s0.heap[q]? = H0[q]? := fun q _ => by rw [F.2.2.2.2.2.2.2.2]
  have key : ∀ C nn d, Cond.laysStatic C nn d ∈ lw_tbl → Cond.initialized C ∈ lw_tbl → (Cond.isRef (.static C nn d)).before a0 s0 = true → (Cond.isRef (.static C nn d)).before args s = true := fun C nn d h1 h2 h3 => by
    have hz := va_Zqof (A := fun q => b + 1 ≤ q) (F.2.2.1 _ h1 a0 s0 w0 e0) (F.2.2.1 _ h2 a0 s0 w0 e0) h3 (fun a ha => by rw [F.2.2.2.2.2.2.2.2, F.2.2.2.2.1] at ha; omega)
    refine mc_zq (A := fun q => b + 1 ≤ q) ((va_Zq.moved hW.alike hz).kept fun a ha _ => ?_)
    rw [F.2.2.2.2.2.2.2.2] at ha ⊢
    exact hS.1 a (by rw [F.2.2.2.2.1] at ha; exact ha)
  exact ⟨key _ _ _ mcLs1 mcIni (hflat _ (by decide +kernel)), key _ _ _ mcLs2 mcIni (hflat _ (by decide +kernel))⟩
theorem mc_demand {kd ix : Nat} {x : Int} (hkd : kd = 0 ∨ kd = 1) (hM : M.1.cls = "SlotServer") (hc0 : mcCode M 0 = some (.iload_n 0, 1)) (hc1 : mcCode M 1 = some (.ifCond .ne 11, 3)) (hc4 : mcCode M 4 = some (.new ix, 3)) (hc7 : mcCode M 7 = some (.dup, 1)) (hc8 : mcCode M 8 = some (.invokespecial (if kd = 0 then 213 else 216), 3)) (hc11 : mcCode M 11 = some (.athrow, 1)) (hc12 : mcCode M 12 = some (.return_, 1)) (hr : M.2.2.2.1 = none) (hh : M.2.2.2.2 = [])
    (w1 : Cond.classLink M.1.cls ix (mcXn kd) ∈ lw_tbl) (w2 : Cond.instantiable (mcXn kd) 6 ∈ lw_tbl) (w3 : Cond.initialized (mcXn kd) ∈ lw_tbl) (hx : in32 x) (hfr : 6 ≤ fr) (hlo : 100 ≤ lo) (hsk : mcSk L n = none)
    (k1 : x ≠ 0 → Φ (.inl none) ρ σ n z) (k2 : x = 0 → n + 1 ≤ 601025 ∧ z + 6 ≤ 7293034 ∧ Φ (.inr (kd, n)) ρ σ (n + 1) (z + 6)) : mcE0 L fr lo M [some (mi x)] ρ σ n z Φ := by
  by_cases h0 : x = 0
  · obtain ⟨hn, hz, hΦ⟩ := k2 h0
    intro xs p l e s0 H0 b sc dC dI tyc F s m args below meth c hW A LS hR hl hS
    have hts := mcWords F hW hS args
    subst h0
    refine lv_iload_n F.1 A.2.2.2.1 (mc_dec hc0) rfl (hl.2.2.2 0 (mi 0) rfl) ?_
    refine lv_if_ne (tgt := 12) F.1 A.2.2.2.1 (mc_dec hc1) rfl (fun q => absurd rfl q) fun _ => ?_
    obtain ⟨cX, kX, g1, g2, -⟩ := Cond.instantiable_spec (hts _ w2)
    refine W.newcK F.1 A.2.2.2.1 A.2.2.2.2.2.2.2.2 (hts _ w1) (hts _ w2) (hts _ w3) rfl (mc_dec hc4) (by show 0 + 1 ≤ 601025 - n; omega) (by show 0 + 6 ≤ 7293034 - z; omega) g1 rfl fun H1 kC hkC e1 z1 o1 => ?_
    refine lv_dup F.1 A.2.2.2.1 (mc_dec hc7) rfl ?_
    intro T hT X
    have hsz : s.heap.size = b + n := hR.2.1
    have htr : e.platform.stackTraces = false := Launch.traces_off F.2.1 X.admits
    have hout : ∀ q, ∀ y ∈ c.exceptionTable.toList, covers y q = false := by
      have := A.2.2.2.2.2.2.2.1; rw [hh] at this
      intro q y hy
      have : c.exceptionTable.toList = [] := List.map_eq_nil_iff.mp this
      rw [this] at hy; cases hy
    have hat : ∀ w ∈ mcXat kd, w.before args s = true := fun w hw => by
      have : w ∈ lw_tbl ∨ w = mcIR1 ∨ w = mcIR2 := by rcases hkd with rfl | rfl; exact mcXat0 w hw; exact mcXat1 w hw
      rcases this with h | rfl | rfl
      · exact hts w h
      · exact (mc_isRefs F hW hS args).1
      · exact (mc_isRefs F hW hS args).2
    have hdk := A.2.2.2.1
    obtain ⟨U, u1, u2, u3, u4, u5, ce, u6, u7⟩ := X.ctorThrow0 F.1 htr (own := "SlotServer") (cls := mcXn kd) (names := ["java/lang/RuntimeException", "java/lang/Exception"]) (ic := if kd = 0 then 213 else 216) (by rw [← hM]; exact A.2.2.2.2.2.2.2.2) (by rcases hkd with rfl | rfl <;> decide +kernel) (by decide +kernel) hat (fun y hy => by cases hy) (a := s.heap.size) g1 hkC (by rw [hT]; exact e1) (Nat.le_refl _)
      (g := F0 m 8 LS [.ref s.heap.size, .ref s.heap.size]) rfl (by show LS.size = _; rw [hl.1, A.2.2.2.2.1]) rfl rfl (rest := []) rfl (by rw [hdk]; exact mc_dec hc8) (by rw [hdk]; exact mc_dec hc11) (hout _) (by show 2 + 3 < fr; omega) (by show 2 * 0 + 1 + 80 ≤ lo; omega) A.2.2.2.2.2.2.1
    have hU : ∀ q, q < s.heap.size → U.heap[q]? = s.heap[q]? := fun q hq => by
      obtain ⟨c', v1, v2, v3, v4⟩ := u5.2.2.2.2.2 q s.heap[q] (Array.getElem?_eq_getElem hq)
      have v1 : U.heap[q]? = some c' := v1
      rw [v1, Array.getElem?_eq_getElem hq, v2]
      congr 1
      have : c'.slots = (s.heap[q]).slots := Array.ext_getElem? fun i => v4 i (fun h => by cases h)
      rw [this]
    have hUs : U.heap.size = s.heap.size + 1 := by
      have v1 : U.heap.size ≤ s.heap.size + (0 + 1) := u5.2.2.1
      have v2 := (Array.getElem?_eq_some_iff.mp u6).1
      omega
    refine ⟨U, u1, .inr (kd, n), ρ, σ, n + 1, z + 6, [], u2, ?_, u4, ?_, (fun q hq => by cases hq), by omega, by omega, ?_, ?_, hΦ⟩
    · show Ended U below (.threw (b + n))
      rw [← hsz]; exact u3
    · rw [show n + 1 - n = 0 + 1 by omega, show z + 6 - z = 0 + 6 by omega]; exact u5
    · refine hR.push hn hz hUs hU (fun cell hq => ?_) (fun sh hsh => by rw [hsk] at hsh; cases hsh)
      rw [← hsz] at hq
      cases u6.symm.trans hq
      exact u7.vm
    · refine ⟨⟨ce, by rw [← hsz]; exact u6, u7.vm, ?_, hR.1.1⟩, hkd⟩
      rw [← hW.alike.findClass]; exact u7.cls
  · refine (mc_iload_n hc0 rfl (mc_if_ne hc1 (by omega) hx (fun _ => ?_) (fun q => absurd q h0))).at0
    exact mc_return_ hc12 hr (k1 h0)
end MCx
