/-! 12.walk: printed by wip/whole/prog/walk.py: rows for walking by simp -/
section CW
variable {L d : Nat} {M : mcM} {pc len : Nat} {cut : Bool} {ls : List (Option mV)} {st : List mV} {σ : mG} {n z : Nat} {Φ : cPost} {nx : cCont} {K : List mcEn} {k : Nat}
theorem cw_iconst {i : Int} {ax : mcX} : cS L d M Φ nx (pc, cut, .iconst i, len, ax) ls st σ n z = (nx (pc + 1) ls (mi i :: st) σ n z) := rfl
theorem cw_bipush {i : Int} {ax : mcX} : cS L d M Φ nx (pc, cut, .bipush i, len, ax) ls st σ n z = (nx (pc + 2) ls (mi i :: st) σ n z) := rfl
theorem cw_sipush {i : Int} {ax : mcX} : cS L d M Φ nx (pc, cut, .sipush i, len, ax) ls st σ n z = (nx (pc + 3) ls (mi i :: st) σ n z) := rfl
theorem cw_lconst0 {ax : mcX} : cS L d M Φ nx (pc, cut, .lconst 0, len, ax) ls st σ n z = (nx (pc + 1) ls (ml 0 :: st) σ n z) := rfl
theorem cw_lconst1 {ax : mcX} : cS L d M Φ nx (pc, cut, .lconst 1, len, ax) ls st σ n z = (nx (pc + 1) ls (ml 1 :: st) σ n z) := rfl
theorem cw_ldc {i : Nat} {ax : mcX} : cS L d M Φ nx (pc, cut, .ldc i, len, ax) ls st σ n z = (nx (pc + 2) ls (mi 100000 :: st) σ n z) := rfl
theorem cw_ldc2_w {i : Nat} {ax : mcX} : cS L d M Φ nx (pc, cut, .ldc2_w i, len, ax) ls st σ n z = (nx (pc + 3) ls (ml (-1) :: st) σ n z) := rfl
theorem cw_iadd  {ax : mcX} : cS L d M Φ nx (pc, cut, .iadd , len, ax) ls st σ n z = (mcPI st fun y st => mcPI st fun x st => nx (pc + 1) ls (mi (x + y) :: st) σ n z) := rfl
theorem cw_isub  {ax : mcX} : cS L d M Φ nx (pc, cut, .isub , len, ax) ls st σ n z = (mcPI st fun y st => mcPI st fun x st => nx (pc + 1) ls (mi (x - y) :: st) σ n z) := rfl
theorem cw_imul  {ax : mcX} : cS L d M Φ nx (pc, cut, .imul , len, ax) ls st σ n z = (mcPI st fun y st => mcPI st fun x st => nx (pc + 1) ls (mi (x * y) :: st) σ n z) := rfl
theorem cw_iand  {ax : mcX} : cS L d M Φ nx (pc, cut, .iand , len, ax) ls st σ n z = (mcPI st fun y st => mcPI st fun x st => nx (pc + 1) ls (mi (mAnd x y) :: st) σ n z) := rfl
theorem cw_ladd  {ax : mcX} : cS L d M Φ nx (pc, cut, .ladd , len, ax) ls st σ n z = (mcPL st fun y st => mcPL st fun x st => nx (pc + 1) ls (ml (x + y) :: st) σ n z) := rfl
theorem cw_lsub  {ax : mcX} : cS L d M Φ nx (pc, cut, .lsub , len, ax) ls st σ n z = (mcPL st fun y st => mcPL st fun x st => nx (pc + 1) ls (ml (x - y) :: st) σ n z) := rfl
theorem cw_land  {ax : mcX} : cS L d M Φ nx (pc, cut, .land , len, ax) ls st σ n z = (mcPL st fun y st => mcPL st fun x st => nx (pc + 1) ls (ml (x &&& y) :: st) σ n z) := rfl
theorem cw_lor  {ax : mcX} : cS L d M Φ nx (pc, cut, .lor , len, ax) ls st σ n z = (mcPL st fun y st => mcPL st fun x st => nx (pc + 1) ls (ml (x ||| y) :: st) σ n z) := rfl
theorem cw_lxor  {ax : mcX} : cS L d M Φ nx (pc, cut, .lxor , len, ax) ls st σ n z = (mcPL st fun y st => mcPL st fun x st => nx (pc + 1) ls (ml (x ^^^ y) :: st) σ n z) := rfl
theorem cw_lcmp  {ax : mcX} : cS L d M Φ nx (pc, cut, .lcmp , len, ax) ls st σ n z = (mcPL st fun y st => mcPL st fun x st => nx (pc + 1) ls (mi (mCmp x y) :: st) σ n z) := rfl
theorem cw_lshl  {ax : mcX} : cS L d M Φ nx (pc, cut, .lshl , len, ax) ls st σ n z = (mcPI st fun y st => mcPL st fun x st => (0 ≤ y ∧ y < 64) ∧ nx (pc + 1) ls (ml (mShl x y) :: st) σ n z) := rfl
theorem cw_lushr  {ax : mcX} : cS L d M Φ nx (pc, cut, .lushr , len, ax) ls st σ n z = (mcPI st fun y st => mcPL st fun x st => (0 ≤ y ∧ y < 64) ∧ nx (pc + 1) ls (ml (mShr x y) :: st) σ n z) := rfl
theorem cw_i2l  {ax : mcX} : cS L d M Φ nx (pc, cut, .i2l , len, ax) ls st σ n z = (mcPI st fun x st => nx (pc + 1) ls (ml (Int32.ofInt x).toInt64 :: st) σ n z) := rfl
theorem cw_i2b  {ax : mcX} : cS L d M Φ nx (pc, cut, .i2b , len, ax) ls st σ n z = (mcPI st fun x st => (-128 ≤ x ∧ x < 128) ∧ nx (pc + 1) ls (mi x :: st) σ n z) := rfl
theorem cw_dup  {ax : mcX} : cS L d M Φ nx (pc, cut, .dup , len, ax) ls st σ n z = (mcP1 st fun v st => mcCat v = 1 ∧ nx (pc + 1) ls (v :: v :: st) σ n z) := rfl
theorem cw_pop  {ax : mcX} : cS L d M Φ nx (pc, cut, .pop , len, ax) ls st σ n z = (mcP1 st fun v st => mcCat v = 1 ∧ nx (pc + 1) ls (st) σ n z) := rfl
theorem cw_dup2  {ax : mcX} : cS L d M Φ nx (pc, cut, .dup2 , len, ax) ls st σ n z = (mcP1 st fun u st => mcP1 st fun v st => mcCat u = 1 ∧ mcCat v = 1 ∧ nx (pc + 1) ls (u :: v :: u :: v :: st) σ n z) := rfl
theorem cw_iload_n0 {ax : mcX} : cS L d M Φ nx (pc, cut, .iload_n 0, len, ax) ls st σ n z = (mcGI ls 0 fun x => nx (pc + 1) ls (mi x :: st) σ n z) := rfl
theorem cw_iload_n1 {ax : mcX} : cS L d M Φ nx (pc, cut, .iload_n 1, len, ax) ls st σ n z = (mcGI ls 1 fun x => nx (pc + 1) ls (mi x :: st) σ n z) := rfl
theorem cw_iload_n2 {ax : mcX} : cS L d M Φ nx (pc, cut, .iload_n 2, len, ax) ls st σ n z = (mcGI ls 2 fun x => nx (pc + 1) ls (mi x :: st) σ n z) := rfl
theorem cw_iload_n3 {ax : mcX} : cS L d M Φ nx (pc, cut, .iload_n 3, len, ax) ls st σ n z = (mcGI ls 3 fun x => nx (pc + 1) ls (mi x :: st) σ n z) := rfl
theorem cw_iload {i : Nat} {ax : mcX} : cS L d M Φ nx (pc, cut, .iload i, len, ax) ls st σ n z = (mcGI ls i fun x => nx (pc + 2) ls (mi x :: st) σ n z) := rfl
theorem cw_lload_n0 {ax : mcX} : cS L d M Φ nx (pc, cut, .lload_n 0, len, ax) ls st σ n z = (mcGL ls 0 fun x => nx (pc + 1) ls (ml x :: st) σ n z) := rfl
theorem cw_lload_n1 {ax : mcX} : cS L d M Φ nx (pc, cut, .lload_n 1, len, ax) ls st σ n z = (mcGL ls 1 fun x => nx (pc + 1) ls (ml x :: st) σ n z) := rfl
theorem cw_lload_n2 {ax : mcX} : cS L d M Φ nx (pc, cut, .lload_n 2, len, ax) ls st σ n z = (mcGL ls 2 fun x => nx (pc + 1) ls (ml x :: st) σ n z) := rfl
theorem cw_lload_n3 {ax : mcX} : cS L d M Φ nx (pc, cut, .lload_n 3, len, ax) ls st σ n z = (mcGL ls 3 fun x => nx (pc + 1) ls (ml x :: st) σ n z) := rfl
theorem cw_lload {i : Nat} {ax : mcX} : cS L d M Φ nx (pc, cut, .lload i, len, ax) ls st σ n z = (mcGL ls i fun x => nx (pc + 2) ls (ml x :: st) σ n z) := rfl
theorem cw_aload_n0 {ax : mcX} : cS L d M Φ nx (pc, cut, .aload_n 0, len, ax) ls st σ n z = (mcGR ls 0 fun x => nx (pc + 1) ls (mr x :: st) σ n z) := rfl
theorem cw_aload_n1 {ax : mcX} : cS L d M Φ nx (pc, cut, .aload_n 1, len, ax) ls st σ n z = (mcGR ls 1 fun x => nx (pc + 1) ls (mr x :: st) σ n z) := rfl
theorem cw_aload_n2 {ax : mcX} : cS L d M Φ nx (pc, cut, .aload_n 2, len, ax) ls st σ n z = (mcGR ls 2 fun x => nx (pc + 1) ls (mr x :: st) σ n z) := rfl
theorem cw_aload_n3 {ax : mcX} : cS L d M Φ nx (pc, cut, .aload_n 3, len, ax) ls st σ n z = (mcGR ls 3 fun x => nx (pc + 1) ls (mr x :: st) σ n z) := rfl
theorem cw_aload {i : Nat} {ax : mcX} : cS L d M Φ nx (pc, cut, .aload i, len, ax) ls st σ n z = (mcGR ls i fun x => nx (pc + 2) ls (mr x :: st) σ n z) := rfl
theorem cw_istore_n0 {ax : mcX} : cS L d M Φ nx (pc, cut, .istore_n 0, len, ax) ls st σ n z = (mcPI st fun x st => nx (pc + 1) (mcS1 ls 0 (mi x)) (st) σ n z) := rfl
theorem cw_istore_n1 {ax : mcX} : cS L d M Φ nx (pc, cut, .istore_n 1, len, ax) ls st σ n z = (mcPI st fun x st => nx (pc + 1) (mcS1 ls 1 (mi x)) (st) σ n z) := rfl
theorem cw_istore_n2 {ax : mcX} : cS L d M Φ nx (pc, cut, .istore_n 2, len, ax) ls st σ n z = (mcPI st fun x st => nx (pc + 1) (mcS1 ls 2 (mi x)) (st) σ n z) := rfl
theorem cw_istore_n3 {ax : mcX} : cS L d M Φ nx (pc, cut, .istore_n 3, len, ax) ls st σ n z = (mcPI st fun x st => nx (pc + 1) (mcS1 ls 3 (mi x)) (st) σ n z) := rfl
theorem cw_istore {i : Nat} {ax : mcX} : cS L d M Φ nx (pc, cut, .istore i, len, ax) ls st σ n z = (mcPI st fun x st => nx (pc + 2) (mcS1 ls i (mi x)) (st) σ n z) := rfl
theorem cw_astore_n0 {ax : mcX} : cS L d M Φ nx (pc, cut, .astore_n 0, len, ax) ls st σ n z = (mcPR st fun x st => nx (pc + 1) (mcS1 ls 0 (mr x)) (st) σ n z) := rfl
theorem cw_astore_n1 {ax : mcX} : cS L d M Φ nx (pc, cut, .astore_n 1, len, ax) ls st σ n z = (mcPR st fun x st => nx (pc + 1) (mcS1 ls 1 (mr x)) (st) σ n z) := rfl
theorem cw_astore_n2 {ax : mcX} : cS L d M Φ nx (pc, cut, .astore_n 2, len, ax) ls st σ n z = (mcPR st fun x st => nx (pc + 1) (mcS1 ls 2 (mr x)) (st) σ n z) := rfl
theorem cw_astore_n3 {ax : mcX} : cS L d M Φ nx (pc, cut, .astore_n 3, len, ax) ls st σ n z = (mcPR st fun x st => nx (pc + 1) (mcS1 ls 3 (mr x)) (st) σ n z) := rfl
theorem cw_astore {i : Nat} {ax : mcX} : cS L d M Φ nx (pc, cut, .astore i, len, ax) ls st σ n z = (mcPR st fun x st => nx (pc + 2) (mcS1 ls i (mr x)) (st) σ n z) := rfl
theorem cw_lstore_n0 {ax : mcX} : cS L d M Φ nx (pc, cut, .lstore_n 0, len, ax) ls st σ n z = (mcPL st fun x st => nx (pc + 1) (mcS2 ls 0 (ml x)) (st) σ n z) := rfl
theorem cw_lstore_n1 {ax : mcX} : cS L d M Φ nx (pc, cut, .lstore_n 1, len, ax) ls st σ n z = (mcPL st fun x st => nx (pc + 1) (mcS2 ls 1 (ml x)) (st) σ n z) := rfl
theorem cw_lstore_n2 {ax : mcX} : cS L d M Φ nx (pc, cut, .lstore_n 2, len, ax) ls st σ n z = (mcPL st fun x st => nx (pc + 1) (mcS2 ls 2 (ml x)) (st) σ n z) := rfl
theorem cw_lstore_n3 {ax : mcX} : cS L d M Φ nx (pc, cut, .lstore_n 3, len, ax) ls st σ n z = (mcPL st fun x st => nx (pc + 1) (mcS2 ls 3 (ml x)) (st) σ n z) := rfl
theorem cw_lstore {i : Nat} {ax : mcX} : cS L d M Φ nx (pc, cut, .lstore i, len, ax) ls st σ n z = (mcPL st fun x st => nx (pc + 2) (mcS2 ls i (ml x)) (st) σ n z) := rfl
theorem cw_iinc {i : Nat} {q : Int} {ax : mcX} : cS L d M Φ nx (pc, cut, .iinc i q, len, ax) ls st σ n z = (mcGI ls i fun x => nx (pc + 3) (mcS1 ls i (mi (x + q))) (st) σ n z) := rfl
theorem cw_icmp_eq {off : Int} {t : Nat} {r : Nat × List Nat × List mcM} : cS L d M Φ nx (pc, cut, .if_icmp .eq off, len, (t, r)) ls st σ n z = (mcPI st fun y st => mcPI st fun x st => in32 x ∧ in32 y ∧ (x = y → nx t ls st σ n z) ∧ (¬ x = y → nx (pc + 3) ls st σ n z)) := rfl
theorem cw_icmp_ne {off : Int} {t : Nat} {r : Nat × List Nat × List mcM} : cS L d M Φ nx (pc, cut, .if_icmp .ne off, len, (t, r)) ls st σ n z = (mcPI st fun y st => mcPI st fun x st => in32 x ∧ in32 y ∧ (¬ x = y → nx t ls st σ n z) ∧ (x = y → nx (pc + 3) ls st σ n z)) := rfl
theorem cw_icmp_lt {off : Int} {t : Nat} {r : Nat × List Nat × List mcM} : cS L d M Φ nx (pc, cut, .if_icmp .lt off, len, (t, r)) ls st σ n z = (mcPI st fun y st => mcPI st fun x st => in32 x ∧ in32 y ∧ (x < y → nx t ls st σ n z) ∧ (¬ x < y → nx (pc + 3) ls st σ n z)) := rfl
theorem cw_icmp_ge {off : Int} {t : Nat} {r : Nat × List Nat × List mcM} : cS L d M Φ nx (pc, cut, .if_icmp .ge off, len, (t, r)) ls st σ n z = (mcPI st fun y st => mcPI st fun x st => in32 x ∧ in32 y ∧ (y ≤ x → nx t ls st σ n z) ∧ (¬ y ≤ x → nx (pc + 3) ls st σ n z)) := rfl
theorem cw_icmp_gt {off : Int} {t : Nat} {r : Nat × List Nat × List mcM} : cS L d M Φ nx (pc, cut, .if_icmp .gt off, len, (t, r)) ls st σ n z = (mcPI st fun y st => mcPI st fun x st => in32 x ∧ in32 y ∧ (y < x → nx t ls st σ n z) ∧ (¬ y < x → nx (pc + 3) ls st σ n z)) := rfl
theorem cw_icmp_le {off : Int} {t : Nat} {r : Nat × List Nat × List mcM} : cS L d M Φ nx (pc, cut, .if_icmp .le off, len, (t, r)) ls st σ n z = (mcPI st fun y st => mcPI st fun x st => in32 x ∧ in32 y ∧ (x ≤ y → nx t ls st σ n z) ∧ (¬ x ≤ y → nx (pc + 3) ls st σ n z)) := rfl
theorem cw_if_eq {off : Int} {t : Nat} {r : Nat × List Nat × List mcM} : cS L d M Φ nx (pc, cut, .ifCond .eq off, len, (t, r)) ls st σ n z = (mcPI st fun x st => in32 x ∧ (x = 0 → nx t ls st σ n z) ∧ (¬ x = 0 → nx (pc + 3) ls st σ n z)) := rfl
theorem cw_if_ne {off : Int} {t : Nat} {r : Nat × List Nat × List mcM} : cS L d M Φ nx (pc, cut, .ifCond .ne off, len, (t, r)) ls st σ n z = (mcPI st fun x st => in32 x ∧ (¬ x = 0 → nx t ls st σ n z) ∧ (x = 0 → nx (pc + 3) ls st σ n z)) := rfl
theorem cw_if_lt {off : Int} {t : Nat} {r : Nat × List Nat × List mcM} : cS L d M Φ nx (pc, cut, .ifCond .lt off, len, (t, r)) ls st σ n z = (mcPI st fun x st => in32 x ∧ (x < 0 → nx t ls st σ n z) ∧ (¬ x < 0 → nx (pc + 3) ls st σ n z)) := rfl
theorem cw_if_ge {off : Int} {t : Nat} {r : Nat × List Nat × List mcM} : cS L d M Φ nx (pc, cut, .ifCond .ge off, len, (t, r)) ls st σ n z = (mcPI st fun x st => in32 x ∧ (0 ≤ x → nx t ls st σ n z) ∧ (¬ 0 ≤ x → nx (pc + 3) ls st σ n z)) := rfl
theorem cw_if_gt {off : Int} {t : Nat} {r : Nat × List Nat × List mcM} : cS L d M Φ nx (pc, cut, .ifCond .gt off, len, (t, r)) ls st σ n z = (mcPI st fun x st => in32 x ∧ (0 < x → nx t ls st σ n z) ∧ (¬ 0 < x → nx (pc + 3) ls st σ n z)) := rfl
theorem cw_if_le {off : Int} {t : Nat} {r : Nat × List Nat × List mcM} : cS L d M Φ nx (pc, cut, .ifCond .le off, len, (t, r)) ls st σ n z = (mcPI st fun x st => in32 x ∧ (x ≤ 0 → nx t ls st σ n z) ∧ (¬ x ≤ 0 → nx (pc + 3) ls st σ n z)) := rfl
theorem cw_goto {off : Int} {t : Nat} {r : Nat × List Nat × List mcM} : cS L d M Φ nx (pc, cut, .goto off, len, (t, r)) ls st σ n z = (nx t ls st σ n z) := rfl
theorem cw_tableswitch {dflt lw hi : Int} {offs : Array Int} {t q : Nat} {ts : List Nat} {r : List mcM} : cS L d M Φ nx (pc, cut, .tableswitch dflt lw hi offs, len, (t, q, ts, r)) ls st σ n z = (mcPI st fun x st => in32 x ∧ cTs x lw ts (fun t => nx t ls st σ n z) ∧ (x < lw ∨ hi < x → nx t ls st σ n z)) := rfl
theorem cw_getR {idx ci q w : Nat} {r : List mcM} : cS L d M Φ nx (pc, cut, .getfield idx, len, (ci, q, [w, 1], r)) ls st σ n z = (mcPR st fun a st => cGr L a ci q fun t => nx (pc + 3) ls (mr t :: st) σ n z) := rfl
theorem cw_getI0 {idx ci q w : Nat} {r : List mcM} : cS L d M Φ nx (pc, cut, .getfield idx, len, (ci, q, [w, 0], r)) ls st σ n z = (mcPR st fun a st => cGi L σ a ci q fun x => nx (pc + 3) ls (mi x :: st) σ n z) := rfl
theorem cw_getI2 {idx ci q w : Nat} {r : List mcM} : cS L d M Φ nx (pc, cut, .getfield idx, len, (ci, q, [w, 2], r)) ls st σ n z = (mcPR st fun a st => cGi L σ a ci q fun x => nx (pc + 3) ls (mi x :: st) σ n z) := rfl
theorem cw_put0 {idx ci w kd : Nat} {r : List mcM} : cS L d M Φ nx (pc, cut, .putfield idx, len, (ci, 0, [w, kd], r)) ls st σ n z = (mcPI st fun x st => mcPR st fun a st => cPf L a ci kd x (nx (pc + 3) ls st (upc σ a (upi (σ a) 0 x)) n z)) := rfl
theorem cw_put1 {idx ci w kd : Nat} {r : List mcM} : cS L d M Φ nx (pc, cut, .putfield idx, len, (ci, 1, [w, kd], r)) ls st σ n z = (mcPI st fun x st => mcPR st fun a st => cPf L a ci kd x (nx (pc + 3) ls st (upc σ a (upi (σ a) 1 x)) n z)) := rfl
theorem cw_put2 {idx ci w kd : Nat} {r : List mcM} : cS L d M Φ nx (pc, cut, .putfield idx, len, (ci, 2, [w, kd], r)) ls st σ n z = (mcPI st fun x st => mcPR st fun a st => cPf L a ci kd x (nx (pc + 3) ls st (upc σ a (upi (σ a) 2 x)) n z)) := rfl
theorem cw_put3 {idx ci w kd : Nat} {r : List mcM} : cS L d M Φ nx (pc, cut, .putfield idx, len, (ci, 3, [w, kd], r)) ls st σ n z = (mcPI st fun x st => mcPR st fun a st => cPf L a ci kd x (nx (pc + 3) ls st (upc σ a (upi (σ a) 3 x)) n z)) := rfl
theorem cw_put4 {idx ci w kd : Nat} {r : List mcM} : cS L d M Φ nx (pc, cut, .putfield idx, len, (ci, 4, [w, kd], r)) ls st σ n z = (mcPI st fun x st => mcPR st fun a st => cPf L a ci kd x (nx (pc + 3) ls st (upc σ a (upi (σ a) 4 x)) n z)) := rfl
theorem cw_put5 {idx ci w kd : Nat} {r : List mcM} : cS L d M Φ nx (pc, cut, .putfield idx, len, (ci, 5, [w, kd], r)) ls st σ n z = (mcPI st fun x st => mcPR st fun a st => cPf L a ci kd x (nx (pc + 3) ls st (upc σ a (upi (σ a) 5 x)) n z)) := rfl
theorem cw_put6 {idx ci w kd : Nat} {r : List mcM} : cS L d M Φ nx (pc, cut, .putfield idx, len, (ci, 6, [w, kd], r)) ls st σ n z = (mcPI st fun x st => mcPR st fun a st => cPf L a ci kd x (nx (pc + 3) ls st (upc σ a (upi (σ a) 6 x)) n z)) := rfl
theorem cw_put7 {idx ci w kd : Nat} {r : List mcM} : cS L d M Φ nx (pc, cut, .putfield idx, len, (ci, 7, [w, kd], r)) ls st σ n z = (mcPI st fun x st => mcPR st fun a st => cPf L a ci kd x (nx (pc + 3) ls st (upc σ a (upi (σ a) 7 x)) n z)) := rfl
theorem cw_put8 {idx ci w kd : Nat} {r : List mcM} : cS L d M Φ nx (pc, cut, .putfield idx, len, (ci, 8, [w, kd], r)) ls st σ n z = (mcPI st fun x st => mcPR st fun a st => cPf L a ci kd x (nx (pc + 3) ls st (upc σ a (upi (σ a) 8 x)) n z)) := rfl
theorem cw_put9 {idx ci w kd : Nat} {r : List mcM} : cS L d M Φ nx (pc, cut, .putfield idx, len, (ci, 9, [w, kd], r)) ls st σ n z = (mcPI st fun x st => mcPR st fun a st => cPf L a ci kd x (nx (pc + 3) ls st (upc σ a (upi (σ a) 9 x)) n z)) := rfl
theorem cw_put10 {idx ci w kd : Nat} {r : List mcM} : cS L d M Φ nx (pc, cut, .putfield idx, len, (ci, 10, [w, kd], r)) ls st σ n z = (mcPI st fun x st => mcPR st fun a st => cPf L a ci kd x (nx (pc + 3) ls st (upc σ a (upi (σ a) 10 x)) n z)) := rfl
theorem cw_put11 {idx ci w kd : Nat} {r : List mcM} : cS L d M Φ nx (pc, cut, .putfield idx, len, (ci, 11, [w, kd], r)) ls st σ n z = (mcPI st fun x st => mcPR st fun a st => cPf L a ci kd x (nx (pc + 3) ls st (upc σ a (upi (σ a) 11 x)) n z)) := rfl
theorem cw_put12 {idx ci w kd : Nat} {r : List mcM} : cS L d M Φ nx (pc, cut, .putfield idx, len, (ci, 12, [w, kd], r)) ls st σ n z = (mcPI st fun x st => mcPR st fun a st => cPf L a ci kd x (nx (pc + 3) ls st (upc σ a (upi (σ a) 12 x)) n z)) := rfl
theorem cw_put13 {idx ci w kd : Nat} {r : List mcM} : cS L d M Φ nx (pc, cut, .putfield idx, len, (ci, 13, [w, kd], r)) ls st σ n z = (mcPI st fun x st => mcPR st fun a st => cPf L a ci kd x (nx (pc + 3) ls st (upc σ a (upi (σ a) 13 x)) n z)) := rfl
theorem cw_put14 {idx ci w kd : Nat} {r : List mcM} : cS L d M Φ nx (pc, cut, .putfield idx, len, (ci, 14, [w, kd], r)) ls st σ n z = (mcPI st fun x st => mcPR st fun a st => cPf L a ci kd x (nx (pc + 3) ls st (upc σ a (upi (σ a) 14 x)) n z)) := rfl
theorem cw_put15 {idx ci w kd : Nat} {r : List mcM} : cS L d M Φ nx (pc, cut, .putfield idx, len, (ci, 15, [w, kd], r)) ls st σ n z = (mcPI st fun x st => mcPR st fun a st => cPf L a ci kd x (nx (pc + 3) ls st (upc σ a (upi (σ a) 15 x)) n z)) := rfl
theorem cw_put16 {idx ci w kd : Nat} {r : List mcM} : cS L d M Φ nx (pc, cut, .putfield idx, len, (ci, 16, [w, kd], r)) ls st σ n z = (mcPI st fun x st => mcPR st fun a st => cPf L a ci kd x (nx (pc + 3) ls st (upc σ a (upi (σ a) 16 x)) n z)) := rfl
theorem cw_put17 {idx ci w kd : Nat} {r : List mcM} : cS L d M Φ nx (pc, cut, .putfield idx, len, (ci, 17, [w, kd], r)) ls st σ n z = (mcPI st fun x st => mcPR st fun a st => cPf L a ci kd x (nx (pc + 3) ls st (upc σ a (upi (σ a) 17 x)) n z)) := rfl
theorem cw_put18 {idx ci w kd : Nat} {r : List mcM} : cS L d M Φ nx (pc, cut, .putfield idx, len, (ci, 18, [w, kd], r)) ls st σ n z = (mcPI st fun x st => mcPR st fun a st => cPf L a ci kd x (nx (pc + 3) ls st (upc σ a (upi (σ a) 18 x)) n z)) := rfl
theorem cw_put19 {idx ci w kd : Nat} {r : List mcM} : cS L d M Φ nx (pc, cut, .putfield idx, len, (ci, 19, [w, kd], r)) ls st σ n z = (mcPI st fun x st => mcPR st fun a st => cPf L a ci kd x (nx (pc + 3) ls st (upc σ a (upi (σ a) 19 x)) n z)) := rfl
theorem cw_put20 {idx ci w kd : Nat} {r : List mcM} : cS L d M Φ nx (pc, cut, .putfield idx, len, (ci, 20, [w, kd], r)) ls st σ n z = (mcPI st fun x st => mcPR st fun a st => cPf L a ci kd x (nx (pc + 3) ls st (upc σ a (upi (σ a) 20 x)) n z)) := rfl
theorem cw_put21 {idx ci w kd : Nat} {r : List mcM} : cS L d M Φ nx (pc, cut, .putfield idx, len, (ci, 21, [w, kd], r)) ls st σ n z = (mcPI st fun x st => mcPR st fun a st => cPf L a ci kd x (nx (pc + 3) ls st (upc σ a (upi (σ a) 21 x)) n z)) := rfl
theorem cw_put22 {idx ci w kd : Nat} {r : List mcM} : cS L d M Φ nx (pc, cut, .putfield idx, len, (ci, 22, [w, kd], r)) ls st σ n z = (mcPI st fun x st => mcPR st fun a st => cPf L a ci kd x (nx (pc + 3) ls st (upc σ a (upi (σ a) 22 x)) n z)) := rfl
theorem cw_put23 {idx ci w kd : Nat} {r : List mcM} : cS L d M Φ nx (pc, cut, .putfield idx, len, (ci, 23, [w, kd], r)) ls st σ n z = (mcPI st fun x st => mcPR st fun a st => cPf L a ci kd x (nx (pc + 3) ls st (upc σ a (upi (σ a) 23 x)) n z)) := rfl
theorem cw_put24 {idx ci w kd : Nat} {r : List mcM} : cS L d M Φ nx (pc, cut, .putfield idx, len, (ci, 24, [w, kd], r)) ls st σ n z = (mcPI st fun x st => mcPR st fun a st => cPf L a ci kd x (nx (pc + 3) ls st (upc σ a (upi (σ a) 24 x)) n z)) := rfl
theorem cw_put25 {idx ci w kd : Nat} {r : List mcM} : cS L d M Φ nx (pc, cut, .putfield idx, len, (ci, 25, [w, kd], r)) ls st σ n z = (mcPI st fun x st => mcPR st fun a st => cPf L a ci kd x (nx (pc + 3) ls st (upc σ a (upi (σ a) 25 x)) n z)) := rfl
theorem cw_iaload  {ax : mcX} : cS L d M Φ nx (pc, cut, .iaload , len, ax) ls st σ n z = (mcPI st fun x st => mcPR st fun a st => cAl L σ a x (fun t => t == 0) fun v => nx (pc + 1) ls (mi v :: st) σ n z) := rfl
theorem cw_baload  {ax : mcX} : cS L d M Φ nx (pc, cut, .baload , len, ax) ls st σ n z = (mcPI st fun x st => mcPR st fun a st => cAl L σ a x (fun t => t == 2 || t == 3) fun v => nx (pc + 1) ls (mi v :: st) σ n z) := rfl
theorem cw_laload  {ax : mcX} : cS L d M Φ nx (pc, cut, .laload , len, ax) ls st σ n z = (mcPI st fun x st => mcPR st fun a st => cAL L σ a x fun v => nx (pc + 1) ls (ml v :: st) σ n z) := rfl
theorem cw_aaload  {ax : mcX} : cS L d M Φ nx (pc, cut, .aaload , len, ax) ls st σ n z = (mcPI st fun x st => mcPR st fun a st => cAa L a x fun u => nx (pc + 1) ls (mr u :: st) σ n z) := rfl
theorem cw_arraylength  {ax : mcX} : cS L d M Φ nx (pc, cut, .arraylength , len, ax) ls st σ n z = (mcPR st fun a st => cAn L a fun len => nx (pc + 1) ls (mi (len : Int) :: st) σ n z) := rfl
theorem cw_iastore  {ax : mcX} : cS L d M Φ nx (pc, cut, .iastore , len, ax) ls st σ n z = (mcPI st fun v st => mcPI st fun x st => mcPR st fun a st => cAs L a x (fun t => t = 0 ∧ in32 v) (nx (pc + 1) ls (st) (upc σ a (upi (σ a) x v)) n z)) := rfl
theorem cw_bastore  {ax : mcX} : cS L d M Φ nx (pc, cut, .bastore , len, ax) ls st σ n z = (mcPI st fun v st => mcPI st fun x st => mcPR st fun a st => cAs L a x (fun t => cBs v t) (nx (pc + 1) ls (st) (upc σ a (upi (σ a) x v)) n z)) := rfl
theorem cw_lastore  {ax : mcX} : cS L d M Φ nx (pc, cut, .lastore , len, ax) ls st σ n z = (mcPL st fun v st => mcPI st fun x st => mcPR st fun a st => cAs L a x (fun t => t = 1) (nx (pc + 1) ls (st) (upc σ a (upi (σ a) x v.toInt)) n z)) := rfl
theorem cw_copy {idx q : Nat} {ws : List Nat} : cS L d M Φ nx (pc, cut, .invokestatic idx, len, (0, q, ws, [])) ls st σ n z = (1 ≤ d ∧ cCp L st σ fun st σ => mcCats st ≤ 0 ∧ nx (pc + 3) ls st σ n z) := rfl
theorem cw_mMax {idx q : Nat} {ws : List Nat} : cS L d M Φ nx (pc, cut, .invokestatic idx, len, (2, q, ws, [])) ls st σ n z = (mcPI st fun y st => mcPI st fun x st => in32 x ∧ in32 y ∧ 1 ≤ d ∧ mcCats st ≤ 9 ∧ nx (pc + 3) ls (mi (mMax x y) :: st) σ n z) := rfl
theorem cw_mMin {idx q : Nat} {ws : List Nat} : cS L d M Φ nx (pc, cut, .invokestatic idx, len, (3, q, ws, [])) ls st σ n z = (mcPI st fun y st => mcPI st fun x st => in32 x ∧ in32 y ∧ 1 ≤ d ∧ mcCats st ≤ 9 ∧ nx (pc + 3) ls (mi (mMin x y) :: st) σ n z) := rfl
theorem cw_demand0 {idx q : Nat} {ws : List Nat} {M' : mcM} {r : List mcM} : cS L d M Φ nx (pc, cut, .invokestatic idx, len, (4, q, ws, M' :: r)) ls st σ n z = (mcPI st fun x st => in32 x ∧ 7 ≤ d ∧ mcCats st ≤ 9 ∧ (¬ x = 0 → nx (pc + 3) ls st σ n z) ∧ (x = 0 → n + 1 ≤ 601025 ∧ z + 6 ≤ 7293034 ∧ cThr M Φ nx pc ls 0 n σ (n + 1) (z + 6))) := rfl
theorem cw_demand1 {idx q : Nat} {ws : List Nat} {M' : mcM} {r : List mcM} : cS L d M Φ nx (pc, cut, .invokestatic idx, len, (5, q, ws, M' :: r)) ls st σ n z = (mcPI st fun x st => in32 x ∧ 7 ≤ d ∧ mcCats st ≤ 9 ∧ (¬ x = 0 → nx (pc + 3) ls st σ n z) ∧ (x = 0 → n + 1 ≤ 601025 ∧ z + 6 ≤ 7293034 ∧ cThr M Φ nx pc ls 1 n σ (n + 1) (z + 6))) := rfl
theorem cw_static0 {idx q w1 w2 w3 w4 w5 nl : Nat} {M' : mcM} {r : List mcM} : cS L d M Φ nx (pc, cut, .invokestatic idx, len, (0, q, [w1, w2, w3, w4, w5, nl], M' :: r)) ls st σ n z = (mcArg q st fun vs st => cCall L d M Φ nx pc ls st σ n z M' nl vs) := rfl
theorem cw_static1 {idx q w1 w2 w3 w4 w5 nl : Nat} {M' : mcM} {r : List mcM} : cS L d M Φ nx (pc, cut, .invokestatic idx, len, (1, q, [w1, w2, w3, w4, w5, nl], M' :: r)) ls st σ n z = (mcArg q st fun vs st => cCall L d M Φ nx pc ls st σ n z M' nl vs) := rfl
theorem cw_virtual {idx ci q w1 w2 w3 w4 w5 nl : Nat} {M' : mcM} {r : List mcM} : cS L d M Φ nx (pc, cut, .invokevirtual idx, len, (ci, q, [w1, w2, w3, w4, w5, nl], M' :: r)) ls st σ n z = (mcArg q st fun vs st => cRecv L ci vs (cCall L d M Φ nx pc ls st σ n z M' nl vs)) := rfl
theorem cw_ireturn  : cS L d M Φ nx (pc, cut, .ireturn, len, mcX0) ls st σ n z = (mcPI st fun x st => st = [] ∧ Φ (.inl (some (mi x))) σ n z) := rfl
theorem cw_zreturn {r : Nat × List Nat × List mcM} : cS L d M Φ nx (pc, cut, .ireturn, len, (1, r)) ls st σ n z = (mcPI st fun x st => st = [] ∧ (x = 0 ∨ x = 1) ∧ Φ (.inl (some (mi x))) σ n z) := rfl
theorem cw_lreturn  {ax : mcX} : cS L d M Φ nx (pc, cut, .lreturn , len, ax) ls st σ n z = (mcPL st fun x st => st = [] ∧ Φ (.inl (some (ml x))) σ n z) := rfl
theorem cw_return_  {ax : mcX} : cS L d M Φ nx (pc, cut, .return_ , len, ax) ls st σ n z = (st = [] ∧ Φ (.inl none) σ n z) := rfl
theorem cR_succ : cR L d M K Φ (k + 1) pc ls st σ n z = if (mcGet K pc).2.1 = true then cE L d M pc ls st σ n z Φ else cS L d M Φ (cR L d M K Φ k) (mcGet K pc) ls st σ n z := rfl
theorem mcPI_c {x : Int} {r : List mV} {f : Int → List mV → Prop} : mcPI (mi x :: r) f = f x r := rfl
theorem mcPL_c {x : Int64} {r : List mV} {f : Int64 → List mV → Prop} : mcPL (ml x :: r) f = f x r := rfl
theorem mcPR_c {x : Nat} {r : List mV} {f : Nat → List mV → Prop} : mcPR (mr x :: r) f = f x r := rfl
theorem mcP1_c {x : mV} {r : List mV} {f : mV → List mV → Prop} : mcP1 (x :: r) f = f x r := rfl
theorem mcGI_z {x : Int} {f : Int → Prop} : mcGI (some (mi x) :: ls) 0 f = f x := rfl
theorem mcGI_s {v : Option mV} {i : Nat} {f : Int → Prop} : mcGI (v :: ls) (i + 1) f = mcGI ls i f := rfl
theorem mcGL_z {x : Int64} {f : Int64 → Prop} : mcGL (some (ml x) :: ls) 0 f = f x := rfl
theorem mcGL_s {v : Option mV} {i : Nat} {f : Int64 → Prop} : mcGL (v :: ls) (i + 1) f = mcGL ls i f := rfl
theorem mcGR_z {x : Nat} {f : Nat → Prop} : mcGR (some (mr x) :: ls) 0 f = f x := rfl
theorem mcGR_s {v : Option mV} {i : Nat} {f : Nat → Prop} : mcGR (v :: ls) (i + 1) f = mcGR ls i f := rfl
theorem mcS1_z {v : Option mV} {w : mV} : mcS1 (v :: ls) 0 w = some w :: ls := rfl
theorem mcS1_1n {v : Option mV} {w : mV} : mcS1 (none :: v :: ls) 1 w = none :: some w :: ls := rfl
theorem mcS1_1i {v : Option mV} {x : Int} {w : mV} : mcS1 (some (mi x) :: v :: ls) 1 w = some (mi x) :: some w :: ls := rfl
theorem mcS1_1r {v : Option mV} {x : Nat} {w : mV} : mcS1 (some (mr x) :: v :: ls) 1 w = some (mr x) :: some w :: ls := rfl
theorem mcS1_1l {v : Option mV} {x : Int64} {w : mV} : mcS1 (some (ml x) :: v :: ls) 1 w = none :: some w :: ls := rfl
theorem mcS1_ss {v : Option mV} {i : Nat} {w : mV} : mcS1 (v :: ls) (i + 2) w = v :: mcS1 ls (i + 1) w := by
  unfold mcS1
  simp only [List.getElem?_cons_succ]
  split <;> rfl
theorem mcS2_eq {i : Nat} {w : mV} : mcS2 ls i w = (mcS1 ls i w).set (i + 1) none := rfl
theorem mcArg_0 {f : List mV → List mV → Prop} : mcArg 0 (st) f = f [] st := by simp [mcArg]
theorem mcArg_1 {a0 : mV} {f : List mV → List mV → Prop} : mcArg 1 (a0 :: st) f = f [a0] st := by simp [mcArg]
theorem mcArg_2 {a0 a1 : mV} {f : List mV → List mV → Prop} : mcArg 2 (a1 :: a0 :: st) f = f [a0, a1] st := by simp [mcArg]
theorem mcArg_3 {a0 a1 a2 : mV} {f : List mV → List mV → Prop} : mcArg 3 (a2 :: a1 :: a0 :: st) f = f [a0, a1, a2] st := by simp [mcArg]
theorem mcArg_4 {a0 a1 a2 a3 : mV} {f : List mV → List mV → Prop} : mcArg 4 (a3 :: a2 :: a1 :: a0 :: st) f = f [a0, a1, a2, a3] st := by simp [mcArg]
theorem mcArg_5 {a0 a1 a2 a3 a4 : mV} {f : List mV → List mV → Prop} : mcArg 5 (a4 :: a3 :: a2 :: a1 :: a0 :: st) f = f [a0, a1, a2, a3, a4] st := by simp [mcArg]
theorem mcArg_6 {a0 a1 a2 a3 a4 a5 : mV} {f : List mV → List mV → Prop} : mcArg 6 (a5 :: a4 :: a3 :: a2 :: a1 :: a0 :: st) f = f [a0, a1, a2, a3, a4, a5] st := by simp [mcArg]
theorem mcArg_7 {a0 a1 a2 a3 a4 a5 a6 : mV} {f : List mV → List mV → Prop} : mcArg 7 (a6 :: a5 :: a4 :: a3 :: a2 :: a1 :: a0 :: st) f = f [a0, a1, a2, a3, a4, a5, a6] st := by simp [mcArg]
theorem mcArg_8 {a0 a1 a2 a3 a4 a5 a6 a7 : mV} {f : List mV → List mV → Prop} : mcArg 8 (a7 :: a6 :: a5 :: a4 :: a3 :: a2 :: a1 :: a0 :: st) f = f [a0, a1, a2, a3, a4, a5, a6, a7] st := by simp [mcArg]
theorem mcArg_9 {a0 a1 a2 a3 a4 a5 a6 a7 a8 : mV} {f : List mV → List mV → Prop} : mcArg 9 (a8 :: a7 :: a6 :: a5 :: a4 :: a3 :: a2 :: a1 :: a0 :: st) f = f [a0, a1, a2, a3, a4, a5, a6, a7, a8] st := by simp [mcArg]
theorem cCall_eq {M' : mcM} {nl : Nat} {vs : List mV} : cCall L d M Φ nx pc ls st σ n z M' nl vs = (1 ≤ d ∧ mcCats st ≤ 9 ∧ mcCats vs ≤ nl ∧ cE L (d - 1) M' 0 (mcEnt M'.2.2.1 vs) [] σ n z (cNx M Φ nx pc ls st)) := rfl
theorem mcCats_n : mcCats [] = 0 := rfl
theorem mcCats_mi {x : Int} : mcCats (mi x :: st) = 1 + mcCats st := rfl
theorem mcCats_mr {x : Nat} : mcCats (mr x :: st) = 1 + mcCats st := rfl
theorem mcCats_ml {x : Int64} : mcCats (ml x :: st) = 2 + mcCats st := rfl
theorem mcCat_mi {x : Int} : mcCat (mi x) = 1 := rfl
theorem mcCat_mr {x : Nat} : mcCat (mr x) = 1 := rfl
theorem mcCat_ml {x : Int64} : mcCat (ml x) = 2 := rfl
theorem cNx_v {v : mV} : cNx M Φ nx pc ls st (.inl (some v)) σ n z = nx (pc + 3) ls (v :: st) σ n z := rfl
theorem cNx_n : cNx M Φ nx pc ls st (.inl none) σ n z = nx (pc + 3) ls st σ n z := rfl
theorem cNx_t {kd a : Nat} : cNx M Φ nx pc ls st (.inr (kd, a)) σ n z = cThr M Φ nx pc ls kd a σ n z := rfl
theorem cTs_n {x lo : Int} {f : Nat → Prop} : cTs x lo [] f = True := rfl
theorem cTs_c {x lo : Int} {t : Nat} {r : List Nat} {f : Nat → Prop} : cTs x lo (t :: r) f = ((x = lo → f t) ∧ cTs x (lo + 1) r f) := rfl
theorem cg_1_0 {f : Nat → Prop} : cGr L 1 9 0 f = f 2 := by simp only [cGr, sk_1, show mcRho 1 ((0 : Nat) : Int) = some 2 from rfl, true_and]
theorem cg_1_1 {f : Nat → Prop} : cGr L 1 9 1 f = f 3 := by simp only [cGr, sk_1, show mcRho 1 ((1 : Nat) : Int) = some 3 from rfl, true_and]
theorem cg_1_2 {f : Nat → Prop} : cGr L 1 9 2 f = f 10 := by simp only [cGr, sk_1, show mcRho 1 ((2 : Nat) : Int) = some 10 from rfl, true_and]
theorem cp_1 {kd : Nat} {x : Int} {f : Prop} : cPf L 1 9 kd x f = (in32 x ∧ (kd = 2 → x = 0 ∨ x = 1) ∧ f) := by simp only [cPf, sk_1, true_and]
theorem cv_1 {vs : List mV} {f : Prop} : cRecv L 9 (mr 1 :: vs) f = f := by simp only [cRecv, sk_1, true_and]
theorem cg_3_0 {f : Nat → Prop} : cGr L 3 0 0 f = f 4 := by simp only [cGr, sk_3, show mcRho 3 ((0 : Nat) : Int) = some 4 from rfl, true_and]
theorem cg_3_1 {f : Nat → Prop} : cGr L 3 0 1 f = f 5 := by simp only [cGr, sk_3, show mcRho 3 ((1 : Nat) : Int) = some 5 from rfl, true_and]
theorem cg_3_2 {f : Nat → Prop} : cGr L 3 0 2 f = f 6 := by simp only [cGr, sk_3, show mcRho 3 ((2 : Nat) : Int) = some 6 from rfl, true_and]
theorem cg_3_3 {f : Nat → Prop} : cGr L 3 0 3 f = f 7 := by simp only [cGr, sk_3, show mcRho 3 ((3 : Nat) : Int) = some 7 from rfl, true_and]
theorem cg_3_4 {f : Nat → Prop} : cGr L 3 0 4 f = f 8 := by simp only [cGr, sk_3, show mcRho 3 ((4 : Nat) : Int) = some 8 from rfl, true_and]
theorem cg_3_5 {f : Nat → Prop} : cGr L 3 0 5 f = f 9 := by simp only [cGr, sk_3, show mcRho 3 ((5 : Nat) : Int) = some 9 from rfl, true_and]
theorem ci_3_6 {f : Int → Prop} : cGi L σ 3 0 6 f = (in32 (σ 3 6) → f (σ 3 6)) := by simp only [cGi, sk_3, true_and]; rfl
theorem cp_3 {kd : Nat} {x : Int} {f : Prop} : cPf L 3 0 kd x f = (in32 x ∧ (kd = 2 → x = 0 ∨ x = 1) ∧ f) := by simp only [cPf, sk_3, true_and]
theorem cv_3 {vs : List mV} {f : Prop} : cRecv L 0 (mr 3 :: vs) f = f := by simp only [cRecv, sk_3, true_and]
theorem ca_4 {x : Int} {ok : Nat → Bool} {f : Int → Prop} : cAl L σ 4 x ok f = (ok 0 = true ∧ (0 ≤ x ∧ x < 300) ∧ (in32 (σ 4 x) → f (σ 4 x))) := by simp only [cAl, sk_4]; rfl
theorem cs_4 {x : Int} {c : Nat → Prop} {f : Prop} : cAs L 4 x c f = (c 0 ∧ (0 ≤ x ∧ x < 300) ∧ f) := by simp only [cAs, sk_4, ne_eq, Nat.reduceEqDiff, not_false_eq_true, true_and]; rfl
theorem cn_4 {f : Nat → Prop} : cAn L 4 f = f 300 := by simp only [cAn, sk_4]
theorem ca_5 {x : Int} {ok : Nat → Bool} {f : Int → Prop} : cAl L σ 5 x ok f = (ok 0 = true ∧ (0 ≤ x ∧ x < 300) ∧ (in32 (σ 5 x) → f (σ 5 x))) := by simp only [cAl, sk_5]; rfl
theorem cs_5 {x : Int} {c : Nat → Prop} {f : Prop} : cAs L 5 x c f = (c 0 ∧ (0 ≤ x ∧ x < 300) ∧ f) := by simp only [cAs, sk_5, ne_eq, Nat.reduceEqDiff, not_false_eq_true, true_and]; rfl
theorem cn_5 {f : Nat → Prop} : cAn L 5 f = f 300 := by simp only [cAn, sk_5]
theorem ca_6 {x : Int} {ok : Nat → Bool} {f : Int → Prop} : cAl L σ 6 x ok f = (ok 0 = true ∧ (0 ≤ x ∧ x < 300) ∧ (in32 (σ 6 x) → f (σ 6 x))) := by simp only [cAl, sk_6]; rfl
theorem cs_6 {x : Int} {c : Nat → Prop} {f : Prop} : cAs L 6 x c f = (c 0 ∧ (0 ≤ x ∧ x < 300) ∧ f) := by simp only [cAs, sk_6, ne_eq, Nat.reduceEqDiff, not_false_eq_true, true_and]; rfl
theorem cn_6 {f : Nat → Prop} : cAn L 6 f = f 300 := by simp only [cAn, sk_6]
theorem ca_7 {x : Int} {ok : Nat → Bool} {f : Int → Prop} : cAl L σ 7 x ok f = (ok 0 = true ∧ (0 ≤ x ∧ x < 300) ∧ (in32 (σ 7 x) → f (σ 7 x))) := by simp only [cAl, sk_7]; rfl
theorem cs_7 {x : Int} {c : Nat → Prop} {f : Prop} : cAs L 7 x c f = (c 0 ∧ (0 ≤ x ∧ x < 300) ∧ f) := by simp only [cAs, sk_7, ne_eq, Nat.reduceEqDiff, not_false_eq_true, true_and]; rfl
theorem cn_7 {f : Nat → Prop} : cAn L 7 f = f 300 := by simp only [cAn, sk_7]
theorem ca_8 {x : Int} {ok : Nat → Bool} {f : Int → Prop} : cAl L σ 8 x ok f = (ok 0 = true ∧ (0 ≤ x ∧ x < 300) ∧ (in32 (σ 8 x) → f (σ 8 x))) := by simp only [cAl, sk_8]; rfl
theorem cs_8 {x : Int} {c : Nat → Prop} {f : Prop} : cAs L 8 x c f = (c 0 ∧ (0 ≤ x ∧ x < 300) ∧ f) := by simp only [cAs, sk_8, ne_eq, Nat.reduceEqDiff, not_false_eq_true, true_and]; rfl
theorem cn_8 {f : Nat → Prop} : cAn L 8 f = f 300 := by simp only [cAn, sk_8]
theorem ca_9 {x : Int} {ok : Nat → Bool} {f : Int → Prop} : cAl L σ 9 x ok f = (ok 0 = true ∧ (0 ≤ x ∧ x < 6000) ∧ (in32 (σ 9 x) → f (σ 9 x))) := by simp only [cAl, sk_9]; rfl
theorem cs_9 {x : Int} {c : Nat → Prop} {f : Prop} : cAs L 9 x c f = (c 0 ∧ (0 ≤ x ∧ x < 6000) ∧ f) := by simp only [cAs, sk_9, ne_eq, Nat.reduceEqDiff, not_false_eq_true, true_and]; rfl
theorem cn_9 {f : Nat → Prop} : cAn L 9 f = f 6000 := by simp only [cAn, sk_9]
theorem cg_10_0 {f : Nat → Prop} : cGr L 10 6 0 f = f 11 := by simp only [cGr, sk_10, show mcRho 10 ((0 : Nat) : Int) = some 11 from rfl, true_and]
theorem cg_10_1 {f : Nat → Prop} : cGr L 10 6 1 f = f 12 := by simp only [cGr, sk_10, show mcRho 10 ((1 : Nat) : Int) = some 12 from rfl, true_and]
theorem cg_10_2 {f : Nat → Prop} : cGr L 10 6 2 f = f 65 := by simp only [cGr, sk_10, show mcRho 10 ((2 : Nat) : Int) = some 65 from rfl, true_and]
theorem ci_10_3 {f : Int → Prop} : cGi L σ 10 6 3 f = (in32 (σ 10 3) → f (σ 10 3)) := by simp only [cGi, sk_10, true_and]; rfl
theorem ci_10_4 {f : Int → Prop} : cGi L σ 10 6 4 f = (in32 (σ 10 4) → f (σ 10 4)) := by simp only [cGi, sk_10, true_and]; rfl
theorem ci_10_5 {f : Int → Prop} : cGi L σ 10 6 5 f = (in32 (σ 10 5) → f (σ 10 5)) := by simp only [cGi, sk_10, true_and]; rfl
theorem ci_10_6 {f : Int → Prop} : cGi L σ 10 6 6 f = (in32 (σ 10 6) → f (σ 10 6)) := by simp only [cGi, sk_10, true_and]; rfl
theorem cp_10 {kd : Nat} {x : Int} {f : Prop} : cPf L 10 6 kd x f = (in32 x ∧ (kd = 2 → x = 0 ∨ x = 1) ∧ f) := by simp only [cPf, sk_10, true_and]
theorem cv_10 {vs : List mV} {f : Prop} : cRecv L 6 (mr 10 :: vs) f = f := by simp only [cRecv, sk_10, true_and]
theorem cg_11_0 {f : Nat → Prop} : cGr L 11 5 0 f = f 12 := by simp only [cGr, sk_11, show mcRho 11 ((0 : Nat) : Int) = some 12 from rfl, true_and]
theorem cg_11_1 {f : Nat → Prop} : cGr L 11 5 1 f = f 13 := by simp only [cGr, sk_11, show mcRho 11 ((1 : Nat) : Int) = some 13 from rfl, true_and]
theorem cg_11_2 {f : Nat → Prop} : cGr L 11 5 2 f = f 19 := by simp only [cGr, sk_11, show mcRho 11 ((2 : Nat) : Int) = some 19 from rfl, true_and]
theorem ci_11_3 {f : Int → Prop} : cGi L σ 11 5 3 f = (in32 (σ 11 3) → f (σ 11 3)) := by simp only [cGi, sk_11, true_and]; rfl
theorem ci_11_4 {f : Int → Prop} : cGi L σ 11 5 4 f = (in32 (σ 11 4) → f (σ 11 4)) := by simp only [cGi, sk_11, true_and]; rfl
theorem ci_11_5 {f : Int → Prop} : cGi L σ 11 5 5 f = (in32 (σ 11 5) → f (σ 11 5)) := by simp only [cGi, sk_11, true_and]; rfl
theorem ci_11_6 {f : Int → Prop} : cGi L σ 11 5 6 f = (in32 (σ 11 6) → f (σ 11 6)) := by simp only [cGi, sk_11, true_and]; rfl
theorem ci_11_7 {f : Int → Prop} : cGi L σ 11 5 7 f = (in32 (σ 11 7) → f (σ 11 7)) := by simp only [cGi, sk_11, true_and]; rfl
theorem ci_11_8 {f : Int → Prop} : cGi L σ 11 5 8 f = (in32 (σ 11 8) → f (σ 11 8)) := by simp only [cGi, sk_11, true_and]; rfl
theorem ci_11_9 {f : Int → Prop} : cGi L σ 11 5 9 f = (in32 (σ 11 9) → f (σ 11 9)) := by simp only [cGi, sk_11, true_and]; rfl
theorem ci_11_10 {f : Int → Prop} : cGi L σ 11 5 10 f = (in32 (σ 11 10) → f (σ 11 10)) := by simp only [cGi, sk_11, true_and]; rfl
theorem ci_11_11 {f : Int → Prop} : cGi L σ 11 5 11 f = (in32 (σ 11 11) → f (σ 11 11)) := by simp only [cGi, sk_11, true_and]; rfl
theorem ci_11_12 {f : Int → Prop} : cGi L σ 11 5 12 f = (in32 (σ 11 12) → f (σ 11 12)) := by simp only [cGi, sk_11, true_and]; rfl
theorem cp_11 {kd : Nat} {x : Int} {f : Prop} : cPf L 11 5 kd x f = (in32 x ∧ (kd = 2 → x = 0 ∨ x = 1) ∧ f) := by simp only [cPf, sk_11, true_and]
theorem cv_11 {vs : List mV} {f : Prop} : cRecv L 5 (mr 11 :: vs) f = f := by simp only [cRecv, sk_11, true_and]
theorem cg_12_0 {f : Nat → Prop} : cGr L 12 4 0 f = f 13 := by simp only [cGr, sk_12, show mcRho 12 ((0 : Nat) : Int) = some 13 from rfl, true_and]
theorem cg_12_1 {f : Nat → Prop} : cGr L 12 4 1 f = f 19 := by simp only [cGr, sk_12, show mcRho 12 ((1 : Nat) : Int) = some 19 from rfl, true_and]
theorem cg_12_2 {f : Nat → Prop} : cGr L 12 4 2 f = f 25 := by simp only [cGr, sk_12, show mcRho 12 ((2 : Nat) : Int) = some 25 from rfl, true_and]
theorem cg_12_3 {f : Nat → Prop} : cGr L 12 4 3 f = f 26 := by simp only [cGr, sk_12, show mcRho 12 ((3 : Nat) : Int) = some 26 from rfl, true_and]
theorem cg_12_4 {f : Nat → Prop} : cGr L 12 4 4 f = f 27 := by simp only [cGr, sk_12, show mcRho 12 ((4 : Nat) : Int) = some 27 from rfl, true_and]
theorem cg_12_5 {f : Nat → Prop} : cGr L 12 4 5 f = f 28 := by simp only [cGr, sk_12, show mcRho 12 ((5 : Nat) : Int) = some 28 from rfl, true_and]
theorem cp_12 {kd : Nat} {x : Int} {f : Prop} : cPf L 12 4 kd x f = (in32 x ∧ (kd = 2 → x = 0 ∨ x = 1) ∧ f) := by simp only [cPf, sk_12, true_and]
theorem cv_12 {vs : List mV} {f : Prop} : cRecv L 4 (mr 12 :: vs) f = f := by simp only [cRecv, sk_12, true_and]
theorem cg_13_0 {f : Nat → Prop} : cGr L 13 1 0 f = f 14 := by simp only [cGr, sk_13, show mcRho 13 ((0 : Nat) : Int) = some 14 from rfl, true_and]
theorem cg_13_1 {f : Nat → Prop} : cGr L 13 1 1 f = f 15 := by simp only [cGr, sk_13, show mcRho 13 ((1 : Nat) : Int) = some 15 from rfl, true_and]
theorem cg_13_2 {f : Nat → Prop} : cGr L 13 1 2 f = f 16 := by simp only [cGr, sk_13, show mcRho 13 ((2 : Nat) : Int) = some 16 from rfl, true_and]
theorem cg_13_3 {f : Nat → Prop} : cGr L 13 1 3 f = f 17 := by simp only [cGr, sk_13, show mcRho 13 ((3 : Nat) : Int) = some 17 from rfl, true_and]
theorem cg_13_4 {f : Nat → Prop} : cGr L 13 1 4 f = f 18 := by simp only [cGr, sk_13, show mcRho 13 ((4 : Nat) : Int) = some 18 from rfl, true_and]
theorem cp_13 {kd : Nat} {x : Int} {f : Prop} : cPf L 13 1 kd x f = (in32 x ∧ (kd = 2 → x = 0 ∨ x = 1) ∧ f) := by simp only [cPf, sk_13, true_and]
theorem cv_13 {vs : List mV} {f : Prop} : cRecv L 1 (mr 13 :: vs) f = f := by simp only [cRecv, sk_13, true_and]
theorem ca_14 {x : Int} {ok : Nat → Bool} {f : Int → Prop} : cAl L σ 14 x ok f = (ok 0 = true ∧ (0 ≤ x ∧ x < 32) ∧ (in32 (σ 14 x) → f (σ 14 x))) := by simp only [cAl, sk_14]; rfl
theorem cs_14 {x : Int} {c : Nat → Prop} {f : Prop} : cAs L 14 x c f = (c 0 ∧ (0 ≤ x ∧ x < 32) ∧ f) := by simp only [cAs, sk_14, ne_eq, Nat.reduceEqDiff, not_false_eq_true, true_and]; rfl
theorem cn_14 {f : Nat → Prop} : cAn L 14 f = f 32 := by simp only [cAn, sk_14]
theorem ca_15 {x : Int} {ok : Nat → Bool} {f : Int → Prop} : cAl L σ 15 x ok f = (ok 0 = true ∧ (0 ≤ x ∧ x < 32) ∧ (in32 (σ 15 x) → f (σ 15 x))) := by simp only [cAl, sk_15]; rfl
theorem cs_15 {x : Int} {c : Nat → Prop} {f : Prop} : cAs L 15 x c f = (c 0 ∧ (0 ≤ x ∧ x < 32) ∧ f) := by simp only [cAs, sk_15, ne_eq, Nat.reduceEqDiff, not_false_eq_true, true_and]; rfl
theorem cn_15 {f : Nat → Prop} : cAn L 15 f = f 32 := by simp only [cAn, sk_15]
theorem ca_16 {x : Int} {ok : Nat → Bool} {f : Int → Prop} : cAl L σ 16 x ok f = (ok 0 = true ∧ (0 ≤ x ∧ x < 32) ∧ (in32 (σ 16 x) → f (σ 16 x))) := by simp only [cAl, sk_16]; rfl
theorem cs_16 {x : Int} {c : Nat → Prop} {f : Prop} : cAs L 16 x c f = (c 0 ∧ (0 ≤ x ∧ x < 32) ∧ f) := by simp only [cAs, sk_16, ne_eq, Nat.reduceEqDiff, not_false_eq_true, true_and]; rfl
theorem cn_16 {f : Nat → Prop} : cAn L 16 f = f 32 := by simp only [cAn, sk_16]
theorem ca_17 {x : Int} {ok : Nat → Bool} {f : Int → Prop} : cAl L σ 17 x ok f = (ok 0 = true ∧ (0 ≤ x ∧ x < 32) ∧ (in32 (σ 17 x) → f (σ 17 x))) := by simp only [cAl, sk_17]; rfl
theorem cs_17 {x : Int} {c : Nat → Prop} {f : Prop} : cAs L 17 x c f = (c 0 ∧ (0 ≤ x ∧ x < 32) ∧ f) := by simp only [cAs, sk_17, ne_eq, Nat.reduceEqDiff, not_false_eq_true, true_and]; rfl
theorem cn_17 {f : Nat → Prop} : cAn L 17 f = f 32 := by simp only [cAn, sk_17]
theorem ca_18 {x : Int} {ok : Nat → Bool} {f : Int → Prop} : cAl L σ 18 x ok f = (ok 0 = true ∧ (0 ≤ x ∧ x < 2048) ∧ (in32 (σ 18 x) → f (σ 18 x))) := by simp only [cAl, sk_18]; rfl
theorem cs_18 {x : Int} {c : Nat → Prop} {f : Prop} : cAs L 18 x c f = (c 0 ∧ (0 ≤ x ∧ x < 2048) ∧ f) := by simp only [cAs, sk_18, ne_eq, Nat.reduceEqDiff, not_false_eq_true, true_and]; rfl
theorem cn_18 {f : Nat → Prop} : cAn L 18 f = f 2048 := by simp only [cAn, sk_18]
theorem cg_19_0 {f : Nat → Prop} : cGr L 19 2 0 f = f 20 := by simp only [cGr, sk_19, show mcRho 19 ((0 : Nat) : Int) = some 20 from rfl, true_and]
theorem cg_19_1 {f : Nat → Prop} : cGr L 19 2 1 f = f 21 := by simp only [cGr, sk_19, show mcRho 19 ((1 : Nat) : Int) = some 21 from rfl, true_and]
theorem cg_19_2 {f : Nat → Prop} : cGr L 19 2 2 f = f 22 := by simp only [cGr, sk_19, show mcRho 19 ((2 : Nat) : Int) = some 22 from rfl, true_and]
theorem cg_19_3 {f : Nat → Prop} : cGr L 19 2 3 f = f 23 := by simp only [cGr, sk_19, show mcRho 19 ((3 : Nat) : Int) = some 23 from rfl, true_and]
theorem cg_19_4 {f : Nat → Prop} : cGr L 19 2 4 f = f 24 := by simp only [cGr, sk_19, show mcRho 19 ((4 : Nat) : Int) = some 24 from rfl, true_and]
theorem cp_19 {kd : Nat} {x : Int} {f : Prop} : cPf L 19 2 kd x f = (in32 x ∧ (kd = 2 → x = 0 ∨ x = 1) ∧ f) := by simp only [cPf, sk_19, true_and]
theorem cv_19 {vs : List mV} {f : Prop} : cRecv L 2 (mr 19 :: vs) f = f := by simp only [cRecv, sk_19, true_and]
theorem ca_20 {x : Int} {f : Int64 → Prop} : cAL L σ 20 x f = ((0 ≤ x ∧ x < 128) ∧ f (Int64.ofInt (σ 20 x))) := by simp only [cAL, sk_20, true_and]; rfl
theorem cs_20 {x : Int} {c : Nat → Prop} {f : Prop} : cAs L 20 x c f = (c 1 ∧ (0 ≤ x ∧ x < 128) ∧ f) := by simp only [cAs, sk_20, ne_eq, Nat.reduceEqDiff, not_false_eq_true, true_and]; rfl
theorem ca_21 {x : Int} {f : Int64 → Prop} : cAL L σ 21 x f = ((0 ≤ x ∧ x < 128) ∧ f (Int64.ofInt (σ 21 x))) := by simp only [cAL, sk_21, true_and]; rfl
theorem cs_21 {x : Int} {c : Nat → Prop} {f : Prop} : cAs L 21 x c f = (c 1 ∧ (0 ≤ x ∧ x < 128) ∧ f) := by simp only [cAs, sk_21, ne_eq, Nat.reduceEqDiff, not_false_eq_true, true_and]; rfl
theorem ca_22 {x : Int} {f : Int64 → Prop} : cAL L σ 22 x f = ((0 ≤ x ∧ x < 128) ∧ f (Int64.ofInt (σ 22 x))) := by simp only [cAL, sk_22, true_and]; rfl
theorem cs_22 {x : Int} {c : Nat → Prop} {f : Prop} : cAs L 22 x c f = (c 1 ∧ (0 ≤ x ∧ x < 128) ∧ f) := by simp only [cAs, sk_22, ne_eq, Nat.reduceEqDiff, not_false_eq_true, true_and]; rfl
theorem ca_23 {x : Int} {f : Int64 → Prop} : cAL L σ 23 x f = ((0 ≤ x ∧ x < 128) ∧ f (Int64.ofInt (σ 23 x))) := by simp only [cAL, sk_23, true_and]; rfl
theorem cs_23 {x : Int} {c : Nat → Prop} {f : Prop} : cAs L 23 x c f = (c 1 ∧ (0 ≤ x ∧ x < 128) ∧ f) := by simp only [cAs, sk_23, ne_eq, Nat.reduceEqDiff, not_false_eq_true, true_and]; rfl
theorem ca_24 {x : Int} {ok : Nat → Bool} {f : Int → Prop} : cAl L σ 24 x ok f = (ok 0 = true ∧ (0 ≤ x ∧ x < 4) ∧ (in32 (σ 24 x) → f (σ 24 x))) := by simp only [cAl, sk_24]; rfl
theorem cs_24 {x : Int} {c : Nat → Prop} {f : Prop} : cAs L 24 x c f = (c 0 ∧ (0 ≤ x ∧ x < 4) ∧ f) := by simp only [cAs, sk_24, ne_eq, Nat.reduceEqDiff, not_false_eq_true, true_and]; rfl
theorem cn_24 {f : Nat → Prop} : cAn L 24 f = f 4 := by simp only [cAn, sk_24]
theorem ca_25 {x : Int} {ok : Nat → Bool} {f : Int → Prop} : cAl L σ 25 x ok f = (ok 0 = true ∧ (0 ≤ x ∧ x < 32) ∧ (in32 (σ 25 x) → f (σ 25 x))) := by simp only [cAl, sk_25]; rfl
theorem cs_25 {x : Int} {c : Nat → Prop} {f : Prop} : cAs L 25 x c f = (c 0 ∧ (0 ≤ x ∧ x < 32) ∧ f) := by simp only [cAs, sk_25, ne_eq, Nat.reduceEqDiff, not_false_eq_true, true_and]; rfl
theorem cn_25 {f : Nat → Prop} : cAn L 25 f = f 32 := by simp only [cAn, sk_25]
theorem ca_26 {x : Int} {ok : Nat → Bool} {f : Int → Prop} : cAl L σ 26 x ok f = (ok 0 = true ∧ (0 ≤ x ∧ x < 4) ∧ (in32 (σ 26 x) → f (σ 26 x))) := by simp only [cAl, sk_26]; rfl
theorem cs_26 {x : Int} {c : Nat → Prop} {f : Prop} : cAs L 26 x c f = (c 0 ∧ (0 ≤ x ∧ x < 4) ∧ f) := by simp only [cAs, sk_26, ne_eq, Nat.reduceEqDiff, not_false_eq_true, true_and]; rfl
theorem cn_26 {f : Nat → Prop} : cAn L 26 f = f 4 := by simp only [cAn, sk_26]
theorem ca_27 {x : Int} {ok : Nat → Bool} {f : Int → Prop} : cAl L σ 27 x ok f = (ok 0 = true ∧ (0 ≤ x ∧ x < 12) ∧ (in32 (σ 27 x) → f (σ 27 x))) := by simp only [cAl, sk_27]; rfl
theorem cs_27 {x : Int} {c : Nat → Prop} {f : Prop} : cAs L 27 x c f = (c 0 ∧ (0 ≤ x ∧ x < 12) ∧ f) := by simp only [cAs, sk_27, ne_eq, Nat.reduceEqDiff, not_false_eq_true, true_and]; rfl
theorem cn_27 {f : Nat → Prop} : cAn L 27 f = f 12 := by simp only [cAn, sk_27]
theorem cg_65_0 {f : Nat → Prop} : cGr L 65 4 0 f = f 66 := by simp only [cGr, sk_65, show mcRho 65 ((0 : Nat) : Int) = some 66 from rfl, true_and]
theorem cg_65_1 {f : Nat → Prop} : cGr L 65 4 1 f = f 72 := by simp only [cGr, sk_65, show mcRho 65 ((1 : Nat) : Int) = some 72 from rfl, true_and]
theorem cg_65_2 {f : Nat → Prop} : cGr L 65 4 2 f = f 78 := by simp only [cGr, sk_65, show mcRho 65 ((2 : Nat) : Int) = some 78 from rfl, true_and]
theorem cg_65_3 {f : Nat → Prop} : cGr L 65 4 3 f = f 79 := by simp only [cGr, sk_65, show mcRho 65 ((3 : Nat) : Int) = some 79 from rfl, true_and]
theorem cg_65_4 {f : Nat → Prop} : cGr L 65 4 4 f = f 80 := by simp only [cGr, sk_65, show mcRho 65 ((4 : Nat) : Int) = some 80 from rfl, true_and]
theorem cg_65_5 {f : Nat → Prop} : cGr L 65 4 5 f = f 81 := by simp only [cGr, sk_65, show mcRho 65 ((5 : Nat) : Int) = some 81 from rfl, true_and]
theorem cp_65 {kd : Nat} {x : Int} {f : Prop} : cPf L 65 4 kd x f = (in32 x ∧ (kd = 2 → x = 0 ∨ x = 1) ∧ f) := by simp only [cPf, sk_65, true_and]
theorem cv_65 {vs : List mV} {f : Prop} : cRecv L 4 (mr 65 :: vs) f = f := by simp only [cRecv, sk_65, true_and]
theorem cg_66_0 {f : Nat → Prop} : cGr L 66 1 0 f = f 67 := by simp only [cGr, sk_66, show mcRho 66 ((0 : Nat) : Int) = some 67 from rfl, true_and]
theorem cg_66_1 {f : Nat → Prop} : cGr L 66 1 1 f = f 68 := by simp only [cGr, sk_66, show mcRho 66 ((1 : Nat) : Int) = some 68 from rfl, true_and]
theorem cg_66_2 {f : Nat → Prop} : cGr L 66 1 2 f = f 69 := by simp only [cGr, sk_66, show mcRho 66 ((2 : Nat) : Int) = some 69 from rfl, true_and]
theorem cg_66_3 {f : Nat → Prop} : cGr L 66 1 3 f = f 70 := by simp only [cGr, sk_66, show mcRho 66 ((3 : Nat) : Int) = some 70 from rfl, true_and]
theorem cg_66_4 {f : Nat → Prop} : cGr L 66 1 4 f = f 71 := by simp only [cGr, sk_66, show mcRho 66 ((4 : Nat) : Int) = some 71 from rfl, true_and]
theorem cp_66 {kd : Nat} {x : Int} {f : Prop} : cPf L 66 1 kd x f = (in32 x ∧ (kd = 2 → x = 0 ∨ x = 1) ∧ f) := by simp only [cPf, sk_66, true_and]
theorem cv_66 {vs : List mV} {f : Prop} : cRecv L 1 (mr 66 :: vs) f = f := by simp only [cRecv, sk_66, true_and]
theorem ca_67 {x : Int} {ok : Nat → Bool} {f : Int → Prop} : cAl L σ 67 x ok f = (ok 0 = true ∧ (0 ≤ x ∧ x < 32) ∧ (in32 (σ 67 x) → f (σ 67 x))) := by simp only [cAl, sk_67]; rfl
theorem cs_67 {x : Int} {c : Nat → Prop} {f : Prop} : cAs L 67 x c f = (c 0 ∧ (0 ≤ x ∧ x < 32) ∧ f) := by simp only [cAs, sk_67, ne_eq, Nat.reduceEqDiff, not_false_eq_true, true_and]; rfl
theorem cn_67 {f : Nat → Prop} : cAn L 67 f = f 32 := by simp only [cAn, sk_67]
theorem ca_68 {x : Int} {ok : Nat → Bool} {f : Int → Prop} : cAl L σ 68 x ok f = (ok 0 = true ∧ (0 ≤ x ∧ x < 32) ∧ (in32 (σ 68 x) → f (σ 68 x))) := by simp only [cAl, sk_68]; rfl
theorem cs_68 {x : Int} {c : Nat → Prop} {f : Prop} : cAs L 68 x c f = (c 0 ∧ (0 ≤ x ∧ x < 32) ∧ f) := by simp only [cAs, sk_68, ne_eq, Nat.reduceEqDiff, not_false_eq_true, true_and]; rfl
theorem cn_68 {f : Nat → Prop} : cAn L 68 f = f 32 := by simp only [cAn, sk_68]
theorem ca_69 {x : Int} {ok : Nat → Bool} {f : Int → Prop} : cAl L σ 69 x ok f = (ok 0 = true ∧ (0 ≤ x ∧ x < 32) ∧ (in32 (σ 69 x) → f (σ 69 x))) := by simp only [cAl, sk_69]; rfl
theorem cs_69 {x : Int} {c : Nat → Prop} {f : Prop} : cAs L 69 x c f = (c 0 ∧ (0 ≤ x ∧ x < 32) ∧ f) := by simp only [cAs, sk_69, ne_eq, Nat.reduceEqDiff, not_false_eq_true, true_and]; rfl
theorem cn_69 {f : Nat → Prop} : cAn L 69 f = f 32 := by simp only [cAn, sk_69]
theorem ca_70 {x : Int} {ok : Nat → Bool} {f : Int → Prop} : cAl L σ 70 x ok f = (ok 0 = true ∧ (0 ≤ x ∧ x < 32) ∧ (in32 (σ 70 x) → f (σ 70 x))) := by simp only [cAl, sk_70]; rfl
theorem cs_70 {x : Int} {c : Nat → Prop} {f : Prop} : cAs L 70 x c f = (c 0 ∧ (0 ≤ x ∧ x < 32) ∧ f) := by simp only [cAs, sk_70, ne_eq, Nat.reduceEqDiff, not_false_eq_true, true_and]; rfl
theorem cn_70 {f : Nat → Prop} : cAn L 70 f = f 32 := by simp only [cAn, sk_70]
theorem ca_71 {x : Int} {ok : Nat → Bool} {f : Int → Prop} : cAl L σ 71 x ok f = (ok 0 = true ∧ (0 ≤ x ∧ x < 2048) ∧ (in32 (σ 71 x) → f (σ 71 x))) := by simp only [cAl, sk_71]; rfl
theorem cs_71 {x : Int} {c : Nat → Prop} {f : Prop} : cAs L 71 x c f = (c 0 ∧ (0 ≤ x ∧ x < 2048) ∧ f) := by simp only [cAs, sk_71, ne_eq, Nat.reduceEqDiff, not_false_eq_true, true_and]; rfl
theorem cn_71 {f : Nat → Prop} : cAn L 71 f = f 2048 := by simp only [cAn, sk_71]
theorem cg_72_0 {f : Nat → Prop} : cGr L 72 2 0 f = f 73 := by simp only [cGr, sk_72, show mcRho 72 ((0 : Nat) : Int) = some 73 from rfl, true_and]
theorem cg_72_1 {f : Nat → Prop} : cGr L 72 2 1 f = f 74 := by simp only [cGr, sk_72, show mcRho 72 ((1 : Nat) : Int) = some 74 from rfl, true_and]
theorem cg_72_2 {f : Nat → Prop} : cGr L 72 2 2 f = f 75 := by simp only [cGr, sk_72, show mcRho 72 ((2 : Nat) : Int) = some 75 from rfl, true_and]
theorem cg_72_3 {f : Nat → Prop} : cGr L 72 2 3 f = f 76 := by simp only [cGr, sk_72, show mcRho 72 ((3 : Nat) : Int) = some 76 from rfl, true_and]
theorem cg_72_4 {f : Nat → Prop} : cGr L 72 2 4 f = f 77 := by simp only [cGr, sk_72, show mcRho 72 ((4 : Nat) : Int) = some 77 from rfl, true_and]
theorem cp_72 {kd : Nat} {x : Int} {f : Prop} : cPf L 72 2 kd x f = (in32 x ∧ (kd = 2 → x = 0 ∨ x = 1) ∧ f) := by simp only [cPf, sk_72, true_and]
theorem cv_72 {vs : List mV} {f : Prop} : cRecv L 2 (mr 72 :: vs) f = f := by simp only [cRecv, sk_72, true_and]
theorem ca_73 {x : Int} {f : Int64 → Prop} : cAL L σ 73 x f = ((0 ≤ x ∧ x < 128) ∧ f (Int64.ofInt (σ 73 x))) := by simp only [cAL, sk_73, true_and]; rfl
theorem cs_73 {x : Int} {c : Nat → Prop} {f : Prop} : cAs L 73 x c f = (c 1 ∧ (0 ≤ x ∧ x < 128) ∧ f) := by simp only [cAs, sk_73, ne_eq, Nat.reduceEqDiff, not_false_eq_true, true_and]; rfl
theorem ca_74 {x : Int} {f : Int64 → Prop} : cAL L σ 74 x f = ((0 ≤ x ∧ x < 128) ∧ f (Int64.ofInt (σ 74 x))) := by simp only [cAL, sk_74, true_and]; rfl
theorem cs_74 {x : Int} {c : Nat → Prop} {f : Prop} : cAs L 74 x c f = (c 1 ∧ (0 ≤ x ∧ x < 128) ∧ f) := by simp only [cAs, sk_74, ne_eq, Nat.reduceEqDiff, not_false_eq_true, true_and]; rfl
theorem ca_75 {x : Int} {f : Int64 → Prop} : cAL L σ 75 x f = ((0 ≤ x ∧ x < 128) ∧ f (Int64.ofInt (σ 75 x))) := by simp only [cAL, sk_75, true_and]; rfl
theorem cs_75 {x : Int} {c : Nat → Prop} {f : Prop} : cAs L 75 x c f = (c 1 ∧ (0 ≤ x ∧ x < 128) ∧ f) := by simp only [cAs, sk_75, ne_eq, Nat.reduceEqDiff, not_false_eq_true, true_and]; rfl
theorem ca_76 {x : Int} {f : Int64 → Prop} : cAL L σ 76 x f = ((0 ≤ x ∧ x < 128) ∧ f (Int64.ofInt (σ 76 x))) := by simp only [cAL, sk_76, true_and]; rfl
theorem cs_76 {x : Int} {c : Nat → Prop} {f : Prop} : cAs L 76 x c f = (c 1 ∧ (0 ≤ x ∧ x < 128) ∧ f) := by simp only [cAs, sk_76, ne_eq, Nat.reduceEqDiff, not_false_eq_true, true_and]; rfl
theorem ca_77 {x : Int} {ok : Nat → Bool} {f : Int → Prop} : cAl L σ 77 x ok f = (ok 0 = true ∧ (0 ≤ x ∧ x < 4) ∧ (in32 (σ 77 x) → f (σ 77 x))) := by simp only [cAl, sk_77]; rfl
theorem cs_77 {x : Int} {c : Nat → Prop} {f : Prop} : cAs L 77 x c f = (c 0 ∧ (0 ≤ x ∧ x < 4) ∧ f) := by simp only [cAs, sk_77, ne_eq, Nat.reduceEqDiff, not_false_eq_true, true_and]; rfl
theorem cn_77 {f : Nat → Prop} : cAn L 77 f = f 4 := by simp only [cAn, sk_77]
theorem ca_78 {x : Int} {ok : Nat → Bool} {f : Int → Prop} : cAl L σ 78 x ok f = (ok 0 = true ∧ (0 ≤ x ∧ x < 32) ∧ (in32 (σ 78 x) → f (σ 78 x))) := by simp only [cAl, sk_78]; rfl
theorem cs_78 {x : Int} {c : Nat → Prop} {f : Prop} : cAs L 78 x c f = (c 0 ∧ (0 ≤ x ∧ x < 32) ∧ f) := by simp only [cAs, sk_78, ne_eq, Nat.reduceEqDiff, not_false_eq_true, true_and]; rfl
theorem cn_78 {f : Nat → Prop} : cAn L 78 f = f 32 := by simp only [cAn, sk_78]
theorem ca_79 {x : Int} {ok : Nat → Bool} {f : Int → Prop} : cAl L σ 79 x ok f = (ok 0 = true ∧ (0 ≤ x ∧ x < 4) ∧ (in32 (σ 79 x) → f (σ 79 x))) := by simp only [cAl, sk_79]; rfl
theorem cs_79 {x : Int} {c : Nat → Prop} {f : Prop} : cAs L 79 x c f = (c 0 ∧ (0 ≤ x ∧ x < 4) ∧ f) := by simp only [cAs, sk_79, ne_eq, Nat.reduceEqDiff, not_false_eq_true, true_and]; rfl
theorem cn_79 {f : Nat → Prop} : cAn L 79 f = f 4 := by simp only [cAn, sk_79]
theorem ca_80 {x : Int} {ok : Nat → Bool} {f : Int → Prop} : cAl L σ 80 x ok f = (ok 0 = true ∧ (0 ≤ x ∧ x < 12) ∧ (in32 (σ 80 x) → f (σ 80 x))) := by simp only [cAl, sk_80]; rfl
theorem cs_80 {x : Int} {c : Nat → Prop} {f : Prop} : cAs L 80 x c f = (c 0 ∧ (0 ≤ x ∧ x < 12) ∧ f) := by simp only [cAs, sk_80, ne_eq, Nat.reduceEqDiff, not_false_eq_true, true_and]; rfl
theorem cn_80 {f : Nat → Prop} : cAn L 80 f = f 12 := by simp only [cAn, sk_80]
theorem ci_186_0 {f : Int → Prop} : cGi L σ 186 10 0 f = (in32 (σ 186 0) → f (σ 186 0)) := by simp only [cGi, sk_186, true_and]; rfl
theorem cg_186_1 {f : Nat → Prop} : cGr L 186 10 1 f = f 187 := by simp only [cGr, sk_186, show mcRho 186 ((1 : Nat) : Int) = some 187 from rfl, true_and]
theorem cg_186_2 {f : Nat → Prop} : cGr L 186 10 2 f = f 188 := by simp only [cGr, sk_186, show mcRho 186 ((2 : Nat) : Int) = some 188 from rfl, true_and]
theorem cg_186_3 {f : Nat → Prop} : cGr L 186 10 3 f = f 189 := by simp only [cGr, sk_186, show mcRho 186 ((3 : Nat) : Int) = some 189 from rfl, true_and]
theorem cg_186_4 {f : Nat → Prop} : cGr L 186 10 4 f = f 190 := by simp only [cGr, sk_186, show mcRho 186 ((4 : Nat) : Int) = some 190 from rfl, true_and]
theorem cg_186_5 {f : Nat → Prop} : cGr L 186 10 5 f = f 191 := by simp only [cGr, sk_186, show mcRho 186 ((5 : Nat) : Int) = some 191 from rfl, true_and]
theorem cg_186_6 {f : Nat → Prop} : cGr L 186 10 6 f = f 192 := by simp only [cGr, sk_186, show mcRho 186 ((6 : Nat) : Int) = some 192 from rfl, true_and]
theorem cg_186_7 {f : Nat → Prop} : cGr L 186 10 7 f = f 193 := by simp only [cGr, sk_186, show mcRho 186 ((7 : Nat) : Int) = some 193 from rfl, true_and]
theorem cg_186_8 {f : Nat → Prop} : cGr L 186 10 8 f = f 194 := by simp only [cGr, sk_186, show mcRho 186 ((8 : Nat) : Int) = some 194 from rfl, true_and]
theorem ci_186_9 {f : Int → Prop} : cGi L σ 186 10 9 f = (in32 (σ 186 9) → f (σ 186 9)) := by simp only [cGi, sk_186, true_and]; rfl
theorem cg_186_10 {f : Nat → Prop} : cGr L 186 10 10 f = f 195 := by simp only [cGr, sk_186, show mcRho 186 ((10 : Nat) : Int) = some 195 from rfl, true_and]
theorem cg_186_11 {f : Nat → Prop} : cGr L 186 10 11 f = f 196 := by simp only [cGr, sk_186, show mcRho 186 ((11 : Nat) : Int) = some 196 from rfl, true_and]
theorem cg_186_12 {f : Nat → Prop} : cGr L 186 10 12 f = f 197 := by simp only [cGr, sk_186, show mcRho 186 ((12 : Nat) : Int) = some 197 from rfl, true_and]
theorem cg_186_13 {f : Nat → Prop} : cGr L 186 10 13 f = f 198 := by simp only [cGr, sk_186, show mcRho 186 ((13 : Nat) : Int) = some 198 from rfl, true_and]
theorem cg_186_14 {f : Nat → Prop} : cGr L 186 10 14 f = f 199 := by simp only [cGr, sk_186, show mcRho 186 ((14 : Nat) : Int) = some 199 from rfl, true_and]
theorem cg_186_15 {f : Nat → Prop} : cGr L 186 10 15 f = f 200 := by simp only [cGr, sk_186, show mcRho 186 ((15 : Nat) : Int) = some 200 from rfl, true_and]
theorem cg_186_16 {f : Nat → Prop} : cGr L 186 10 16 f = f 201 := by simp only [cGr, sk_186, show mcRho 186 ((16 : Nat) : Int) = some 201 from rfl, true_and]
theorem cg_186_17 {f : Nat → Prop} : cGr L 186 10 17 f = f 202 := by simp only [cGr, sk_186, show mcRho 186 ((17 : Nat) : Int) = some 202 from rfl, true_and]
theorem ci_186_18 {f : Int → Prop} : cGi L σ 186 10 18 f = (in32 (σ 186 18) → f (σ 186 18)) := by simp only [cGi, sk_186, true_and]; rfl
theorem ci_186_19 {f : Int → Prop} : cGi L σ 186 10 19 f = (in32 (σ 186 19) → f (σ 186 19)) := by simp only [cGi, sk_186, true_and]; rfl
theorem ci_186_20 {f : Int → Prop} : cGi L σ 186 10 20 f = (in32 (σ 186 20) → f (σ 186 20)) := by simp only [cGi, sk_186, true_and]; rfl
theorem ci_186_21 {f : Int → Prop} : cGi L σ 186 10 21 f = (in32 (σ 186 21) → f (σ 186 21)) := by simp only [cGi, sk_186, true_and]; rfl
theorem ci_186_22 {f : Int → Prop} : cGi L σ 186 10 22 f = (in32 (σ 186 22) → f (σ 186 22)) := by simp only [cGi, sk_186, true_and]; rfl
theorem ci_186_23 {f : Int → Prop} : cGi L σ 186 10 23 f = (in32 (σ 186 23) → f (σ 186 23)) := by simp only [cGi, sk_186, true_and]; rfl
theorem ci_186_24 {f : Int → Prop} : cGi L σ 186 10 24 f = (in32 (σ 186 24) → f (σ 186 24)) := by simp only [cGi, sk_186, true_and]; rfl
theorem ci_186_25 {f : Int → Prop} : cGi L σ 186 10 25 f = (in32 (σ 186 25) → f (σ 186 25)) := by simp only [cGi, sk_186, true_and]; rfl
theorem cp_186 {kd : Nat} {x : Int} {f : Prop} : cPf L 186 10 kd x f = (in32 x ∧ (kd = 2 → x = 0 ∨ x = 1) ∧ f) := by simp only [cPf, sk_186, true_and]
theorem cv_186 {vs : List mV} {f : Prop} : cRecv L 10 (mr 186 :: vs) f = f := by simp only [cRecv, sk_186, true_and]
theorem ca_187 {x : Int} {ok : Nat → Bool} {f : Int → Prop} : cAl L σ 187 x ok f = (ok 0 = true ∧ (0 ≤ x ∧ x < 4) ∧ (in32 (σ 187 x) → f (σ 187 x))) := by simp only [cAl, sk_187]; rfl
theorem cs_187 {x : Int} {c : Nat → Prop} {f : Prop} : cAs L 187 x c f = (c 0 ∧ (0 ≤ x ∧ x < 4) ∧ f) := by simp only [cAs, sk_187, ne_eq, Nat.reduceEqDiff, not_false_eq_true, true_and]; rfl
theorem cn_187 {f : Nat → Prop} : cAn L 187 f = f 4 := by simp only [cAn, sk_187]
theorem ca_188 {x : Int} {ok : Nat → Bool} {f : Int → Prop} : cAl L σ 188 x ok f = (ok 0 = true ∧ (0 ≤ x ∧ x < 12) ∧ (in32 (σ 188 x) → f (σ 188 x))) := by simp only [cAl, sk_188]; rfl
theorem cs_188 {x : Int} {c : Nat → Prop} {f : Prop} : cAs L 188 x c f = (c 0 ∧ (0 ≤ x ∧ x < 12) ∧ f) := by simp only [cAs, sk_188, ne_eq, Nat.reduceEqDiff, not_false_eq_true, true_and]; rfl
theorem cn_188 {f : Nat → Prop} : cAn L 188 f = f 12 := by simp only [cAn, sk_188]
theorem ca_189 {x : Int} {ok : Nat → Bool} {f : Int → Prop} : cAl L σ 189 x ok f = (ok 0 = true ∧ (0 ≤ x ∧ x < 240) ∧ (in32 (σ 189 x) → f (σ 189 x))) := by simp only [cAl, sk_189]; rfl
theorem cs_189 {x : Int} {c : Nat → Prop} {f : Prop} : cAs L 189 x c f = (c 0 ∧ (0 ≤ x ∧ x < 240) ∧ f) := by simp only [cAs, sk_189, ne_eq, Nat.reduceEqDiff, not_false_eq_true, true_and]; rfl
theorem cn_189 {f : Nat → Prop} : cAn L 189 f = f 240 := by simp only [cAn, sk_189]
theorem ca_190 {x : Int} {ok : Nat → Bool} {f : Int → Prop} : cAl L σ 190 x ok f = (ok 0 = true ∧ (0 ≤ x ∧ x < 12) ∧ (in32 (σ 190 x) → f (σ 190 x))) := by simp only [cAl, sk_190]; rfl
theorem cs_190 {x : Int} {c : Nat → Prop} {f : Prop} : cAs L 190 x c f = (c 0 ∧ (0 ≤ x ∧ x < 12) ∧ f) := by simp only [cAs, sk_190, ne_eq, Nat.reduceEqDiff, not_false_eq_true, true_and]; rfl
theorem cn_190 {f : Nat → Prop} : cAn L 190 f = f 12 := by simp only [cAn, sk_190]
theorem ca_191 {x : Int} {ok : Nat → Bool} {f : Int → Prop} : cAl L σ 191 x ok f = (ok 2 = true ∧ (0 ≤ x ∧ x < 12) ∧ (in32 (σ 191 x) → f (σ 191 x))) := by simp only [cAl, sk_191]; rfl
theorem cs_191 {x : Int} {c : Nat → Prop} {f : Prop} : cAs L 191 x c f = (c 2 ∧ (0 ≤ x ∧ x < 12) ∧ f) := by simp only [cAs, sk_191, ne_eq, Nat.reduceEqDiff, not_false_eq_true, true_and]; rfl
theorem cn_191 {f : Nat → Prop} : cAn L 191 f = f 12 := by simp only [cAn, sk_191]
theorem ca_192 {x : Int} {ok : Nat → Bool} {f : Int → Prop} : cAl L σ 192 x ok f = (ok 0 = true ∧ (0 ≤ x ∧ x < 12) ∧ (in32 (σ 192 x) → f (σ 192 x))) := by simp only [cAl, sk_192]; rfl
theorem cs_192 {x : Int} {c : Nat → Prop} {f : Prop} : cAs L 192 x c f = (c 0 ∧ (0 ≤ x ∧ x < 12) ∧ f) := by simp only [cAs, sk_192, ne_eq, Nat.reduceEqDiff, not_false_eq_true, true_and]; rfl
theorem cn_192 {f : Nat → Prop} : cAn L 192 f = f 12 := by simp only [cAn, sk_192]
theorem ca_193 {x : Int} {ok : Nat → Bool} {f : Int → Prop} : cAl L σ 193 x ok f = (ok 0 = true ∧ (0 ≤ x ∧ x < 48) ∧ (in32 (σ 193 x) → f (σ 193 x))) := by simp only [cAl, sk_193]; rfl
theorem cs_193 {x : Int} {c : Nat → Prop} {f : Prop} : cAs L 193 x c f = (c 0 ∧ (0 ≤ x ∧ x < 48) ∧ f) := by simp only [cAs, sk_193, ne_eq, Nat.reduceEqDiff, not_false_eq_true, true_and]; rfl
theorem cn_193 {f : Nat → Prop} : cAn L 193 f = f 48 := by simp only [cAn, sk_193]
theorem ca_194 {x : Int} {ok : Nat → Bool} {f : Int → Prop} : cAl L σ 194 x ok f = (ok 0 = true ∧ (0 ≤ x ∧ x < 48) ∧ (in32 (σ 194 x) → f (σ 194 x))) := by simp only [cAl, sk_194]; rfl
theorem cs_194 {x : Int} {c : Nat → Prop} {f : Prop} : cAs L 194 x c f = (c 0 ∧ (0 ≤ x ∧ x < 48) ∧ f) := by simp only [cAs, sk_194, ne_eq, Nat.reduceEqDiff, not_false_eq_true, true_and]; rfl
theorem cn_194 {f : Nat → Prop} : cAn L 194 f = f 48 := by simp only [cAn, sk_194]
theorem ca_195 {x : Int} {ok : Nat → Bool} {f : Int → Prop} : cAl L σ 195 x ok f = (ok 0 = true ∧ (0 ≤ x ∧ x < 1500) ∧ (in32 (σ 195 x) → f (σ 195 x))) := by simp only [cAl, sk_195]; rfl
theorem cs_195 {x : Int} {c : Nat → Prop} {f : Prop} : cAs L 195 x c f = (c 0 ∧ (0 ≤ x ∧ x < 1500) ∧ f) := by simp only [cAs, sk_195, ne_eq, Nat.reduceEqDiff, not_false_eq_true, true_and]; rfl
theorem cn_195 {f : Nat → Prop} : cAn L 195 f = f 1500 := by simp only [cAn, sk_195]
theorem ca_196 {x : Int} {ok : Nat → Bool} {f : Int → Prop} : cAl L σ 196 x ok f = (ok 0 = true ∧ (0 ≤ x ∧ x < 6000) ∧ (in32 (σ 196 x) → f (σ 196 x))) := by simp only [cAl, sk_196]; rfl
theorem cs_196 {x : Int} {c : Nat → Prop} {f : Prop} : cAs L 196 x c f = (c 0 ∧ (0 ≤ x ∧ x < 6000) ∧ f) := by simp only [cAs, sk_196, ne_eq, Nat.reduceEqDiff, not_false_eq_true, true_and]; rfl
theorem cn_196 {f : Nat → Prop} : cAn L 196 f = f 6000 := by simp only [cAn, sk_196]
theorem ca_197 {x : Int} {ok : Nat → Bool} {f : Int → Prop} : cAl L σ 197 x ok f = (ok 0 = true ∧ (0 ≤ x ∧ x < 2400) ∧ (in32 (σ 197 x) → f (σ 197 x))) := by simp only [cAl, sk_197]; rfl
theorem cs_197 {x : Int} {c : Nat → Prop} {f : Prop} : cAs L 197 x c f = (c 0 ∧ (0 ≤ x ∧ x < 2400) ∧ f) := by simp only [cAs, sk_197, ne_eq, Nat.reduceEqDiff, not_false_eq_true, true_and]; rfl
theorem cn_197 {f : Nat → Prop} : cAn L 197 f = f 2400 := by simp only [cAn, sk_197]
theorem ca_198 {x : Int} {ok : Nat → Bool} {f : Int → Prop} : cAl L σ 198 x ok f = (ok 0 = true ∧ (0 ≤ x ∧ x < 2400) ∧ (in32 (σ 198 x) → f (σ 198 x))) := by simp only [cAl, sk_198]; rfl
theorem cs_198 {x : Int} {c : Nat → Prop} {f : Prop} : cAs L 198 x c f = (c 0 ∧ (0 ≤ x ∧ x < 2400) ∧ f) := by simp only [cAs, sk_198, ne_eq, Nat.reduceEqDiff, not_false_eq_true, true_and]; rfl
theorem cn_198 {f : Nat → Prop} : cAn L 198 f = f 2400 := by simp only [cAn, sk_198]
theorem ca_199 {x : Int} {ok : Nat → Bool} {f : Int → Prop} : cAl L σ 199 x ok f = (ok 3 = true ∧ (0 ≤ x ∧ x < 8192) ∧ (in32 (σ 199 x) → f (σ 199 x))) := by simp only [cAl, sk_199]; rfl
theorem cs_199 {x : Int} {c : Nat → Prop} {f : Prop} : cAs L 199 x c f = (c 3 ∧ (0 ≤ x ∧ x < 8192) ∧ f) := by simp only [cAs, sk_199, ne_eq, Nat.reduceEqDiff, not_false_eq_true, true_and]; rfl
theorem cn_199 {f : Nat → Prop} : cAn L 199 f = f 8192 := by simp only [cAn, sk_199]
theorem ca_200 {x : Int} {ok : Nat → Bool} {f : Int → Prop} : cAl L σ 200 x ok f = (ok 3 = true ∧ (0 ≤ x ∧ x < 8192) ∧ (in32 (σ 200 x) → f (σ 200 x))) := by simp only [cAl, sk_200]; rfl
theorem cs_200 {x : Int} {c : Nat → Prop} {f : Prop} : cAs L 200 x c f = (c 3 ∧ (0 ≤ x ∧ x < 8192) ∧ f) := by simp only [cAs, sk_200, ne_eq, Nat.reduceEqDiff, not_false_eq_true, true_and]; rfl
theorem cn_200 {f : Nat → Prop} : cAn L 200 f = f 8192 := by simp only [cAn, sk_200]
theorem ca_201 {x : Int} {ok : Nat → Bool} {f : Int → Prop} : cAl L σ 201 x ok f = (ok 0 = true ∧ (0 ≤ x ∧ x < 4) ∧ (in32 (σ 201 x) → f (σ 201 x))) := by simp only [cAl, sk_201]; rfl
theorem cs_201 {x : Int} {c : Nat → Prop} {f : Prop} : cAs L 201 x c f = (c 0 ∧ (0 ≤ x ∧ x < 4) ∧ f) := by simp only [cAs, sk_201, ne_eq, Nat.reduceEqDiff, not_false_eq_true, true_and]; rfl
theorem cn_201 {f : Nat → Prop} : cAn L 201 f = f 4 := by simp only [cAn, sk_201]
theorem ca_202 {x : Int} {ok : Nat → Bool} {f : Int → Prop} : cAl L σ 202 x ok f = (ok 0 = true ∧ (0 ≤ x ∧ x < 4) ∧ (in32 (σ 202 x) → f (σ 202 x))) := by simp only [cAl, sk_202]; rfl
theorem cs_202 {x : Int} {c : Nat → Prop} {f : Prop} : cAs L 202 x c f = (c 0 ∧ (0 ≤ x ∧ x < 4) ∧ f) := by simp only [cAs, sk_202, ne_eq, Nat.reduceEqDiff, not_false_eq_true, true_and]; rfl
theorem cn_202 {f : Nat → Prop} : cAn L 202 f = f 4 := by simp only [cAn, sk_202]
theorem ca_203 {x : Int} {f : Int64 → Prop} : cAL L σ 203 x f = ((0 ≤ x ∧ x < 1) ∧ f (Int64.ofInt (σ 203 x))) := by simp only [cAL, sk_203, true_and]; rfl
theorem cs_203 {x : Int} {c : Nat → Prop} {f : Prop} : cAs L 203 x c f = (c 1 ∧ (0 ≤ x ∧ x < 1) ∧ f) := by simp only [cAs, sk_203, ne_eq, Nat.reduceEqDiff, not_false_eq_true, true_and]; rfl
end CW
