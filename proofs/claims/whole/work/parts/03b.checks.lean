/-! 03b.checks: printed by wip/whole/prog/eval.py: what a program checks of every method -/
def mcCode (M : mcM) (pc : Nat) : Option (Instr × Nat) := match decode M.2.1 pc with
  | .ok x => some x
  | .error _ => none
def mcXn (k : Nat) : String := if k = 0 then "java/lang/IllegalArgumentException" else "java/lang/IllegalStateException"
def mcFdB (M : mcM) (idx ci k kd w : Nat) : Bool := match mcCl[ci]?, mcKd[ci]? with
  | some (C, T, N), some kdl => decide (k < N) && (kdl.getD k 0 == kd) && decide (lw_tbl[w]? = some (Cond.fieldLink M.1.cls idx C (T k).2.1 (T k).2.2.1))
  | _, _ => false
def mcNfB (ci k : Nat) : Bool := match mcCl[ci]? with
  | some (_, T, _) => !(T k).2.2.2
  | _ => false
def mcCdB (M' : mcM) (wi wc : Nat) : Bool := plainName M'.1.cls && decide (lw_tbl[wi]? = some (Cond.initialized M'.1.cls)) && !decide (M'.1.cls = "java/lang/invoke/MethodHandle") && !decide (M'.1.cls = "java/lang/invoke/VarHandle") &&
  ((decide (lw_tbl[wc]? = some (Cond.code M'.1 M'.2.1 M'.2.2.1 M'.2.2.2.1)) && decide (M'.2.2.2.2 = [])) || decide (lw_tbl[wc]? = some (Cond.codeWith M'.1 M'.2.1 M'.2.2.1 M'.2.2.2.1 M'.2.2.2.2)))
def mcArB (M' : mcM) (k : Nat) : Bool := match parseMethodDescriptor M'.1.desc with
  | some sig => k == sig.parameters.length
  | none => true
/-- the most words that the arguments can take: by the descriptor -/
def mcPick (ax : mcX) (M' : mcM) : mcM := if ax.1 = 4 then M_Srv_demandLegal else if ax.1 = 5 then M_Srv_demandState else M'
def mcStB (M : mcM) (idx : Nat) (ax : mcX) : Bool := match ax.2.2.2 with
  | [] => if ax.1 = 2 then decide (lw_tbl[ax.2.2.1.getD 0 0]? = some (Cond.methodLink M.1.cls idx Lib.Math.max.name)) && decide (lw_tbl[ax.2.2.1.getD 1 0]? = some (Cond.static Lib.Math.max.name)) && decide (lw_tbl[ax.2.2.1.getD 2 0]? = some (Cond.initialized "java/lang/Math")) && decide (lw_tbl[ax.2.2.1.getD 3 0]? = some (Cond.code Lib.Math.max.name Lib.Math.max.code 2 (some .int))) else
    if ax.1 = 3 then decide (lw_tbl[ax.2.2.1.getD 0 0]? = some (Cond.methodLink M.1.cls idx Lib.Math.min.name)) && decide (lw_tbl[ax.2.2.1.getD 1 0]? = some (Cond.static Lib.Math.min.name)) && decide (lw_tbl[ax.2.2.1.getD 2 0]? = some (Cond.initialized "java/lang/Math")) && decide (lw_tbl[ax.2.2.1.getD 3 0]? = some (Cond.code Lib.Math.min.name Lib.Math.min.code 2 (some .int))) else
    decide (lw_tbl[ax.2.2.1.getD 0 0]? = some (Cond.methodLink M.1.cls idx arraycopyName)) && decide (lw_tbl[ax.2.2.1.getD 1 0]? = some (Cond.static arraycopyName)) && decide (lw_tbl[ax.2.2.1.getD 2 0]? = some (Cond.initialized "java/lang/System")) && decide (lw_tbl[ax.2.2.1.getD 3 0]? = some (Cond.native arraycopyName))
  | M0 :: _ => let M' := mcPick ax M0; (if ax.1 = 1 then decide (lw_tbl[ax.2.2.1.getD 0 0]? = some (Cond.methodLinkNest M.1.cls idx M'.1 "SlotServer")) else decide (lw_tbl[ax.2.2.1.getD 0 0]? = some (Cond.methodLink M.1.cls idx M'.1))) &&
    decide (lw_tbl[ax.2.2.1.getD 1 0]? = some (Cond.static M'.1)) && mcCdB M' (ax.2.2.1.getD 2 0) (ax.2.2.1.getD 3 0) && mcArB M' ax.2.1 && decide (M'.2.2.1 ≤ 19) && decide (ax.2.2.1.getD 5 0 = M'.2.2.1)
def mcViB (M : mcM) (idx : Nat) (ax : mcX) : Bool := match ax.2.2.2, mcCl[ax.1]? with
  | M' :: _, some r => decide (lw_tbl[ax.2.2.1.getD 0 0]? = some (Cond.methodLink M.1.cls idx M'.1)) && decide (lw_tbl[ax.2.2.1.getD 1 0]? = some (Cond.instanceMethod M'.1)) && mcCdB M' (ax.2.2.1.getD 2 0) (ax.2.2.1.getD 3 0) && decide (lw_tbl[ax.2.2.1.getD 4 0]? = some (Cond.selects M'.1.cls M'.1 M'.1)) &&
    decide (r.1 = M'.1.cls) && decide (1 ≤ ax.2.1) && mcArB M' (ax.2.1 - 1) && decide (M'.2.2.1 ≤ 19) && decide (ax.2.2.1.getD 5 0 = M'.2.2.1)
  | _, _ => false
def mcOkB (M : mcM) (e : mcEn) : Bool := match e with
  | (pc, _, ins, len, ax) => decide (mcCode M pc = some (ins, len)) && (match ins with
    | .iconst i => len == 1 && true
    | .bipush i => len == 2 && decide ((Int8.ofInt i).toInt32 = Int32.ofInt i)
    | .sipush i => len == 3 && decide ((Int16.ofInt i).toInt32 = Int32.ofInt i)
    | .lconst i => len == 1 && true
    | .ldc i => len == 2 && decide (lw_tbl[ax.2.2.1.getD 0 0]? = some (Cond.constant M.1.cls i 100000))
    | .ldc2_w i => len == 3 && decide (lw_tbl[ax.2.2.1.getD 0 0]? = some (Cond.constantLong M.1.cls i (-1)))
    | .iadd  => len == 1 && true
    | .isub  => len == 1 && true
    | .imul  => len == 1 && true
    | .iand  => len == 1 && true
    | .ladd  => len == 1 && true
    | .lsub  => len == 1 && true
    | .land  => len == 1 && true
    | .lor  => len == 1 && true
    | .lxor  => len == 1 && true
    | .lcmp  => len == 1 && true
    | .lshl  => len == 1 && true
    | .lushr  => len == 1 && true
    | .i2l  => len == 1 && true
    | .i2b  => len == 1 && true
    | .dup  => len == 1 && true
    | .pop  => len == 1 && true
    | .dup2  => len == 1 && true
    | .iload_n j => len == 1 && true
    | .iload i => len == 2 && true
    | .lload_n j => len == 1 && true
    | .lload i => len == 2 && true
    | .aload_n j => len == 1 && true
    | .aload i => len == 2 && true
    | .istore_n j => len == 1 && decide ((j : Nat) < M.2.2.1)
    | .istore i => len == 2 && decide (i < M.2.2.1)
    | .astore_n j => len == 1 && decide ((j : Nat) < M.2.2.1)
    | .astore i => len == 2 && decide (i < M.2.2.1)
    | .lstore_n j => len == 1 && decide ((j : Nat) + 1 < M.2.2.1)
    | .lstore i => len == 2 && decide (i + 1 < M.2.2.1)
    | .iinc i q => len == 3 && decide (i < M.2.2.1)
    | .if_icmp cc off => len == 3 && (decide (0 ≤ (pc : Int) + off) && ax.1 == mcTg pc off)
    | .ifCond cc off => len == 3 && (decide (0 ≤ (pc : Int) + off) && ax.1 == mcTg pc off)
    | .goto off => len == 3 && (decide (0 ≤ (pc : Int) + off) && ax.1 == mcTg pc off)
    | .tableswitch dflt lw hi offs => true && (offs.size == (hi - lw + 1).toNat && decide (0 ≤ (pc : Int) + dflt) && (offs.toList.all fun o => decide (0 ≤ (pc : Int) + o)) && ax.2.2.1 == offs.toList.map (fun o => mcTg pc o) && ax.1 == mcTg pc dflt)
    | .getfield idx => len == 3 && mcFdB M idx ax.1 ax.2.1 (ax.2.2.1.getD 1 0) (ax.2.2.1.getD 0 0)
    | .putfield idx => len == 3 && (mcFdB M idx ax.1 ax.2.1 (ax.2.2.1.getD 1 0) (ax.2.2.1.getD 0 0) && !(ax.2.2.1.getD 1 0 == 1) && mcNfB ax.1 ax.2.1)
    | .iaload  => len == 1 && true
    | .baload  => len == 1 && true
    | .laload  => len == 1 && true
    | .aaload  => len == 1 && true
    | .arraylength  => len == 1 && true
    | .iastore  => len == 1 && true
    | .bastore  => len == 1 && true
    | .lastore  => len == 1 && true
    | .invokestatic idx => len == 3 && mcStB M idx ax
    | .invokevirtual idx => len == 3 && mcViB M idx ax
    | .ireturn  => len == 1 && (if ax.1 = 1 then decide (M.2.2.2.1 = some .boolean) else decide (M.2.2.2.1 = some .int))
    | .lreturn  => len == 1 && decide (M.2.2.2.1 = some .long)
    | .return_  => len == 1 && decide (M.2.2.2.1 = none)
    | _ => false)
def mcGet (K : List mcEn) (pc : Nat) : mcEn := (K.find? fun e => e.1 == pc).getD (pc, false, .nop, 1, mcX0)
def mcHanB (M : mcM) : Bool := decide (M.2.2.2.2 = []) || (decide (M.1.cls = "SlotServerLaw") && M.2.2.2.2.all fun q => decide (q.2.2.2 = 13 ∨ q.2.2.2 = 19))
/-- a method's code is as its list says -/
def mcKok (M : mcM) (K : List mcEn) : Bool := mcHanB M && K.all (mcOkB M)
