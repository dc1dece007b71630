/-! the check of an entry against the bytes and the links -/
def x_kd (ci k : Nat) : Nat := (x_kds.getD ci []).getD k 3
def x_cnd : ClassFile.Cond → Nat
  | .eq => 0
  | .ne => 1
  | .lt => 2
  | .ge => 3
  | .gt => 4
  | .le => 5
def x_f3 (l : List (Nat × Nat × Nat × Nat)) (a b c : Nat) : Bool := l.any (fun q => q.1 == a && q.2.1 == b && q.2.2.1 == c)
def x_fit (cn : Nat) (z : Bool) (e : xE) (ins : Instr) : Bool := match e with
  | (pc, op, _, a, b, c, v) => match ins with
    | .iconst n => op == 0 && v == Int32.ofInt n
    | .bipush n => op == 0 && v == (Int8.ofInt n).toInt32
    | .sipush n => op == 0 && v == (Int16.ofInt n).toInt32
    | .ldc i => op == 0 && x_CL.any (fun q => q.1 == cn && q.2.1 == i && q.2.2.1 == v)
    | .ldc_w i => op == 0 && x_CL.any (fun q => q.1 == cn && q.2.1 == i && q.2.2.1 == v)
    | .iload_n k => op == 1 && a == k.val
    | .iload i => op == 1 && a == i
    | .aload_n k => op == 2 && a == k.val
    | .istore_n k => op == 3 && a == k.val
    | .istore i => op == 3 && a == i
    | .astore_n k => op == 4 && a == k.val
    | .iinc i n => op == 5 && a == i && v == Int32.ofInt n
    | .iadd => op == 6 && b == 0
    | .isub => op == 6 && b == 1
    | .imul => op == 6 && b == 2
    | .iand => op == 6 && b == 3
    | .ior => op == 6 && b == 4
    | .ixor => op == 6 && b == 5
    | .ishl => op == 6 && b == 6
    | .ishr => op == 6 && b == 7
    | .iushr => op == 6 && b == 8
    | .idiv => op == 6 && b == 9
    | .irem => op == 6 && b == 10
    | .if_icmp cd off => op == 7 && b == x_cnd cd && (pc : Int) + off == (a : Int)
    | .ifCond cd off => op == 8 && b == x_cnd cd && (pc : Int) + off == (a : Int)
    | .goto off => op == 9 && (pc : Int) + off == (a : Int)
    | .dup => op == 10
    | .dup2 => op == 11
    | .pop => op == 12
    | .getfield i => (op == 13 && (x_kd a b == 0 || x_kd a b == 1) || op == 14 && x_kd a b == 2) && x_FL.any (fun q => q.1 == cn && q.2.1 == i && q.2.2.1 == a && q.2.2.2.1 == b)
    | .putfield i => (op == 15 && x_kd a b == 0 || op == 16 && x_kd a b == 1 || op == 17 && x_kd a b == 2 && z && a == cn) && x_FL.any (fun q => q.1 == cn && q.2.1 == i && q.2.2.1 == a && q.2.2.2.1 == b)
    | .iaload => op == 18
    | .iastore => op == 19
    | .baload => op == 20
    | .bastore => op == 21
    | .aaload => op == 22
    | .aastore => op == 23
    | .arraylength => op == 24
    | .invokestatic i => op == 25 && x_f3 x_ML cn i a && (x_inf[a]?).any (fun q => q.2.2.2.2.1 == 0 && q.2.2.2.2.2.2.1 == b) || op == 33 && x_AL.any (fun q => q.1 == cn && q.2.1 == i) || op == 6 && (b == 11 || b == 12) && x_f3 x_XL cn i b
    | .invokevirtual i => op == 26 && (x_f3 x_ML cn i a || x_f3 x_NL cn i a) && (x_inf[a]?).any (fun q => q.2.2.2.2.1 == 1 && q.2.2.2.2.2.2.1 + 1 == b && q.2.2.2.2.2.1 == c && decide (c < 8))
    | .invokespecial i => op == 26 && x_f3 x_ML cn i a && (x_inf[a]?).any (fun q => q.2.2.2.2.1 == 2 && q.2.2.2.2.2.2.1 + 1 == b && q.2.2.2.2.2.1 == c && decide (c < 8)) || op == 32 && x_OL.any (fun q => q.1 == cn && q.2.1 == i)
    | .ireturn => op == 27
    | .return_ => op == 28
    | .new i => op == 29 && x_f3 x_KL cn i a && decide (a < 8)
    | .newarray .int => op == 30 && b == 1
    | .newarray .boolean => op == 30 && b == 2
    | .anewarray i => op == 31 && a == 4 && x_f3 x_KL cn i 4
    | .tableswitch d lo hi offs => op == 34 && (pc : Int) + d == (a : Int) && (x_sws.getD c []).all (fun q => decide (¬ q.1.toInt < lo) && decide (¬ hi < q.1.toInt) && offs[(q.1.toInt - lo).toNat]? == some ((q.2 : Int) - pc)) && (List.range (hi - lo + 1).toNat).all (fun i => (x_sws.getD c []).any (fun q => q.1.toInt == lo + i))
    | .lookupswitch d ps => op == 34 && (pc : Int) + d == (a : Int) && (x_sws.getD c []).map (fun q => (q.1.toInt, (q.2 : Int) - pc)) == ps.toList && (ps.toList.zip (ps.toList.drop 1)).all (fun (a, next) => a.1 < next.1)
    | _ => false
/-- the lengths that the rows of the kit know -/
def x_len (e : xE) (ins : Instr) (len : Nat) : Bool := e.2.2.1 == e.1 + len && (match ins with
  | .iinc _ _ => len == 3
  | .iload _ => len == 2
  | .istore _ => len == 2
  | .bipush _ => len == 2
  | .sipush _ => len == 3
  | .ldc _ => len == 2
  | .ldc_w _ => len == 3
  | .if_icmp _ _ => len == 3
  | .ifCond _ _ => len == 3
  | .goto _ => len == 3
  | .getfield _ => len == 3
  | .putfield _ => len == 3
  | .invokestatic _ => len == 3
  | .invokevirtual _ => len == 3
  | .invokespecial _ => len == 3
  | .new _ => len == 3
  | .newarray _ => len == 2
  | .anewarray _ => len == 3
  | .tableswitch _ _ _ _ => true
  | .lookupswitch _ _ => true
  | _ => len == 1)
def x_chk (q : xI) (e : xE) : Bool := match decode q.2.1 e.1 with
  | .ok (ins, len) => x_len e ins len && x_fit q.2.2.2.2.2.1 (q.1.name == "<init>") e ins && (match ins with
    | .ireturn => (q.2.2.2.1 == some .int && e.2.2.2.2.1 == 0) || (q.2.2.2.1 == some .boolean && e.2.2.2.2.1 == 1)
    | .return_ => q.2.2.2.1 == none
    | _ => true)
  | .error _ => false
def x_good (q : xI) : Bool := plainName q.1.cls && (q.1.cls == x_cn.getD q.2.2.2.2.2.1 "") && !(q.1.cls == "java/lang/invoke/MethodHandle") && !(q.1.cls == "java/lang/invoke/VarHandle") && (parseMethodDescriptor q.1.desc).map (fun d => d.parameters.length) == some q.2.2.2.2.2.2.1 && (q.2.2.2.2.1 != 2 || (q.1.name == "<init>" && q.2.2.2.1 == none)) && q.2.2.2.2.2.2.2.all (x_chk q) && decide (q.2.2.1 ≤ 20) && decide ((if q.2.2.2.2.1 = 0 then q.2.2.2.2.2.2.1 else q.2.2.2.2.2.2.1 + 1) ≤ q.2.2.1)
