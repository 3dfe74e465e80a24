/-! ===== the abstract machine: steps ===== -/
def tk_ext (sc : tk_X) (k : Nat) : tk_X := if k = 6 then sc else (6, fun j => (tk_stv k).getD j 0)
/-- the instructions that touch no heap -/
def tk_stepP (E : tk_E) (pc : Nat) (ls : tk_V) (st : List Value) : Option (Nat × tk_V × List Value) :=
  match E.1 with
  | .iconst k => some (E.2.1, ls, .int (Int32.ofInt k) :: st)
  | .bipush k => some (E.2.1, ls, .int (Int8.ofInt k).toInt32 :: st)
  | .sipush k => some (E.2.1, ls, .int (Int16.ofInt k).toInt32 :: st)
  | .lconst k => some (E.2.1, ls, .long (Int64.ofNat k.val) :: st)
  | .ldc _ => some (E.2.1, ls, .int (Int32.ofInt E.2.2.2.2.2.1) :: st)
  | .ldc_w _ => some (E.2.1, ls, .int (Int32.ofInt E.2.2.2.2.2.1) :: st)
  | .ldc2_w _ => some (E.2.1, ls, .long (Int64.ofInt E.2.2.2.2.2.1) :: st)
  | .iload_n k => match tk_get ls k.val with
    | some (.int x) => some (E.2.1, ls, .int x :: st)
    | _ => none
  | .iload k => match tk_get ls k with
    | some (.int x) => some (E.2.1, ls, .int x :: st)
    | _ => none
  | .lload_n k => match tk_get ls k.val with
    | some (.long x) => some (E.2.1, ls, .long x :: st)
    | _ => none
  | .lload k => match tk_get ls k with
    | some (.long x) => some (E.2.1, ls, .long x :: st)
    | _ => none
  | .aload_n k => match tk_get ls k.val with
    | some (.ref x) => some (E.2.1, ls, .ref x :: st)
    | _ => none
  | .aload k => match tk_get ls k with
    | some (.ref x) => some (E.2.1, ls, .ref x :: st)
    | _ => none
  | .istore_n k => match st with
    | .int x :: r => some (E.2.1, tk_put1 ls k.val (.int x), r)
    | _ => none
  | .istore k => match st with
    | .int x :: r => some (E.2.1, tk_put1 ls k (.int x), r)
    | _ => none
  | .lstore_n k => match st with
    | .long x :: r => some (E.2.1, tk_put2 ls k.val (.long x), r)
    | _ => none
  | .lstore k => match st with
    | .long x :: r => some (E.2.1, tk_put2 ls k (.long x), r)
    | _ => none
  | .astore_n k => match st with
    | .ref x :: r => some (E.2.1, tk_put1 ls k.val (.ref x), r)
    | _ => none
  | .astore k => match st with
    | .ref x :: r => some (E.2.1, tk_put1 ls k (.ref x), r)
    | _ => none
  | .iinc k n => match tk_get ls k with
    | some (.int x) => some (E.2.1, tk_put1 ls k (.int (x + Int32.ofInt n)), st)
    | _ => none
  | .iadd => match st with
    | .int y :: .int x :: r => some (E.2.1, ls, .int (x + y) :: r)
    | _ => none
  | .isub => match st with
    | .int y :: .int x :: r => some (E.2.1, ls, .int (x - y) :: r)
    | _ => none
  | .imul => match st with
    | .int y :: .int x :: r => some (E.2.1, ls, .int (x * y) :: r)
    | _ => none
  | .iand => match st with
    | .int y :: .int x :: r => some (E.2.1, ls, .int (x &&& y) :: r)
    | _ => none
  | .ior => match st with
    | .int y :: .int x :: r => some (E.2.1, ls, .int (x ||| y) :: r)
    | _ => none
  | .ixor => match st with
    | .int y :: .int x :: r => some (E.2.1, ls, .int (x ^^^ y) :: r)
    | _ => none
  | .idiv => match st with
    | .int y :: .int x :: r => if y = 0 then none else some (E.2.1, ls, .int (x / y) :: r)
    | _ => none
  | .irem => match st with
    | .int y :: .int x :: r => if y = 0 then none else some (E.2.1, ls, .int (x - x / y * y) :: r)
    | _ => none
  | .ineg => match st with
    | .int x :: r => some (E.2.1, ls, .int (-x) :: r)
    | _ => none
  | .ishl => match st with
    | .int y :: .int x :: r => some (E.2.1, ls, .int (x <<< (y &&& 31)) :: r)
    | _ => none
  | .ishr => match st with
    | .int y :: .int x :: r => some (E.2.1, ls, .int (x >>> (y &&& 31)) :: r)
    | _ => none
  | .iushr => match st with
    | .int y :: .int x :: r => some (E.2.1, ls, .int (x.toUInt32 >>> (y.toUInt32 &&& Int32.toUInt32 31)).toInt32 :: r)
    | _ => none
  | .ladd => match st with
    | .long y :: .long x :: r => some (E.2.1, ls, .long (x + y) :: r)
    | _ => none
  | .lsub => match st with
    | .long y :: .long x :: r => some (E.2.1, ls, .long (x - y) :: r)
    | _ => none
  | .lmul => match st with
    | .long y :: .long x :: r => some (E.2.1, ls, .long (x * y) :: r)
    | _ => none
  | .land => match st with
    | .long y :: .long x :: r => some (E.2.1, ls, .long (x &&& y) :: r)
    | _ => none
  | .lor => match st with
    | .long y :: .long x :: r => some (E.2.1, ls, .long (x ||| y) :: r)
    | _ => none
  | .lxor => match st with
    | .long y :: .long x :: r => some (E.2.1, ls, .long (x ^^^ y) :: r)
    | _ => none
  | .ldiv => match st with
    | .long y :: .long x :: r => if y = 0 then none else some (E.2.1, ls, .long (x / y) :: r)
    | _ => none
  | .lrem => match st with
    | .long y :: .long x :: r => if y = 0 then none else some (E.2.1, ls, .long (x - x / y * y) :: r)
    | _ => none
  | .lneg => match st with
    | .long x :: r => some (E.2.1, ls, .long (-x) :: r)
    | _ => none
  | .lshl => match st with
    | .int y :: .long x :: r => some (E.2.1, ls, .long (x <<< (y.toInt64 &&& 63)) :: r)
    | _ => none
  | .lshr => match st with
    | .int y :: .long x :: r => some (E.2.1, ls, .long (x >>> (y.toInt64 &&& 63)) :: r)
    | _ => none
  | .lushr => match st with
    | .int y :: .long x :: r => some (E.2.1, ls, .long (x.toUInt64 >>> (y.toInt64.toUInt64 &&& Int64.toUInt64 63)).toInt64 :: r)
    | _ => none
  | .i2l => match st with
    | .int x :: r => some (E.2.1, ls, .long x.toInt64 :: r)
    | _ => none
  | .l2i => match st with
    | .long x :: r => some (E.2.1, ls, .int x.toInt32 :: r)
    | _ => none
  | .i2b => match st with
    | .int x :: r => some (E.2.1, ls, .int x.toInt8.toInt32 :: r)
    | _ => none
  | .lcmp => match st with
    | .long y :: .long x :: r => some (E.2.1, ls, .int (lg_cmp x y) :: r)
    | _ => none
  | .dup => match st with
    | .int x :: r => some (E.2.1, ls, .int x :: .int x :: r)
    | .ref x :: r => some (E.2.1, ls, .ref x :: .ref x :: r)
    | _ => none
  | .dup2 => match st with
    | .int y :: .int x :: r => some (E.2.1, ls, .int y :: .int x :: .int y :: .int x :: r)
    | .int y :: .ref x :: r => some (E.2.1, ls, .int y :: .ref x :: .int y :: .ref x :: r)
    | .long x :: r => some (E.2.1, ls, .long x :: .long x :: r)
    | _ => none
  | .pop => match st with
    | .int _ :: r => some (E.2.1, ls, r)
    | .ref _ :: r => some (E.2.1, ls, r)
    | _ => none
  | .ifCond .eq _ => match st with
    | .int x :: r => if x = 0 then some (E.2.2.1, ls, r) else some (E.2.1, ls, r)
    | _ => none
  | .ifCond .ne _ => match st with
    | .int x :: r => if x = 0 then some (E.2.1, ls, r) else some (E.2.2.1, ls, r)
    | _ => none
  | .ifCond .lt _ => match st with
    | .int x :: r => if x < 0 then some (E.2.2.1, ls, r) else some (E.2.1, ls, r)
    | _ => none
  | .ifCond .ge _ => match st with
    | .int x :: r => if 0 ≤ x then some (E.2.2.1, ls, r) else some (E.2.1, ls, r)
    | _ => none
  | .ifCond .gt _ => match st with
    | .int x :: r => if 0 < x then some (E.2.2.1, ls, r) else some (E.2.1, ls, r)
    | _ => none
  | .ifCond .le _ => match st with
    | .int x :: r => if x ≤ 0 then some (E.2.2.1, ls, r) else some (E.2.1, ls, r)
    | _ => none
  | .if_icmp .eq _ => match st with
    | .int y :: .int x :: r => if x = y then some (E.2.2.1, ls, r) else some (E.2.1, ls, r)
    | _ => none
  | .if_icmp .ne _ => match st with
    | .int y :: .int x :: r => if x = y then some (E.2.1, ls, r) else some (E.2.2.1, ls, r)
    | _ => none
  | .if_icmp .lt _ => match st with
    | .int y :: .int x :: r => if x < y then some (E.2.2.1, ls, r) else some (E.2.1, ls, r)
    | _ => none
  | .if_icmp .ge _ => match st with
    | .int y :: .int x :: r => if y ≤ x then some (E.2.2.1, ls, r) else some (E.2.1, ls, r)
    | _ => none
  | .if_icmp .gt _ => match st with
    | .int y :: .int x :: r => if y < x then some (E.2.2.1, ls, r) else some (E.2.1, ls, r)
    | _ => none
  | .if_icmp .le _ => match st with
    | .int y :: .int x :: r => if x ≤ y then some (E.2.2.1, ls, r) else some (E.2.1, ls, r)
    | _ => none
  | .goto _ => some (E.2.2.1, ls, st)
  | .tableswitch d lo hi offs => match st with
    | .int x :: r => if x.toInt < lo ∨ hi < x.toInt then (if 0 ≤ (pc : Int) + d then some (((pc : Int) + d).toNat, ls, r) else none) else
      match offs[(x.toInt - lo).toNat]? with
      | some off => if 0 ≤ (pc : Int) + off then some (((pc : Int) + off).toNat, ls, r) else none
      | none => none
    | _ => none
  | _ => none
/-- an index within an array of kind kd (tags 0, 1, 2, or one of references) -/
def tk_inA (M : tk_M) (r kd : Nat) (j : Int32) : Bool := match tk_lay[r]? with
  | some (.inr (t, n)) => decide (r < M.1) && decide ((if t < 3 then t else 3) = kd) && decide (¬ j < 0) && decide (j.toNatClampNeg < n)
  | _ => false
def tk_isO (M : tk_M) (r ci : Nat) : Bool := decide (r < M.1) && decide (tk_lay[r]? = some (.inl ci))
/-- an array that may hold the object v -/
def tk_may (M : tk_M) (r v : Nat) : Bool := match tk_lay[r]? with
  | some (.inr (t, _)) => match tk_ac[t]? with
    | some ci => tk_isO M v ci
    | none => false
  | _ => false
def tk_stepH (sc : tk_X) (E : tk_E) (st : List Value) (M : tk_M) : Option (List Value × tk_M) :=
  match E.1 with
  | .getfield _ => match st with
    | .ref r :: s => if tk_isO M r E.2.2.1 = true then some (tk_gf E.2.2.2.2.1 M r E.2.2.2.1 :: s, M) else none
    | _ => none
  | .putfield _ => match st with
    | v :: .ref r :: s => if tk_isO M r E.2.2.1 = true then (tk_pf E.2.2.2.2.1 M r E.2.2.2.1 v).map (fun M' => (s, M')) else none
    | _ => none
  | .getstatic _ => some (.ref (1000 + E.2.2.1) :: st, M)
  | .iaload => match st with
    | .int j :: .ref r :: s => if 1000 ≤ r then (if r < 1007 ∧ ¬ j < 0 ∧ j.toNatClampNeg < (tk_ext sc (r - 1000)).1 then some (.int ((tk_ext sc (r - 1000)).2 j.toNatClampNeg) :: s, M) else none) else
      if tk_inA M r 0 j = true then some (tk_gf 0 M r j.toNatClampNeg :: s, M) else none
    | _ => none
  | .laload => match st with
    | .int j :: .ref r :: s => if tk_inA M r 1 j = true then some (tk_gf 1 M r j.toNatClampNeg :: s, M) else none
    | _ => none
  | .baload => match st with
    | .int j :: .ref r :: s => if tk_inA M r 2 j = true then some (tk_gf 2 M r j.toNatClampNeg :: s, M) else none
    | _ => none
  | .aaload => match st with
    | .int j :: .ref r :: s => if tk_inA M r 3 j = true then some (tk_gf 3 M r j.toNatClampNeg :: s, M) else none
    | _ => none
  | .iastore => match st with
    | .int x :: .int j :: .ref r :: s => if tk_inA M r 0 j = true then (tk_pf 0 M r j.toNatClampNeg (.int x)).map (fun M' => (s, M')) else none
    | _ => none
  | .lastore => match st with
    | .long x :: .int j :: .ref r :: s => if tk_inA M r 1 j = true then (tk_pf 1 M r j.toNatClampNeg (.long x)).map (fun M' => (s, M')) else none
    | _ => none
  | .bastore => match st with
    | .int x :: .int j :: .ref r :: s => if tk_inA M r 2 j = true then (tk_pf 2 M r j.toNatClampNeg (.int x)).map (fun M' => (s, M')) else none
    | _ => none
  | .aastore => match st with
    | .ref v :: .int j :: .ref r :: s => if tk_inA M r 3 j = true ∧ tk_may M r v = true then (tk_pf 3 M r j.toNatClampNeg (.ref v)).map (fun M' => (s, M')) else none
    | _ => none
  | .arraylength => match st with
    | .ref r :: s => if 1000 ≤ r then (if r < 1007 then some (.int (Int32.ofNat (tk_ext sc (r - 1000)).1) :: s, M) else none) else
      match tk_lay[r]? with
      | some (.inr (_, n)) => if r < M.1 then some (.int (Int32.ofNat n) :: s, M) else none
      | _ => none
    | _ => none
  | .new _ => if tk_lay[M.1]? = some (.inl E.2.2.1) then some (.ref M.1 :: st, tk_new M) else none
  | .newarray _ => match st with
    | .int n :: s => if ¬ n < 0 ∧ n.toNatClampNeg ≤ 100000 ∧ tk_lay[M.1]? = some (.inr (E.2.2.1, n.toNatClampNeg)) then some (.ref M.1 :: s, tk_new M) else none
    | _ => none
  | .anewarray _ => match st with
    | .int n :: s => if ¬ n < 0 ∧ n.toNatClampNeg ≤ 100000 ∧ tk_lay[M.1]? = some (.inr (E.2.2.1, n.toNatClampNeg)) then some (.ref M.1 :: s, tk_new M) else none
    | _ => none
  | .invokespecial _ => match st with
    | .ref _ :: s => if (s.map fun v => v.category).sum ≤ 8 then some (s, M) else none
    | _ => none
  | .invokestatic _ => match st with
    | .int n :: .int dp :: .ref b :: .int sp :: .ref a :: s => if (s.map fun v => v.category).sum ≤ 8 ∧ ¬ n < 0 ∧ ¬ dp < 0 ∧ ¬ sp < 0 then
      match tk_lay[a]?, tk_lay[b]? with
      | some (.inr (1, na)), some (.inr (1, nb)) => if a < M.1 ∧ b < M.1 ∧ sp.toNatClampNeg + n.toNatClampNeg ≤ na ∧ dp.toNatClampNeg + n.toNatClampNeg ≤ nb ∧ M.1 = tk_lay.length then
          some (s, (M.1, M.2.1, (fun i k => if i = b then va_cpy (M.2.2.1 a) (M.2.2.1 b) sp.toNatClampNeg dp.toNatClampNeg n.toNatClampNeg k else M.2.2.1 i k), M.2.2.2)) else none
      | _, _ => none
      else none
    | _ => none
  | _ => none
/-- the callee's arguments and what stays on the stack -/
def tk_inv (E : tk_E) (st : List Value) (M : tk_M) : Option (List Value × List Value) :=
  match E.1 with
  | .invokestatic _ => if E.2.2.2.1 ≤ st.length then some ((st.take E.2.2.2.1).reverse, st.drop E.2.2.2.1) else none
  | _ => if E.2.2.2.1 ≤ st.length then (match st.drop E.2.2.2.1 with
    | .ref r :: rest => if tk_isO M r E.2.2.2.2.2.1.toNat = true then some (.ref r :: (st.take E.2.2.2.1).reverse, rest) else none
    | _ => none) else none
/-- 0: no heap; 1: heap; 2: a call; 3: ireturn, 4 lreturn, 5 areturn, 6 return, 7 multianewarray -/
def tk_sort (E : tk_E) : Nat := match E.1 with
  | .getfield _ => 1
  | .putfield _ => 1
  | .getstatic _ => 1
  | .iaload => 1
  | .laload => 1
  | .baload => 1
  | .aaload => 1
  | .iastore => 1
  | .lastore => 1
  | .bastore => 1
  | .aastore => 1
  | .arraylength => 1
  | .new _ => 1
  | .newarray _ => 1
  | .anewarray _ => 1
  | .invokevirtual _ => 2
  | .invokespecial _ => if E.2.2.2.2.1 = 9 then 1 else 2
  | .invokestatic _ => if E.2.2.2.2.1 = 9 then 1 else 2
  | .ireturn => 3
  | .lreturn => 4
  | .areturn => 5
  | .return_ => 6
  | .multianewarray _ _ => 7
  | _ => 0
/-- arrays of arrays, level by level: a row; n parts laid into the array o; two levels; three -/
def tk_mrow (t k : Nat) (M : tk_M) : Option tk_M := if tk_lay[M.1]? = some (.inr (t, k)) then some (tk_new M) else none
def tk_mloop (inner : tk_M → Option tk_M) (o : Nat) : Nat → Nat → tk_M → Option tk_M
  | 0, _, M => some M
  | n + 1, i, M => match inner M with
    | none => none
    | some M1 => match tk_pf 3 M1 o i (.ref M.1) with
      | none => none
      | some M2 => tk_mloop inner o n (i + 1) M2
def tk_mouter (inner : tk_M → Option tk_M) (t n : Nat) (M : tk_M) : Option tk_M := match tk_mrow t n M with
  | none => none
  | some M1 => tk_mloop inner M.1 n 0 M1
def tk_stepM (E : tk_E) (st : List Value) (M : tk_M) : Option (List Value × tk_M) :=
  match E.1 with
  | .multianewarray _ 2 => match st with
    | .int k :: .int n :: s => if ¬ n < 0 ∧ ¬ k < 0 ∧ n.toNatClampNeg ≤ 100000 ∧ k.toNatClampNeg ≤ 100000 then
      (match E.2.2.1 with
      | 9 => (tk_mouter (tk_mrow 0 k.toNatClampNeg) 9 n.toNatClampNeg M).map (fun M' => (.ref M.1 :: s, M'))
      | 10 => (tk_mouter (tk_mrow 1 k.toNatClampNeg) 10 n.toNatClampNeg M).map (fun M' => (.ref M.1 :: s, M'))
      | _ => none) else none
    | _ => none
  | .multianewarray _ 3 => match st with
    | .int k2 :: .int k1 :: .int n :: s => if ¬ n < 0 ∧ ¬ k1 < 0 ∧ ¬ k2 < 0 ∧ n.toNatClampNeg ≤ 100000 ∧ k1.toNatClampNeg ≤ 100000 ∧ k2.toNatClampNeg ≤ 100000 ∧ E.2.2.1 = 11 then
      (tk_mouter (tk_mouter (tk_mrow 1 k2.toNatClampNeg) 10 k1.toNatClampNeg) 11 n.toNatClampNeg M).map (fun M' => (.ref M.1 :: s, M')) else none
    | _ => none
  | _ => none
def tk_refTy (t : FieldType) : Bool := match t with
  | .object _ => true
  | .array _ => true
  | _ => false
/-- what a return answers: kind 3 ireturn, 4 lreturn, 5 areturn, 6 return -/
def tk_ret (kd : Nat) (rt : Option FieldType) (st : List Value) : Option (Option Value) := match kd with
  | 3 => match st with
    | [.int v] => if rt = some .int then some (some (.int v)) else if rt = some .boolean ∧ (v = 0 ∨ v = 1) then some (some (.int v)) else none
    | _ => none
  | 4 => match st with
    | [.long v] => if rt = some .long then some (some (.long v)) else none
    | _ => none
  | 5 => match st with
    | [.ref r] => match rt with
      | some t => if tk_refTy t = true then some (some (.ref r)) else none
      | none => none
    | _ => none
  | 6 => match st with
    | [] => if rt = none then some none else none
    | _ => none
  | _ => none
def tk_exec (sc : tk_X) (call : Nat → List Value → tk_M → Option (Option Value × tk_M)) (kf : Nat → Option (List Nat)) (mr : tk_R) : Nat → Nat → tk_V → List Value → tk_M → Option (Option Value × tk_M)
  | 0, _, _, _, _ => none
  | n + 1, pc, ls, st, M =>
    match tk_code mr.2.2.2.2.2.2 pc with
    | none => none
    | some E => match tk_sort E with
      | 0 => match tk_stepP E pc (tk_keep (kf pc) ls) st with
        | none => none
        | some s => tk_exec sc call kf mr n s.1 s.2.1 s.2.2 M
      | 1 => match tk_stepH sc E st M with
        | none => none
        | some s => tk_exec sc call kf mr n E.2.1 (tk_keep (kf pc) ls) s.1 s.2
      | 2 => match tk_inv E st M with
        | none => none
        | some q => if (q.2.map fun v => v.category).sum ≤ 24 then
          (match call E.2.2.1 q.1 M with
          | none => none
          | some o => tk_exec sc call kf mr n E.2.1 (tk_keep (kf pc) ls) (o.1.toList ++ q.2) o.2) else none
      | 7 => match tk_stepM E st M with
        | none => none
        | some s => tk_exec sc call kf mr n E.2.1 (tk_keep (kf pc) ls) s.1 s.2
      | k => (tk_ret k mr.2.2.2.1 st).map (fun v => (v, M))
def tk_run (sc : tk_X) (kp : Nat → Nat → Option (List Nat)) : Nat → Nat → Nat → List Value → tk_M → Option (Option Value × tk_M)
  | 0, _, _, _, _ => none
  | d + 1, n, j, as, M => match tk_mt[j]? with
    | none => none
    | some mr => if (lg_sl as).length ≤ mr.2.2.1 then tk_exec sc (tk_run sc kp d n) (kp j) mr n 0 (lv_args 0 as) [] M else none
