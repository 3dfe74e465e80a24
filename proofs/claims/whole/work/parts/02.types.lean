/-! ===== the abstract machine: types, memory ===== -/
abbrev tk_L : Type := Nat ⊕ (Nat × Nat)
abbrev tk_M : Type := Nat × (Nat → Nat → Int32) × (Nat → Nat → Int64) × (Nat → Nat → Bool) × (Nat → Nat → Option Nat)
abbrev tk_E : Type := Instr × Nat × Nat × Nat × Nat × Int × Option (List Nat)
abbrev tk_R : Type := MethodName × ByteArray × Nat × Option FieldType × Nat × String × List (Nat × tk_E)
abbrev tk_V : Type := List (Nat × Value)
abbrev tk_S : Type := Nat × tk_V × List Value × tk_M
abbrev tk_X : Type := Nat × (Nat → Int32)
def tk_b (b : Bool) : Int32 := cond b 1 0
def tk_u2 {α : Type} (f : Nat → Nat → α) (i k : Nat) (v : α) : Nat → Nat → α := fun a b => if a = i ∧ b = k then v else f a b
def tk_z1 {α : Type} (f : Nat → Nat → α) (i : Nat) (d : α) : Nat → Nat → α := fun a b => if a = i then d else f a b
def tk_new (M : tk_M) : tk_M := (M.1 + 1, tk_z1 M.2.1 M.1 0, tk_z1 M.2.2.1 M.1 0, tk_z1 M.2.2.2.1 M.1 false, tk_z1 M.2.2.2.2 M.1 none)
/-- what a place holds: kind 0 an int, 1 a long, 2 a boolean, else a reference -/
def tk_gf (kd : Nat) (M : tk_M) (i k : Nat) : Value := match kd with
  | 0 => .int (M.2.1 i k)
  | 1 => .long (M.2.2.1 i k)
  | 2 => .int (tk_b (M.2.2.2.1 i k))
  | _ => va_rf (M.2.2.2.2 i k)
def tk_pf (kd : Nat) (M : tk_M) (i k : Nat) (v : Value) : Option tk_M := match v with
  | .int x => match kd with
    | 0 => some (M.1, tk_u2 M.2.1 i k x, M.2.2)
    | 2 => if x = 0 then some (M.1, M.2.1, M.2.2.1, tk_u2 M.2.2.2.1 i k false, M.2.2.2.2) else if x = 1 then some (M.1, M.2.1, M.2.2.1, tk_u2 M.2.2.2.1 i k true, M.2.2.2.2) else none
    | _ => none
  | .long x => match kd with
    | 1 => some (M.1, M.2.1, tk_u2 M.2.2.1 i k x, M.2.2.2)
    | _ => none
  | .ref r => match kd with
    | 3 => some (M.1, M.2.1, M.2.2.1, M.2.2.2.1, tk_u2 M.2.2.2.2 i k (some r))
    | _ => none
  | _ => none
def tk_put1 (ls : tk_V) (i : Nat) (v : Value) : tk_V := (i, v) :: ls.filter (fun q => !(q.1 == i) && !(q.1 + 1 == i && q.2.category == 2))
def tk_put2 (ls : tk_V) (i : Nat) (v : Value) : tk_V := (i, v) :: ls.filter (fun q => !(q.1 == i) && (!(q.1 == i + 1) && !(q.1 + 1 == i && q.2.category == 2)))
def tk_get (ls : tk_V) (i : Nat) : Option Value := match ls with
  | [] => none
  | q :: r => match Nat.beq q.1 i with
    | true => some q.2
    | false => tk_get r i
def tk_keep (ks : Option (List Nat)) (ls : tk_V) : tk_V := match ks with
  | none => ls
  | some l => l.filterMap (fun i => (tk_get ls i).map (fun v => (i, v)))
def tk_code (c : List (Nat × tk_E)) (pc : Nat) : Option tk_E := match c with
  | [] => none
  | q :: r => match Nat.beq q.1 pc with
    | true => some q.2
    | false => tk_code r pc
def tk_len (i : Instr) : Nat := match i with
  | .iload _ => 2
  | .lload _ => 2
  | .aload _ => 2
  | .istore _ => 2
  | .lstore _ => 2
  | .astore _ => 2
  | .bipush _ => 2
  | .ldc _ => 2
  | .newarray _ => 2
  | .sipush _ => 3
  | .iinc _ _ => 3
  | .ldc_w _ => 3
  | .ldc2_w _ => 3
  | .ifCond _ _ => 3
  | .if_icmp _ _ => 3
  | .goto _ => 3
  | .getfield _ => 3
  | .putfield _ => 3
  | .getstatic _ => 3
  | .invokevirtual _ => 3
  | .invokespecial _ => 3
  | .invokestatic _ => 3
  | .new _ => 3
  | .anewarray _ => 3
  | .multianewarray _ _ => 4
  | _ => 1
