/-! ===== soundness of runs ===== -/
def tk_nest (own : String) (i : Nat) (y : MethodName) (k : Nat) : Cond := if k = 0 then .methodLink own i y else .methodLinkNest own i y "ThreeTouched"
/-- the words of a call -/
def tk_cw (own : String) (E : tk_E) : List Cond := match E.1 with
  | .invokevirtual i => match tk_mt[E.2.2.1]? with
    | some r => [tk_nest own i r.1 E.2.2.2.2.1, .instanceMethod r.1, .selects r.1.cls r.1 r.1, .initialized r.1.cls, .code r.1 r.2.1 r.2.2.1 r.2.2.2.1]
    | none => []
  | .invokespecial i => if E.2.2.2.2.1 = 9 then [] else match tk_mt[E.2.2.1]? with
    | some r => [tk_nest own i r.1 E.2.2.2.2.1, .instanceMethod r.1, .initialized r.1.cls, .code r.1 r.2.1 r.2.2.1 r.2.2.2.1]
    | none => []
  | .invokestatic i => if E.2.2.2.2.1 = 9 then [] else match tk_mt[E.2.2.1]? with
    | some r => [tk_nest own i r.1 E.2.2.2.2.1, .static r.1, .initialized r.1.cls, .code r.1 r.2.1 r.2.2.1 r.2.2.2.1]
    | none => []
  | _ => []
def tk_okC (E : tk_E) : Bool := match E.1 with
  | .invokevirtual _ => match tk_mt[E.2.2.1]? with
    | some r => decide ((parseMethodDescriptor r.1.desc).map (fun d => d.parameters.length) = some E.2.2.2.1) && decide (vwCl[E.2.2.2.2.2.1.toNat]?.map (fun q => q.1) = some r.1.cls)
    | none => false
  | .invokespecial _ => if E.2.2.2.2.1 = 9 then true else match tk_mt[E.2.2.1]? with
    | some r => decide ((parseMethodDescriptor r.1.desc).map (fun d => d.parameters.length) = some E.2.2.2.1) && decide (r.1.name = "<init>") && decide (r.2.2.2.1 = none) && decide (vwCl[E.2.2.2.2.2.1.toNat]?.map (fun q => q.1) = some r.1.cls)
    | none => false
  | .invokestatic _ => if E.2.2.2.2.1 = 9 then true else match tk_mt[E.2.2.1]? with
    | some r => decide ((parseMethodDescriptor r.1.desc).map (fun d => d.parameters.length) = some E.2.2.2.1)
    | none => false
  | _ => true
/-- a row of a method's table is right -/
def tk_okQ (mr : tk_R) (q : Nat × tk_E) : Prop := decode mr.2.1 q.1 = .ok (q.2.1, tk_ln q.1 q.2.1) ∧ q.2.2.1 = q.1 + tk_ln q.1 q.2.1 ∧ tk_okP mr.2.2.1 q.1 q.2 = true ∧ tk_okH mr.2.2.2.2.2.1 mr.1.name q.2 = true ∧ tk_okC q.2 = true ∧ ∀ w ∈ tk_hw mr.2.2.2.2.2.1 q.2 ++ tk_cw mr.2.2.2.2.2.1 q.2, w ∈ tk_tbl
def tk_okN (mr : tk_R) : Prop := plainFor mr.1 = true ∧ mr.1.cls = mr.2.2.2.2.2.1 ∧ mr.2.2.1 ≤ 60 ∧ Cond.code mr.1 mr.2.1 mr.2.2.1 mr.2.2.2.1 ∈ tk_tb ∧ (mr.1.cls ≠ "java/lang/invoke/MethodHandle" ∧ mr.1.cls ≠ "java/lang/invoke/VarHandle")
