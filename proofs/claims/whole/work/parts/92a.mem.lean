/-! ===== the memory that the constructors leave ===== -/
def tk_isR (v : Value) (r : Nat) : Bool := match v with
  | .ref a => Nat.beq a r
  | _ => false
def tk_isI (v : Value) (r : Int32) : Bool := match v with
  | .int a => decide (a = r)
  | _ => false
def tk_agree (M : tk_M) : Bool := (List.range 460).all (fun i => match tk_lay[i]? with
  | some (.inl ci) => (List.range (tk_nf ci)).all (fun k => decide (tk_kk ci k < 3) || decide (M.2.2.2.2 i k = tk_R2 tk_P0 i k)) 
  | some (.inr (t, n)) => decide (t < 3) || (List.range n).all (fun k => decide (M.2.2.2.2 i k = tk_R2 tk_P0 i k))
  | none => false)
def tk_lo1 (o : Option Nat) : Bool := match o with
  | some r => decide (r < 1000)
  | none => true
def tk_low : Bool := (List.range 460).all (fun i => match tk_lay[i]? with
  | some (.inl ci) => (List.range (tk_nf ci)).all (fun k => decide (tk_kk ci k < 3) || tk_lo1 (tk_R2 tk_P0 i k)) 
  | some (.inr (t, n)) => decide (t < 3) || (List.range n).all (fun k => tk_lo1 (tk_R2 tk_P0 i k))
  | none => false)
theorem tk_low_ok : tk_low = true := by decide +kernel
def tk_lsok (ls : tk_V) : Bool := match ls with
  | [p, q, r, t] => Nat.beq p.1 3 && tk_isI p.2 0 && (Nat.beq q.1 2 && tk_isR q.2 295) && (Nat.beq r.1 1 && tk_isR r.2 0) && (Nat.beq t.1 0 && tk_isR t.2 1007)
  | _ => false
def tk_u0ok : Bool := match tk_u0 with
  | some (ls, st, M) => tk_lsok ls && st.isEmpty && Nat.beq M.1 460 && tk_agree M
  | none => false
set_option maxRecDepth 100000 in
theorem tk_u0_ok : tk_u0ok = true := by decide +kernel
theorem tk_isR_eq {v : Value} {r : Nat} (h : tk_isR v r = true) : v = .ref r := by
  unfold tk_isR at h
  split at h
  · rw [Nat.eq_of_beq_eq_true h]
  · cases h
theorem tk_isI_eq {v : Value} {r : Int32} (h : tk_isI v r = true) : v = .int r := by
  unfold tk_isI at h
  split at h
  · rw [of_decide_eq_true h]
  · cases h
theorem tk_lsok_eq {ls : tk_V} (h : tk_lsok ls = true) : ls = [(3, .int 0), (2, .ref 295), (1, .ref 0), (0, .ref 1007)] := by
  unfold tk_lsok at h
  split at h
  · rename_i p q r t
    obtain ⟨p1, p2⟩ := p
    obtain ⟨q1, q2⟩ := q
    obtain ⟨r1, r2⟩ := r
    obtain ⟨t1, t2⟩ := t
    simp only [Bool.and_eq_true] at h
    obtain ⟨⟨⟨⟨h1, h2⟩, h3, h4⟩, h5, h6⟩, h7, h8⟩ := h
    rw [Nat.eq_of_beq_eq_true h1, Nat.eq_of_beq_eq_true h3, Nat.eq_of_beq_eq_true h5, Nat.eq_of_beq_eq_true h7, tk_isI_eq h2, tk_isR_eq h4, tk_isR_eq h6, tk_isR_eq h8]
  · cases h
theorem tk_u0_is : tk_u0 = some ([(3, .int 0), (2, .ref 295), (1, .ref 0), (0, .ref 1007)], [], tk_M2) ∧ tk_M2.1 = 460 ∧ tk_agree tk_M2 = true := by
  have h := tk_u0_ok
  unfold tk_u0ok at h
  split at h
  · rename_i ls st M hu
    simp only [Bool.and_eq_true] at h
    obtain ⟨⟨⟨h1, h2⟩, h3⟩, h4⟩ := h
    have e : tk_M2 = M := by
      unfold tk_M2
      rw [hu]
      rfl
    have e2 : st = [] := List.isEmpty_iff.mp h2
    rw [e, hu, tk_lsok_eq h1, e2]
    exact ⟨rfl, Nat.eq_of_beq_eq_true h3, h4⟩
  · cases h
