/-! ===== soundness of the steps that touch the heap ===== -/
def tk_hw (own : String) (E : tk_E) : List Cond := match E.1 with
  | .getfield i => [.fieldLink own i ((tk_C E.2.2.1).2.1 E.2.2.2.1).1 ((tk_C E.2.2.1).2.1 E.2.2.2.1).2.1 ((tk_C E.2.2.1).2.1 E.2.2.2.1).2.2.1]
  | .putfield i => [.fieldLink own i ((tk_C E.2.2.1).2.1 E.2.2.2.1).1 ((tk_C E.2.2.1).2.1 E.2.2.2.1).2.1 ((tk_C E.2.2.1).2.1 E.2.2.2.1).2.2.1]
  | .getstatic i => if E.2.2.2.2.1 = 0 then [.fieldLink own i (tk_stn E.2.2.1).1 (tk_stn E.2.2.1).2 "[I"] else [.fieldLinkNest own i (tk_stn E.2.2.1).1 (tk_stn E.2.2.1).2 "[I" "ThreeTouched"]
  | .new i => [.classLink own i (tk_C E.2.2.1).1, .instantiable (tk_C E.2.2.1).1 (tk_C E.2.2.1).2.2, .initialized (tk_C E.2.2.1).1]
  | .newarray _ => [.arrayClass (tk_at.getD E.2.2.1 .int)]
  | .anewarray i => [.classLink own i (tk_C (tk_ac.getD E.2.2.1 0)).1, .arrayOver (.object (tk_C (tk_ac.getD E.2.2.1 0)).1)]
  | .multianewarray i _ => [.classLink own i ("[" ++ (tk_at.getD E.2.2.1 .int).toString)]
  | .invokespecial i => if E.2.2.2.2.1 = 9 then [.methodLink own i objectInit, .instanceMethod objectInit, .code objectInit ⟨#[0xb1]⟩ 1 none] else []
  | .invokestatic i => if E.2.2.2.2.1 = 9 then [.methodLink own i arraycopyName, .native arraycopyName, .static arraycopyName, .initialized "java/lang/System"] else []
  | .ldc i => [.constant own i (Int32.ofInt E.2.2.2.2.2.1)]
  | .ldc_w i => [.constant own i (Int32.ofInt E.2.2.2.2.2.1)]
  | .ldc2_w i => [.constantLong own i (Int64.ofInt E.2.2.2.2.2.1)]
  | _ => []
/-- what a row of the table must keep to: fields, finals, kinds of arrays -/
def tk_okH (own nm : String) (E : tk_E) : Bool := match E.1 with
  | .getfield _ => decide (E.2.2.1 < 12) && decide (E.2.2.2.1 < tk_nf E.2.2.1) && decide (E.2.2.2.2.1 = tk_kk E.2.2.1 E.2.2.2.1)
  | .putfield _ => decide (E.2.2.1 < 12) && decide (E.2.2.2.1 < tk_nf E.2.2.1) && decide (E.2.2.2.2.1 = tk_kk E.2.2.1 E.2.2.2.1) &&
      (if ((tk_C E.2.2.1).2.1 E.2.2.2.1).2.2.2 then decide (nm = "<init>") && decide (((tk_C E.2.2.1).2.1 E.2.2.2.1).1 = own) else true)
  | .getstatic _ => decide (E.2.2.1 < 6)
  | .new _ => decide (E.2.2.1 < 12)
  | .newarray a => decide (E.2.2.1 < 3) && decide (newarray.typeOf a = tk_at.getD E.2.2.1 .int)
  | .anewarray _ => decide (3 ≤ E.2.2.1) && decide (E.2.2.1 < 9)
  | _ => true
section TKH
variable {p : Program} {l : Launch} {e : Env} {R : Room} {s : State} {m : MethodId} {args : Array Value} {below : List Frame} {meth : Method} {c : Code} {H : Heap} {locs : List Loc} {cells slots : Nat} {Q : State → Prop}
variable {cc : ByteArray} {pc : Nat} {ls : Array Slot} {rest : List Value} {D : va_G} {cl : List vw_C} {A : Nat → Prop} {a : Nat} {tys : List (ClassId × FieldType)} {H0 : Heap}
theorem tk_S_put {H1 : Heap} {k : Nat} (h : va_S A H0 H locs) (z : H1.size = H.size) (o : ∀ q : Nat, q ≠ a → H1[q]? = H[q]?) (ha : A a) : va_S A H0 H1 (locs ++ [⟨a, k⟩]) := h.put z o ha
/-- a field is written: final (fin) or not -/
theorem tk_putf {own C : String} {T : u_T} {N ci index : Nat} {Ts : List Cond} (hexec : p.tables.exec = Jvm.exec) (hb : c.code = cc) (hts : ∀ w ∈ Ts, w.before args s = true) (hin : ∀ w ∈ u_ws C T N, w ∈ Ts) (ty0 : Nat → FieldType) (hty : ∀ k, k < N → parseFieldDescriptor (T k).2.2.1 = some (ty0 k)) (hnm : ∀ a, a < N → ∀ b, b < N → a ≠ b → (T a).2.1 ≠ (T b).2.1)
    (hown : s.vm.findClass own = some m.cls) (hK : va_K D cl tys s) {fs : List Value} (he : va_at D cl (a, .inr (ci, fs)) H) (hS0 : va_S A H0 H locs) (hAa : A a) (hc : cl[ci]? = some (C, T, N)) (k : Nat) (hk : k < N) (hlink : (Cond.fieldLink own index (T k).1 (T k).2.1 (T k).2.2.1).before args s = true)
    (hfin : (T k).2.2.2 = true → meth.name = "<init>" ∧ (T k).1 = own) {ty : FieldType} {v : Value} (hd : parseFieldDescriptor (T k).2.2.1 = some ty) (hn : narrow ty v = v) (hfit : fits ty v = true) (hl : k < fs.length) (hdg : decode cc pc = .ok (.putfield index, 3))
    (kk : ∀ (H1 : Heap) (locs1 : List Loc), va_at D cl (a, .inr (ci, fs.set k v)) H1 → H1.size = H.size → (∀ q : Nat, q ≠ a → H1[q]? = H[q]?) → va_S A H0 H1 locs1 → W p l e R s m args below meth c H1 locs1 cells slots Q (F0 m (pc + 3) ls rest)) : W p l e R s m args below meth c H locs cells slots Q (F0 m pc ls (v :: .ref a :: rest)) := by
  have hap := va_apart (own := own) hts hin ty0 hty hnm hK hc
  obtain ⟨r, h1, cell, q1, q2, q3, q4⟩ := he
  have hr : r = (C, T, N) := Option.some.inj (h1.symm.trans hc)
  subst hr
  obtain ⟨hS, hfc, kC, hkC, hkind⟩ := hK.1 ci _ hc
  obtain ⟨cf, kf, fi, f, hi, hsl⟩ := hS k hk
  have hlay := hts _ (hin _ (u_in_lay hk))
  have hst := (u_facts hfc hkC (u_lays hts hin hk) hi).1
  unfold u_lay at hlay
  by_cases hF : (T k).2.2.2 = true
  · obtain ⟨hin2, hdecl⟩ := hfin hF
    rw [if_pos hF] at hlay
    have hcf : m.cls = cf := by
      obtain ⟨_, _, c', _, _, _, -, -, hf', -, -, -, hown2, -⟩ := Cond.laysFinal_spec hlay
      have e1 : c' = cf := by have := hi.symm.trans hf'; simp at this; exact this.1.symm
      rw [hdecl] at hown2
      rw [← e1]; exact Option.some.inj (hown.symm.trans hown2)
    have h6 := u_fits hfc hkC hkind (Or.inr hlay) hi hd hn hfit
    refine W.putFinK hexec hb hown hlink hi hst hcf hin2 (by rw [q2]; exact h6) q1 q3 (by rw [hsl]; exact k2_hasslot (q4 k hk)) rfl rfl hdg fun H' e1 e2 e3 => ?_
    rw [hsl] at e1 ⊢
    exact kk H' _ ⟨_, hc, t_OB.to (V := updV (vp_V fs) k v) ⟨_, e1, q2, q3, t_set q4 hap hk v⟩ (fun j _ => vp_updV_set hl v j)⟩ e2 e3 (hS0.put e2 e3 hAa)
  · rw [if_neg hF] at hlay
    have h6 := u_store hfc hkC hkind hlay hi hd hn hfit
    refine W.putK hexec hb (f := f) ⟨hown, hlink, ⟨_, _, _, hi⟩, hst⟩ (by rw [q2]; exact h6) q1 q3 (by rw [hsl]; exact k2_hasslot (q4 k hk)) rfl rfl hdg fun H' e1 e2 e3 => ?_
    rw [hsl] at e1 ⊢
    exact kk H' _ ⟨_, hc, t_OB.to (V := updV (vp_V fs) k v) ⟨_, e1, q2, q3, t_set q4 hap hk v⟩ (fun j _ => vp_updV_set hl v j)⟩ e2 e3 (hS0.put e2 e3 hAa)
end TKH
