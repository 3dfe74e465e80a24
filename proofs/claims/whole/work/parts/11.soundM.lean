/-! ===== arrays of arrays ===== -/
section TKM
variable {p : Program} {l : Launch} {e : Env} {R : Room} {s : State} {m : MethodId} {args : Array Value} {below : List Frame} {meth : Method} {c : Code} {H : Heap} {locs : List Loc} {cells slots : Nat} {Q : State → Prop}
variable {cc : ByteArray} {pc : Nat} {B0 : Nat} {ex : Nat → Nat} {dA dC : Nat → ClassId} {dI : Nat → Nat → Nat} {sc : tk_X} {own nm : String} {E : tk_E} {st st' : List Value} {M M' : tk_M} {lsA : Array Slot}
theorem tk_soundM (hx : p.tables.exec = Jvm.exec) (hb : c.code = cc) (hml : c.maxLocals = lsA.size) (hown : s.vm.findClass own = some m.cls) (hts : ∀ w ∈ tk_tbl, w.before args s = true) (hK : va_K (dC, dI) vwCl (tk_tys dA) s) (hKx : tk_Kx dA s)
    (hd : decode cc pc = .ok (E.1, tk_ln pc E.1)) (hn : E.2.1 = pc + tk_ln pc E.1) (hw : ∀ w ∈ tk_hw own E, w ∈ tk_tbl)
    (h : tk_stepM E st M = some (st', M')) (hrep : tk_rep B0 (tk_ad B0 ex) dA dC dI M H) (hS : va_S (fun q => B0 ≤ q) s.heap H locs)
    (hc1 : cells + (M'.1 - M.1) ≤ R.cells) (hc2 : slots + (tk_ss M'.1 - tk_ss M.1) ≤ R.slots)
    (kk : ∀ (H' : Heap) (locs' : List Loc) (c' s' : Nat), c' = cells + (M'.1 - M.1) → s' = slots + (tk_ss M'.1 - tk_ss M.1) → tk_rep B0 (tk_ad B0 ex) dA dC dI M' H' → va_S (fun q => B0 ≤ q) s.heap H' locs' →
      W p l e R s m args below meth c H' locs' c' s' Q (F0 m E.2.1 lsA (st'.map (tk_cv (tk_ad B0 ex))))) :
    W p l e R s m args below meth c H locs cells slots Q (F0 m pc lsA (st.map (tk_cv (tk_ad B0 ex)))) := by
  sorry
end TKM
