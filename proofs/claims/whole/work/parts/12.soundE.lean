theorem tk_code_mem {cd : List (Nat × tk_E)} {pc : Nat} {E : tk_E} (h : tk_code cd pc = some E) : (pc, E) ∈ cd := by
  induction cd with
  | nil => cases h
  | cons q r ih =>
    unfold tk_code at h
    split at h
    · rename_i e
      cases h
      rw [← Nat.eq_of_beq_eq_true e]
      exact List.mem_cons_self
    · exact List.mem_cons_of_mem _ (ih h)
theorem tk_ss_mono {a b : Nat} (h : a ≤ b) : tk_ss a ≤ tk_ss b := by
  induction h with
  | refl => exact Nat.le_refl _
  | step h ih =>
    rename_i b
    refine Nat.le_trans ih ?_
    unfold tk_ss
    rw [List.take_add_one]
    simp
theorem tk_new_np (M : tk_M) : (tk_new M).1 = M.1 + 1 := rfl
theorem tk_stepH_mono {sc : tk_X} {E : tk_E} {st st' : List Value} {M M' : tk_M} (h : tk_stepH sc E st M = some (st', M')) : M.1 ≤ M'.1 := by
  have hm : ∀ {kd i k : Nat} {v : Value} {s2 : List Value} {o : Option (List Value × tk_M)}, o = (tk_pf kd M i k v).map (fun M' => (s2, M')) → o = some (st', M') → M.1 ≤ M'.1 := by
    intro kd i k v s2 o ho ho2
    rw [ho] at ho2
    cases hp : tk_pf kd M i k v with
    | none => rw [hp] at ho2; cases ho2
    | some M1 =>
      rw [hp] at ho2
      cases ho2
      rw [tk_pf_np hp]
      exact Nat.le_refl _
  unfold tk_stepH at h
  repeat' split at h
  all_goals first
    | (cases h; done)
    | (cases h; exact Nat.le_refl _)
    | (cases h; exact Nat.le_succ _)
    | exact hm rfl h
theorem tk_mrow_mono {t k : Nat} {M M' : tk_M} (h : tk_mrow t k M = some M') : M.1 ≤ M'.1 := by
  unfold tk_mrow at h
  split at h
  · cases h; exact Nat.le_succ _
  · cases h
theorem tk_mloop_mono {inner : tk_M → Option tk_M} (hi : ∀ M M', inner M = some M' → M.1 ≤ M'.1) {o : Nat} : ∀ (n i : Nat) (M M' : tk_M), tk_mloop inner o n i M = some M' → M.1 ≤ M'.1
  | 0, _, M, M', h => by cases h; exact Nat.le_refl _
  | n + 1, i, M, M', h => by
    unfold tk_mloop at h
    split at h
    · cases h
    · rename_i M1 h1
      split at h
      · cases h
      · rename_i M2 h2
        have e := tk_pf_np h2
        exact Nat.le_trans (hi _ _ h1) (Nat.le_trans (by rw [e]; exact Nat.le_refl _) (tk_mloop_mono hi n (i + 1) M2 M' h))
theorem tk_mouter_mono {inner : tk_M → Option tk_M} (hi : ∀ M M', inner M = some M' → M.1 ≤ M'.1) {t n : Nat} {M M' : tk_M} (h : tk_mouter inner t n M = some M') : M.1 ≤ M'.1 := by
  unfold tk_mouter at h
  split at h
  · cases h
  · rename_i M1 h1
    exact Nat.le_trans (tk_mrow_mono h1) (tk_mloop_mono hi _ _ _ _ h)
theorem tk_stepM_mono {E : tk_E} {st st' : List Value} {M M' : tk_M} (h : tk_stepM E st M = some (st', M')) : M.1 ≤ M'.1 := by
  have h2 : ∀ {o : Option tk_M} {s2 : List Value}, (∀ M1, o = some M1 → M.1 ≤ M1.1) → o.map (fun M1 => (s2, M1)) = some (st', M') → M.1 ≤ M'.1 := by
    intro o s2 ho h
    cases o with
    | none => cases h
    | some M1 => cases h; exact ho _ rfl
  have r1 : ∀ t k M M', tk_mrow t k M = some M' → M.1 ≤ M'.1 := fun t k M M' e => tk_mrow_mono e
  unfold tk_stepM at h
  repeat' split at h
  all_goals first
    | (cases h; done)
    | exact h2 (fun M1 e => tk_mouter_mono (r1 _ _) e) h
    | exact h2 (fun M1 e => tk_mouter_mono (fun _ _ e2 => tk_mouter_mono (r1 _ _) e2) e) h
theorem tk_exec_mono {sc : tk_X} {call : Nat → List Value → tk_M → Option (Option Value × tk_M)} (hc : ∀ j as M v M1, call j as M = some (v, M1) → M.1 ≤ M1.1) {kf : Nat → Option (List Nat)} {mr : tk_R} : ∀ {n pc : Nat} {ls : tk_V} {st : List Value} {M : tk_M} {r : Option Value} {M' : tk_M}, tk_exec sc call kf mr n pc ls st M = some (r, M') → M.1 ≤ M'.1
  | 0, pc, ls, st, M, r, M', h => by cases h
  | n + 1, pc, ls, st, M, r, M', h => by
    unfold tk_exec at h
    split at h
    · cases h
    · split at h
      · split at h
        · cases h
        · exact tk_exec_mono hc h
      · split at h
        · cases h
        · rename_i s2 hs
          exact Nat.le_trans (tk_stepH_mono hs) (tk_exec_mono hc h)
      · split at h
        · cases h
        · split at h
          · split at h
            · cases h
            · rename_i o ho
              exact Nat.le_trans (hc _ _ _ _ _ ho) (tk_exec_mono hc h)
          · cases h
      · split at h
        · cases h
        · rename_i s2 hs
          exact Nat.le_trans (tk_stepM_mono hs) (tk_exec_mono hc h)
      · rename_i E _ _ _ _ _ _
        cases hr : tk_ret (tk_sort E) mr.2.2.2.1 st with
        | none => rw [hr] at h; cases h
        | some v =>
          rw [hr] at h
          cases h
          exact Nat.le_refl _
def tk_sub (t : Nat) : Nat := if t = 9 then 0 else if t = 10 then 1 else 10
/-- what else of the tables a state keeps: the nest's words, the arrays of objects, the arrays of arrays -/
def tk_Kx (dA : Nat → ClassId) (U : State) : Prop := (∀ w ∈ lw_tbl, tk_isNest w = true → va_Nw w U) ∧ (∀ t, t < 12 → 3 ≤ t → t < 9 → va_AO (tk_C (tk_ac.getD t 0)).1 U) ∧ ∀ t, t < 12 → 9 ≤ t → ∃ k : Class, U.vm.classes[dA t]? = some k ∧ k.kind = .array (dA (tk_sub t)) (tk_at.getD t .int)
theorem tk_Kx_moved {dA : Nat → ClassId} {u U : State} (hW : u.WarmedH U.vm) (h : tk_Kx dA u) : tk_Kx dA U := by
  refine ⟨fun w hw hn => ?_, fun t h1 h2 h3 => (h.2.1 t h1 h2 h3).moved hW.alike, fun t h1 h2 => ?_⟩
  · have h1 := h.1 w hw hn
    cases w <;> first
      | (cases hn; done)
      | exact va_Nw.warmF hW h1
      | exact va_Nw.warmM hW h1
  · obtain ⟨k, k1, k2⟩ := h.2.2 t h1 h2
    obtain ⟨k', hk', he⟩ := hW.alike.2.2 _ _ k1
    exact ⟨k', hk', by rw [he]; exact k2⟩
theorem tk_Kx_same {dA : Nat → ClassId} {u U : State} (hv : u.vm = U.vm) (h : tk_Kx dA u) : tk_Kx dA U := by
  refine ⟨fun w hw hn => ?_, fun t h1 h2 h3 => (h.2.1 t h1 h2 h3).moved (by rw [hv]; exact Vm.Alike.refl _), fun t h1 h2 => by rw [← hv]; exact h.2.2 t h1 h2⟩
  have h1 := h.1 w hw hn
  cases w <;> first
    | (cases hn; done)
    | exact va_tabs rfl hv h1
def tk_Pc (B0 : Nat) (ex : Nat → Nat) (dA dC : Nat → ClassId) (dI : Nat → Nat → Nat) (sc : tk_X) (as : List Value) (M : tk_M) : Array Value → State → Prop := fun v U =>
  v = (as.map (tk_cv (tk_ad B0 ex))).toArray ∧ tk_rep B0 (tk_ad B0 ex) dA dC dI M U.heap ∧ va_K (dC, dI) vwCl (tk_tys dA) U ∧ tk_exs B0 ex sc U U.heap ∧ tk_Kx dA U
def tk_Qc (B0 : Nat) (ex : Nat → Nat) (dA dC : Nat → ClassId) (dI : Nat → Nat → Nat) (r : Option Value) (M' : tk_M) : Array Value → State → Outcome → State → Prop := fun _ st o t =>
  o = .returned (r.map (tk_cv (tk_ad B0 ex))) ∧ tk_rep B0 (tk_ad B0 ex) dA dC dI M' t.heap ∧ va_F (fun q => B0 ≤ q) st t
def tk_rm (d mc ms : Nat) : Room := { frames := d, cells := mc, slots := ms, locals := 100 * d }
theorem tk_exs_moved {B0 : Nat} {ex : Nat → Nat} {sc : tk_X} {u U : State} {H : Heap} (hvm : u.vm.Alike U.vm) (h : tk_exs B0 ex sc u H) : tk_exs B0 ex sc U H :=
  ⟨fun k hk => ⟨(h.1 k hk).1.moved hvm, (h.1 k hk).2⟩, fun k hk => (h.2 k hk).moved hvm⟩
theorem tk_exs_kept {B0 : Nat} {ex : Nat → Nat} {sc : tk_X} {U : State} {H H1 : Heap} (h : tk_exs B0 ex sc U H) (hq : ∀ a : Nat, a < H.size → ¬ B0 ≤ a → H1[a]? = H[a]?) : tk_exs B0 ex sc U H1 :=
  ⟨fun k hk => ⟨(h.1 k hk).1.kept (hq _ (by obtain ⟨scr, q1, -⟩ := (h.1 k hk).1; exact (Array.getElem?_eq_some_iff.mp q1).1) (Nat.not_le.mpr (h.1 k hk).2)), (h.1 k hk).2⟩, fun k hk => (h.2 k hk).kept hq⟩
theorem tk_blind {B0 : Nat} {ex : Nat → Nat} {dA dC : Nat → ClassId} {dI : Nat → Nat → Nat} {sc : tk_X} {as : List Value} {M : tk_M} : FrameBlind (tk_Pc B0 ex dA dC dI sc as M) := fun a U g mk q =>
  ⟨q.1, q.2.1, va_K.moved (u := U) (U := U.calling g mk a) (Vm.Alike.refl U.vm) q.2.2.1, tk_exs_moved (u := U) (U := U.calling g mk a) (Vm.Alike.refl U.vm) q.2.2.2.1, tk_Kx_same (u := U) (U := U.calling g mk a) rfl q.2.2.2.2⟩
section TKRUN
variable {p : Program} {l : Launch} {e : Env} {R : Room} {s : State} {m : MethodId} {args : Array Value} {below : List Frame} {meth : Method} {c : Code} {H : Heap} {locs : List Loc} {cells slots : Nat}
variable {y : MethodName} {bytes cc : ByteArray} {maxL nL mc ms n index : Nat} {ret : Option FieldType} {Pc : Array Value → State → Prop} {Qc : Array Value → State → Outcome → State → Prop} {free : Addr → Prop} {own C host : String} {b : Addr} {As rest : List Value} {g : JFrame}
theorem tk_rS (hx : p.tables.exec = Jvm.exec) (hb : c.code = cc) (hml : c.maxLocals = nL) (ho : s.vm.findClass own = some m.cls) (hK : Back l R p e below s args y 3 24 (PreOf R mc ms Pc) (PostOf Qc mc ms free)) (hcode : (Cond.code y bytes maxL ret).before args s = true) (hy : y.cls ≠ "java/lang/invoke/MethodHandle" ∧ y.cls ≠ "java/lang/invoke/VarHandle") (hlen : (parseMethodDescriptor y.desc).map (fun d => d.parameters.length) = some n) (hl : (Cond.methodLink own index y).before args s = true) (hstat : (Cond.static y).before args s = true) (hini : (Cond.initialized y.cls).before args s = true) (hPc : ∀ U : State, U.heap = H → s.WarmedH U.vm → Pc As.toArray U)
    (hg : g.method = m) (hn : As.length = n) (hsize : g.locals.size = nL) (hstack : g.stack = As.reverse ++ rest) (hW : 2 * g.monitorRoom + (rest.map fun v => v.category).sum ≤ 24) (hdg : decode cc g.pc = .ok (.invokestatic index, 3)) (hf : cells + mc ≤ R.cells ∧ slots + ms ≤ R.slots) :
    va_Run p l e R s m args below meth c H locs cells slots mc ms g rest (Qc As.toArray) free := by
  have hlen2 : ∀ sig, parseMethodDescriptor y.desc = some sig → As.length = sig.parameters.length := fun sig h => by
    rw [h] at hlen
    exact hn.trans (Option.some.inj hlen).symm
  intro T hT X
  obtain ⟨v, vm₁, ⟨U', l2, c2, s2⟩, hW₁, X', ⟨g', mk, t, L, e1, e2, hq, h1, hL, h2, h3⟩, st⟩ := callS X hx (bytes := bytes) (maxL := maxL) (ret := ret) ho hl hstat hini hcode hy hK hg (hsize.trans hml.symm) (argsL := As) (rest := rest) hlen2 hstack hW (by rw [hb]; exact hdg)
    (fun vm₁ hW₁ => ⟨hf.1, hf.2, hPc (T.setVm vm₁) hT hW₁⟩)
  dsimp only [Pt.U, Pt.locs, Pt.cells, Pt.slots] at X' e1 e2 h1 h2 h3 st
  subst h1; subst h2; subst h3
  exact ⟨v, (T.setVm vm₁).calling g' mk As.toArray, t, U', L, hT, X', hL, e1, e2, hq, st⟩
theorem tk_rSN (hx : p.tables.exec = Jvm.exec) (hb : c.code = cc) (hml : c.maxLocals = nL) (ho : s.vm.findClass own = some m.cls) (hK : Back l R p e below s args y 3 24 (PreOf R mc ms Pc) (PostOf Qc mc ms free)) (hcode : (Cond.code y bytes maxL ret).before args s = true) (hy : y.cls ≠ "java/lang/invoke/MethodHandle" ∧ y.cls ≠ "java/lang/invoke/VarHandle") (hlen : (parseMethodDescriptor y.desc).map (fun d => d.parameters.length) = some n) (hl : (Cond.methodLinkNest own index y host).before args s = true) (hstat : (Cond.static y).before args s = true) (hini : (Cond.initialized y.cls).before args s = true) (hPc : ∀ U : State, U.heap = H → s.WarmedH U.vm → Pc As.toArray U)
    (hg : g.method = m) (hn : As.length = n) (hsize : g.locals.size = nL) (hstack : g.stack = As.reverse ++ rest) (hW : 2 * g.monitorRoom + (rest.map fun v => v.category).sum ≤ 24) (hdg : decode cc g.pc = .ok (.invokestatic index, 3)) (hf : cells + mc ≤ R.cells ∧ slots + ms ≤ R.slots) :
    va_Run p l e R s m args below meth c H locs cells slots mc ms g rest (Qc As.toArray) free := by
  have hlen2 : ∀ sig, parseMethodDescriptor y.desc = some sig → As.length = sig.parameters.length := fun sig h => by
    rw [h] at hlen
    exact hn.trans (Option.some.inj hlen).symm
  intro T hT X
  obtain ⟨v, vm₁, ⟨U', l2, c2, s2⟩, hW₁, X', ⟨g', mk, t, L, e1, e2, hq, h1, hL, h2, h3⟩, st⟩ := va_callSN X hx (bytes := bytes) (maxL := maxL) (ret := ret) ho hl hstat hini hcode hy hK hg (hsize.trans hml.symm) (argsL := As) (rest := rest) hlen2 hstack hW (by rw [hb]; exact hdg)
    (fun vm₁ hW₁ => ⟨hf.1, hf.2, hPc (T.setVm vm₁) hT hW₁⟩)
  dsimp only [Pt.U, Pt.locs, Pt.cells, Pt.slots] at X' e1 e2 h1 h2 h3 st
  subst h1; subst h2; subst h3
  exact ⟨v, (T.setVm vm₁).calling g' mk As.toArray, t, U', L, hT, X', hL, e1, e2, hq, st⟩
theorem tk_rI (hx : p.tables.exec = Jvm.exec) (hb : c.code = cc) (hml : c.maxLocals = nL) (ho : s.vm.findClass own = some m.cls) (hK : Back l R p e below s args y 3 24 (PreOf R mc ms Pc) (PostOf Qc mc ms free)) (hcode : (Cond.code y bytes maxL none).before args s = true) (hy : y.cls ≠ "java/lang/invoke/MethodHandle" ∧ y.cls ≠ "java/lang/invoke/VarHandle") (hlen : (parseMethodDescriptor y.desc).map (fun d => d.parameters.length) = some n) (hl : (Cond.methodLink own index y).before args s = true) (hy1 : y.name = "<init>") (hin : (Cond.instanceMethod y).before args s = true) (hPc : ∀ U : State, U.heap = H → s.WarmedH U.vm → Pc (Value.ref b :: As).toArray U)
    (hg : g.method = m) (hn : As.length = n) (hsize : g.locals.size = nL) (hstack : g.stack = As.reverse ++ .ref b :: rest) (hW : 2 * g.monitorRoom + (rest.map fun v => v.category).sum ≤ 24) (hdg : decode cc g.pc = .ok (.invokespecial index, 3)) (hf : cells + mc ≤ R.cells ∧ slots + ms ≤ R.slots) :
    va_Run p l e R s m args below meth c H locs cells slots mc ms g rest (Qc (Value.ref b :: As).toArray) free := by
  have hlen2 : ∀ sig, parseMethodDescriptor y.desc = some sig → As.length = sig.parameters.length := fun sig h => by
    rw [h] at hlen
    exact hn.trans (Option.some.inj hlen).symm
  intro T hT X
  obtain ⟨v, vm₁, ⟨U', l2, c2, s2⟩, hW₁, X', ⟨g', mk, t, L, e1, e2, hq, h1, hL, h2, h3⟩, st⟩ := callI X hx (bytes := bytes) (maxL := maxL) ho hy1 hl hin hcode hy hK hg (hsize.trans hml.symm) (a := b) (argsL := As) (rest := rest) hlen2 hstack hW (by rw [hb]; exact hdg)
    (fun vm₁ hW₁ => ⟨hf.1, hf.2, hPc (T.setVm vm₁) hT hW₁⟩)
  dsimp only [Pt.U, Pt.locs, Pt.cells, Pt.slots] at X' e1 e2 h1 h2 h3 st
  subst h1; subst h2; subst h3
  exact ⟨v, (T.setVm vm₁).calling g' mk (Value.ref b :: As).toArray, t, U', L, hT, X', hL, e1, e2, hq, st⟩
theorem tk_rIN (hx : p.tables.exec = Jvm.exec) (hb : c.code = cc) (hml : c.maxLocals = nL) (ho : s.vm.findClass own = some m.cls) (hK : Back l R p e below s args y 3 24 (PreOf R mc ms Pc) (PostOf Qc mc ms free)) (hcode : (Cond.code y bytes maxL none).before args s = true) (hy : y.cls ≠ "java/lang/invoke/MethodHandle" ∧ y.cls ≠ "java/lang/invoke/VarHandle") (hlen : (parseMethodDescriptor y.desc).map (fun d => d.parameters.length) = some n) (hl : (Cond.methodLinkNest own index y host).before args s = true) (hy1 : y.name = "<init>") (hin : (Cond.instanceMethod y).before args s = true) (hPc : ∀ U : State, U.heap = H → s.WarmedH U.vm → Pc (Value.ref b :: As).toArray U)
    (hg : g.method = m) (hn : As.length = n) (hsize : g.locals.size = nL) (hstack : g.stack = As.reverse ++ .ref b :: rest) (hW : 2 * g.monitorRoom + (rest.map fun v => v.category).sum ≤ 24) (hdg : decode cc g.pc = .ok (.invokespecial index, 3)) (hf : cells + mc ≤ R.cells ∧ slots + ms ≤ R.slots) :
    va_Run p l e R s m args below meth c H locs cells slots mc ms g rest (Qc (Value.ref b :: As).toArray) free := by
  have hlen2 : ∀ sig, parseMethodDescriptor y.desc = some sig → As.length = sig.parameters.length := fun sig h => by
    rw [h] at hlen
    exact hn.trans (Option.some.inj hlen).symm
  intro T hT X
  obtain ⟨v, vm₁, ⟨U', l2, c2, s2⟩, hW₁, X', ⟨g', mk, t, L, e1, e2, hq, h1, hL, h2, h3⟩, st⟩ := va_callIN X hx (bytes := bytes) (maxL := maxL) ho hy1 hl hin hcode hy hK hg (hsize.trans hml.symm) (a := b) (argsL := As) (rest := rest) hlen2 hstack hW (by rw [hb]; exact hdg)
    (fun vm₁ hW₁ => ⟨hf.1, hf.2, hPc (T.setVm vm₁) hT hW₁⟩)
  dsimp only [Pt.U, Pt.locs, Pt.cells, Pt.slots] at X' e1 e2 h1 h2 h3 st
  subst h1; subst h2; subst h3
  exact ⟨v, (T.setVm vm₁).calling g' mk (Value.ref b :: As).toArray, t, U', L, hT, X', hL, e1, e2, hq, st⟩
theorem tk_rV (hx : p.tables.exec = Jvm.exec) (hb : c.code = cc) (hml : c.maxLocals = nL) (ho : s.vm.findClass own = some m.cls) (hK : Back l R p e below s args y 3 24 (PreOf R mc ms Pc) (PostOf Qc mc ms free)) (hcode : (Cond.code y bytes maxL ret).before args s = true) (hy : y.cls ≠ "java/lang/invoke/MethodHandle" ∧ y.cls ≠ "java/lang/invoke/VarHandle") (hlen : (parseMethodDescriptor y.desc).map (fun d => d.parameters.length) = some n) (hl : (Cond.methodLink own index y).before args s = true) (hin : (Cond.instanceMethod y).before args s = true) (hsel : (Cond.selects C y y).before args s = true) (hrecv : ∃ cellB : Cell, H[b]? = some cellB ∧ cellB.vm.isStatics = false ∧ s.vm.findClass C = some cellB.cls) (hPc : ∀ U : State, U.heap = H → s.WarmedH U.vm → Pc (Value.ref b :: As).toArray U)
    (hg : g.method = m) (hn : As.length = n) (hsize : g.locals.size = nL) (hstack : g.stack = As.reverse ++ .ref b :: rest) (hW : 2 * g.monitorRoom + (rest.map fun v => v.category).sum ≤ 24) (hdg : decode cc g.pc = .ok (.invokevirtual index, 3)) (hf : cells + mc ≤ R.cells ∧ slots + ms ≤ R.slots) :
    va_Run p l e R s m args below meth c H locs cells slots mc ms g rest (Qc (Value.ref b :: As).toArray) free := by
  have hlen2 : ∀ sig, parseMethodDescriptor y.desc = some sig → As.length = sig.parameters.length := fun sig h => by
    rw [h] at hlen
    exact hn.trans (Option.some.inj hlen).symm
  obtain ⟨cellB, hcB, hoB, hclB⟩ := hrecv
  intro T hT X
  obtain ⟨v, vm₁, ⟨U', l2, c2, s2⟩, hW₁, X', ⟨g', mk, t, L, e1, e2, hq, h1, hL, h2, h3⟩, st⟩ := callV X hx (C := C) (bytes := bytes) (maxL := maxL) (ret := ret) ho hl hin hsel hcode hy hK (by rw [hT]; exact hcB) hoB hclB hg (hsize.trans hml.symm) (argsL := As) (rest := rest) hlen2 hstack hW (by rw [hb]; exact hdg)
    (fun vm₁ hW₁ => ⟨hf.1, hf.2, hPc (T.setVm vm₁) hT hW₁⟩)
  dsimp only [Pt.U, Pt.locs, Pt.cells, Pt.slots] at X' e1 e2 h1 h2 h3 st
  subst h1; subst h2; subst h3
  exact ⟨v, (T.setVm vm₁).calling g' mk (Value.ref b :: As).toArray, t, U', L, hT, X', hL, e1, e2, hq, st⟩
theorem tk_rVN (hx : p.tables.exec = Jvm.exec) (hb : c.code = cc) (hml : c.maxLocals = nL) (ho : s.vm.findClass own = some m.cls) (hK : Back l R p e below s args y 3 24 (PreOf R mc ms Pc) (PostOf Qc mc ms free)) (hcode : (Cond.code y bytes maxL ret).before args s = true) (hy : y.cls ≠ "java/lang/invoke/MethodHandle" ∧ y.cls ≠ "java/lang/invoke/VarHandle") (hlen : (parseMethodDescriptor y.desc).map (fun d => d.parameters.length) = some n) (hl : (Cond.methodLinkNest own index y host).before args s = true) (hin : (Cond.instanceMethod y).before args s = true) (hsel : (Cond.selects C y y).before args s = true) (hrecv : ∃ cellB : Cell, H[b]? = some cellB ∧ cellB.vm.isStatics = false ∧ s.vm.findClass C = some cellB.cls) (hPc : ∀ U : State, U.heap = H → s.WarmedH U.vm → Pc (Value.ref b :: As).toArray U)
    (hg : g.method = m) (hn : As.length = n) (hsize : g.locals.size = nL) (hstack : g.stack = As.reverse ++ .ref b :: rest) (hW : 2 * g.monitorRoom + (rest.map fun v => v.category).sum ≤ 24) (hdg : decode cc g.pc = .ok (.invokevirtual index, 3)) (hf : cells + mc ≤ R.cells ∧ slots + ms ≤ R.slots) :
    va_Run p l e R s m args below meth c H locs cells slots mc ms g rest (Qc (Value.ref b :: As).toArray) free := by
  have hlen2 : ∀ sig, parseMethodDescriptor y.desc = some sig → As.length = sig.parameters.length := fun sig h => by
    rw [h] at hlen
    exact hn.trans (Option.some.inj hlen).symm
  obtain ⟨cellB, hcB, hoB, hclB⟩ := hrecv
  intro T hT X
  obtain ⟨v, vm₁, ⟨U', l2, c2, s2⟩, hW₁, X', ⟨g', mk, t, L, e1, e2, hq, h1, hL, h2, h3⟩, st⟩ := va_callVN X hx (C := C) (bytes := bytes) (maxL := maxL) (ret := ret) ho hl hin hsel hcode hy hK (by rw [hT]; exact hcB) hoB hclB hg (hsize.trans hml.symm) (argsL := As) (rest := rest) hlen2 hstack hW (by rw [hb]; exact hdg)
    (fun vm₁ hW₁ => ⟨hf.1, hf.2, hPc (T.setVm vm₁) hT hW₁⟩)
  dsimp only [Pt.U, Pt.locs, Pt.cells, Pt.slots] at X' e1 e2 h1 h2 h3 st
  subst h1; subst h2; subst h3
  exact ⟨v, (T.setVm vm₁).calling g' mk (Value.ref b :: As).toArray, t, U', L, hT, X', hL, e1, e2, hq, st⟩
end TKRUN
section TKE
variable {p : Program} {l : Launch} {e : Env} {R : Room} {s : State} {m : MethodId} {args : Array Value} {below : List Frame} {meth : Method} {c : Code} {H : Heap} {locs : List Loc} {cells slots : Nat} {Q : State → Prop}
variable {pc : Nat} {B0 : Nat} {ex : Nat → Nat} {dA dC : Nat → ClassId} {dI : Nat → Nat → Nat} {sc : tk_X}
theorem tk_go {ls : Array Slot} {st0 rest : List Value} {mc ms : Nat} {r : Option Value} {M1 : tk_M} {a : Array Value} (hr : va_Run p l e R s m args below meth c H locs cells slots mc ms (F0 m pc ls st0) rest (tk_Qc B0 ex dA dC dI r M1 a) (fun q => B0 ≤ q)) (hS : va_S (fun q => B0 ≤ q) s.heap H locs)
    (kk : ∀ (H1 : Heap) (locs1 : List Loc), tk_rep B0 (tk_ad B0 ex) dA dC dI M1 H1 → va_S (fun q => B0 ≤ q) s.heap H1 locs1 → W p l e R s m args below meth c H1 locs1 (cells + mc) (slots + ms) Q (F0 m (pc + 3) ls ((r.map (tk_cv (tk_ad B0 ex))).toList ++ rest))) : W p l e R s m args below meth c H locs cells slots Q (F0 m pc ls st0) := by
  intro T hT X
  obtain ⟨v, st₀, t, T', L, h0, X', hL, e1, e2, ⟨hv, hrep, hz, hk⟩, st⟩ := hr T hT X
  cases hv
  rw [h0] at hz hk
  obtain ⟨t2, a1, b1⟩ := kk T'.heap (locs ++ L) (by rw [e1]; exact hrep) ⟨Nat.le_trans hS.1 (by rw [e1]; exact hz), fun q h1 h2 => by rw [e1, hk q (Nat.lt_of_lt_of_le h1 hS.1) h2]; exact hS.2.1 q h1 h2, fun q hq => by
      rcases List.mem_append.mp hq with h | h
      · exact hS.2.2 q h
      · exact hL q h⟩ T' rfl X'
  exact ⟨t2, st t2 a1, b1⟩
theorem tk_sum (ad : Nat → Nat) (l : List Value) : ((l.map (tk_cv ad)).map fun v => v.category).sum = (l.map fun v => v.category).sum := by
  rw [List.map_map, show ((fun v : Value => v.category) ∘ tk_cv ad) = (fun v => v.category) from funext fun v => tk_cv_cat _ v]
theorem tk_pre {as : List Value} {M : tk_M} (hK : va_K (dC, dI) vwCl (tk_tys dA) s) (hex : tk_exs B0 ex sc s s.heap) (hKx : tk_Kx dA s) (hrep : tk_rep B0 (tk_ad B0 ex) dA dC dI M H) (hS : va_S (fun q => B0 ≤ q) s.heap H locs) :
    ∀ U : State, U.heap = H → s.WarmedH U.vm → tk_Pc B0 ex dA dC dI sc as M (as.map (tk_cv (tk_ad B0 ex))).toArray U := fun U hU hW =>
  ⟨rfl, by rw [hU]; exact hrep, va_K.moved hW.alike hK, tk_exs_moved hW.alike (by rw [hU]; exact tk_exs_kept hex (fun a h1 h2 => hS.2.1 a h1 h2)), tk_Kx_moved hW hKx⟩
/-- a call, by the callee's contract -/
theorem tk_callS {own : String} {cc : ByteArray} {E : tk_E} {st as rest : List Value} {d nL : Nat} {M M1 : tk_M} {v : Option Value} {mr' : tk_R} {lsA : Array Slot}
    (hx : p.tables.exec = Jvm.exec) (hb : c.code = cc) (hml : c.maxLocals = nL) (hown : s.vm.findClass own = some m.cls) (hts : ∀ w ∈ tk_tbl, w.before args s = true) (hK : va_K (dC, dI) vwCl (tk_tys dA) s) (hex : tk_exs B0 ex sc s s.heap) (hKx : tk_Kx dA s)
    (hd : decode cc pc = .ok (E.1, tk_ln pc E.1)) (hsort : tk_sort E = 2) (hokC : tk_okC E = true) (hw : ∀ w ∈ tk_cw own E, w ∈ tk_tbl) (hmr : tk_mt[E.2.2.1]? = some mr') (hN : tk_okN mr')
    (hinv : tk_inv E st M = some (as, rest)) (hsum : (rest.map fun v => v.category).sum ≤ 24) (hRf : d + 1 ≤ R.frames) (hRl : 100 * (d + 1) ≤ R.locals)
    (hM : Met l mr'.1 (Cond.code mr'.1 mr'.2.1 mr'.2.2.1 mr'.2.2.2.1 :: tk_tb) (tk_rm d (M1.1 - M.1) (tk_ss M1.1 - tk_ss M.1)) (tk_Pc B0 ex dA dC dI sc as M) (tk_Qc B0 ex dA dC dI v M1) (M1.1 - M.1) (tk_ss M1.1 - tk_ss M.1) (fun q => B0 ≤ q))
    (hrep : tk_rep B0 (tk_ad B0 ex) dA dC dI M H) (hS : va_S (fun q => B0 ≤ q) s.heap H locs) (hls : lsA.size = nL)
    (hf : cells + (M1.1 - M.1) ≤ R.cells ∧ slots + (tk_ss M1.1 - tk_ss M.1) ≤ R.slots)
    (kk : ∀ (H1 : Heap) (locs1 : List Loc), tk_rep B0 (tk_ad B0 ex) dA dC dI M1 H1 → va_S (fun q => B0 ≤ q) s.heap H1 locs1 → W p l e R s m args below meth c H1 locs1 (cells + (M1.1 - M.1)) (slots + (tk_ss M1.1 - tk_ss M.1)) Q (F0 m (pc + 3) lsA ((v.map (tk_cv (tk_ad B0 ex))).toList ++ rest.map (tk_cv (tk_ad B0 ex))))) :
    W p l e R s m args below meth c H locs cells slots Q (F0 m pc lsA (st.map (tk_cv (tk_ad B0 ex)))) := by
  have hG : GoodIn tk_tbl (Cond.code mr'.1 mr'.2.1 mr'.2.2.1 mr'.2.2.2.1 :: tk_tb) := fun w h => by
    have h1 : w ∈ tk_tb := by
      rcases List.mem_cons.mp h with rfl | h
      · exact hN.2.2.2.1
      · exact h
    obtain ⟨h2, h3⟩ := List.mem_filter.mp h1
    exact ⟨List.mem_filter.mpr ⟨h2, by simp [tk_useful, h3]⟩, good_of_word h3⟩
  have hR : (tk_rm d (M1.1 - M.1) (tk_ss M1.1 - tk_ss M.1)).frames + 1 ≤ R.frames ∧ 24 + (mr'.2.2.1 + 11) + (tk_rm d (M1.1 - M.1) (tk_ss M1.1 - tk_ss M.1)).locals ≤ R.locals := by
    refine ⟨hRf, ?_⟩
    have := hN.2.2.1
    show 24 + (mr'.2.2.1 + 11) + 100 * d ≤ R.locals
    omega
  have hsum' : 2 * (F0 m pc lsA (st.map (tk_cv (tk_ad B0 ex)))).monitorRoom + ((rest.map (tk_cv (tk_ad B0 ex))).map fun v => v.category).sum ≤ 24 := by
    rw [tk_sum]
    show 2 * 0 + _ ≤ 24
    omega
  have hcode0 : (Cond.code mr'.1 mr'.2.1 mr'.2.2.1 mr'.2.2.2.1).before args s = true := hts _ (hG _ List.mem_cons_self).1
  obtain ⟨ins, nx, a, b, k3, z, kp⟩ := E
  dsimp only at hd hmr
  have hbk : ∀ hini : (Cond.initialized mr'.1.cls).before args s = true, Back l R p e below s args mr'.1 3 24 (PreOf R (M1.1 - M.1) (tk_ss M1.1 - tk_ss M.1) (tk_Pc B0 ex dA dC dI sc as M)) (PostOf (tk_Qc B0 ex dA dC dI v M1) (M1.1 - M.1) (tk_ss M1.1 - tk_ss M.1) (fun q => B0 ≤ q)) := fun hini =>
    back_of (bytes := mr'.2.1) (maxL := mr'.2.2.1) (ret := mr'.2.2.2.1) hM tk_blind rfl rfl hR.1 hR.2 (pay_in hts hG) List.mem_cons_self (fun a' U hW => word_at hW (Or.inl (by first | rfl | simp [Cond.onTables, Cond.keeps, Cond.steady])) hini)
  cases ins <;> try (cases hsort; done)
  case invokestatic i =>
    have h9 : k3 ≠ 9 := by
      intro q
      subst q
      cases hsort
    simp only [tk_inv] at hinv
    split at hinv
    · rename_i hlen
      cases hinv
      simp only [tk_okC, h9, if_false, hmr, decide_eq_true_eq] at hokC
      simp only [tk_cw, h9, if_false, hmr] at hw
      have hst : (st.map (tk_cv (tk_ad B0 ex))) = (((st.take b).reverse).map (tk_cv (tk_ad B0 ex))).reverse ++ (st.drop b).map (tk_cv (tk_ad B0 ex)) := by
        rw [← List.map_reverse, List.reverse_reverse, ← List.map_append, List.take_append_drop]
      have hna : (((st.take b).reverse).map (tk_cv (tk_ad B0 ex))).length = b := by simp; omega
      by_cases h0 : k3 = 0
      · refine tk_go (tk_rS hx hb hml hown (hbk (hts _ (hw _ (List.mem_cons_of_mem _ (List.mem_cons_of_mem _ List.mem_cons_self))))) hcode0 hN.2.2.2.2 hokC (hts _ (hw (.methodLink own i mr'.1) (by simp [tk_nest, h0]))) (hts _ (hw _ (List.mem_cons_of_mem _ List.mem_cons_self))) (hts _ (hw _ (List.mem_cons_of_mem _ (List.mem_cons_of_mem _ List.mem_cons_self)))) (tk_pre hK hex hKx hrep hS) rfl hna hls hst hsum' hd hf) hS kk
      · refine tk_go (tk_rSN hx hb hml hown (hbk (hts _ (hw _ (List.mem_cons_of_mem _ (List.mem_cons_of_mem _ List.mem_cons_self))))) hcode0 hN.2.2.2.2 hokC (hts _ (hw (.methodLinkNest own i mr'.1 "ThreeTouched") (by simp [tk_nest, h0]))) (hts _ (hw _ (List.mem_cons_of_mem _ List.mem_cons_self))) (hts _ (hw _ (List.mem_cons_of_mem _ (List.mem_cons_of_mem _ List.mem_cons_self)))) (tk_pre hK hex hKx hrep hS) rfl hna hls hst hsum' hd hf) hS kk
    · cases hinv
  case invokespecial i =>
    have h9 : k3 ≠ 9 := by
      intro q
      subst q
      cases hsort
    simp only [tk_inv] at hinv
    split at hinv
    · rename_i hlen
      split at hinv
      · rename_i r rest' hdr
        split at hinv
        · rename_i hO
          cases hinv
          simp only [tk_okC, h9, if_false, hmr, Bool.and_eq_true, decide_eq_true_eq] at hokC
          obtain ⟨⟨⟨ho1, ho2⟩, ho3⟩, ho4⟩ := hokC
          simp only [tk_cw, h9, if_false, hmr] at hw
          have hst : (st.map (tk_cv (tk_ad B0 ex))) = (((st.take b).reverse).map (tk_cv (tk_ad B0 ex))).reverse ++ .ref (tk_ad B0 ex r) :: rest.map (tk_cv (tk_ad B0 ex)) := by
            conv => lhs; rw [← List.take_append_drop b st, hdr]
            rw [← List.map_reverse, List.reverse_reverse, List.map_append]
            rfl
          have hna : (((st.take b).reverse).map (tk_cv (tk_ad B0 ex))).length = b := by simp; omega
          rw [ho3] at hcode0
          by_cases h0 : k3 = 0
          · refine tk_go (tk_rI hx hb hml hown (hbk (hts _ (hw _ (List.mem_cons_of_mem _ (List.mem_cons_of_mem _ List.mem_cons_self))))) hcode0 hN.2.2.2.2 ho1 (hts _ (hw (.methodLink own i mr'.1) (by simp [tk_nest, h0]))) ho2 (hts _ (hw _ (List.mem_cons_of_mem _ List.mem_cons_self))) (tk_pre hK hex hKx hrep hS) rfl hna hls hst hsum' hd hf) hS kk
          · refine tk_go (tk_rIN hx hb hml hown (hbk (hts _ (hw _ (List.mem_cons_of_mem _ (List.mem_cons_of_mem _ List.mem_cons_self))))) hcode0 hN.2.2.2.2 ho1 (hts _ (hw (.methodLinkNest own i mr'.1 "ThreeTouched") (by simp [tk_nest, h0]))) ho2 (hts _ (hw _ (List.mem_cons_of_mem _ List.mem_cons_self))) (tk_pre hK hex hKx hrep hS) rfl hna hls hst hsum' hd hf) hS kk
        · cases hinv
      · cases hinv
    · cases hinv
  case invokevirtual i =>
    simp only [tk_inv] at hinv
    split at hinv
    · rename_i hlen
      split at hinv
      · rename_i r rest' hdr
        split at hinv
        · rename_i hO
          cases hinv
          simp only [tk_okC, hmr, Bool.and_eq_true, decide_eq_true_eq] at hokC
          obtain ⟨ho1, ho4⟩ := hokC
          simp only [tk_cw, hmr] at hw
          have hst : (st.map (tk_cv (tk_ad B0 ex))) = (((st.take b).reverse).map (tk_cv (tk_ad B0 ex))).reverse ++ .ref (tk_ad B0 ex r) :: rest.map (tk_cv (tk_ad B0 ex)) := by
            conv => lhs; rw [← List.take_append_drop b st, hdr]
            rw [← List.map_reverse, List.reverse_reverse, List.map_append]
            rfl
          have hna : (((st.take b).reverse).map (tk_cv (tk_ad B0 ex))).length = b := by simp; omega
          obtain ⟨hr, hlay⟩ := tk_isO_iff hO
          have hrecv : ∃ cellB : Cell, H[tk_ad B0 ex r]? = some cellB ∧ cellB.vm.isStatics = false ∧ s.vm.findClass mr'.1.cls = some cellB.cls := by
            have hat := hrep.1 r hr
            rw [tk_cell_o hlay] at hat
            obtain ⟨g1, -⟩ := tk_cls z.toNat (tk_tagO hlay)
            rw [g1] at ho4
            have h5 := va_recv hK (tk_P1 hat) (ci := z.toNat) (q0 := 0) g1 rfl
            rw [tk_adO (tk_lt hr hrep)]
            rw [← Option.some.inj ho4]
            exact h5
          have hsel : (Cond.selects mr'.1.cls mr'.1 mr'.1).before args s = true := hts _ (hw _ (List.mem_cons_of_mem _ (List.mem_cons_of_mem _ List.mem_cons_self)))
          have hins : (Cond.instanceMethod mr'.1).before args s = true := hts _ (hw _ (List.mem_cons_of_mem _ List.mem_cons_self))
          have hini : (Cond.initialized mr'.1.cls).before args s = true := hts _ (hw _ (List.mem_cons_of_mem _ (List.mem_cons_of_mem _ (List.mem_cons_of_mem _ List.mem_cons_self))))
          by_cases h0 : k3 = 0
          · refine tk_go (tk_rV hx hb hml hown (hbk hini) hcode0 hN.2.2.2.2 ho1 (hts _ (hw (.methodLink own i mr'.1) (by simp [tk_nest, h0]))) hins hsel hrecv (tk_pre hK hex hKx hrep hS) rfl hna hls hst hsum' hd hf) hS kk
          · refine tk_go (tk_rVN hx hb hml hown (hbk hini) hcode0 hN.2.2.2.2 ho1 (hts _ (hw (.methodLinkNest own i mr'.1 "ThreeTouched") (by simp [tk_nest, h0]))) hins hsel hrecv (tk_pre hK hex hKx hrep hS) rfl hna hls hst hsum' hd hf) hS kk
        · cases hinv
      · cases hinv
    · cases hinv
end TKE
theorem tk_ofW {l : Launch} {y : MethodName} {ws ws' : List Cond} {rm : Room} {Pc : Array Value → State → Prop} {Qc : Array Value → State → Outcome → State → Prop} {mc ms : Nat} {free : Addr → Prop} {cc : ByteArray} {maxL : Nat} {ret : Option FieldType}
    (hy : plainFor y = true) (hw : ws = Cond.code y cc maxL ret :: ws')
    (body : ∀ p e s m args below meth c s₁, BodyLoose p l y (headSpec ws rm) cc maxL ret e s m args below meth c s₁ → c.maxLocals = maxL → Pc args s →
      W p l e (headSpec ws rm).room s m args below meth c s.heap [] 0 0 (MQ below Qc args s mc ms free) (entryFrame m args maxL)) : Met l y ws rm Pc Qc mc ms free := by
  refine MetFree.of_bodySF (code := cc) (maxLocals := maxL) (ret := ret) hy ?_ ?_
  · intro args s m h hn
    obtain ⟨meth, c, h1, h2, h3, h4, h5, h6, -, -⟩ := Cond.code_spec hn (atoms_spec (ws := ws) h _ (by rw [hw]; exact List.mem_cons_self))
    exact ⟨meth, c, h1, h2, h3, h4, h5, h6⟩
  · intro p e s m args below meth c s₁ B hml hP _
    have hh0 : s₁.heap = s.heap := by rw [B.state]; rfl
    obtain ⟨t, a1, o, b1, b2, b3⟩ := body p e s m args below meth c s₁ B hml hP s₁ hh0 (Stand.of_body B)
    exact ⟨t, o, a1, b1, b2, ⟨b3.1, b3.2⟩⟩
