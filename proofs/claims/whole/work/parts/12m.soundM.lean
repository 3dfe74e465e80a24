/-! ===== arrays of arrays ===== -/
section TKM
variable {p : Program} {l : Launch} {e : Env} {R : Room} {s : State} {m : MethodId} {args : Array Value} {below : List Frame} {meth : Method} {c : Code} {H : Heap} {locs : List Loc} {cells slots : Nat} {Q : State → Prop}
variable {cc : ByteArray} {pc : Nat} {B0 : Nat} {ex : Nat → Nat} {dA dC : Nat → ClassId} {dI : Nat → Nat → Nat} {sc : tk_X} {own nm : String} {E : tk_E} {st st' : List Value} {M M' : tk_M} {lsA : Array Slot}
/-- where the machine stands while arrays of arrays are made -/
def tk_Iv (p : Program) (l : Launch) (e : Env) (R : Room) (s : State) (m : MethodId) (args : Array Value) (below : List Frame) (meth : Method) (c : Code) (B0 : Nat) (ex : Nat → Nat) (dA dC : Nat → ClassId) (dI : Nat → Nat → Nat) (g2 : JFrame) (cells slots np0 : Nat) (M : tk_M) (S : State) : Prop :=
  ∃ (T : State) (L : List Loc), S = T.setTop g2 ∧ Stand p l e R s m args below meth c T L (cells + (M.1 - np0)) (slots + (tk_ss M.1 - tk_ss np0)) ∧ tk_rep B0 (tk_ad B0 ex) dA dC dI M T.heap ∧ va_S (fun q => B0 ≤ q) s.heap T.heap L ∧ np0 ≤ M.1
def tk_IN (p : Program) (l : Launch) (e : Env) (R : Room) (s : State) (m : MethodId) (args : Array Value) (below : List Frame) (meth : Method) (c : Code) (B0 : Nat) (ex : Nat → Nat) (dA dC : Nat → ClassId) (dI : Nat → Nat → Nat) (g2 : JFrame) (cells slots np0 : Nat) (inner : tk_M → Option tk_M) (cid : ClassId) (dims : List Int32) : Prop :=
  ∀ (M M' : tk_M) (S : State) (d : Bool) (acts : List Action) (E : CtlPost) (Q : Addr → Pre), inner M = some M' → tk_Iv p l e R s m args below meth c B0 ex dA dC dI g2 cells slots np0 M S → cells + (M'.1 - np0) ≤ R.cells → slots + (tk_ss M'.1 - tk_ss np0) ≤ R.slots →
    (∀ (S' : State) (d' : Bool) (acts' : List Action), tk_Iv p l e R s m args below meth c B0 ex dA dC dI g2 cells slots np0 M' S' → Q (B0 + M.1) d' acts' S') → wp (multianewarray.make cid dims) Q E e d acts S
theorem tk_kindOf {t : Nat} (hK : va_K (dC, dI) vwCl (tk_tys dA) s) (ht : t < 12) {T : State} (hal : s.vm.Alike T.vm) : ∃ (k : Class) (comp : ClassId), T.vm.classes[dA t]? = some k ∧ k.kind = .array comp (tk_at.getD t .int) := by
  obtain ⟨-, k, hk, comp, hkind⟩ := (hK.2 t _ (tk_tys_get dA ht)).1 0 (fun _ => .null)
  obtain ⟨k', hk', he⟩ := hal.2.2 _ _ hk
  exact ⟨k', comp, hk', by rw [he]; exact hkind⟩
theorem tk_IN_push {g2 : JFrame} {np0 t n : Nat} {dv : Value} {T : State} {L : List Loc} (X : Stand p l e R s m args below meth c T L (cells + (M.1 - np0)) (slots + (tk_ss M.1 - tk_ss np0))) (hrep : tk_rep B0 (tk_ad B0 ex) dA dC dI M T.heap) (hS : va_S (fun q => B0 ≤ q) s.heap T.heap L) (hle : np0 ≤ M.1) (hlay : tk_lay[M.1]? = some (.inr (t, n)))
    (hdv : ∀ k, dv = tk_cv (tk_ad B0 ex) (tk_gf (tk_tkd t) (tk_new M) M.1 k)) : tk_Iv p l e R s m args below meth c B0 ex dA dC dI g2 cells slots np0 (tk_new M) ((T.setTop g2).pushCell { cls := dA t, slots := Array.replicate n dv, vm := .none }) := by
  have hlt : M.1 < tk_lay.length := (List.getElem?_eq_some_iff.mp hlay).1
  have hsz : T.heap.size = B0 + M.1 := hrep.2.1 hlt
  have hss : tk_ss (M.1 + 1) = tk_ss M.1 + n := tk_ss_succ hlay
  have hmo := tk_ss_mono hle
  have X1 := X.pushed ({ cls := dA t, slots := Array.replicate n dv, vm := .none } : Cell)
  have hH : (T.pushCell ({ cls := dA t, slots := Array.replicate n dv, vm := .none } : Cell)).heap = T.heap.push ({ cls := dA t, slots := Array.replicate n dv, vm := .none } : Cell) := rfl
  have z1 : (T.heap.push ({ cls := dA t, slots := Array.replicate n dv, vm := .none } : Cell)).size = B0 + M.1 + 1 := by rw [Array.size_push, hsz]
  have o1 : ∀ q : Nat, q < B0 + M.1 → (T.heap.push ({ cls := dA t, slots := Array.replicate n dv, vm := .none } : Cell))[q]? = T.heap[q]? := fun q hq => by rw [Array.getElem?_push, if_neg (by omega)]
  refine ⟨T.pushCell { cls := dA t, slots := Array.replicate n dv, vm := .none }, L, ?_, ?_, ?_, ?_, Nat.le_trans hle (Nat.le_succ _)⟩
  · rw [State.pushCell_setTop]
  · have e1 : cells + ((tk_new M).1 - np0) = cells + (M.1 - np0) + 1 := by show cells + (M.1 + 1 - np0) = _; omega
    have e2 : slots + (tk_ss (tk_new M).1 - tk_ss np0) = slots + (tk_ss M.1 - tk_ss np0) + (Array.replicate n dv).size := by
      show slots + (tk_ss (M.1 + 1) - tk_ss np0) = _
      rw [Array.size_replicate]
      omega
    rw [e1, e2]
    exact X1
  · rw [hH]
    refine tk_rep_new hrep hlt ?_ o1 z1
    rw [tk_cell_a hlay]
    show (T.heap.push _)[B0 + M.1]? = some (vp_cell (dA t) (n, tk_arr (tk_ad B0 ex) (tk_new M) t M.1))
    rw [tk_vcell, ← hsz, Array.getElem?_push_size, arrV_new]
    congr 2
    funext k
    exact hdv k
  · rw [hH]
    exact ⟨Nat.le_trans hS.1 (by omega), fun x h1 h2 => (o1 x (by have := hS.1; omega)).trans (hS.2.1 x h1 h2), hS.2.2⟩
theorem tk_lims {T : State} {L : List Loc} {c1 s1 n : Nat} {ty : FieldType} (X : Stand p l e R s m args below meth c T L c1 s1) (hn : n ≤ 100000) : ¬ n > e.platform.arrayLengthLimit ∧ ¬ n * componentBytes ty > e.platform.maxHeapBytes := by
  have hcb : componentBytes ty ≤ 8 := by cases ty <;> exact Nat.le_of_ble_eq_true rfl
  have hmul : n * componentBytes ty ≤ n * 8 := Nat.mul_le_mul_left _ hcb
  refine ⟨by rw [Launch.admits_arrayLengthLimit X.admits]; omega, by rw [Launch.admits_maxHeapBytes X.admits]; omega⟩
theorem tk_dfit : ∀ t, t < 3 → fits (tk_at.getD t .int) (defaultValue (tk_at.getD t .int)) = true := by decide
theorem tk_nfit {ty : FieldType} (h : ty.isReference = true) : fits ty .null = true := by cases ty <;> simp [FieldType.isReference] at h <;> rfl
theorem tk_rfit {ty : FieldType} (h : ty.isReference = true) {a : Addr} : fits ty (.ref a) = true := by cases ty <;> simp [FieldType.isReference] at h <;> rfl
theorem tk_instr_ex {tb : Tables} [Ours tb] {e : Env} {below : List Frame} {s : State} {f : JFrame} {c : Code} {P : State → Prop} {i : Instr} {len : Nat} (h : At s f.method c below) (hdec : decode c.code f.pc = .ok (i, len))
    (hw : wpRun (tb.exec i) (fun _ s₁ _ => ∀ acts, ∃ t, Steps tb e below (afterInstr e len (.ok () s₁ acts)).1 t ∧ P t) (fun _ _ _ => False) e (s.setTop f)) : ∃ t, Steps tb e below (s.setTop f) t ∧ P t := by
  have hw2 := (wpRun_iff_run _ _ _ _ _).mp hw
  cases hr : (tb.exec i).run e (s.setTop f) with
  | ok a s₁ acts =>
    rw [hr] at hw2
    obtain ⟨t, h1, h2⟩ := hw2 acts
    refine ⟨t, Steps.instr h ?_, h2⟩
    rw [hdec]
    refine (wpRun_iff_run _ _ _ _ _).mpr ?_
    rw [hr]
    intro acts'
    exact h1
  | ctl x s₁ acts =>
    rw [hr] at hw2
    cases x <;> exact hw2.elim
theorem tk_IN_row {g2 : JFrame} {np0 t : Nat} {k : Int32} (hK : va_K (dC, dI) vwCl (tk_tys dA) s) (ht : t < 3) (hk0 : ¬ k < 0) (hk : k.toNatClampNeg ≤ 100000) : tk_IN p l e R s m args below meth c B0 ex dA dC dI g2 cells slots np0 (tk_mrow t k.toNatClampNeg) (dA t) [k] := by
  intro M M' S d acts E Q h hI hc1 hc2 hq
  unfold tk_mrow at h
  split at h
  · rename_i hlay
    cases h
    obtain ⟨T, L, rfl, X, hrep, hS, hle⟩ := hI
    have hlt : M.1 < tk_lay.length := (List.getElem?_eq_some_iff.mp hlay).1
    have hsz : T.heap.size = B0 + M.1 := hrep.2.1 hlt
    have hss : tk_ss (M.1 + 1) = tk_ss M.1 + k.toNatClampNeg := tk_ss_succ hlay
    have hmo := tk_ss_mono hle
    obtain ⟨kA, comp, hkA, hkind⟩ := tk_kindOf hK (show t < 12 by omega) X.warmed.alike
    obtain ⟨hl1, hl2⟩ := tk_lims (ty := tk_at.getD t .int) X hk
    obtain ⟨hr1, hr2⟩ := X.roomAbove (a := 1) (b := k.toNatClampNeg) (by have : (tk_new M).1 = M.1 + 1 := rfl; omega) (by have : tk_ss (tk_new M).1 = tk_ss M.1 + k.toNatClampNeg := hss; omega)
    have hkA' : (T.setTop g2).vm.classes[dA t]? = some kA := hkA
    rw [multianewarray.make]
    simp only [wp_bind', W.ite, hk0, if_false, wp_pure', W.theClass, hkA', hkind, Option.some.injEq, exists_eq_left']
    refine W.newArray_of hkA' hkind hl1 hl2 (by show T.heap.size < _; omega) (by show T.slotsUsed + _ ≤ _; omega) (tk_dfit t ht) (fun acts' => ?_)
    show Q (T.setTop g2).heap.size d acts' _
    rw [show (T.setTop g2).heap.size = B0 + M.1 from hsz]
    exact hq _ _ _ (tk_IN_push X hrep hS hle hlay (fun k => tk_dv (tk_ktkd t ht) (by unfold tk_tkd; split <;> omega)))
  · cases h
theorem tk_IN_outer {g2 : JFrame} {np0 t : Nat} {n : Int32} {inner : tk_M → Option tk_M} {dims : List Int32} (hK : va_K (dC, dI) vwCl (tk_tys dA) s) (hKx : tk_Kx dA s) (ht : t < 12) (ht9 : 9 ≤ t) (hn0 : ¬ n < 0) (hn : n.toNatClampNeg ≤ 100000) (hd0 : dims ≠ []) (hneg : dims.find? (· < 0) = none) (hmono : ∀ M M', inner M = some M' → M.1 ≤ M'.1)
    (hin : tk_IN p l e R s m args below meth c B0 ex dA dC dI g2 cells slots np0 inner (dA (tk_sub t)) dims) : tk_IN p l e R s m args below meth c B0 ex dA dC dI g2 cells slots np0 (tk_mouter inner t n.toNatClampNeg) (dA t) (n :: dims) := by
  intro M M' S d acts E Q h hI hc1 hc2 hq
  unfold tk_mouter at h
  split at h
  · cases h
  · rename_i M1 hM1
    have hm1 : M1.1 ≤ M'.1 := tk_mloop_mono hmono _ _ _ _ h
    unfold tk_mrow at hM1
    split at hM1
    · rename_i hlay
      cases hM1
      obtain ⟨T, L, rfl, X, hrep, hS, hle⟩ := hI
      have hlt : M.1 < tk_lay.length := (List.getElem?_eq_some_iff.mp hlay).1
      have hsz : T.heap.size = B0 + M.1 := hrep.2.1 hlt
      have hss : tk_ss (M.1 + 1) = tk_ss M.1 + n.toNatClampNeg := tk_ss_succ hlay
      have hmo := tk_ss_mono hle
      have hmo2 := tk_ss_mono hm1
      have e1 : (tk_new M).1 = M.1 + 1 := rfl
      rw [e1] at hm1 hmo2
      obtain ⟨k0, hk0, hkind0⟩ := hKx.2.2 t ht ht9
      obtain ⟨kA, hkA, he⟩ := X.warmed.alike.2.2 _ _ hk0
      have hkind : kA.kind = .array (dA (tk_sub t)) (tk_at.getD t .int) := by rw [he]; exact hkind0
      obtain ⟨hl1, hl2⟩ := tk_lims (ty := tk_at.getD t .int) X hn
      obtain ⟨hr1, hr2⟩ := X.roomAbove (a := 1) (b := n.toNatClampNeg) (by omega) (by omega)
      have hkA' : (T.setTop g2).vm.classes[dA t]? = some kA := hkA
      have hrt : (tk_at.getD t .int).isReference = true := tk_refT t ht (by omega)
      have htk : tk_tkd t = 3 := if_neg (by omega)
      obtain ⟨dd, ds, rfl⟩ : ∃ dd ds, dims = dd :: ds := by
        cases dims with
        | nil => exact absurd rfl hd0
        | cons a b => exact ⟨a, b, rfl⟩
      rw [multianewarray.make]
      simp only [wp_bind', W.ite, hn0, if_false, wp_pure', W.theClass, hkA', hkind, Option.some.injEq, exists_eq_left']
      refine W.newArray_of hkA' hkind hl1 hl2 (by show T.heap.size < _; omega) (by show T.slotsUsed + _ ≤ _; omega) (tk_nfit hrt) (fun acts' => ?_)
      simp only [hneg]
      rw [ite_self, wp_bind', Std.Legacy.Range.forIn_eq_forIn_range']
      have hszr : ([:n.toNatClampNeg] : Std.Legacy.Range).size = n.toNatClampNeg := by simp [Std.Legacy.Range.size]
      rw [hszr, show (T.setTop g2).heap.size = B0 + M.1 from hsz]
      show wp (forIn (List.range' 0 n.toNatClampNeg 1) PUnit.unit _) _ E e d acts' _
      refine wp_forIn_inv (fun rest S' => ∃ (i : Nat) (Mi : tk_M), i ≤ n.toNatClampNeg ∧ rest = List.range' i (n.toNatClampNeg - i) ∧ tk_mloop inner M.1 (n.toNatClampNeg - i) i Mi = some M' ∧ tk_Iv p l e R s m args below meth c B0 ex dA dC dI g2 cells slots np0 Mi S' ∧ M.1 < Mi.1) _ _ ⟨0, tk_new M, Nat.zero_le _, rfl, h, tk_IN_push X hrep hS hle hlay (fun k => by rw [htk]; exact tk_dv (ty := .object "") (kd := 3) rfl (by decide)), Nat.lt_succ_self _⟩ ?_ ?_
      · rintro x rest S' d' acts2 Q' ⟨i, Mi, hi, hl, hloop, hI2, hgt⟩ hnext
        have hltn : i < n.toNatClampNeg := by
          rcases Nat.lt_or_ge i n.toNatClampNeg with q | q
          · exact q
          · rw [show n.toNatClampNeg - i = 0 from by omega] at hl; simp at hl
        obtain ⟨rfl, hrest⟩ : x = i ∧ rest = List.range' (i + 1) (n.toNatClampNeg - (i + 1)) := by
          rw [show n.toNatClampNeg - i = (n.toNatClampNeg - (i + 1)) + 1 from by omega, List.range'_succ] at hl
          exact ⟨(List.cons.inj hl).1, (List.cons.inj hl).2⟩
        rw [show n.toNatClampNeg - x = (n.toNatClampNeg - (x + 1)) + 1 from by omega] at hloop
        unfold tk_mloop at hloop
        split at hloop
        · cases hloop
        · rename_i M2 hM2
          split at hloop
          · cases hloop
          · rename_i M3 hM3
            have g1 : Mi.1 ≤ M2.1 := hmono _ _ hM2
            have g2' : M2.1 = M3.1 := (tk_pf_np hM3).symm
            have g3 : M3.1 ≤ M'.1 := tk_mloop_mono hmono _ _ _ _ hloop
            have g4 := tk_ss_mono (Nat.le_trans (Nat.le_of_eq g2') g3)
            simp only [wp_bind']
            refine hin Mi M2 S' d' acts2 E _ hM2 hI2 (by omega) (by omega) (fun S2 d2 acts3 hI3 => ?_)
            obtain ⟨T2, L2, rfl, X2, hrep2, hS2, hle2⟩ := hI3
            have hlt2 : M.1 < M2.1 := by omega
            have hat := hrep2.1 M.1 hlt2
            rw [tk_cell_a hlay] at hat
            have hat2 : T2.heap[B0 + M.1]? = some (vp_cell (dA t) (n.toNatClampNeg, tk_arr (tk_ad B0 ex) M2 t M.1)) := hat
            rw [tk_vcell, htk] at hat2
            obtain ⟨kB, hkB, heB⟩ := X2.warmed.alike.2.2 _ _ hk0
            have hkindB : kB.kind = .array (dA (tk_sub t)) (tk_at.getD t .int) := by rw [heB]; exact hkind0
            have hkB' : (T2.setTop g2).vm.classes[dA t]? = some kB := hkB
            have hMi : Mi.1 < 1000 := by
              have h1 := hrep2.2.2
              rw [tk_laylen] at h1
              have h2 : Mi.1 ≤ M2.1 := g1
              omega
            have ead : tk_cv (tk_ad B0 ex) (.ref Mi.1) = .ref (B0 + Mi.1) := by show Value.ref (tk_ad B0 ex Mi.1) = _; rw [tk_adO hMi]
            simp only [wp_bind', W.writeLoc, wp_pure']
            refine ⟨arrV (dA t) n.toNatClampNeg (fun j => tk_cv (tk_ad B0 ex) (tk_gf 3 M2 M.1 j)), hat2, (by intro q; cases q), (by rw [arrV_size]; exact hltn), ?_, hnext _ _ _ ⟨x + 1, M3, hltn, hrest, hloop, ?_, by omega⟩⟩
            · show (T2.setTop g2).fitsSlot (dA t) .none x _ = true
              have hff := tk_rfit (a := B0 + Mi.1) hrt
              simpa [State.fitsSlot, State.slotType?, hkB, hkindB] using hff
            · have Xs := X2.stored hat2 x (.ref (B0 + Mi.1))
              have ho : ∀ q : Nat, q ≠ B0 + M.1 → (T2.setCell (B0 + M.1) ((arrV (dA t) n.toNatClampNeg (fun j => tk_cv (tk_ad B0 ex) (tk_gf 3 M2 M.1 j))).setSlot x (.ref (B0 + Mi.1)))).heap[q]? = T2.heap[q]? := fun q hq => State.heap_setCell_other (Ne.symm hq)
              have hself := State.heap_setCell_self (x := (arrV (dA t) n.toNatClampNeg (fun j => tk_cv (tk_ad B0 ex) (tk_gf 3 M2 M.1 j))).setSlot x (.ref (B0 + Mi.1))) hat2
              have hzz : (T2.setCell (B0 + M.1) ((arrV (dA t) n.toNatClampNeg (fun j => tk_cv (tk_ad B0 ex) (tk_gf 3 M2 M.1 j))).setSlot x (.ref (B0 + Mi.1)))).heap.size = T2.heap.size := size_setCell _ _ _
              refine ⟨T2.setCell (B0 + M.1) ((arrV (dA t) n.toNatClampNeg (fun j => tk_cv (tk_ad B0 ex) (tk_gf 3 M2 M.1 j))).setSlot x (.ref (B0 + Mi.1))), L2 ++ [⟨B0 + M.1, x⟩], ?_, ?_, tk_rep_pf hrep2 hM3 ?_ ho hzz, hS2.put hzz ho (Nat.le_add_right B0 M.1), by omega⟩
              · rw [State.setCell_setTop]
              · rw [← g2']
                exact Xs
              · rw [tk_cell_a hlay]
                show (T2.setCell _ _).heap[B0 + M.1]? = some (vp_cell (dA t) (n.toNatClampNeg, tk_arr (tk_ad B0 ex) M3 t M.1))
                rw [tk_vcell, htk, ← tk_stored (dA t) n.toNatClampNeg hM3, hself, arrV_store, ead]
      · rintro S' d' acts2 ⟨i, Mi, hi, hl, hloop, hI2, hgt⟩
        have hiN : n.toNatClampNeg - i = 0 := by
          rcases Nat.lt_or_ge i n.toNatClampNeg with q | q
          · rw [show n.toNatClampNeg - i = (n.toNatClampNeg - (i + 1)) + 1 from by omega, List.range'_succ] at hl; cases hl
          · omega
        rw [hiN] at hloop
        cases hloop
        simp only [wp_pure']
        exact hq _ _ _ hI2
    · cases hM1
theorem tk_soundM (hx : p.tables.exec = Jvm.exec) (hb : c.code = cc) (hml : c.maxLocals = lsA.size) (hown : s.vm.findClass own = some m.cls) (hts : ∀ w ∈ tk_tbl, w.before args s = true) (hK : va_K (dC, dI) vwCl (tk_tys dA) s) (hKx : tk_Kx dA s)
    (hd : decode cc pc = .ok (E.1, tk_ln pc E.1)) (hn : E.2.1 = pc + tk_ln pc E.1) (hw : ∀ w ∈ tk_hw own E, w ∈ tk_tbl)
    (h : tk_stepM E st M = some (st', M')) (hrep : tk_rep B0 (tk_ad B0 ex) dA dC dI M H) (hS : va_S (fun q => B0 ≤ q) s.heap H locs)
    (hc1 : cells + (M'.1 - M.1) ≤ R.cells) (hc2 : slots + (tk_ss M'.1 - tk_ss M.1) ≤ R.slots)
    (kk : ∀ (H' : Heap) (locs' : List Loc) (c' s' : Nat), c' = cells + (M'.1 - M.1) → s' = slots + (tk_ss M'.1 - tk_ss M.1) → tk_rep B0 (tk_ad B0 ex) dA dC dI M' H' → va_S (fun q => B0 ≤ q) s.heap H' locs' →
      W p l e R s m args below meth c H' locs' c' s' Q (F0 m E.2.1 lsA (st'.map (tk_cv (tk_ad B0 ex))))) :
    W p l e R s m args below meth c H locs cells slots Q (F0 m pc lsA (st.map (tk_cv (tk_ad B0 ex)))) := by
  have hspec : ∀ (i t : Nat), t < 12 → 9 ≤ t → (Cond.classLink own i ("[" ++ (tk_at.getD t .int).toString)).before args s = true → ∀ (T : State), Stand p l e R s m args below meth c T locs cells slots → ∃ vm₁ : Vm, s.WarmedH vm₁ ∧ (Jvm.resolveClass m.cls i).Gives e.toSetting T.vm (.ok (dA t)) vm₁ := by
    intro i t ht ht9 hclink T X
    have hpl : e.platform.magicAccessors = ({} : Platform).magicAccessors := by rw [X.admits.platform]
    obtain ⟨c0, hfc0, hcl⟩ := Cond.classLink_spec hown hclink e.platform hpl
    have hfA : s.vm.findClass ("[" ++ (tk_at.getD t .int).toString) = some (dA t) := by
      have hRA := (hK.2 t _ (tk_tys_get dA ht)).2
      have : ∀ q, q < 12 → 9 ≤ q → ∃ u, tk_at.getD q .int = .array u := by
        intro q h1 h2
        rcases (show q = 9 ∨ q = 10 ∨ q = 11 by omega) with rfl | rfl | rfl
        · exact ⟨_, rfl⟩
        · exact ⟨_, rfl⟩
        · exact ⟨_, rfl⟩
      obtain ⟨u, hu⟩ := this t ht ht9
      simp only [hu] at hRA ⊢
      exact hRA
    cases hfA.symm.trans hfc0
    obtain ⟨hg₁, hwarm₁, -⟩ := State.classEntry (e := e) X.warmed hcl
    exact ⟨_, hwarm₁, hg₁⟩
  obtain ⟨ins, nx, a, b, k3, z, kp⟩ := E
  dsimp only at hd hn kk
  subst hn
  cases ins <;> try (cases h; done)
  case multianewarray i dm =>
    have hcl : (Cond.classLink own i ("[" ++ (tk_at.getD a .int).toString)).before args s = true := hts _ (hw _ List.mem_cons_self)
    match dm, h, hd, hcl with
    | 2, hq, hdq, hclq =>
      simp only [tk_stepM] at hq
      split at hq
      · rename_i k n s2
        split at hq
        · rename_i hi
          obtain ⟨hn0, hk0, hnl, hkl⟩ := hi
          -- which arrays
          have hcase : ∃ t0, t0 < 3 ∧ (a = 9 ∧ t0 = 0 ∨ a = 10 ∧ t0 = 1) ∧ (tk_mouter (tk_mrow t0 k.toNatClampNeg) a n.toNatClampNeg M).map (fun M' => (.ref M.1 :: s2, M')) = some (st', M') := by
            split at hq
            · exact ⟨0, by decide, Or.inl ⟨rfl, rfl⟩, hq⟩
            · exact ⟨1, by decide, Or.inr ⟨rfl, rfl⟩, hq⟩
            · cases hq
          obtain ⟨t0, ht0, hat0, hq2⟩ := hcase
          have ha9 : 9 ≤ a := by omega
          have ha12 : a < 12 := by omega
          have hsub : tk_sub a = t0 := by rcases hat0 with ⟨rfl, rfl⟩ | ⟨rfl, rfl⟩ <;> rfl
          cases hmo : tk_mouter (tk_mrow t0 k.toNatClampNeg) a n.toNatClampNeg M with
          | none => rw [hmo] at hq2; cases hq2
          | some M1 =>
            rw [hmo] at hq2
            cases hq2
            have hM0 : M.1 < 1000 := by
              have := hrep.2.2
              rw [tk_laylen] at this
              omega
            intro T hT X
            obtain ⟨vm₁, hwarm₁, hg₁⟩ := hspec i a ha12 ha9 hclq T X
            have X₁ := X.noted hwarm₁
            refine tk_instr_ex (i := .multianewarray i 2) (len := 4) (by simpa using X.here) (by rw [hb]; exact hdq) ?_
            rw [hx]
            show wp (multianewarray.sem i 2) _ _ e false [] _
            simp only [multianewarray.sem, wp_bind', W.resolveClassAt_links (State.method?_setTop (F0 m pc lsA ((Value.int k :: Value.int n :: s2).map (tk_cv (tk_ad B0 ex)))) X.here.top) hg₁]
            rw [W.popN, if_neg (by decide)]
            refine ⟨F0 m pc lsA ((Value.int k :: Value.int n :: s2).map (tk_cv (tk_ad B0 ex))), State.topJava?_setTop' (s := T.setVm vm₁) _ X.here.top, [.int n, .int k], s2.map (tk_cv (tk_ad B0 ex)), rfl, rfl, ?_⟩
            simp only [List.mapM_cons, List.mapM_nil, wp_bind', wp_pure']
            have eS : ((T.setTop (F0 m pc lsA ((Value.int k :: Value.int n :: s2).map (tk_cv (tk_ad B0 ex))))).setVm vm₁).setTop (F0 m pc lsA (s2.map (tk_cv (tk_ad B0 ex)))) = (T.setVm vm₁).setTop (F0 m pc lsA (s2.map (tk_cv (tk_ad B0 ex)))) := by
              show ((T.setVm vm₁).setTop _).setTop _ = _
              rw [State.setTop_setTop]
            have hIv : tk_Iv p l e R s m args below meth c B0 ex dA dC dI (F0 m pc lsA (s2.map (tk_cv (tk_ad B0 ex)))) cells slots M.1 M ((T.setVm vm₁).setTop (F0 m pc lsA (s2.map (tk_cv (tk_ad B0 ex))))) := ⟨T.setVm vm₁, locs, rfl, by simpa using X₁, by show tk_rep B0 (tk_ad B0 ex) dA dC dI M T.heap; rw [hT]; exact hrep, by show va_S _ s.heap T.heap locs; rw [hT]; exact hS, Nat.le_refl _⟩
            have hIN : tk_IN p l e R s m args below meth c B0 ex dA dC dI (F0 m pc lsA (s2.map (tk_cv (tk_ad B0 ex)))) cells slots M.1 (tk_mouter (tk_mrow t0 k.toNatClampNeg) a n.toNatClampNeg) (dA a) [n, k] := tk_IN_outer hK hKx ha12 ha9 hn0 hnl (by simp) (by simp [hk0]) (fun _ _ e => tk_mrow_mono e) (by rw [hsub]; exact tk_IN_row hK ht0 hk0 hkl)
            refine hIN M M' _ _ _ _ _ hmo (by rw [← eS] at hIv; exact hIv) hc1 hc2 (fun S' d' acts' hI => ?_)
            obtain ⟨T', L', rfl, X', hrep', hS', -⟩ := hI
            simp only [wp_bind', W.mark, W.pushRef, State.topJava?_setTop' _ X'.here.top, Option.some.injEq, exists_eq_left', State.setTop_setTop, State.heap_setTop, wp_pure']
            intro acts
            rw [afterInstr_ok]
            have e9 : tk_cv (tk_ad B0 ex) (.ref M.1) = .ref (B0 + M.1) := by show Value.ref (tk_ad B0 ex M.1) = _; rw [tk_adO hM0]
            have kk' := kk T'.heap L' _ _ rfl rfl hrep' hS'
            rw [List.map_cons, e9] at kk'
            exact kk' T' rfl X'
        · cases hq
      · cases hq
    | 3, hq, hdq, hclq =>
      simp only [tk_stepM] at hq
      split at hq
      · rename_i k2 k1 n s2
        split at hq
        · rename_i hi
          obtain ⟨hn0, hk10, hk20, hnl, hk1l, hk2l, rfl⟩ := hi
          cases hmo : tk_mouter (tk_mouter (tk_mrow 1 k2.toNatClampNeg) 10 k1.toNatClampNeg) 11 n.toNatClampNeg M with
          | none => rw [hmo] at hq; cases hq
          | some M1 =>
            rw [hmo] at hq
            cases hq
            have hM0 : M.1 < 1000 := by
              have := hrep.2.2
              rw [tk_laylen] at this
              omega
            intro T hT X
            obtain ⟨vm₁, hwarm₁, hg₁⟩ := hspec i 11 (by decide) (by decide) hclq T X
            have X₁ := X.noted hwarm₁
            refine tk_instr_ex (i := .multianewarray i 3) (len := 4) (by simpa using X.here) (by rw [hb]; exact hdq) ?_
            rw [hx]
            show wp (multianewarray.sem i 3) _ _ e false [] _
            simp only [multianewarray.sem, wp_bind', W.resolveClassAt_links (State.method?_setTop (F0 m pc lsA ((Value.int k2 :: Value.int k1 :: Value.int n :: s2).map (tk_cv (tk_ad B0 ex)))) X.here.top) hg₁]
            rw [W.popN, if_neg (by decide)]
            refine ⟨F0 m pc lsA ((Value.int k2 :: Value.int k1 :: Value.int n :: s2).map (tk_cv (tk_ad B0 ex))), State.topJava?_setTop' (s := T.setVm vm₁) _ X.here.top, [.int n, .int k1, .int k2], s2.map (tk_cv (tk_ad B0 ex)), rfl, rfl, ?_⟩
            simp only [List.mapM_cons, List.mapM_nil, wp_bind', wp_pure']
            have eS : ((T.setTop (F0 m pc lsA ((Value.int k2 :: Value.int k1 :: Value.int n :: s2).map (tk_cv (tk_ad B0 ex))))).setVm vm₁).setTop (F0 m pc lsA (s2.map (tk_cv (tk_ad B0 ex)))) = (T.setVm vm₁).setTop (F0 m pc lsA (s2.map (tk_cv (tk_ad B0 ex)))) := by
              show ((T.setVm vm₁).setTop _).setTop _ = _
              rw [State.setTop_setTop]
            have hIv : tk_Iv p l e R s m args below meth c B0 ex dA dC dI (F0 m pc lsA (s2.map (tk_cv (tk_ad B0 ex)))) cells slots M.1 M ((T.setVm vm₁).setTop (F0 m pc lsA (s2.map (tk_cv (tk_ad B0 ex))))) := ⟨T.setVm vm₁, locs, rfl, by simpa using X₁, by show tk_rep B0 (tk_ad B0 ex) dA dC dI M T.heap; rw [hT]; exact hrep, by show va_S _ s.heap T.heap locs; rw [hT]; exact hS, Nat.le_refl _⟩
            have hIN1 : tk_IN p l e R s m args below meth c B0 ex dA dC dI (F0 m pc lsA (s2.map (tk_cv (tk_ad B0 ex)))) cells slots M.1 (tk_mouter (tk_mrow 1 k2.toNatClampNeg) 10 k1.toNatClampNeg) (dA 10) [k1, k2] := tk_IN_outer (t := 10) hK hKx (by decide) (by decide) hk10 hk1l (by simp) (by simp [hk20]) (fun _ _ e => tk_mrow_mono e) (tk_IN_row (t := 1) hK (by decide) hk20 hk2l)
            have hIN : tk_IN p l e R s m args below meth c B0 ex dA dC dI (F0 m pc lsA (s2.map (tk_cv (tk_ad B0 ex)))) cells slots M.1 (tk_mouter (tk_mouter (tk_mrow 1 k2.toNatClampNeg) 10 k1.toNatClampNeg) 11 n.toNatClampNeg) (dA 11) [n, k1, k2] := tk_IN_outer (t := 11) hK hKx (by decide) (by decide) hn0 hnl (by simp) (by simp [hk10, hk20]) (fun _ _ e => tk_mouter_mono (fun _ _ e2 => tk_mrow_mono e2) e) hIN1
            refine hIN M M' _ _ _ _ _ hmo (by rw [← eS] at hIv; exact hIv) hc1 hc2 (fun S' d' acts' hI => ?_)
            obtain ⟨T', L', rfl, X', hrep', hS', -⟩ := hI
            simp only [wp_bind', W.mark, W.pushRef, State.topJava?_setTop' _ X'.here.top, Option.some.injEq, exists_eq_left', State.setTop_setTop, State.heap_setTop, wp_pure']
            intro acts
            rw [afterInstr_ok]
            have e9 : tk_cv (tk_ad B0 ex) (.ref M.1) = .ref (B0 + M.1) := by show Value.ref (tk_ad B0 ex M.1) = _; rw [tk_adO hM0]
            have kk' := kk T'.heap L' _ _ rfl rfl hrep' hS'
            rw [List.map_cons, e9] at kk'
            exact kk' T' rfl X'
        · cases hq
      · cases hq
    | 0, hq, hdq, hclq => cases hq
    | 1, hq, hdq, hclq => cases hq
    | q + 4, hq, hdq, hclq => cases hq
end TKM
