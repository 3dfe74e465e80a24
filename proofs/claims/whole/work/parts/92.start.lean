/-! ===== the law's start: both constructors ===== -/
def tk_until (sc : tk_X) (call : Nat → List Value → tk_M → Option (Option Value × tk_M)) (mr : tk_R) (stop : Nat) : Nat → Nat → tk_V → List Value → tk_M → Option (tk_V × List Value × tk_M)
  | 0, _, _, _, _ => none
  | n + 1, pc, ls, st, M => match Nat.beq pc stop with
    | true => some (ls, st, M)
    | false => match tk_code mr.2.2.2.2.2.2 pc with
      | none => none
      | some E => match tk_sort E with
        | 0 => match tk_stepP E pc ls st with
          | none => none
          | some s => tk_until sc call mr stop n s.1 s.2.1 s.2.2 M
        | 1 => match tk_stepH sc E st M with
          | none => none
          | some s => tk_until sc call mr stop n E.2.1 ls s.1 s.2
        | 2 => match tk_inv E st M with
          | none => none
          | some q => if (q.2.map fun v => v.category).sum ≤ 24 then
            (match call E.2.2.1 q.1 M with
            | none => none
            | some o => tk_until sc call mr stop n E.2.1 ls (o.1.toList ++ q.2) o.2) else none
        | _ => none
theorem tk_until_mono {sc : tk_X} {call : Nat → List Value → tk_M → Option (Option Value × tk_M)} (hc : ∀ j as M v M1, call j as M = some (v, M1) → M.1 ≤ M1.1) {mr : tk_R} {stop : Nat} : ∀ {n pc : Nat} {ls : tk_V} {st : List Value} {M : tk_M} {o : tk_V × List Value × tk_M}, tk_until sc call mr stop n pc ls st M = some o → M.1 ≤ o.2.2.1
  | 0, pc, ls, st, M, o, h => by cases h
  | n + 1, pc, ls, st, M, o, h => by
    unfold tk_until at h
    split at h
    · cases h; exact Nat.le_refl _
    · split at h
      · cases h
      · split at h
        · split at h
          · cases h
          · exact tk_until_mono hc h
        · split at h
          · cases h
          · rename_i s2 hs
            exact Nat.le_trans (tk_stepH_mono hs) (tk_until_mono hc h)
        · split at h
          · cases h
          · split at h
            · split at h
              · cases h
              · rename_i o2 ho
                exact Nat.le_trans (hc _ _ _ _ _ ho) (tk_until_mono hc h)
            · cases h
        · cases h
section TKU
variable {p : Program} {l : Launch} {e : Env} {R : Room} {s : State} {m : MethodId} {args : Array Value} {below : List Frame} {meth : Method} {c : Code} {Q : State → Prop}
variable {B0 : Nat} {ex : Nat → Nat} {dA dC : Nat → ClassId} {dI : Nat → Nat → Nat} {sc : tk_X}
set_option maxHeartbeats 4000000 in
theorem tk_soundU {d : Nat} {call : Nat → List Value → tk_M → Option (Option Value × tk_M)} (hcall : tk_callOK l B0 ex dA dC dI sc d call) (hallN : ∀ (j : Nat) (mr : tk_R), tk_mt[j]? = some mr → tk_okN mr)
    {mr : tk_R} (hQ : ∀ q ∈ mr.2.2.2.2.2.2, tk_okQ mr q) (hx : p.tables.exec = Jvm.exec) (hb : c.code = mr.2.1) (hml : c.maxLocals = mr.2.2.1) (hown : s.vm.findClass mr.2.2.2.2.2.1 = some m.cls) (hts : ∀ w ∈ tk_tbl, w.before args s = true)
    (hK : va_K (dC, dI) vwCl (tk_tys dA) s) (hex : tk_exs B0 ex sc s s.heap) (hKx : tk_Kx dA s) (hnm : meth.name = mr.1.name) (hRf : d + 1 ≤ R.frames) (hRl : 100 * (d + 1) ≤ R.locals)
    {stop : Nat} {o : tk_V × List Value × tk_M} {CC SS : Nat} (hCC : CC ≤ R.cells) (hSS : SS ≤ R.slots)
    (hret : ∀ (lsA : Array Slot) (H : Heap) (locs : List Loc), tk_rep B0 (tk_ad B0 ex) dA dC dI o.2.2 H → lv_has lsA mr.2.2.1 (tk_cl (tk_ad B0 ex) o.1) → va_S (fun q => B0 ≤ q) s.heap H locs →
      W p l e R s m args below meth c H locs CC SS Q (F0 m stop lsA (o.2.1.map (tk_cv (tk_ad B0 ex))))) :
    ∀ (n pc : Nat) (ls : tk_V) (st : List Value) (M : tk_M) (lsA : Array Slot) (H : Heap) (locs : List Loc) (cells slots : Nat), tk_until sc call mr stop n pc ls st M = some o → tk_rep B0 (tk_ad B0 ex) dA dC dI M H → lv_has lsA mr.2.2.1 (tk_cl (tk_ad B0 ex) ls) → va_S (fun q => B0 ≤ q) s.heap H locs →
      cells + (o.2.2.1 - M.1) = CC → slots + (tk_ss o.2.2.1 - tk_ss M.1) = SS → W p l e R s m args below meth c H locs cells slots Q (F0 m pc lsA (st.map (tk_cv (tk_ad B0 ex)))) := by
  have hcm : ∀ j as M v M1, call j as M = some (v, M1) → M.1 ≤ M1.1 := fun j as M v M1 h => (hcall j as M v M1 h).1
  intro n
  induction n with
  | zero => intro pc ls st M lsA H locs cells slots h; cases h
  | succ n ih =>
    intro pc ls st M lsA H locs cells slots h hrep hl hS hC hSl
    unfold tk_until at h
    split at h
    · rename_i hpc
      have hpc' : pc = stop := Nat.eq_of_beq_eq_true hpc
      subst hpc'
      cases h
      have e1 : cells = CC := by omega
      have e2 : slots = SS := by omega
      subst e1; subst e2
      exact hret lsA H locs hrep hl hS
    · split at h
      · cases h
      · rename_i E hE
        obtain ⟨q1, q2, q3, q4, q5, q6⟩ := hQ _ (tk_code_mem hE)
        dsimp only at q1 q2 q3 q4 q5 q6
        have hwH : ∀ w ∈ tk_hw mr.2.2.2.2.2.1 E, w ∈ tk_tbl := fun w hw => q6 w (List.mem_append_left _ hw)
        have hwC : ∀ w ∈ tk_cw mr.2.2.2.2.2.1 E, w ∈ tk_tbl := fun w hw => q6 w (List.mem_append_right _ hw)
        split at h
        · split at h
          · cases h
          · rename_i s2 hs
            obtain ⟨pc2, ls2, st2⟩ := s2
            refine tk_soundP hx hb hown (fun i hi => ?_) (fun i hi => ?_) q1 q2 q3 hs hl (fun lsA' hl2 => ih _ _ _ _ _ _ _ _ _ h hrep hl2 hS hC hSl)
            · rcases hi with hi | hi <;> exact hts _ (hwH _ (by rw [tk_hw, hi]; exact List.mem_cons_self))
            · exact hts _ (hwH _ (by rw [tk_hw, hi]; exact List.mem_cons_self))
        · rename_i hso
          split at h
          · cases h
          · rename_i s2 hs
            obtain ⟨st2, M2⟩ := s2
            have m1 : M.1 ≤ M2.1 := tk_stepH_mono hs
            have m2 : M2.1 ≤ o.2.2.1 := tk_until_mono hcm h
            have n1 := tk_ss_mono m1
            have n2 := tk_ss_mono m2
            refine tk_soundH hx hb (hml.trans hl.1.symm) hown hts hK hex hnm q1 q2 q4 hwH hso hs hrep hS (by omega) (by omega) (by omega) (by omega) (fun H' locs' c' s' e1 e2 hrep' hS' => ?_)
            exact ih _ _ _ _ _ _ _ _ _ h hrep' hl hS' (by dsimp only; omega) (by dsimp only; omega)
        · rename_i hso
          split at h
          · cases h
          · rename_i q hq
            obtain ⟨as, rest⟩ := q
            split at h
            · rename_i hsum
              split at h
              · cases h
              · rename_i o2 ho
                obtain ⟨v, M2⟩ := o2
                obtain ⟨m1, mr2, hmr2, hMet⟩ := hcall _ _ _ _ _ ho
                have m2 : M2.1 ≤ o.2.2.1 := tk_until_mono hcm h
                have n1 := tk_ss_mono m1
                have n2 := tk_ss_mono m2
                have e3 : tk_ln pc E.1 = 3 := by
                  obtain ⟨ins, nx, a, b, k3, z, kp⟩ := E
                  cases ins <;> first | rfl | (cases hso; done)
                refine tk_callS hx hb hml hown hts hK hex hKx q1 hso q5 hwC hmr2 (hallN _ _ hmr2) hq hsum hRf hRl hMet hrep hS hl.1 ⟨by omega, by omega⟩ (fun H1 locs1 hrep1 hS1 => ?_)
                have h5 := ih _ _ _ _ lsA H1 locs1 (cells + (M2.1 - M.1)) (slots + (tk_ss M2.1 - tk_ss M.1)) h hrep1 hl hS1 (by dsimp only; omega) (by dsimp only; omega)
                rw [q2, e3, tk_resmap] at h5
                exact h5
            · cases h
        · cases h
end TKU
/-! the memory that the constructors leave -/
def tk_mz : tk_M := (0, fun _ _ => 0, fun _ _ => 0, fun _ _ => false, fun _ _ => none)
def tk_sc0 : tk_X := tk_ext (0, fun _ => 0) 0
def tk_u0 : Option (tk_V × List Value × tk_M) := tk_until tk_sc0 (tk_run tk_sc0 tk_kp 9 4000) tk_rL 18 20 0 [(0, .ref 1007)] [] tk_mz
def tk_M2 : tk_M := (tk_u0.getD ([], [], tk_mz)).2.2
def tk_P0 : Nat → Nat → Fin 6 := fun _ k => Fin.ofNat 6 k
def tk_s0 : tk_m := (tk_M2.2.1, tk_M2.2.2.1, tk_M2.2.2.2.1, tk_P0)
def tk_isR (v : Value) (r : Nat) : Bool := match v with
  | .ref a => Nat.beq a r
  | _ => false
def tk_isI (v : Value) (r : Int32) : Bool := match v with
  | .int a => decide (a = r)
  | _ => false
def tk_agree (M : tk_M) : Bool := (List.range 439).all (fun i => match tk_lay[i]? with
  | some (.inl ci) => (List.range (tk_nf ci)).all (fun k => decide (tk_kk ci k < 3) || decide (M.2.2.2.2 i k = tk_R2 tk_P0 i k)) 
  | some (.inr (t, n)) => decide (t < 3) || (List.range n).all (fun k => decide (M.2.2.2.2 i k = tk_R2 tk_P0 i k))
  | none => false)
def tk_low : Bool := (List.range 439).all (fun i => match tk_lay[i]? with
  | some (.inl ci) => (List.range (tk_nf ci)).all (fun k => decide (tk_kk ci k < 3) || (match tk_R2 tk_P0 i k with | some r => decide (r < 1000) | none => true)) 
  | some (.inr (t, n)) => decide (t < 3) || (List.range n).all (fun k => (match tk_R2 tk_P0 i k with | some r => decide (r < 1000) | none => true))
  | none => false)
theorem tk_low_ok : tk_low = true := by decide +kernel
def tk_u0ok : Bool := match tk_u0 with
  | some ([(3, a), (2, b), (1, c), (0, d)], [], M) => tk_isI a 0 && tk_isR b 274 && tk_isR c 0 && tk_isR d 1007 && Nat.beq M.1 439 && tk_agree M
  | _ => false
set_option maxRecDepth 100000 in
theorem tk_u0_ok : tk_u0ok = true := by decide +kernel
theorem tk_isR_eq {v : Value} {r : Nat} (h : tk_isR v r = true) : v = .ref r := by
  unfold tk_isR at h
  split at h
  · rw [Nat.eq_of_beq_eq_true h]
  · cases h
theorem tk_isI_eq {v : Value} {r : Int32} (h : tk_isI v r = true) : v = .int r := by
  unfold tk_isI at h
  split at h
  · rw [of_decide_eq_true h]
  · cases h
theorem tk_u0_is : tk_u0 = some ([(3, .int 0), (2, .ref 274), (1, .ref 0), (0, .ref 1007)], [], tk_M2) ∧ tk_M2.1 = 439 ∧ tk_agree tk_M2 = true := by
  have h := tk_u0_ok
  unfold tk_u0ok at h
  split at h
  · rename_i a b c d M hu
    simp only [Bool.and_eq_true] at h
    obtain ⟨⟨⟨⟨⟨h1, h2⟩, h3⟩, h4⟩, h5⟩, h6⟩ := h
    have e : tk_M2 = M := by
      unfold tk_M2
      rw [hu]
      rfl
    rw [e, hu, tk_isI_eq h1, tk_isR_eq h2, tk_isR_eq h3, tk_isR_eq h4]
    exact ⟨rfl, Nat.eq_of_beq_eq_true h5, h6⟩
  · cases h
theorem tk_ad_low {B0 : Nat} {ex ex' : Nat → Nat} {r : Nat} (h : r < 1000) : tk_ad B0 ex r = tk_ad B0 ex' r := by
  unfold tk_ad
  rw [if_pos h, if_pos h]
theorem tk_arrV_congr {cA : ClassId} {n : Nat} {f g : Nat → Value} (h : ∀ j, j < n → f j = g j) : arrV cA n f = arrV cA n g := by
  unfold arrV
  congr 2
  funext j
  exact h j.val j.isLt
theorem tk_rf_low {B0 : Nat} {ex ex' : Nat → Nat} {o : Option Nat} (h : (match o with | some r => decide (r < 1000) | none => true) = true) : o.map (tk_ad B0 ex) = o.map (tk_ad B0 ex') := by
  cases o with
  | none => rfl
  | some r => exact congrArg some (tk_ad_low (of_decide_eq_true h))
theorem tk_rep_s0 {B0 : Nat} {ex ex' : Nat → Nat} {dA dC : Nat → ClassId} {dI : Nat → Nat → Nat} {H : Heap} (h : tk_rep B0 (tk_ad B0 ex') dA dC dI tk_M2 H) : tk_rep B0 (tk_ad B0 ex) dA dC dI (tk_full tk_s0) H := by
  obtain ⟨-, hn, ha⟩ := tk_u0_is
  refine ⟨fun i hi => ?_, fun hl => absurd hl (by rw [tk_laylen]; exact Nat.lt_irrefl _), by rw [tk_laylen]; exact Nat.le_refl _⟩
  have hi : i < 439 := hi
  have h1 := h.1 i (by rw [hn]; exact hi)
  have hA := List.all_eq_true.mp ha i (List.mem_range.mpr hi)
  have hL := List.all_eq_true.mp tk_low_ok i (List.mem_range.mpr hi)
  cases hlay : tk_lay[i]? with
  | none => rw [hlay] at hA; cases hA
  | some L =>
    rw [hlay] at hA hL
    cases L with
    | inl ci =>
      dsimp only at hA hL
      rw [tk_cell_o hlay] at h1 ⊢
      have e : tk_fs (tk_ad B0 ex) (tk_full tk_s0) ci i = tk_fs (tk_ad B0 ex') tk_M2 ci i := by
        unfold tk_fs
        apply List.map_congr_left
        intro k hk
        have a1 := List.all_eq_true.mp hA k hk
        have a2 := List.all_eq_true.mp hL k hk
        unfold tk_gf
        split
        · rfl
        · rfl
        · rfl
        · rename_i q0 q1 q2
          have hk3 : ¬ tk_kk ci k < 3 := by omega
          have a1' : tk_M2.2.2.2.2 i k = tk_R2 tk_P0 i k := by simpa [hk3] using a1
          have a2' : (match tk_R2 tk_P0 i k with | some r => decide (r < 1000) | none => true) = true := by simpa [hk3] using a2
          show tk_cv _ (va_rf (tk_R2 tk_P0 i k)) = _
          rw [a1']
          cases hr : tk_R2 tk_P0 i k with
          | none => rfl
          | some r =>
            rw [hr] at a2'
            show Value.ref (tk_ad B0 ex r) = Value.ref (tk_ad B0 ex' r)
            rw [tk_ad_low (ex' := ex') (of_decide_eq_true a2')]
      rw [e]
      exact h1
    | inr q =>
      obtain ⟨t, n⟩ := q
      dsimp only at hA hL
      rw [tk_cell_a hlay] at h1 ⊢
      have h1 : H[B0 + i]? = some (vp_cell (dA t) (n, tk_arr (tk_ad B0 ex') tk_M2 t i)) := h1
      show H[B0 + i]? = some (vp_cell (dA t) (n, tk_arr (tk_ad B0 ex) (tk_full tk_s0) t i))
      rw [h1]
      congr 1
      match t, hA, hL with
      | 0, _, _ => rfl
      | 1, _, _ => rfl
      | 2, _, _ => rfl
      | t + 3, hA, hL =>
        have a1 : (List.range n).all (fun k => decide (tk_M2.2.2.2.2 i k = tk_R2 tk_P0 i k)) = true := by simpa using hA
        have a2 : (List.range n).all (fun k => (match tk_R2 tk_P0 i k with | some r => decide (r < 1000) | none => true)) = true := by
          rcases Bool.or_eq_true_iff.mp hL with q | q
          · exact absurd (of_decide_eq_true q) (by omega)
          · exact q
        show arrV (dA (t + 3)) n (fun j => va_rf ((tk_M2.2.2.2.2 i j).map (tk_ad B0 ex'))) = arrV (dA (t + 3)) n (fun j => va_rf ((tk_R2 tk_P0 i j).map (tk_ad B0 ex)))
        refine tk_arrV_congr (fun j hj => ?_)
        have b1 := of_decide_eq_true (List.all_eq_true.mp a1 j (List.mem_range.mpr hj))
        have b2 := List.all_eq_true.mp a2 j (List.mem_range.mpr hj)
        rw [b1, tk_rf_low (ex := ex') (ex' := ex) b2]
/-! what the Statement gives of the start -/
theorem tk_statX {args : Array Value} {s : State} {C n : String} {f : Nat → Int32} (harr : (Cond.arrayOf (.static C n "[I") .int).before args s = true) (hlen : (Cond.eq (.length (.static C n "[I")) (.int 6)).before args s = true)
    (hel : ∀ j : Nat, j < 6 → (Cond.eq (.elem (.static C n "[I") (.int (Int32.ofNat j))) (.int (f j))).before args s = true) : ∃ t : Nat, (Term.static C n "[I").eval args s none [] s = some (.ref t) ∧ va_X t 6 f s s.heap ∧ t < s.heap.size := by
  have hv := va_eqt hlen
  obtain ⟨t, ht, cell, h1, h2, h3, h4, h5, h6, -⟩ := va_Tof (ty := .int) (N := 6) (f := fun j => .int (f j)) (A := fun _ => False) (by decide) harr hv (fun j hj => va_eqt (hel j hj)) (fun _ _ => id)
  have hsz : cell.slots.size < 2 ^ 31 := by
    obtain ⟨b, cell2, g1, g2, -⟩ := Term.length_spec hv
    have hb : b = t := by
      have := g1.symm.trans ht
      injection this with this
      injection this
    subst hb
    obtain ⟨g3, -, -, -⟩ := State.arrayAt?_spec g2
    have hc : cell2 = cell := Option.some.inj (g3.symm.trans h1)
    subst hc
    simp only [Term.eval, g2, Option.bind_eq_bind] at hv
    by_cases hlt : cell2.slots.size < 2147483648
    · exact hlt
    · exfalso
      have g1' := g1
      simp only [Term.eval] at g1'
      simp [g1', g2, hlt] at hv
  have h6' : cell.slots.size = 6 := by
    have a1 := Int32.toNatClampNeg_ofNat_of_lt hsz
    have a2 : (Int32.ofNat 6).toNatClampNeg = 6 := Int32.toNatClampNeg_ofNat_of_lt (by decide)
    have h5' : Int32.ofNat cell.slots.size = Int32.ofNat 6 := h5
    rw [h5', a2] at a1
    exact a1.symm
  exact ⟨t, ht, ⟨cell, h1, h2, h3, h6', h6⟩, (Array.getElem?_eq_some_iff.mp h1).1⟩
theorem tk_pick {α : Type} {n : Nat} {P : Nat → α → Prop} (a0 : α) (h : ∀ i, i < n → ∃ x, P i x) : ∃ f : Nat → α, ∀ i, i < n → P i (f i) := by
  classical
  refine ⟨fun i => if hi : i < n then (h i hi).choose else a0, fun i hi => ?_⟩
  simp only [dif_pos hi]
  exact (h i hi).choose_spec
def tk_PA (s : State) (t : Nat) (c : ClassId) : Prop := s.vm.findClass ("[" ++ (tk_at.getD t .int).toString) = some c ∧ ∃ (k : Class) (comp : ClassId), s.vm.classes[c]? = some k ∧ k.kind = .array comp (tk_at.getD t .int) ∧
  (match tk_at.getD t .int with | .object C => s.vm.findClass C = some comp | .array u => s.vm.findClass ("[" ++ u.toString) = some comp | _ => True)
theorem tk_PA_a {args : Array Value} {s : State} {t : Nat} (h : (Cond.arrayClass (tk_at.getD t .int)).before args s = true) (ht : (match tk_at.getD t .int with | .object _ => False | .array _ => False | _ => True)) : ∃ c, tk_PA s t c := by
  obtain ⟨c, k, comp, h1, h2, h3⟩ := Cond.arrayClass_spec h
  refine ⟨c, h1, k, comp, h2, h3, ?_⟩
  split
  · rename_i e; rw [e] at ht; exact ht.elim
  · rename_i e; rw [e] at ht; exact ht.elim
  · trivial
theorem tk_PA_o {args : Array Value} {s : State} {t : Nat} {C : String} (e : tk_at.getD t .int = .object C) (h : (Cond.arrayOver (.object C)).before args s = true) : ∃ c, tk_PA s t c := by
  obtain ⟨comp, c, k, h1, h2, h3, h4, h5⟩ := Cond.arrayOver_spec h
  unfold tk_PA
  rw [e]
  exact ⟨c, h5, k, comp, h3, h4, h1⟩
theorem tk_PA_aa {args : Array Value} {s : State} {t : Nat} {u : FieldType} (e : tk_at.getD t .int = .array u) (h : (Cond.arrayOver (.array u)).before args s = true) : ∃ c, tk_PA s t c := by
  obtain ⟨comp, c, k, h1, h2, h3, h4⟩ := Cond.arrayOver_specA h
  unfold tk_PA
  rw [e]
  exact ⟨c, h4, k, comp, h2, h3, h1⟩
theorem tk_PAs {args : Array Value} {s : State} (hts : ∀ w ∈ lw_tbl, w.before args s = true) (t : Nat) (ht : t < 12) : ∃ c, tk_PA s t c := by
  match t, ht with
  | 0, _ => exact tk_PA_a (hts (.arrayClass .int) (by decide +kernel)) trivial
  | 1, _ => exact tk_PA_a (hts (.arrayClass .long) (by decide +kernel)) trivial
  | 2, _ => exact tk_PA_a (hts (.arrayClass .boolean) (by decide +kernel)) trivial
  | 3, _ => exact tk_PA_o rfl (hts (.arrayOver (.object "ThreeTouched$Scene")) (by decide +kernel))
  | 4, _ => exact tk_PA_o rfl (hts (.arrayOver (.object "ThreeTouched$Num")) (by decide +kernel))
  | 5, _ => exact tk_PA_o rfl (hts (.arrayOver (.object "ThreeTouched$Sheet")) (by decide +kernel))
  | 6, _ => exact tk_PA_o rfl (hts (.arrayOver (.object "ThreeTouched$Shape")) (by decide +kernel))
  | 7, _ => exact tk_PA_o rfl (hts (.arrayOver (.object "ThreeTouched$Circle")) (by decide +kernel))
  | 8, _ => exact tk_PA_o rfl (hts (.arrayOver (.object "ThreeTouched$Vecto\x72")) (by decide +kernel))
  | 9, _ => exact tk_PA_aa rfl (hts (.arrayOver (.array .int)) (by decide +kernel))
  | 10, _ => exact tk_PA_aa rfl (hts (.arrayOver (.array .long)) (by decide +kernel))
  | 11, _ => exact tk_PA_aa rfl (hts (.arrayOver (.array (.array .long))) (by decide +kernel))
  | n + 12, h => exact absurd h (by omega)
theorem tk_inst : (List.range 12).all (fun ci => decide (Cond.instantiable (tk_C ci).1 (tk_C ci).2.2 ∈ lw_tbl)) = true := by decide +kernel
theorem tk_entryK {args : Array Value} {s : State} (hts : ∀ w ∈ lw_tbl, w.before args s = true) : ∃ (dA dC : Nat → ClassId) (dI : Nat → Nat → Nat), va_K (dC, dI) vwCl (tk_tys dA) s ∧ tk_Kx dA s := by
  have hin : ∀ w ∈ tk_tbl, w.before args s = true := fun w hw => hts w (List.mem_filter.mp hw).1
  have h1 : ∀ ci, ci < 12 → ∃ q : ClassId × (Nat → Nat), u_Kn s (tk_C ci).1 (tk_C ci).2.1 (tk_C ci).2.2 q.1 q.2 := fun ci hci => by
    obtain ⟨cC, iS, h⟩ := u_known (C := (tk_C ci).1) (T := (tk_C ci).2.1) (N := (tk_C ci).2.2) (n := (tk_C ci).2.2) hin (tk_cls ci hci).2.1 (hts _ (of_decide_eq_true (List.all_eq_true.mp tk_inst ci (List.mem_range.mpr hci))))
    exact ⟨(cC, iS), h⟩
  obtain ⟨q0, -⟩ := h1 0 (by decide)
  obtain ⟨f, hf⟩ := tk_pick q0 h1
  obtain ⟨c0, -⟩ := tk_PAs hts 0 (by decide)
  obtain ⟨dA, hA⟩ := tk_pick c0 (fun t ht => tk_PAs hts t ht)
  refine ⟨dA, fun ci => (f ci).1, fun ci => (f ci).2, ⟨fun ci q hq => ?_, fun t q hq => ?_⟩, ?_, ?_, ?_⟩
  · have hci : ci < 12 := (List.getElem?_eq_some_iff.mp hq).1
    have e : q = tk_C ci := Option.some.inj (hq.symm.trans (tk_cls ci hci).1)
    subst e
    exact hf ci hci
  · have ht : t < 12 := by
      have := (List.getElem?_eq_some_iff.mp hq).1
      simpa [tk_tys] using this
    rw [tk_tys_get dA ht] at hq
    cases hq
    obtain ⟨a1, k, comp, a2, a3, a4⟩ := hA t ht
    refine ⟨fun N z => ⟨(fun k h => by cases h), k, a2, comp, a3⟩, ?_⟩
    unfold va_RA
    dsimp only at *
    split
    · rename_i C e
      rw [e] at a1 a3 a4
      exact ⟨k, comp, a2, a3, a4, a1⟩
    · exact a1
  · intro w hw hn
    cases w <;> first
      | (cases hn; done)
      | exact va_Nw.of rfl (hts _ hw)
  · intro t ht h3 h9
    rcases (show t = 3 ∨ t = 4 ∨ t = 5 ∨ t = 6 ∨ t = 7 ∨ t = 8 by omega) with rfl | rfl | rfl | rfl | rfl | rfl
    · exact va_AO.of (hts (.arrayOver (.object "ThreeTouched$Scene")) (by decide +kernel))
    · exact va_AO.of (hts (.arrayOver (.object "ThreeTouched$Num")) (by decide +kernel))
    · exact va_AO.of (hts (.arrayOver (.object "ThreeTouched$Sheet")) (by decide +kernel))
    · exact va_AO.of (hts (.arrayOver (.object "ThreeTouched$Shape")) (by decide +kernel))
    · exact va_AO.of (hts (.arrayOver (.object "ThreeTouched$Circle")) (by decide +kernel))
    · exact va_AO.of (hts (.arrayOver (.object "ThreeTouched$Vecto\x72")) (by decide +kernel))
  · intro t ht h9
    obtain ⟨b1, kb, compb, b2, b3, b4⟩ := hA t ht
    refine ⟨kb, b2, ?_⟩
    rw [b3]
    congr 1
    rcases (show t = 9 ∨ t = 10 ∨ t = 11 by omega) with rfl | rfl | rfl
    · exact Option.some.inj (b4.symm.trans (hA 0 (by decide)).1)
    · exact Option.some.inj (b4.symm.trans (hA 1 (by decide)).1)
    · exact Option.some.inj (b4.symm.trans (hA 10 (by decide)).1)
theorem tk_entryX {s : State} {b : Nat} (hts : ∀ w ∈ lw_tbl, w.before #[Value.ref b] s = true) (hgv : (Jvm.Cond.and given_1 narrow_1).before #[Value.ref b] s = true) : ∃ ex : Nat → Nat, ∀ k, k < 6 → (va_X (ex k) 6 (fun j => (tk_stv k).getD j 0) s s.heap ∧ ex k < s.heap.size) ∧ va_Z (tk_stn k).1 (tk_stn k).2 "[I" (.ref (ex k)) (fun q => s.heap.size ≤ q) s s.heap := by
  have hs := flat_of_before _ hgv
  refine tk_pick 0 (fun k hk => ?_)
  match k, hk with
  | 0, _ =>
    obtain ⟨t, h1, h2, h3⟩ := tk_statX (args := #[Value.ref b]) (C := "ThreeTouched") (n := "SLANT_A") (f := fun j => (tk_stv 0).getD j 0) (hs _ (by decide +kernel)) (hs _ (by decide +kernel)) (fun j hj => by
      match j, hj with
      | 0, _ => exact hs _ (by decide +kernel)
      | 1, _ => exact hs _ (by decide +kernel)
      | 2, _ => exact hs _ (by decide +kernel)
      | 3, _ => exact hs _ (by decide +kernel)
      | 4, _ => exact hs _ (by decide +kernel)
      | 5, _ => exact hs _ (by decide +kernel)
      | j + 6, h => exact absurd h (by omega))
    exact ⟨t, ⟨h2, h3⟩, va_Zof (hts (.laysStatic "ThreeTouched" "SLANT_A" "[I") (by decide +kernel)) (hts (.initialized "ThreeTouched") (by decide +kernel)) h1 (fun a h => Nat.not_le.mpr h)⟩
  | 1, _ =>
    obtain ⟨t, h1, h2, h3⟩ := tk_statX (args := #[Value.ref b]) (C := "ThreeTouched") (n := "SLANT_B") (f := fun j => (tk_stv 1).getD j 0) (hs _ (by decide +kernel)) (hs _ (by decide +kernel)) (fun j hj => by
      match j, hj with
      | 0, _ => exact hs _ (by decide +kernel)
      | 1, _ => exact hs _ (by decide +kernel)
      | 2, _ => exact hs _ (by decide +kernel)
      | 3, _ => exact hs _ (by decide +kernel)
      | 4, _ => exact hs _ (by decide +kernel)
      | 5, _ => exact hs _ (by decide +kernel)
      | j + 6, h => exact absurd h (by omega))
    exact ⟨t, ⟨h2, h3⟩, va_Zof (hts (.laysStatic "ThreeTouched" "SLANT_B" "[I") (by decide +kernel)) (hts (.initialized "ThreeTouched") (by decide +kernel)) h1 (fun a h => Nat.not_le.mpr h)⟩
  | 2, _ =>
    obtain ⟨t, h1, h2, h3⟩ := tk_statX (args := #[Value.ref b]) (C := "ThreeTouched") (n := "SLANT_L") (f := fun j => (tk_stv 2).getD j 0) (hs _ (by decide +kernel)) (hs _ (by decide +kernel)) (fun j hj => by
      match j, hj with
      | 0, _ => exact hs _ (by decide +kernel)
      | 1, _ => exact hs _ (by decide +kernel)
      | 2, _ => exact hs _ (by decide +kernel)
      | 3, _ => exact hs _ (by decide +kernel)
      | 4, _ => exact hs _ (by decide +kernel)
      | 5, _ => exact hs _ (by decide +kernel)
      | j + 6, h => exact absurd h (by omega))
    exact ⟨t, ⟨h2, h3⟩, va_Zof (hts (.laysStatic "ThreeTouched" "SLANT_L" "[I") (by decide +kernel)) (hts (.initialized "ThreeTouched") (by decide +kernel)) h1 (fun a h => Nat.not_le.mpr h)⟩
  | 3, _ =>
    obtain ⟨t, h1, h2, h3⟩ := tk_statX (args := #[Value.ref b]) (C := "ThreeTouchedModel") (n := "SLANT_A") (f := fun j => (tk_stv 3).getD j 0) (hs _ (by decide +kernel)) (hs _ (by decide +kernel)) (fun j hj => by
      match j, hj with
      | 0, _ => exact hs _ (by decide +kernel)
      | 1, _ => exact hs _ (by decide +kernel)
      | 2, _ => exact hs _ (by decide +kernel)
      | 3, _ => exact hs _ (by decide +kernel)
      | 4, _ => exact hs _ (by decide +kernel)
      | 5, _ => exact hs _ (by decide +kernel)
      | j + 6, h => exact absurd h (by omega))
    exact ⟨t, ⟨h2, h3⟩, va_Zof (hts (.laysStatic "ThreeTouchedModel" "SLANT_A" "[I") (by decide +kernel)) (hts (.initialized "ThreeTouchedModel") (by decide +kernel)) h1 (fun a h => Nat.not_le.mpr h)⟩
  | 4, _ =>
    obtain ⟨t, h1, h2, h3⟩ := tk_statX (args := #[Value.ref b]) (C := "ThreeTouchedModel") (n := "SLANT_B") (f := fun j => (tk_stv 4).getD j 0) (hs _ (by decide +kernel)) (hs _ (by decide +kernel)) (fun j hj => by
      match j, hj with
      | 0, _ => exact hs _ (by decide +kernel)
      | 1, _ => exact hs _ (by decide +kernel)
      | 2, _ => exact hs _ (by decide +kernel)
      | 3, _ => exact hs _ (by decide +kernel)
      | 4, _ => exact hs _ (by decide +kernel)
      | 5, _ => exact hs _ (by decide +kernel)
      | j + 6, h => exact absurd h (by omega))
    exact ⟨t, ⟨h2, h3⟩, va_Zof (hts (.laysStatic "ThreeTouchedModel" "SLANT_B" "[I") (by decide +kernel)) (hts (.initialized "ThreeTouchedModel") (by decide +kernel)) h1 (fun a h => Nat.not_le.mpr h)⟩
  | 5, _ =>
    obtain ⟨t, h1, h2, h3⟩ := tk_statX (args := #[Value.ref b]) (C := "ThreeTouchedModel") (n := "SLANT_L") (f := fun j => (tk_stv 5).getD j 0) (hs _ (by decide +kernel)) (hs _ (by decide +kernel)) (fun j hj => by
      match j, hj with
      | 0, _ => exact hs _ (by decide +kernel)
      | 1, _ => exact hs _ (by decide +kernel)
      | 2, _ => exact hs _ (by decide +kernel)
      | 3, _ => exact hs _ (by decide +kernel)
      | 4, _ => exact hs _ (by decide +kernel)
      | 5, _ => exact hs _ (by decide +kernel)
      | j + 6, h => exact absurd h (by omega))
    exact ⟨t, ⟨h2, h3⟩, va_Zof (hts (.laysStatic "ThreeTouchedModel" "SLANT_L" "[I") (by decide +kernel)) (hts (.initialized "ThreeTouchedModel") (by decide +kernel)) h1 (fun a h => Nat.not_le.mpr h)⟩
  | n + 6, h => exact absurd h (by omega)
theorem tk_exs_of {s : State} {ex ex' : Nat → Nat} {sc : tk_X} (h : ∀ k, k < 6 → (va_X (ex k) 6 (fun j => (tk_stv k).getD j 0) s s.heap ∧ ex k < s.heap.size) ∧ va_Z (tk_stn k).1 (tk_stn k).2 "[I" (.ref (ex k)) (fun q => s.heap.size ≤ q) s s.heap) (he : ∀ k, k < 6 → ex' k = ex k) (hx : va_X (ex' 6) sc.1 sc.2 s s.heap) (hl : ex' 6 < s.heap.size) : tk_exs s.heap.size ex' sc s s.heap := by
  refine ⟨fun k hk => ?_, fun k hk => ?_⟩
  · by_cases e : k = 6
    · subst e
      exact ⟨hx, hl⟩
    · have hk6 : k < 6 := by omega
      have e2 : tk_ext sc k = (6, fun j => (tk_stv k).getD j 0) := if_neg e
      rw [e2, he k hk6]
      exact (h k hk6).1
  · rw [he k hk]
    exact (h k hk).2
theorem tk_ss_room : Nat.ble (tk_ss 439) 7302250 = true := by decide +kernel
