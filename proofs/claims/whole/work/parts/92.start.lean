/-! ===== the law's start: both constructors ===== -/
def tk_until (sc : tk_X) (call : Nat → List Value → tk_M → Option (Option Value × tk_M)) (mr : tk_R) (stop : Nat) : Nat → Nat → tk_V → List Value → tk_M → Option (tk_V × List Value × tk_M)
  | 0, _, _, _, _ => none
  | n + 1, pc, ls, st, M => match Nat.beq pc stop with
    | true => some (ls, st, M)
    | false => match tk_code mr.2.2.2.2.2.2 pc with
      | none => none
      | some E => match tk_sort E with
        | 0 => match tk_stepP E pc ls st with
          | none => none
          | some s => tk_until sc call mr stop n s.1 s.2.1 s.2.2 M
        | 1 => match tk_stepH sc E st M with
          | none => none
          | some s => tk_until sc call mr stop n E.2.1 ls s.1 s.2
        | 2 => match tk_inv E st M with
          | none => none
          | some q => if (q.2.map fun v => v.category).sum ≤ 24 then
            (match call E.2.2.1 q.1 M with
            | none => none
            | some o => tk_until sc call mr stop n E.2.1 ls (o.1.toList ++ q.2) o.2) else none
        | _ => none
theorem tk_until_mono {sc : tk_X} {call : Nat → List Value → tk_M → Option (Option Value × tk_M)} (hc : ∀ j as M v M1, call j as M = some (v, M1) → M.1 ≤ M1.1) {mr : tk_R} {stop : Nat} : ∀ {n pc : Nat} {ls : tk_V} {st : List Value} {M : tk_M} {o : tk_V × List Value × tk_M}, tk_until sc call mr stop n pc ls st M = some o → M.1 ≤ o.2.2.1
  | 0, pc, ls, st, M, o, h => by cases h
  | n + 1, pc, ls, st, M, o, h => by
    unfold tk_until at h
    split at h
    · cases h; exact Nat.le_refl _
    · split at h
      · cases h
      · split at h
        · split at h
          · cases h
          · exact tk_until_mono hc h
        · split at h
          · cases h
          · rename_i s2 hs
            exact Nat.le_trans (tk_stepH_mono hs) (tk_until_mono hc h)
        · split at h
          · cases h
          · split at h
            · split at h
              · cases h
              · rename_i o2 ho
                exact Nat.le_trans (hc _ _ _ _ _ ho) (tk_until_mono hc h)
            · cases h
        · cases h
section TKU
variable {p : Program} {l : Launch} {e : Env} {R : Room} {s : State} {m : MethodId} {args : Array Value} {below : List Frame} {meth : Method} {c : Code} {Q : State → Prop}
variable {B0 : Nat} {ex : Nat → Nat} {dA dC : Nat → ClassId} {dI : Nat → Nat → Nat} {sc : tk_X}
set_option maxHeartbeats 4000000 in
theorem tk_soundU {d : Nat} {call : Nat → List Value → tk_M → Option (Option Value × tk_M)} (hcall : tk_callOK l B0 ex dA dC dI sc d call) (hallN : ∀ (j : Nat) (mr : tk_R), tk_mt[j]? = some mr → tk_okN mr)
    {mr : tk_R} (hQ : ∀ q ∈ mr.2.2.2.2.2.2, tk_okQ mr q) (hx : p.tables.exec = Jvm.exec) (hb : c.code = mr.2.1) (hml : c.maxLocals = mr.2.2.1) (hown : s.vm.findClass mr.2.2.2.2.2.1 = some m.cls) (hts : ∀ w ∈ tk_tbl, w.before args s = true)
    (hK : va_K (dC, dI) vwCl (tk_tys dA) s) (hex : tk_exs B0 ex sc s s.heap) (hKx : tk_Kx dA s) (hnm : meth.name = mr.1.name) (hRf : d + 1 ≤ R.frames) (hRl : 100 * (d + 1) ≤ R.locals)
    {stop : Nat} {o : tk_V × List Value × tk_M} {CC SS : Nat} (hCC : CC ≤ R.cells) (hSS : SS ≤ R.slots)
    (hret : ∀ (lsA : Array Slot) (H : Heap) (locs : List Loc), tk_rep B0 (tk_ad B0 ex) dA dC dI o.2.2 H → lv_has lsA mr.2.2.1 (tk_cl (tk_ad B0 ex) o.1) → va_S (fun q => B0 ≤ q) s.heap H locs →
      W p l e R s m args below meth c H locs CC SS Q (F0 m stop lsA (o.2.1.map (tk_cv (tk_ad B0 ex))))) :
    ∀ (n pc : Nat) (ls : tk_V) (st : List Value) (M : tk_M) (lsA : Array Slot) (H : Heap) (locs : List Loc) (cells slots : Nat), tk_until sc call mr stop n pc ls st M = some o → tk_rep B0 (tk_ad B0 ex) dA dC dI M H → lv_has lsA mr.2.2.1 (tk_cl (tk_ad B0 ex) ls) → va_S (fun q => B0 ≤ q) s.heap H locs →
      cells + (o.2.2.1 - M.1) = CC → slots + (tk_ss o.2.2.1 - tk_ss M.1) = SS → W p l e R s m args below meth c H locs cells slots Q (F0 m pc lsA (st.map (tk_cv (tk_ad B0 ex)))) := by
  have hcm : ∀ j as M v M1, call j as M = some (v, M1) → M.1 ≤ M1.1 := fun j as M v M1 h => (hcall j as M v M1 h).1
  intro n
  induction n with
  | zero => intro pc ls st M lsA H locs cells slots h; cases h
  | succ n ih =>
    intro pc ls st M lsA H locs cells slots h hrep hl hS hC hSl
    unfold tk_until at h
    split at h
    · rename_i hpc
      have hpc' : pc = stop := Nat.eq_of_beq_eq_true hpc
      subst hpc'
      cases h
      dsimp only at hC hSl
      have e1 : cells = CC := by omega
      have e2 : slots = SS := by omega
      subst e1; subst e2
      exact hret lsA H locs hrep hl hS
    · split at h
      · cases h
      · rename_i E hE
        obtain ⟨q1, q2, q3, q4, q5, q6⟩ := hQ _ (tk_code_mem hE)
        dsimp only at q1 q2 q3 q4 q5 q6
        have hwH : ∀ w ∈ tk_hw mr.2.2.2.2.2.1 E, w ∈ tk_tbl := fun w hw => q6 w (List.mem_append_left _ hw)
        have hwC : ∀ w ∈ tk_cw mr.2.2.2.2.2.1 E, w ∈ tk_tbl := fun w hw => q6 w (List.mem_append_right _ hw)
        split at h
        · split at h
          · cases h
          · rename_i s2 hs
            obtain ⟨pc2, ls2, st2⟩ := s2
            refine tk_soundP hx hb hown (fun i hi => ?_) (fun i hi => ?_) q1 q2 q3 hs hl (fun lsA' hl2 => ih _ _ _ _ _ _ _ _ _ h hrep hl2 hS hC hSl)
            · rcases hi with hi | hi <;> exact hts _ (hwH _ (by rw [tk_hw, hi]; exact List.mem_cons_self))
            · exact hts _ (hwH _ (by rw [tk_hw, hi]; exact List.mem_cons_self))
        · rename_i hso
          split at h
          · cases h
          · rename_i s2 hs
            obtain ⟨st2, M2⟩ := s2
            have m1 : M.1 ≤ M2.1 := tk_stepH_mono hs
            have m2 : M2.1 ≤ o.2.2.1 := tk_until_mono hcm h
            have n1 := tk_ss_mono m1
            have n2 := tk_ss_mono m2
            refine tk_soundH hx hb (hml.trans hl.1.symm) hown hts hK hex hnm q1 q2 q4 hwH hso hs hrep hS (by omega) (by omega) (by omega) (by omega) (fun H' locs' c' s' e1 e2 hrep' hS' => ?_)
            exact ih _ _ _ _ _ _ _ _ _ h hrep' hl hS' (by dsimp only; omega) (by dsimp only; omega)
        · rename_i hso
          split at h
          · cases h
          · rename_i q hq
            obtain ⟨as, rest⟩ := q
            split at h
            · rename_i hsum
              split at h
              · cases h
              · rename_i o2 ho
                obtain ⟨v, M2⟩ := o2
                obtain ⟨m1, mr2, hmr2, hMet⟩ := hcall _ _ _ _ _ ho
                have m2 : M2.1 ≤ o.2.2.1 := tk_until_mono hcm h
                have n1 := tk_ss_mono m1
                have n2 := tk_ss_mono m2
                have e3 : tk_ln pc E.1 = 3 := by
                  obtain ⟨ins, nx, a, b, k3, z, kp⟩ := E
                  cases ins <;> first | rfl | (cases hso; done)
                refine tk_callS hx hb hml hown hts hK hex hKx q1 hso q5 hwC hmr2 (hallN _ _ hmr2) hq hsum hRf hRl hMet hrep hS hl.1 ⟨by omega, by omega⟩ (fun H1 locs1 hrep1 hS1 => ?_)
                have h5 := ih _ _ _ _ lsA H1 locs1 (cells + (M2.1 - M.1)) (slots + (tk_ss M2.1 - tk_ss M.1)) h hrep1 hl hS1 (by dsimp only; omega) (by dsimp only; omega)
                rw [q2, e3, tk_resmap] at h5
                exact h5
            · cases h
        · cases h
end TKU
/-! the memory that the constructors leave -/
def tk_mz : tk_M := (0, fun _ _ => 0, fun _ _ => 0, fun _ _ => false, fun _ _ => none)
def tk_sc0 : tk_X := tk_ext (0, fun _ => 0) 0
def tk_u0 : Option (tk_V × List Value × tk_M) := tk_until tk_sc0 (tk_run tk_sc0 tk_kp 9 4000) tk_rL 18 20 0 [(0, .ref 1007)] [] tk_mz
def tk_M2 : tk_M := (tk_u0.getD ([], [], tk_mz)).2.2
def tk_P0 : Nat → Nat → Fin 6 := fun _ k => Fin.ofNat 6 k
def tk_s0 : tk_m := (tk_M2.2.1, tk_M2.2.2.1, tk_M2.2.2.2.1, tk_P0)
