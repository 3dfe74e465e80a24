/-! ===== runs, and contracts out of them ===== -/
section TKR
variable {p : Program} {l : Launch} {e : Env} {R : Room} {s : State} {m : MethodId} {args : Array Value} {below : List Frame} {meth : Method} {c : Code} {Q : State → Prop}
variable {B0 : Nat} {ex : Nat → Nat} {dA dC : Nat → ClassId} {dI : Nat → Nat → Nat} {sc : tk_X}
def tk_retI (k : Nat) : Instr := match k with
  | 3 => .ireturn
  | 4 => .lreturn
  | 5 => .areturn
  | _ => .return_
theorem tk_sort_ret {E : tk_E} (h0 : tk_sort E ≠ 0) (h1 : tk_sort E ≠ 1) (h2 : tk_sort E ≠ 2) (h7 : tk_sort E ≠ 7) : E.1 = tk_retI (tk_sort E) ∧ tk_ln 0 E.1 = 1 ∧ (tk_sort E = 3 ∨ tk_sort E = 4 ∨ tk_sort E = 5 ∨ tk_sort E = 6) := by
  obtain ⟨ins, nx, a, b, k3, z, kp⟩ := E
  cases ins <;> first
    | exact absurd rfl h0
    | exact absurd rfl h1
    | exact absurd rfl h2
    | exact absurd rfl h7
    | exact ⟨rfl, rfl, Or.inl rfl⟩
    | exact ⟨rfl, rfl, Or.inr (Or.inl rfl)⟩
    | exact ⟨rfl, rfl, Or.inr (Or.inr (Or.inl rfl))⟩
    | exact ⟨rfl, rfl, Or.inr (Or.inr (Or.inr rfl))⟩
    | (by_cases q : k3 = 9
       · exact absurd (by simp [tk_sort, q]) h1
       · exact absurd (by simp [tk_sort, q]) h2)
/-- what a caller must know of the methods that it calls -/
def tk_callOK (l : Launch) (B0 : Nat) (ex : Nat → Nat) (dA dC : Nat → ClassId) (dI : Nat → Nat → Nat) (sc : tk_X) (d : Nat) (call : Nat → List Value → tk_M → Option (Option Value × tk_M)) : Prop :=
  ∀ (j : Nat) (as : List Value) (M : tk_M) (v : Option Value) (M1 : tk_M), call j as M = some (v, M1) → M.1 ≤ M1.1 ∧ ∃ mr : tk_R, tk_mt[j]? = some mr ∧
    Met l mr.1 (Cond.code mr.1 mr.2.1 mr.2.2.1 mr.2.2.2.1 :: tk_tb) (tk_rm d (M1.1 - M.1) (tk_ss M1.1 - tk_ss M.1)) (tk_Pc B0 ex dA dC dI sc as M) (tk_Qc B0 ex dA dC dI v M1) (M1.1 - M.1) (tk_ss M1.1 - tk_ss M.1) (fun q => B0 ≤ q)
theorem tk_resmap (ad : Nat → Nat) (o : Option Value) (l : List Value) : (o.toList ++ l).map (tk_cv ad) = (o.map (tk_cv ad)).toList ++ l.map (tk_cv ad) := by
  cases o <;> simp
set_option maxHeartbeats 4000000 in
theorem tk_soundE {d : Nat} {call : Nat → List Value → tk_M → Option (Option Value × tk_M)} (hcall : tk_callOK l B0 ex dA dC dI sc d call) (hallN : ∀ (j : Nat) (mr : tk_R), tk_mt[j]? = some mr → tk_okN mr)
    {kf : Nat → Option (List Nat)} {mr : tk_R} (hQ : ∀ q ∈ mr.2.2.2.2.2.2, tk_okQ mr q) (hx : p.tables.exec = Jvm.exec) (hb : c.code = mr.2.1) (hml : c.maxLocals = mr.2.2.1) (hown : s.vm.findClass mr.2.2.2.2.2.1 = some m.cls) (hts : ∀ w ∈ tk_tbl, w.before args s = true)
    (hK : va_K (dC, dI) vwCl (tk_tys dA) s) (hex : tk_exs B0 ex sc s s.heap) (hKx : tk_Kx dA s) (hnm : meth.name = mr.1.name) (hRf : d + 1 ≤ R.frames) (hRl : 100 * (d + 1) ≤ R.locals)
    {r : Option Value} {M' : tk_M} {CC SS : Nat} (hCC : CC ≤ R.cells) (hSS : SS ≤ R.slots)
    (hret : ∀ (k pc : Nat) (lsA : Array Slot) (H : Heap) (locs : List Loc) (st : List Value), (k = 3 ∨ k = 4 ∨ k = 5 ∨ k = 6) → decode mr.2.1 pc = .ok (tk_retI k, 1) → tk_ret k mr.2.2.2.1 st = some r → tk_rep B0 (tk_ad B0 ex) dA dC dI M' H → va_S (fun q => B0 ≤ q) s.heap H locs →
      W p l e R s m args below meth c H locs CC SS Q (F0 m pc lsA (st.map (tk_cv (tk_ad B0 ex))))) :
    ∀ (n pc : Nat) (ls : tk_V) (st : List Value) (M : tk_M) (lsA : Array Slot) (H : Heap) (locs : List Loc) (cells slots : Nat), tk_exec sc call kf mr n pc ls st M = some (r, M') → tk_rep B0 (tk_ad B0 ex) dA dC dI M H → lv_has lsA mr.2.2.1 (tk_cl (tk_ad B0 ex) ls) → va_S (fun q => B0 ≤ q) s.heap H locs →
      cells + (M'.1 - M.1) = CC → slots + (tk_ss M'.1 - tk_ss M.1) = SS → W p l e R s m args below meth c H locs cells slots Q (F0 m pc lsA (st.map (tk_cv (tk_ad B0 ex)))) := by
  have hcm : ∀ j as M v M1, call j as M = some (v, M1) → M.1 ≤ M1.1 := fun j as M v M1 h => (hcall j as M v M1 h).1
  intro n
  induction n with
  | zero => intro pc ls st M lsA H locs cells slots h; cases h
  | succ n ih =>
    intro pc ls st M lsA H locs cells slots h hrep hl hS hC hSl
    unfold tk_exec at h
    split at h
    · cases h
    · rename_i E hE
      obtain ⟨q1, q2, q3, q4, q5, q6⟩ := hQ _ (tk_code_mem hE)
      dsimp only at q1 q2 q3 q4 q5 q6
      have hl' : lv_has lsA mr.2.2.1 (tk_cl (tk_ad B0 ex) (tk_keep (kf pc) ls)) := tk_keep_has _ hl
      have hwH : ∀ w ∈ tk_hw mr.2.2.2.2.2.1 E, w ∈ tk_tbl := fun w hw => q6 w (List.mem_append_left _ hw)
      have hwC : ∀ w ∈ tk_cw mr.2.2.2.2.2.1 E, w ∈ tk_tbl := fun w hw => q6 w (List.mem_append_right _ hw)
      split at h
      · split at h
        · cases h
        · rename_i s2 hs
          obtain ⟨pc2, ls2, st2⟩ := s2
          refine tk_soundP hx hb hown (fun i hi => ?_) (fun i hi => ?_) q1 q2 q3 hs hl' (fun lsA' hl2 => ih _ _ _ _ _ _ _ _ _ h hrep hl2 hS hC hSl)
          · rcases hi with hi | hi <;> exact hts _ (hwH _ (by rw [tk_hw, hi]; exact List.mem_cons_self))
          · exact hts _ (hwH _ (by rw [tk_hw, hi]; exact List.mem_cons_self))
      · rename_i hso
        split at h
        · cases h
        · rename_i s2 hs
          obtain ⟨st2, M2⟩ := s2
          have m1 : M.1 ≤ M2.1 := tk_stepH_mono hs
          have m2 : M2.1 ≤ M'.1 := tk_exec_mono hcm h
          have n1 := tk_ss_mono m1
          have n2 := tk_ss_mono m2
          refine tk_soundH hx hb (hml.trans hl'.1.symm) hown hts hK hex hnm q1 q2 q4 hwH hso hs hrep hS (by omega) (by omega) (by omega) (by omega) (fun H' locs' c' s' e1 e2 hrep' hS' => ?_)
          exact ih _ _ _ _ _ _ _ _ _ h hrep' hl' hS' (by dsimp only; omega) (by dsimp only; omega)
      · rename_i hso
        split at h
        · cases h
        · rename_i q hq
          obtain ⟨as, rest⟩ := q
          split at h
          · rename_i hsum
            split at h
            · cases h
            · rename_i o ho
              obtain ⟨v, M2⟩ := o
              obtain ⟨m1, mr2, hmr2, hMet⟩ := hcall _ _ _ _ _ ho
              have m2 : M2.1 ≤ M'.1 := tk_exec_mono hcm h
              have n1 := tk_ss_mono m1
              have n2 := tk_ss_mono m2
              have e3 : tk_ln pc E.1 = 3 := by
                obtain ⟨ins, nx, a, b, k3, z, kp⟩ := E
                cases ins <;> first | rfl | (cases hso; done)
              refine tk_callS hx hb hml hown hts hK hex hKx q1 hso q5 hwC hmr2 (hallN _ _ hmr2) hq hsum hRf hRl hMet hrep hS hl'.1 ⟨by omega, by omega⟩ (fun H1 locs1 hrep1 hS1 => ?_)
              have h5 := ih _ _ _ _ lsA H1 locs1 (cells + (M2.1 - M.1)) (slots + (tk_ss M2.1 - tk_ss M.1)) h hrep1 hl' hS1 (by dsimp only; omega) (by dsimp only; omega)
              rw [q2, e3, tk_resmap] at h5
              exact h5
          · cases h
      · rename_i hso
        split at h
        · cases h
        · rename_i s2 hs
          obtain ⟨st2, M2⟩ := s2
          have m1 : M.1 ≤ M2.1 := tk_stepM_mono hs
          have m2 : M2.1 ≤ M'.1 := tk_exec_mono hcm h
          have n1 := tk_ss_mono m1
          have n2 := tk_ss_mono m2
          refine tk_soundM hx hb (hml.trans hl'.1.symm) hown hts hK hKx q1 q2 hwH hs hrep hS (by omega) (by omega) (fun H' locs' c' s' e1 e2 hrep' hS' => ?_)
          exact ih _ _ _ _ _ _ _ _ _ h hrep' hl' hS' (by dsimp only; omega) (by dsimp only; omega)
      · rename_i h0 h1 h2 h7
        cases hr : tk_ret (tk_sort E) mr.2.2.2.1 st with
        | none => rw [hr] at h; cases h
        | some v =>
          rw [hr] at h
          cases h
          obtain ⟨g1, g2, g3⟩ := tk_sort_ret h0 h1 h2 h7
          have e1 : cells = CC := by omega
          have e2 : slots = SS := by omega
          subst e1; subst e2
          have g2' : tk_ln pc E.1 = 1 := by
            rw [g1] at g2 ⊢
            rcases g3 with q | q | q | q <;> rw [q] <;> rfl
          exact hret (tk_sort E) pc lsA H locs st g3 (by rw [q1, g2', g1]) hr hrep hS
theorem tk_AOs : lw_tbl.filter tk_isAO = ([6, 3, 4, 5, 7, 8].map (fun t => Cond.arrayOver (.object (tk_C (tk_ac.getD t 0)).1))) := by decide +kernel
theorem tk_sl_len (ad : Nat → Nat) (as : List Value) : (lg_sl (as.map (tk_cv ad))).length = (lg_sl as).length := by
  induction as with
  | nil => rfl
  | cons v t ih =>
    have e : ∀ (v : Value) (t : List Value), (lg_sl (v :: t)).length = (if v.category = 2 then 2 else 1) + (lg_sl t).length := by
      intro v t
      unfold lg_sl
      rw [List.flatMap_cons, List.length_append]
      split <;> rfl
    rw [List.map_cons, e, e, tk_cv_cat, ih]
theorem tk_args (ad : Nat → Nat) : ∀ (as : List Value) (i : Nat), lv_args i (as.map (tk_cv ad)) = tk_cl ad (lv_args i as)
  | [], _ => rfl
  | v :: t, i => by
    show (i, tk_cv ad v) :: lv_args _ _ = (i, tk_cv ad v) :: tk_cl ad (lv_args _ t)
    rw [tk_cv_cat, tk_args ad t]
theorem tk_useful_of {dA : Nat → ClassId} {ws : List Cond} (hts : ∀ w ∈ ws, w.before args s = true) (hin : ∀ w ∈ tk_tb, w ∈ ws) (hKx : tk_Kx dA s) : ∀ w ∈ tk_tbl, w.before args s = true := by
  intro w hw
  obtain ⟨h1, h2⟩ := List.mem_filter.mp hw
  by_cases hg : goodWord w = true
  · exact hts w (hin w (List.mem_filter.mpr ⟨h1, hg⟩))
  · by_cases hn : tk_isNest w = true
    · have h3 := hKx.1 w h1 hn
      cases w <;> first
        | (cases hn; done)
        | exact va_Nw.use rfl h3
    · have ha : tk_isAO w = true := by simpa [tk_useful, hg, hn] using h2
      have h4 : w ∈ lw_tbl.filter tk_isAO := List.mem_filter.mpr ⟨h1, ha⟩
      rw [tk_AOs] at h4
      obtain ⟨t, ht, rfl⟩ := List.mem_map.mp h4
      simp only [List.mem_cons, List.not_mem_nil, or_false] at ht
      rcases ht with rfl | rfl | rfl | rfl | rfl | rfl <;> exact va_AO.use (hKx.2.1 _ (by decide) (by decide) (by decide))
set_option maxHeartbeats 4000000 in
/-- THE CONTRACT that a run of the abstract machine gives -/
theorem tk_soundR {kp : Nat → Nat → Option (List Nat)} (hallN : ∀ (j : Nat) (mr : tk_R), tk_mt[j]? = some mr → tk_okN mr) (hallQ : ∀ (j : Nat) (mr : tk_R), tk_mt[j]? = some mr → ∀ q ∈ mr.2.2.2.2.2.2, tk_okQ mr q) : ∀ (d n : Nat), tk_callOK l B0 ex dA dC dI sc d (tk_run sc kp d n) := by
  intro d n
  induction d with
  | zero => intro j as M v M1 h; cases h
  | succ d ih =>
    intro j as M v M1 h
    unfold tk_run at h
    split at h
    · cases h
    · rename_i mr hmr
      split at h
      · rename_i hlen
        have hcm : ∀ j as M v M1, tk_run sc kp d n j as M = some (v, M1) → M.1 ≤ M1.1 := fun j as M v M1 h => (ih j as M v M1 h).1
        have hmono := tk_exec_mono hcm h
        refine ⟨hmono, mr, hmr, ?_⟩
        have hN := hallN j mr hmr
        refine tk_ofW (cc := mr.2.1) (maxL := mr.2.2.1) (ret := mr.2.2.2.1) hN.1 rfl ?_
        intro p e s m args below meth c s₁ B hml hv
        obtain ⟨rfl, hrep, hK, hex, hKx⟩ := hv
        have hx := B.exec
        have hb := B.bytes
        have hr := B.returns
        have hts0 := atoms_spec (ws := Cond.code mr.1 mr.2.1 mr.2.2.1 mr.2.2.2.1 :: tk_tb) B.pre
        have hts := tk_useful_of hts0 (fun w hw => List.mem_cons_of_mem _ hw) hKx
        have hown : s.vm.findClass mr.2.2.2.2.2.1 = some m.cls := by rw [← hN.2.1]; exact findClass_of_methodNamed B.named
        have hlocks := B.notSynchronized
        have hnm : meth.name = mr.1.name := (name_of_methodNamed B.named B.method).1
        have hlen' : (lg_sl (as.map (tk_cv (tk_ad B0 ex)))).length ≤ mr.2.2.1 := by rw [tk_sl_len]; exact hlen
        have hl := lv_entry (as.map (tk_cv (tk_ad B0 ex))) (n := mr.2.2.1) hlen'
        rw [lg_entry_eq]
        generalize (lg_sl (as.map (tk_cv (tk_ad B0 ex))) ++ List.replicate (mr.2.2.1 - (lg_sl (as.map (tk_cv (tk_ad B0 ex)))).length) Slot.unset).toArray = ls at hl ⊢
        rw [tk_args] at hl
        refine tk_soundE (CC := M1.1 - M.1) (SS := tk_ss M1.1 - tk_ss M.1) ih hallN (hallQ j mr hmr) hx hb hml hown hts hK hex hKx hnm (Nat.le_refl _) (Nat.le_refl _) (Nat.le_refl _) (Nat.le_refl _) ?_ n 0 (lv_args 0 as) [] M ls s.heap [] 0 0 h hrep hl va_S.rf (Nat.zero_add _) (Nat.zero_add _)
        intro k pc lsA H locs st hk hd hrt hrep' hS
        rcases hk with rfl | rfl | rfl | rfl
        · simp only [tk_ret] at hrt
          split at hrt
          · rename_i x
            split at hrt
            · rename_i hri
              cases hrt
              exact W.iret hx hb (hr.trans hri) (fun t ht hW => ⟨rfl, by rw [ht]; exact hrep', hS.F ht⟩) hS.2.2 hd
            · split at hrt
              · rename_i hri
                cases hrt
                exact W.zret hx hb (hr.trans hri.1) (by rcases hri.2 with rfl | rfl <;> rfl) (fun t ht hW => ⟨rfl, by rw [ht]; exact hrep', hS.F ht⟩) hS.2.2 hd
              · cases hrt
          · cases hrt
        · simp only [tk_ret] at hrt
          split at hrt
          · split at hrt
            · rename_i hri
              cases hrt
              exact W.lret hx hb (hr.trans hri) (fun t ht hW => ⟨rfl, by rw [ht]; exact hrep', hS.F ht⟩) hS.2.2 hd
            · cases hrt
          · cases hrt
        · simp only [tk_ret] at hrt
          split at hrt
          · split at hrt
            · rename_i t0 hri
              split at hrt
              · rename_i hrf
                cases hrt
                exact W.aret hx hb (hr.trans hri) (by cases t0 <;> first | (cases hrf; done) | exact Or.inl ⟨_, rfl⟩ | exact Or.inr ⟨_, rfl⟩) (Or.inr ⟨_, rfl⟩) (fun t ht hW => ⟨rfl, by rw [ht]; exact hrep', hS.F ht⟩) hS.2.2 hd
              · cases hrt
            · cases hrt
          · cases hrt
        · simp only [tk_ret] at hrt
          split at hrt
          · split at hrt
            · rename_i hri
              cases hrt
              exact W.vret hx hb (hr.trans hri) (fun t ht hW => ⟨rfl, by rw [ht]; exact hrep', hS.F ht⟩) hS.2.2 hd
            · cases hrt
          · cases hrt
      · cases h
end TKR
