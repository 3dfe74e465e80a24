/-! ===== soundness of the steps that touch the heap, one by one ===== -/
theorem tk_P1 {D : va_G} {cl : List vw_C} {x : Nat × va_E} {H : Heap} (h : va_at D cl x H) : va_P D cl [x] H := by
  intro k q hq
  cases k with
  | zero => cases hq; exact h
  | succ k => simp at hq
theorem tk_adO {B0 : Nat} {ex : Nat → Nat} {i : Nat} (h : i < 1000) : tk_ad B0 ex i = B0 + i := if_pos h
theorem tk_adX {B0 : Nat} {ex : Nat → Nat} {k : Nat} : tk_ad B0 ex (1000 + k) = ex k := by
  unfold tk_ad
  rw [if_neg (by omega), Nat.add_sub_cancel_left]
theorem tk_adX' {B0 : Nat} {ex : Nat → Nat} {r : Nat} (h : 1000 ≤ r) : tk_ad B0 ex r = ex (r - 1000) := if_neg (Nat.not_lt.mpr h)
theorem tk_x7 {r : Nat} (h1 : 1000 ≤ r) (h2 : r < 1007) : r - 1000 < 7 := by omega
def tk_tkd (t : Nat) : Nat := if t < 3 then t else 3
theorem tk_vcell (ad : Nat → Nat) (M : tk_M) (c : ClassId) (t n i : Nat) : vp_cell c (n, tk_arr ad M t i) = arrV c n (fun j => tk_cv ad (tk_gf (tk_tkd t) M i j)) := by
  match t with
  | 0 => rfl
  | 1 => rfl
  | 2 => rfl
  | t + 3 =>
    show arrV c n (fun j => va_rf ((M.2.2.2.2 i j).map ad)) = _
    congr 1
    funext j
    have e : tk_tkd (t + 3) = 3 := if_neg (by omega)
    rw [e]
    show _ = tk_cv ad (va_rf (M.2.2.2.2 i j))
    cases M.2.2.2.2 i j <;> rfl
theorem tk_stored {ad : Nat → Nat} {M M' : tk_M} {kd i j : Nat} {v : Value} (c : ClassId) (n : Nat) (h : tk_pf kd M i j v = some M') : arrV c n (updV (fun j => tk_cv ad (tk_gf kd M i j)) j (tk_cv ad v)) = arrV c n (fun j => tk_cv ad (tk_gf kd M' i j)) := by
  congr 1
  funext k
  by_cases hk : k = j
  · subst hk
    simp only [updV, if_pos]
    rw [tk_pf_self h]
  · simp only [updV, if_neg hk]
    rw [tk_pf_beside h hk]
theorem tk_refT : ∀ t, t < 12 → ¬ t < 3 → (tk_at.getD t .int).isReference = true := by decide
theorem tk_acT : ∀ t, t < 12 → 3 ≤ t → t < 9 → tk_at.getD t .int = .object (tk_C (tk_ac.getD t 0)).1 ∧ tk_ac.getD t 0 < 12 := by decide
theorem tk_acN : ∀ t, t < 12 → (t < 3 ∨ 9 ≤ t) → tk_ac[t]? = some 99 := by decide
theorem tk_acS : ∀ t, t < 12 → tk_ac[t]? = some (tk_ac.getD t 0) := by decide
theorem tk_dv {ad : Nat → Nat} {M : tk_M} {ty : FieldType} {kd k : Nat} (h : tk_kty ty = kd) (h9 : kd ≠ 9) : defaultValue ty = tk_cv ad (tk_gf kd (tk_new M) M.1 k) := by
  subst h
  have z1 : ∀ {α : Type} (f : Nat → Nat → α) (d : α), tk_z1 f M.1 d M.1 k = d := fun f d => if_pos rfl
  cases ty <;> first
    | exact absurd rfl h9
    | (simp only [tk_kty, tk_gf, tk_new, z1]; rfl)
theorem tk_kty9 : ∀ ci, ci < 12 → ∀ k, k < tk_nf ci → tk_kty (tk_ty0 ci k) ≠ 9 := by decide
theorem tk_ktkd : ∀ a, a < 3 → tk_kty (tk_at.getD a .int) = tk_tkd a := by decide
theorem tk_nz {M M' : tk_M} {i k : Nat} {x : Int32} (h : tk_pf 2 M i k (.int x) = some M') : narrow .boolean (.int x) = .int x := (tk_fit (ad := id) (ty := .boolean) h rfl).1
def tk_wsl (B0 : Nat) (ad : Nat → Nat) (dA : Nat → ClassId) (M : tk_M) : va_W := (List.range M.1).map (fun i => (B0 + i, tk_cell ad dA M i))
theorem tk_wsl_get {B0 : Nat} {ad : Nat → Nat} {dA : Nat → ClassId} {M : tk_M} {i : Nat} (h : i < M.1) : (tk_wsl B0 ad dA M)[i]? = some (B0 + i, tk_cell ad dA M i) := by
  unfold tk_wsl
  rw [List.getElem?_map, List.getElem?_range h]
  rfl
theorem tk_wsl_inv {B0 : Nat} {ad : Nat → Nat} {dA : Nat → ClassId} {M : tk_M} {i : Nat} {q : Nat × va_E} (h : (tk_wsl B0 ad dA M)[i]? = some q) : i < M.1 ∧ q = (B0 + i, tk_cell ad dA M i) := by
  have hl : i < M.1 := by
    have := (List.getElem?_eq_some_iff.mp h).1
    simpa [tk_wsl] using this
  rw [tk_wsl_get hl] at h
  cases h
  exact ⟨hl, rfl⟩
theorem tk_wsl_P {B0 : Nat} {ad : Nat → Nat} {dA dC : Nat → ClassId} {dI : Nat → Nat → Nat} {M : tk_M} {H : Heap} (h : tk_rep B0 ad dA dC dI M H) : va_P (dC, dI) vwCl (tk_wsl B0 ad dA M) H := by
  intro k q hq
  obtain ⟨h1, rfl⟩ := tk_wsl_inv hq
  exact h.1 k h1
theorem tk_wsl_D {B0 : Nat} {ad : Nat → Nat} {dA : Nat → ClassId} {M : tk_M} : va_D (fun q => B0 ≤ q) (tk_wsl B0 ad dA M) := by
  refine ⟨fun i j p q hp hq e => ?_, fun k q hq => ?_⟩
  · obtain ⟨-, rfl⟩ := tk_wsl_inv hp
    obtain ⟨-, rfl⟩ := tk_wsl_inv hq
    have : B0 + i = B0 + j := e
    omega
  · obtain ⟨-, rfl⟩ := tk_wsl_inv hq
    exact Nat.le_add_right B0 k
section TKH2
variable {p : Program} {l : Launch} {e : Env} {R : Room} {s : State} {m : MethodId} {args : Array Value} {below : List Frame} {meth : Method} {c : Code} {H : Heap} {locs : List Loc} {cells slots : Nat} {Q : State → Prop}
variable {cc : ByteArray} {pc : Nat} {B0 : Nat} {ex : Nat → Nat} {dA dC : Nat → ClassId} {dI : Nat → Nat → Nat} {sc : tk_X} {own nm : String} {E : tk_E} {st st' : List Value} {M M' : tk_M} {lsA : Array Slot}
/-- the heap behind a write to a place of the cell i -/
theorem tk_rep_pf {kd i k : Nat} {v : Value} {H' : Heap} {ad : Nat → Nat} (hrep : tk_rep B0 ad dA dC dI M H) (h : tk_pf kd M i k v = some M') (hi : va_at (dC, dI) vwCl (B0 + i, tk_cell ad dA M' i) H') (ho : ∀ q : Nat, q ≠ B0 + i → H'[q]? = H[q]?) (hz : H'.size = H.size) : tk_rep B0 ad dA dC dI M' H' :=
  tk_rep_set hrep (tk_pf_np h) (fun j hj => by obtain ⟨a, b, c, d⟩ := tk_pf_other h hj; exact tk_cell_congr a b c d) (fun _ => hi) ho (fun _ => hz)
theorem tk_lt {r : Nat} (h : r < M.1) (hrep : tk_rep B0 (tk_ad B0 ex) dA dC dI M H) : r < 1000 := by
  have := hrep.2.2
  rw [tk_laylen] at this
  omega
set_option maxHeartbeats 4000000 in
theorem tk_soundH (hx : p.tables.exec = Jvm.exec) (hb : c.code = cc) (hml : c.maxLocals = lsA.size) (hown : s.vm.findClass own = some m.cls) (hts : ∀ w ∈ tk_tbl, w.before args s = true) (hK : va_K (dC, dI) vwCl (tk_tys dA) s) (hex : tk_exs B0 ex sc s s.heap) (hnm : meth.name = nm)
    (hd : decode cc pc = .ok (E.1, tk_ln pc E.1)) (hn : E.2.1 = pc + tk_ln pc E.1) (hok : tk_okH own nm E = true) (hw : ∀ w ∈ tk_hw own E, w ∈ tk_tbl) (hsort : tk_sort E = 1)
    (h : tk_stepH sc E st M = some (st', M')) (hrep : tk_rep B0 (tk_ad B0 ex) dA dC dI M H) (hS : va_S (fun q => B0 ≤ q) s.heap H locs)
    (hc1 : cells + (M'.1 - M.1) ≤ R.cells) (hc2 : slots + (tk_ss M'.1 - tk_ss M.1) ≤ R.slots) (hfr : 1 ≤ R.frames) (hlo : 60 ≤ R.locals)
    (kk : ∀ (H' : Heap) (locs' : List Loc) (c' s' : Nat), c' = cells + (M'.1 - M.1) → s' = slots + (tk_ss M'.1 - tk_ss M.1) → tk_rep B0 (tk_ad B0 ex) dA dC dI M' H' → va_S (fun q => B0 ≤ q) s.heap H' locs' →
      W p l e R s m args below meth c H' locs' c' s' Q (F0 m E.2.1 lsA (st'.map (tk_cv (tk_ad B0 ex))))) :
    W p l e R s m args below meth c H locs cells slots Q (F0 m pc lsA (st.map (tk_cv (tk_ad B0 ex)))) := by
  obtain ⟨ins, nx, a, b, k3, z, kp⟩ := E
  dsimp only at hd hn kk
  subst hn
  cases ins <;> try (cases h; done)
  case getfield i =>
    simp only [tk_stepH] at h
    split at h
    · rename_i r s2
      split at h
      · rename_i hO
        cases h
        obtain ⟨hr, hlay⟩ := tk_isO_iff hO
        have hat := hrep.1 r hr
        rw [tk_cell_o hlay] at hat
        simp only [tk_okH, Bool.and_eq_true, decide_eq_true_eq] at hok
        obtain ⟨⟨ha, hbk⟩, hkd⟩ := hok
        obtain ⟨g1, g2, g3, g4, g5, g6⟩ := tk_cls a ha
        rw [g5] at hbk
        show W p l e R s m args below meth c H locs cells slots Q (F0 m pc lsA (.ref (tk_ad B0 ex r) :: s2.map (tk_cv (tk_ad B0 ex))))
        rw [tk_adO (tk_lt hr hrep)]
        refine va_get (D := (dC, dI)) (ci := a) (v := tk_cv (tk_ad B0 ex) (tk_gf k3 M r b)) hx hb hts g2 hown hK (tk_P1 hat) 0 rfl g1 b hbk (hts _ (hw _ List.mem_cons_self)) (fun _ q => q) ?_ hd (kk H locs cells slots (by simp) (by simp) hrep hS)
        unfold tk_fs
        rw [List.getElem?_map, List.getElem?_range (by rw [g5]; exact hbk), hkd]
        rfl
      · cases h
    · cases h
  case putfield i =>
    simp only [tk_stepH] at h
    split at h
    · rename_i v r s2
      split at h
      · rename_i hO
        cases hpf : tk_pf k3 M r b v with
        | none => rw [hpf] at h; cases h
        | some M1 =>
          rw [hpf] at h
          cases h
          obtain ⟨hr, hlay⟩ := tk_isO_iff hO
          have hat := hrep.1 r hr
          rw [tk_cell_o hlay] at hat
          simp only [tk_okH, Bool.and_eq_true, decide_eq_true_eq] at hok
          obtain ⟨⟨⟨ha, hbk⟩, hkd⟩, hfin⟩ := hok
          obtain ⟨g1, g2, g3, g4, g5, g6⟩ := tk_cls a ha
          have hbk' := hbk
          rw [g5] at hbk
          have hnp := tk_pf_np hpf
          show W p l e R s m args below meth c H locs cells slots Q (F0 m pc lsA (tk_cv (tk_ad B0 ex) v :: .ref (tk_ad B0 ex r) :: st'.map (tk_cv (tk_ad B0 ex))))
          rw [tk_adO (tk_lt hr hrep)]
          obtain ⟨f1, f2⟩ := tk_fit (ad := tk_ad B0 ex) hpf ((g6 b hbk).trans hkd.symm)
          refine tk_putf (D := (dC, dI)) (ci := a) hx hb hts g2 (tk_ty0 a) g3 g4 hown hK hat hS (Nat.le_add_right B0 r) g1 b hbk (hts _ (hw _ List.mem_cons_self)) (fun hF => ?_) (g3 b hbk) f1 f2 ?_ hd (fun H1 locs1 e1 e2 e3 hS1 => kk H1 locs1 cells slots (by rw [hnp]; simp) (by rw [hnp]; simp) (tk_rep_pf hrep hpf ?_ e3 e2) hS1)
          · rw [if_pos hF] at hfin
            simp only [Bool.and_eq_true, decide_eq_true_eq] at hfin
            exact ⟨hnm.trans hfin.1, hfin.2⟩
          · simp [tk_fs]
            exact hbk'
          · rw [tk_cell_o hlay, tk_fs_set hpf hbk' hkd]
            exact e1
      · cases h
    · cases h
  case getstatic i =>
    cases h
    simp only [tk_okH, decide_eq_true_eq] at hok
    have hZ := hex.2 a hok
    have kk' := kk H locs cells slots (by simp) (by simp) hrep hS
    have e0 : tk_cv (tk_ad B0 ex) (.ref (1000 + a)) = .ref (ex a) := by show Value.ref (tk_ad B0 ex (1000 + a)) = _; rw [tk_adX]
    have kk2 : W p l e R s m args below meth c H locs cells slots Q (F0 m (pc + 3) lsA (.ref (ex a) :: st.map (tk_cv (tk_ad B0 ex)))) := by
      rw [← e0]
      exact kk'
    by_cases h0 : k3 = 0
    · refine va_gets hx hb hZ hS hown (hts _ (hw (.fieldLink own i (tk_stn a).1 (tk_stn a).2 "[I") ?_)) (fun _ q => q) hd kk2
      simp only [tk_hw, h0, if_true]
      exact List.mem_cons_self
    · refine va_getsN hx hb hZ hS hown (hts _ (hw (.fieldLinkNest own i (tk_stn a).1 (tk_stn a).2 "[I" "ThreeTouched") ?_)) (fun _ q => q) hd kk2
      simp only [tk_hw, h0, if_false]
      exact List.mem_cons_self
  case iaload =>
    simp only [tk_stepH] at h
    split at h
    · rename_i j r s2
      split at h
      · rename_i hr0
        split at h
        · rename_i hi
          cases h
          obtain ⟨h7, hj0, hjn⟩ := hi
          obtain ⟨hX, hxB⟩ := hex.1 (r - 1000) (tk_x7 hr0 h7)
          show W p l e R s m args below meth c H locs cells slots Q (F0 m pc lsA (.int j :: .ref (tk_ad B0 ex r) :: s2.map (tk_cv (tk_ad B0 ex))))
          rw [tk_adX' hr0]
          exact va_sld hx hb hX (by obtain ⟨scr, q1, -⟩ := hX; exact (Array.getElem?_eq_some_iff.mp q1).1) (Nat.not_le.mpr hxB) hS (fun q => q.elim hj0 (fun q => absurd hjn (by omega))) hd (kk H locs cells slots (by simp) (by simp) hrep hS)
        · cases h
      · split at h
        · rename_i hi
          cases h
          obtain ⟨t, n, hlay, hr, hkd, hj0, hjn⟩ := tk_inA_iff hi
          have ht : t = 0 := by split at hkd <;> omega
          subst ht
          have hat := hrep.1 r hr
          rw [tk_cell_a hlay] at hat
          have hat2 : H[B0 + r]? = some (vp_cell (dA 0) (n, tk_arr (tk_ad B0 ex) M 0 r)) := hat
          rw [tk_vcell] at hat2
          show W p l e R s m args below meth c H locs cells slots Q (F0 m pc lsA (.int j :: .ref (tk_ad B0 ex r) :: s2.map (tk_cv (tk_ad B0 ex))))
          rw [tk_adO (tk_lt hr hrep)]
          exact W.iald hx hb hat2 ((hK.2 0 _ (tk_tys_get dA (by decide))).1 n _) (fun q => by cases q) (by rw [arrV_size]; exact fun q => q.elim hj0 (fun q => absurd hjn (by omega))) (by rw [arrV_read _ _ hjn]; rfl) rfl rfl hd (kk H locs cells slots (by simp) (by simp) hrep hS)
        · cases h
    · cases h
  case laload =>
    simp only [tk_stepH] at h
    split at h
    · rename_i j r s2
      split at h
      · rename_i hi
        cases h
        obtain ⟨t, n, hlay, hr, hkd, hj0, hjn⟩ := tk_inA_iff hi
        have ht : t = 1 := by split at hkd <;> omega
        subst ht
        have ht12 : 1 < 12 := by decide
        have htk : tk_tkd 1 = 1 := rfl
        have hat := hrep.1 r hr
        rw [tk_cell_a hlay] at hat
        have hat2 : H[B0 + r]? = some (vp_cell (dA 1) (n, tk_arr (tk_ad B0 ex) M 1 r)) := hat
        rw [tk_vcell, htk] at hat2
        show W p l e R s m args below meth c H locs cells slots Q (F0 m pc lsA (.int j :: .ref (tk_ad B0 ex r) :: s2.map (tk_cv (tk_ad B0 ex))))
        rw [tk_adO (tk_lt hr hrep)]
        exact W.lald hx hb hat2 ((hK.2 1 _ (tk_tys_get dA ht12)).1 n _) (fun q => by cases q) (by rw [arrV_size]; exact fun q => q.elim hj0 (fun q => absurd hjn (by omega))) (by rw [arrV_read _ _ hjn]) rfl rfl hd (kk H locs cells slots (by simp) (by simp) hrep hS)
      · cases h
    · cases h
  case baload =>
    simp only [tk_stepH] at h
    split at h
    · rename_i j r s2
      split at h
      · rename_i hi
        cases h
        obtain ⟨t, n, hlay, hr, hkd, hj0, hjn⟩ := tk_inA_iff hi
        have ht : t = 2 := by split at hkd <;> omega
        subst ht
        have ht12 : 2 < 12 := by decide
        have htk : tk_tkd 2 = 2 := rfl
        have hat := hrep.1 r hr
        rw [tk_cell_a hlay] at hat
        have hat2 : H[B0 + r]? = some (vp_cell (dA 2) (n, tk_arr (tk_ad B0 ex) M 2 r)) := hat
        rw [tk_vcell, htk] at hat2
        show W p l e R s m args below meth c H locs cells slots Q (F0 m pc lsA (.int j :: .ref (tk_ad B0 ex r) :: s2.map (tk_cv (tk_ad B0 ex))))
        rw [tk_adO (tk_lt hr hrep)]
        exact W.zald hx hb hat2 ((hK.2 2 _ (tk_tys_get dA ht12)).1 n _) (fun q => by cases q) (by rw [arrV_size]; exact fun q => q.elim hj0 (fun q => absurd hjn (by omega))) (by rw [arrV_read _ _ hjn]) rfl rfl hd (kk H locs cells slots (by simp) (by simp) hrep hS)
      · cases h
    · cases h
  case aaload =>
    simp only [tk_stepH] at h
    split at h
    · rename_i j r s2
      split at h
      · rename_i hi
        cases h
        obtain ⟨t, n, hlay, hr, hkd, hj0, hjn⟩ := tk_inA_iff hi
        have ht3 : ¬ t < 3 := by intro q; rw [if_pos q] at hkd; omega
        have ht12 := (tk_tag hlay).1
        have htk : tk_tkd t = 3 := if_neg ht3
        have hat := hrep.1 r hr
        rw [tk_cell_a hlay] at hat
        have hat2 : H[B0 + r]? = some (vp_cell (dA t) (n, tk_arr (tk_ad B0 ex) M t r)) := hat
        rw [tk_vcell, htk] at hat2
        show W p l e R s m args below meth c H locs cells slots Q (F0 m pc lsA (.int j :: .ref (tk_ad B0 ex r) :: s2.map (tk_cv (tk_ad B0 ex))))
        rw [tk_adO (tk_lt hr hrep)]
        exact W.aald hx hb hat2 ((hK.2 t _ (tk_tys_get dA ht12)).1 n _) (tk_refT t ht12 ht3) (fun q => by cases q) (by rw [arrV_size]; exact fun q => q.elim hj0 (fun q => absurd hjn (by omega))) (by rw [arrV_read _ _ hjn]) rfl rfl hd (kk H locs cells slots (by simp) (by simp) hrep hS)
      · cases h
    · cases h
  case iastore =>
    simp only [tk_stepH] at h
    split at h
    · rename_i x j r s2
      split at h
      · rename_i hi
        cases hpf : tk_pf 0 M r j.toNatClampNeg (.int x) with
        | none => rw [hpf] at h; cases h
        | some M1 =>
          rw [hpf] at h
          cases h
          obtain ⟨t, n, hlay, hr, hkd, hj0, hjn⟩ := tk_inA_iff hi
          have ht : t = 0 := by split at hkd <;> omega
          subst ht
          have hat := hrep.1 r hr
          rw [tk_cell_a hlay] at hat
          have hat2 : H[B0 + r]? = some (vp_cell (dA 0) (n, tk_arr (tk_ad B0 ex) M 0 r)) := hat
          rw [tk_vcell] at hat2
          have hnp := tk_pf_np hpf
          show W p l e R s m args below meth c H locs cells slots Q (F0 m pc lsA (.int x :: .int j :: .ref (tk_ad B0 ex r) :: st'.map (tk_cv (tk_ad B0 ex))))
          rw [tk_adO (tk_lt hr hrep)]
          refine W.iast hx hb hat2 ((hK.2 0 _ (tk_tys_get dA (by decide))).1 n _) (fun q => by cases q) (by rw [arrV_size]; exact fun q => q.elim hj0 (fun q => absurd hjn (by omega))) rfl rfl hd fun H1 e z oq => ?_
          refine kk H1 _ cells slots (by rw [hnp]; simp) (by rw [hnp]; simp) (tk_rep_pf hrep hpf ?_ oq z) (hS.put z oq (Nat.le_add_right B0 r))
          rw [tk_cell_a hlay]
          show H1[B0 + r]? = some (vp_cell (dA 0) (n, tk_arr (tk_ad B0 ex) M' 0 r))
          rw [tk_vcell, show tk_tkd 0 = 0 from rfl, ← tk_stored (dA 0) n hpf, e, arrV_store]
          rfl
      · cases h
    · cases h
  case lastore =>
    simp only [tk_stepH] at h
    split at h
    · rename_i x j r s2
      split at h
      · rename_i hi
        cases hpf : tk_pf 1 M r j.toNatClampNeg (.long x) with
        | none => rw [hpf] at h; cases h
        | some M1 =>
          rw [hpf] at h
          cases h
          obtain ⟨t, n, hlay, hr, hkd, hj0, hjn⟩ := tk_inA_iff hi
          have ht : t = 1 := by split at hkd <;> omega
          subst ht
          have hat := hrep.1 r hr
          rw [tk_cell_a hlay] at hat
          have hat2 : H[B0 + r]? = some (vp_cell (dA 1) (n, tk_arr (tk_ad B0 ex) M 1 r)) := hat
          rw [tk_vcell] at hat2
          have hnp := tk_pf_np hpf
          show W p l e R s m args below meth c H locs cells slots Q (F0 m pc lsA (.long x :: .int j :: .ref (tk_ad B0 ex r) :: st'.map (tk_cv (tk_ad B0 ex))))
          rw [tk_adO (tk_lt hr hrep)]
          refine W.last hx hb hat2 ((hK.2 1 _ (tk_tys_get dA (by decide))).1 n _) (fun q => by cases q) (by rw [arrV_size]; exact fun q => q.elim hj0 (fun q => absurd hjn (by omega))) rfl rfl hd fun H1 e z oq => ?_
          refine kk H1 _ cells slots (by rw [hnp]; simp) (by rw [hnp]; simp) (tk_rep_pf hrep hpf ?_ oq z) (hS.put z oq (Nat.le_add_right B0 r))
          rw [tk_cell_a hlay]
          show H1[B0 + r]? = some (vp_cell (dA 1) (n, tk_arr (tk_ad B0 ex) M' 1 r))
          rw [tk_vcell, show tk_tkd 1 = 1 from rfl, ← tk_stored (dA 1) n hpf, e, arrV_store]
          rfl
      · cases h
    · cases h
  case bastore =>
    simp only [tk_stepH] at h
    split at h
    · rename_i x j r s2
      split at h
      · rename_i hi
        cases hpf : tk_pf 2 M r j.toNatClampNeg (.int x) with
        | none => rw [hpf] at h; cases h
        | some M1 =>
          rw [hpf] at h
          cases h
          obtain ⟨t, n, hlay, hr, hkd, hj0, hjn⟩ := tk_inA_iff hi
          have ht : t = 2 := by split at hkd <;> omega
          subst ht
          have hat := hrep.1 r hr
          rw [tk_cell_a hlay] at hat
          have hat2 : H[B0 + r]? = some (vp_cell (dA 2) (n, tk_arr (tk_ad B0 ex) M 2 r)) := hat
          rw [tk_vcell] at hat2
          have hnp := tk_pf_np hpf
          show W p l e R s m args below meth c H locs cells slots Q (F0 m pc lsA (.int x :: .int j :: .ref (tk_ad B0 ex r) :: st'.map (tk_cv (tk_ad B0 ex))))
          rw [tk_adO (tk_lt hr hrep)]
          refine W.zast hx hb hat2 ((hK.2 2 _ (tk_tys_get dA (by decide))).1 n _) (fun q => by cases q) (by rw [arrV_size]; exact fun q => q.elim hj0 (fun q => absurd hjn (by omega))) rfl rfl hd fun H1 e z oq => ?_
          refine kk H1 _ cells slots (by rw [hnp]; simp) (by rw [hnp]; simp) (tk_rep_pf hrep hpf ?_ oq z) (hS.put z oq (Nat.le_add_right B0 r))
          rw [tk_cell_a hlay]
          show H1[B0 + r]? = some (vp_cell (dA 2) (n, tk_arr (tk_ad B0 ex) M' 2 r))
          rw [tk_vcell, show tk_tkd 2 = 2 from rfl, ← tk_stored (dA 2) n hpf, e, arrV_store]
          rw [tk_nz hpf]
          rfl
      · cases h
    · cases h
  case aastore =>
    simp only [tk_stepH] at h
    split at h
    · rename_i v j r s2
      split at h
      · rename_i hi
        obtain ⟨hi, hmay⟩ := hi
        cases hpf : tk_pf 3 M r j.toNatClampNeg (.ref v) with
        | none => rw [hpf] at h; cases h
        | some M1 =>
          rw [hpf] at h
          cases h
          obtain ⟨t, n, hlay, hr, hkd, hj0, hjn⟩ := tk_inA_iff hi
          have ht3 : ¬ t < 3 := by intro q; rw [if_pos q] at hkd; omega
          have ht12 := (tk_tag hlay).1
          have htk : tk_tkd t = 3 := if_neg ht3
          simp only [tk_may, hlay] at hmay
          have ht9 : t < 9 := by
            rcases Nat.lt_or_ge t 9 with q | q
            · exact q
            · rw [tk_acN t ht12 (Or.inr q)] at hmay
              exact absurd (tk_tagO (tk_isO_iff hmay).2) (by decide)
          rw [tk_acS t ht12] at hmay
          obtain ⟨hv, hlayv⟩ := tk_isO_iff hmay
          obtain ⟨hty, hci⟩ := tk_acT t ht12 (by omega) ht9
          generalize hcie : tk_ac.getD t 0 = ci at hty hci hlayv
          obtain ⟨g1, -⟩ := tk_cls ci hci
          have hat := hrep.1 r hr
          rw [tk_cell_a hlay] at hat
          have hat2 : H[B0 + r]? = some (vp_cell (dA t) (n, tk_arr (tk_ad B0 ex) M t r)) := hat
          rw [tk_vcell, htk] at hat2
          have hatv := hrep.1 v hv
          rw [tk_cell_o hlayv] at hatv
          obtain ⟨r', hr', cellV, q1, q2, q3, -⟩ := hatv
          have hcls := (hK.1 ci _ g1).2
          have hRA := (hK.2 t _ (tk_tys_get dA ht12)).2
          simp only [hty] at hRA
          obtain ⟨kA, comp, k1, k2, k3', -⟩ := hRA
          have hcomp : comp = dC ci := Option.some.inj (k3'.symm.trans hcls.1)
          subst hcomp
          obtain ⟨kC, hkC, -⟩ := hcls.2
          have hnp := tk_pf_np hpf
          show W p l e R s m args below meth c H locs cells slots Q (F0 m pc lsA (.ref (tk_ad B0 ex v) :: .int j :: .ref (tk_ad B0 ex r) :: st'.map (tk_cv (tk_ad B0 ex))))
          rw [tk_adO (tk_lt hr hrep), tk_adO (tk_lt hv hrep)]
          refine W.aast hx hb hat2 (fun q h => by cases h) (fun h => by cases h) k1 k2 rfl hkC ⟨hj0, by rw [arrV_size]; exact hjn⟩ q1 (fun q h => by rw [q3] at h; cases h) (by rw [q2]; exact hkC) (by rw [q2]; exact va_assign hcls) rfl rfl hd fun H1 e z oq => ?_
          refine kk H1 _ cells slots (by rw [hnp]; simp) (by rw [hnp]; simp) (tk_rep_pf hrep hpf ?_ oq z) (hS.put z oq (Nat.le_add_right B0 r))
          rw [tk_cell_a hlay]
          show H1[B0 + r]? = some (vp_cell (dA t) (n, tk_arr (tk_ad B0 ex) M' t r))
          rw [tk_vcell, htk, ← tk_stored (dA t) n hpf, e, arrV_store]
          show some (arrV _ _ (updV _ _ (.ref (B0 + v)))) = some (arrV _ _ (updV _ _ (.ref (tk_ad B0 ex v))))
          rw [tk_adO (tk_lt hv hrep)]
      · cases h
    · cases h
  case arraylength =>
    simp only [tk_stepH] at h
    split at h
    · rename_i r s2
      split at h
      · rename_i hr0
        split at h
        · rename_i h7
          cases h
          obtain ⟨hX, hxB⟩ := hex.1 (r - 1000) (tk_x7 hr0 h7)
          show W p l e R s m args below meth c H locs cells slots Q (F0 m pc lsA (.ref (tk_ad B0 ex r) :: s2.map (tk_cv (tk_ad B0 ex))))
          rw [tk_adX' hr0]
          exact va_slen hx hb hX (by obtain ⟨scr, q1, -⟩ := hX; exact (Array.getElem?_eq_some_iff.mp q1).1) (Nat.not_le.mpr hxB) hS hd (kk H locs cells slots (by simp) (by simp) hrep hS)
        · cases h
      · split at h
        · rename_i t n hlay
          split at h
          · rename_i hr
            cases h
            have hat := hrep.1 r hr
            rw [tk_cell_a hlay] at hat
            have hat2 : H[B0 + r]? = some (vp_cell (dA t) (n, tk_arr (tk_ad B0 ex) M t r)) := hat
            rw [tk_vcell] at hat2
            show W p l e R s m args below meth c H locs cells slots Q (F0 m pc lsA (.ref (tk_ad B0 ex r) :: s2.map (tk_cv (tk_ad B0 ex))))
            rw [tk_adO (tk_lt hr hrep)]
            exact W.alen hx hb hat2 ((hK.2 t _ (tk_tys_get dA (tk_tag hlay).1)).1 n _) (by rw [arrV_size]) rfl rfl hd (kk H locs cells slots (by simp) (by simp) hrep hS)
          · cases h
        · cases h
    · cases h
  case new i =>
    simp only [tk_stepH] at h
    split at h
    · rename_i hlay
      cases h
      simp only [tk_okH, decide_eq_true_eq] at hok
      obtain ⟨g1, g2, g3, g4, g5, g6⟩ := tk_cls a hok
      have hlt : M.1 < tk_lay.length := (List.getElem?_eq_some_iff.mp hlay).1
      have hsz : H.size = B0 + M.1 := hrep.2.1 hlt
      have hss : tk_ss (M.1 + 1) = tk_ss M.1 + tk_nf a := tk_ss_succ hlay
      have hKn := hK.1 a _ g1
      have hc1' : cells + 1 ≤ R.cells := by have : (tk_new M).1 - M.1 = 1 := by show M.1 + 1 - M.1 = 1; omega
                                            omega
      have hc2' : slots + (tk_C a).2.2 ≤ R.slots := by
        have : tk_ss (tk_new M).1 = tk_ss M.1 + tk_nf a := hss
        omega
      refine W.newcK hx hb hown (hts _ (hw _ List.mem_cons_self)) (hts _ (hw _ (List.mem_cons_of_mem _ List.mem_cons_self))) (hts _ (hw _ (List.mem_cons_of_mem _ (List.mem_cons_of_mem _ List.mem_cons_self)))) rfl hd hc1' hc2' hKn.2.1 hsz fun H1 kC hkC e1 z1 o1 => ?_
      have kk' := kk H1 locs (cells + 1) (slots + (tk_C a).2.2) (by show cells + 1 = cells + (M.1 + 1 - M.1); omega) (by show _ = slots + (tk_ss (M.1 + 1) - tk_ss M.1); omega) (tk_rep_new hrep hlt ?_ o1 z1) ⟨Nat.le_trans hS.1 (by omega), fun x h1 h2 => (o1 x (by have := hS.1; omega)).trans (hS.2.1 x h1 h2), hS.2.2⟩
      · have e9 : tk_cv (tk_ad B0 ex) (.ref M.1) = .ref (B0 + M.1) := by show Value.ref (tk_ad B0 ex M.1) = _; rw [tk_adO (by rw [tk_laylen] at hlt; omega)]
        show W p l e R s m args below meth c H1 locs (cells + 1) (slots + (tk_C a).2.2) Q (F0 m (pc + 3) lsA (.ref (B0 + M.1) :: st.map (tk_cv (tk_ad B0 ex))))
        rw [← e9]
        exact kk'
      · rw [tk_cell_o hlay]
        refine ⟨_, g1, (u_born (tk_ty0 a) hts g2 hKn hkC e1 g3).to (fun j hj => ?_)⟩
        unfold vp_V tk_fs
        rw [List.getD_eq_getElem?_getD, List.getElem?_map, List.getElem?_range (by rw [g5]; exact hj)]
        exact tk_dv (g6 j hj) (by rw [← g6 j hj]; exact tk_kty9 a hok j (by rw [g5]; exact hj))
    · cases h
  case newarray at_ =>
    simp only [tk_stepH] at h
    split at h
    · rename_i n s2
      split at h
      · rename_i hi
        obtain ⟨hn0, hnl, hlay⟩ := hi
        cases h
        simp only [tk_okH, Bool.and_eq_true, decide_eq_true_eq] at hok
        obtain ⟨ha3, hty⟩ := hok
        have hlt : M.1 < tk_lay.length := (List.getElem?_eq_some_iff.mp hlay).1
        have hsz : H.size = B0 + M.1 := hrep.2.1 hlt
        have hss : tk_ss (M.1 + 1) = tk_ss M.1 + n.toNatClampNeg := tk_ss_succ hlay
        have hc1' : cells + 1 ≤ R.cells := by have : (tk_new M).1 - M.1 = 1 := by show M.1 + 1 - M.1 = 1; omega
                                              omega
        have hc2' : slots + n.toNatClampNeg ≤ R.slots := by
          have : tk_ss (tk_new M).1 = tk_ss M.1 + n.toNatClampNeg := hss
          omega
        have hcb : componentBytes (newarray.typeOf at_) ≤ 8 := by cases at_ <;> decide
        have hmul : n.toNatClampNeg * componentBytes (newarray.typeOf at_) ≤ n.toNatClampNeg * 8 := Nat.mul_le_mul_left _ hcb
        refine va_newaK hx hb (by rw [hty]; exact hts _ (hw _ List.mem_cons_self)) rfl hd rfl hn0 rfl (by omega) hc1' hc2' hsz fun H1 cA e1 z1 o1 hAr hNm => ?_
        have hcA : cA = dA a := by
          have hRA := (hK.2 a _ (tk_tys_get dA (by omega))).2
          rw [← hty] at hRA
          have h3 : s.vm.findClass ("[" ++ (newarray.typeOf at_).toString) = some (dA a) := by cases at_ <;> exact hRA
          exact Option.some.inj (hNm.symm.trans h3)
        subst hcA
        have kk' := kk H1 locs (cells + 1) (slots + n.toNatClampNeg) (by show cells + 1 = cells + (M.1 + 1 - M.1); omega) (by show _ = slots + (tk_ss (M.1 + 1) - tk_ss M.1); omega) (tk_rep_new hrep hlt ?_ o1 z1) ⟨Nat.le_trans hS.1 (by omega), fun x h1 h2 => (o1 x (by have := hS.1; omega)).trans (hS.2.1 x h1 h2), hS.2.2⟩
        · have e9 : tk_cv (tk_ad B0 ex) (.ref M.1) = .ref (B0 + M.1) := by show Value.ref (tk_ad B0 ex M.1) = _; rw [tk_adO (by rw [tk_laylen] at hlt; omega)]
          show W p l e R s m args below meth c H1 locs (cells + 1) (slots + n.toNatClampNeg) Q (F0 m (pc + 2) lsA (.ref (B0 + M.1) :: s2.map (tk_cv (tk_ad B0 ex))))
          rw [← e9]
          exact kk'
        · rw [tk_cell_a hlay]
          show H1[B0 + M.1]? = some (vp_cell (dA a) (n.toNatClampNeg, tk_arr (tk_ad B0 ex) (tk_new M) a M.1))
          rw [tk_vcell, e1]
          congr 2
          funext j
          have hk9 : tk_kty (newarray.typeOf at_) = tk_tkd a := by
            rw [hty]
            exact tk_ktkd a ha3
          exact tk_dv hk9 (by unfold tk_tkd; split <;> omega)
      · cases h
    · cases h
  case anewarray i =>
    simp only [tk_stepH] at h
    split at h
    · rename_i n s2
      split at h
      · rename_i hi
        obtain ⟨hn0, hnl, hlay⟩ := hi
        cases h
        simp only [tk_okH, Bool.and_eq_true, decide_eq_true_eq] at hok
        obtain ⟨ha3, ha9⟩ := hok
        have hlt : M.1 < tk_lay.length := (List.getElem?_eq_some_iff.mp hlay).1
        have hsz : H.size = B0 + M.1 := hrep.2.1 hlt
        have hss : tk_ss (M.1 + 1) = tk_ss M.1 + n.toNatClampNeg := tk_ss_succ hlay
        have hc1' : cells + 1 ≤ R.cells := by have : (tk_new M).1 - M.1 = 1 := by show M.1 + 1 - M.1 = 1; omega
                                              omega
        have hc2' : slots + n.toNatClampNeg ≤ R.slots := by
          have : tk_ss (tk_new M).1 = tk_ss M.1 + n.toNatClampNeg := hss
          omega
        obtain ⟨hty, -⟩ := tk_acT a (by omega) ha3 ha9
        refine W.anew hx hb hown (hts _ (hw _ List.mem_cons_self)) (hts _ (hw _ (List.mem_cons_of_mem _ List.mem_cons_self))) rfl hd rfl hn0 (by omega) hc1' hc2' fun cA kA comp f1 f2 f3 f4 => ?_
        have hcA : cA = dA a := by
          have hRA := (hK.2 a _ (tk_tys_get dA (by omega))).2
          simp only [hty] at hRA
          obtain ⟨kA', comp', -, -, -, h4⟩ := hRA
          exact Option.some.inj (f1.symm.trans h4)
        subst hcA
        generalize hH1 : H.push ({ cls := dA a, slots := Array.replicate n.toNatClampNeg .null, vm := .none } : Cell) = H1
        have z1 : H1.size = B0 + M.1 + 1 := by rw [← hH1, Array.size_push, hsz]
        have e1 : H1[B0 + M.1]? = some (arrV (dA a) n.toNatClampNeg (fun _ => .null)) := by rw [← hH1, ← hsz, Array.getElem?_push_size, ← arrV_new]
        have o1 : ∀ q : Nat, q < B0 + M.1 → H1[q]? = H[q]? := fun q hq => by rw [← hH1, Array.getElem?_push, if_neg (by omega)]
        have kk' := kk H1 locs (cells + 1) (slots + n.toNatClampNeg) (by show cells + 1 = cells + (M.1 + 1 - M.1); omega) (by show _ = slots + (tk_ss (M.1 + 1) - tk_ss M.1); omega) (tk_rep_new hrep hlt ?_ o1 z1) ⟨Nat.le_trans hS.1 (by omega), fun x h1 h2 => (o1 x (by have := hS.1; omega)).trans (hS.2.1 x h1 h2), hS.2.2⟩
        · have e9 : tk_cv (tk_ad B0 ex) (.ref M.1) = .ref (B0 + M.1) := by show Value.ref (tk_ad B0 ex M.1) = _; rw [tk_adO (by rw [tk_laylen] at hlt; omega)]
          show W p l e R s m args below meth c H1 locs (cells + 1) (slots + n.toNatClampNeg) Q (F0 m (pc + 3) lsA (.ref H.size :: s2.map (tk_cv (tk_ad B0 ex))))
          rw [hsz, ← e9]
          exact kk'
        · rw [tk_cell_a hlay]
          show H1[B0 + M.1]? = some (vp_cell (dA a) (n.toNatClampNeg, tk_arr (tk_ad B0 ex) (tk_new M) a M.1))
          rw [tk_vcell, e1]
          congr 2
          funext j
          exact tk_dv (ty := .object "") (show tk_kty (.object "") = tk_tkd a by unfold tk_tkd; rw [if_neg (by omega)]; rfl) (by unfold tk_tkd; rw [if_neg (by omega)]; decide)
      · cases h
    · cases h
  case invokespecial i =>
    have h9 : k3 = 9 := by
      rcases Nat.decEq k3 9 with q | q
      · simp [tk_sort, q] at hsort
      · exact q
    subst h9
    simp only [tk_stepH] at h
    split at h
    · rename_i r s2
      split at h
      · rename_i hsum
        cases h
        refine W.objInit hx hb hown (hts _ (hw _ List.mem_cons_self)) (hts _ (hw _ (List.mem_cons_of_mem _ List.mem_cons_self))) (hts _ (hw _ (List.mem_cons_of_mem _ (List.mem_cons_of_mem _ List.mem_cons_self)))) rfl hml.symm rfl hd hfr ?_ (kk H locs cells slots (by simp) (by simp) hrep hS)
        show 2 * 0 + ((st'.map (tk_cv (tk_ad B0 ex))).map fun v => v.category).sum + 12 ≤ R.locals
        rw [List.map_map, show ((fun v : Value => v.category) ∘ tk_cv (tk_ad B0 ex)) = (fun v => v.category) from funext fun v => tk_cv_cat _ v]
        omega
      · cases h
    · cases h
  case invokestatic i =>
    have h9 : k3 = 9 := by
      rcases Nat.decEq k3 9 with q | q
      · simp [tk_sort, q] at hsort
      · exact q
    subst h9
    simp only [tk_stepH] at h
    split at h
    · rename_i n dp rb sp ra s2
      split at h
      · rename_i hi
        obtain ⟨hsum, hn0, hdp, hsp⟩ := hi
        split at h
        · rename_i na nb hla hlb
          split at h
          · rename_i hj
            obtain ⟨hra, hrb, hb1, hb2, hfull⟩ := hj
            cases h
            show W p l e R s m args below meth c H locs cells slots Q (F0 m pc lsA (.int n :: .int dp :: .ref (tk_ad B0 ex rb) :: .int sp :: .ref (tk_ad B0 ex ra) :: st'.map (tk_cv (tk_ad B0 ex))))
            rw [tk_adO (tk_lt hra hrep), tk_adO (tk_lt hrb hrep)]
            refine va_copyl (D := (dC, dI)) (ty := .long) hx hb hml hown (hts _ (hw _ List.mem_cons_self)) (hts _ (hw _ (List.mem_cons_of_mem _ List.mem_cons_self))) (hts _ (hw _ (List.mem_cons_of_mem _ (List.mem_cons_of_mem _ List.mem_cons_self)))) (hts _ (hw _ (List.mem_cons_of_mem _ (List.mem_cons_of_mem _ (List.mem_cons_of_mem _ List.mem_cons_self))))) hK (tk_wsl_P hrep) tk_wsl_D hS ra rb 1 1 ((tk_wsl_get hra).trans (by rw [tk_cell_a hla]; rfl)) ((tk_wsl_get hrb).trans (by rw [tk_cell_a hlb]; rfl)) (tk_tys_get dA (by decide)) (tk_tys_get dA (by decide)) rfl hsp hdp hn0 hb1 hb2 (fun _ _ => rfl) hfr ?_ hd (fun H1 locs1 hP1 hD1 hS1 => ?_)
            · rw [List.map_map, show ((fun v : Value => v.category) ∘ tk_cv (tk_ad B0 ex)) = (fun v => v.category) from funext fun v => tk_cv_cat _ v]
              have : nativeFrameWords "java/lang/System" "arraycopy" 5 ≤ 30 := by decide
              omega
            · refine kk H1 locs1 cells slots (by simp) (by simp) ⟨fun j hj => ?_, fun hl => ?_, hrep.2.2⟩ hS1
              · by_cases e : j = rb
                · subst e
                  have h1 := hP1 j (B0 + j, .inl (dA 1, nb, .inr (.inl (va_cpy (M.2.2.1 ra) (M.2.2.1 j) sp.toNatClampNeg dp.toNatClampNeg n.toNatClampNeg)))) (List.getElem?_set_self (by simpa [tk_wsl] using hj))
                  rw [tk_cell_a hlb]
                  have e2 : tk_arr (tk_ad B0 ex) (M.1, M.2.1, (fun i k => if i = j then va_cpy (M.2.2.1 ra) (M.2.2.1 j) sp.toNatClampNeg dp.toNatClampNeg n.toNatClampNeg k else M.2.2.1 i k), M.2.2.2) 1 j = .inr (.inl (va_cpy (M.2.2.1 ra) (M.2.2.1 j) sp.toNatClampNeg dp.toNatClampNeg n.toNatClampNeg)) := by
                    show Sum.inr (Sum.inl _) = _
                    congr 2
                    funext k
                    simp
                  rw [e2]
                  exact h1
                · have h1 := hP1 j (B0 + j, tk_cell (tk_ad B0 ex) dA M j) (by rw [List.getElem?_set_ne (fun q => e q.symm)]; exact tk_wsl_get (M := M) hj)
                  have e3 : tk_cell (tk_ad B0 ex) dA (M.1, M.2.1, (fun i k => if i = rb then va_cpy (M.2.2.1 ra) (M.2.2.1 rb) sp.toNatClampNeg dp.toNatClampNeg n.toNatClampNeg k else M.2.2.1 i k), M.2.2.2) j = tk_cell (tk_ad B0 ex) dA M j := tk_cell_congr rfl (by funext k; simp [e]) rfl rfl
                  rw [e3]
                  exact h1
              · exact absurd hfull (by show ¬ M.1 = tk_lay.length; exact Nat.ne_of_lt hl)
          · cases h
        · cases h
      · cases h
    · cases h
end TKH2
