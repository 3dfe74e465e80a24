/-! ===== the entry ===== -/
theorem tk_ad_low {B0 : Nat} {ex ex' : Nat → Nat} {r : Nat} (h : r < 1000) : tk_ad B0 ex r = tk_ad B0 ex' r := by
  unfold tk_ad
  rw [if_pos h, if_pos h]
theorem tk_arrV_congr {cA : ClassId} {n : Nat} {f g : Nat → Value} (h : ∀ j, j < n → f j = g j) : arrV cA n f = arrV cA n g := by
  unfold arrV
  congr 2
  funext j
  exact h j.val j.isLt
theorem tk_rf_low {B0 : Nat} {ex ex' : Nat → Nat} {o : Option Nat} (h : tk_lo1 o = true) : o.map (tk_ad B0 ex) = o.map (tk_ad B0 ex') := by
  cases o with
  | none => rfl
  | some r => exact congrArg some (tk_ad_low (of_decide_eq_true h))
theorem tk_rep_gen {B0 : Nat} {ex ex' : Nat → Nat} {dA dC : Nat → ClassId} {dI : Nat → Nat → Nat} {H : Heap} {M : tk_M} (hn : M.1 = 460) (ha : tk_agree M = true) (h : tk_rep B0 (tk_ad B0 ex') dA dC dI M H) : tk_rep B0 (tk_ad B0 ex) dA dC dI (tk_full (M.2.1, M.2.2.1, M.2.2.2.1, tk_P0)) H := by
  refine ⟨fun i hi => ?_, fun hl => absurd hl (by rw [tk_laylen]; exact Nat.lt_irrefl _), by rw [tk_laylen]; exact Nat.le_refl _⟩
  have hi : i < 460 := hi
  have h1 := h.1 i (by rw [hn]; exact hi)
  have hA := List.all_eq_true.mp ha i (List.mem_range.mpr hi)
  have hL := List.all_eq_true.mp tk_low_ok i (List.mem_range.mpr hi)
  cases hlay : tk_lay[i]? with
  | none => rw [hlay] at hA; cases hA
  | some L =>
    rw [hlay] at hA hL
    cases L with
    | inl ci =>
      dsimp only at hA hL
      rw [tk_cell_o hlay] at h1 ⊢
      have e : tk_fs (tk_ad B0 ex) (tk_full (M.2.1, M.2.2.1, M.2.2.2.1, tk_P0)) ci i = tk_fs (tk_ad B0 ex') M ci i := by
        unfold tk_fs
        apply List.map_congr_left
        intro k hk
        have a1 := List.all_eq_true.mp hA k hk
        have a2 := List.all_eq_true.mp hL k hk
        (try dsimp only at a1 a2)
        generalize tk_kk ci k = kd at a1 a2 ⊢
        match kd, a1, a2 with
        | 0, _, _ => rfl
        | 1, _, _ => rfl
        | 2, _, _ => rfl
        | kd + 3, a1, a2 =>
          have b1 : M.2.2.2.2 i k = tk_R2 tk_P0 i k := by
            rcases Bool.or_eq_true_iff.mp a1 with q | q
            · exact absurd (of_decide_eq_true q) (by omega)
            · exact of_decide_eq_true q
          have b2 : tk_lo1 (tk_R2 tk_P0 i k) = true := by
            rcases Bool.or_eq_true_iff.mp a2 with q | q
            · exact absurd (of_decide_eq_true q) (by omega)
            · exact q
          show tk_cv (tk_ad B0 ex) (va_rf (tk_R2 tk_P0 i k)) = tk_cv (tk_ad B0 ex') (va_rf (M.2.2.2.2 i k))
          rw [b1]
          cases hr : tk_R2 tk_P0 i k with
          | none => rfl
          | some r =>
            rw [hr] at b2
            show Value.ref (tk_ad B0 ex r) = Value.ref (tk_ad B0 ex' r)
            rw [tk_ad_low (ex' := ex') (of_decide_eq_true b2)]
      rw [e]
      exact h1
    | inr q =>
      obtain ⟨t, n⟩ := q
      dsimp only at hA hL
      rw [tk_cell_a hlay] at h1 ⊢
      have e : tk_arr (tk_ad B0 ex) (tk_full (M.2.1, M.2.2.1, M.2.2.2.1, tk_P0)) t i = tk_arr (tk_ad B0 ex) (tk_full (M.2.1, M.2.2.1, M.2.2.2.1, tk_P0)) t i := rfl
      have h1 : H[B0 + i]? = some (vp_cell (dA t) (n, tk_arr (tk_ad B0 ex') M t i)) := h1
      show H[B0 + i]? = some (vp_cell (dA t) (n, tk_arr (tk_ad B0 ex) (tk_full (M.2.1, M.2.2.1, M.2.2.2.1, tk_P0)) t i))
      rw [h1]
      congr 1
      match t, hA, hL with
      | 0, _, _ => rfl
      | 1, _, _ => rfl
      | 2, _, _ => rfl
      | t + 3, hA, hL =>
        have a1 : (List.range n).all (fun k => decide (M.2.2.2.2 i k = tk_R2 tk_P0 i k)) = true := by
          rcases Bool.or_eq_true_iff.mp hA with q | q
          · exact absurd (of_decide_eq_true q) (by omega)
          · exact q
        have a2 : (List.range n).all (fun k => tk_lo1 (tk_R2 tk_P0 i k)) = true := by
          rcases Bool.or_eq_true_iff.mp hL with q | q
          · exact absurd (of_decide_eq_true q) (by omega)
          · exact q
        show arrV (dA (t + 3)) n (fun j => va_rf ((M.2.2.2.2 i j).map (tk_ad B0 ex'))) = arrV (dA (t + 3)) n (fun j => va_rf ((tk_R2 tk_P0 i j).map (tk_ad B0 ex)))
        refine tk_arrV_congr (fun j hj => ?_)
        have b1 := of_decide_eq_true (List.all_eq_true.mp a1 j (List.mem_range.mpr hj))
        have b2 := List.all_eq_true.mp a2 j (List.mem_range.mpr hj)
        rw [b1, tk_rf_low (ex := ex') (ex' := ex) b2]
theorem tk_rep_s0 {B0 : Nat} {ex ex' : Nat → Nat} {dA dC : Nat → ClassId} {dI : Nat → Nat → Nat} {H : Heap} (h : tk_rep B0 (tk_ad B0 ex') dA dC dI tk_M2 H) : tk_rep B0 (tk_ad B0 ex) dA dC dI (tk_full tk_s0) H := by
  have e : tk_s0 = (tk_M2.2.1, tk_M2.2.2.1, tk_M2.2.2.2.1, tk_P0) := by unfold tk_s0; exact Eq.refl _
  obtain ⟨-, hn, ha⟩ := tk_u0_is
  rw [e]
  exact tk_rep_gen hn ha h
/-! what the Statement gives of the start -/
theorem tk_statX {args : Array Value} {s : State} {C n : String} {f : Nat → Int32} (harr : (Cond.arrayOf (.static C n "[I") .int).before args s = true) (hlen : (Cond.eq (.length (.static C n "[I")) (.int 6)).before args s = true)
    (hel : ∀ j : Nat, j < 6 → (Cond.eq (.elem (.static C n "[I") (.int (Int32.ofNat j))) (.int (f j))).before args s = true) : ∃ t : Nat, (Term.static C n "[I").eval args s none [] s = some (.ref t) ∧ va_X t 6 f s s.heap ∧ t < s.heap.size := by
  have hv := va_eqt hlen
  obtain ⟨t, ht, cell, h1, h2, h3, h4, h5, h6, -⟩ := va_Tof (ty := .int) (N := 6) (f := fun j => .int (f j)) (A := fun _ => False) (by decide) harr hv (fun j hj => va_eqt (hel j hj)) (fun _ _ => id)
  have hsz : cell.slots.size < 2 ^ 31 := by
    obtain ⟨b, cell2, g1, g2, -⟩ := Term.length_spec hv
    have hb : b = t := by
      have := g1.symm.trans ht
      injection this with this
      injection this
    subst hb
    obtain ⟨g3, -, -, -⟩ := State.arrayAt?_spec g2
    have hc : cell2 = cell := Option.some.inj (g3.symm.trans h1)
    subst hc
    simp only [Term.eval, g2, Option.bind_eq_bind] at hv
    by_cases hlt : cell2.slots.size < 2147483648
    · exact hlt
    · exfalso
      have g1' := g1
      simp only [Term.eval, Option.bind_eq_bind] at g1'
      rw [g1', Option.bind_some] at hv
      simp [g2, hlt] at hv
  have h6' : cell.slots.size = 6 := by
    have a1 := Int32.toNatClampNeg_ofNat_of_lt hsz
    have a2 : (Int32.ofNat 6).toNatClampNeg = 6 := Int32.toNatClampNeg_ofNat_of_lt (by decide)
    have h5' : Int32.ofNat cell.slots.size = Int32.ofNat 6 := h5
    rw [h5', a2] at a1
    exact a1.symm
  exact ⟨t, ht, ⟨cell, h1, h2, h3, h6', h6⟩, (Array.getElem?_eq_some_iff.mp h1).1⟩
theorem tk_pick {α : Type} {n : Nat} {P : Nat → α → Prop} (a0 : α) (h : ∀ i, i < n → ∃ x, P i x) : ∃ f : Nat → α, ∀ i, i < n → P i (f i) := by
  classical
  refine ⟨fun i => if hi : i < n then (h i hi).choose else a0, fun i hi => ?_⟩
  simp only [dif_pos hi]
  exact (h i hi).choose_spec
def tk_PA (s : State) (t : Nat) (c : ClassId) : Prop := s.vm.findClass ("[" ++ (tk_at.getD t .int).toString) = some c ∧ ∃ (k : Class) (comp : ClassId), s.vm.classes[c]? = some k ∧ k.kind = .array comp (tk_at.getD t .int) ∧
  (match tk_at.getD t .int with | .object C => s.vm.findClass C = some comp | .array u => s.vm.findClass ("[" ++ u.toString) = some comp | _ => True)
theorem tk_PA_a {args : Array Value} {s : State} {t : Nat} (h : (Cond.arrayClass (tk_at.getD t .int)).before args s = true) (ht : (match tk_at.getD t .int with | .object _ => False | .array _ => False | _ => True)) : ∃ c, tk_PA s t c := by
  obtain ⟨c, k, comp, h1, h2, h3⟩ := Cond.arrayClass_spec h
  refine ⟨c, h1, k, comp, h2, h3, ?_⟩
  split
  · rename_i e; rw [e] at ht; exact ht.elim
  · rename_i e; rw [e] at ht; exact ht.elim
  · trivial
theorem tk_PA_o {args : Array Value} {s : State} {t : Nat} {C : String} (e : tk_at.getD t .int = .object C) (h : (Cond.arrayOver (.object C)).before args s = true) : ∃ c, tk_PA s t c := by
  obtain ⟨comp, c, k, h1, h2, h3, h4, h5⟩ := Cond.arrayOver_spec h
  unfold tk_PA
  rw [e]
  exact ⟨c, h5, k, comp, h3, h4, h1⟩
theorem tk_specA {args : Array Value} {s : State} {u : FieldType} (h : (Cond.arrayOver (.array u)).before args s = true) : ∃ comp c k, s.vm.findClass (FieldType.array u).toString = some comp ∧ s.vm.classes[c]? = some k ∧ k.kind = .array comp (.array u) ∧ s.vm.findClass ("[" ++ (FieldType.array u).toString) = some c := by
  simp only [Cond.before, Cond.holds, Cond.value, beq_iff_eq] at h
  cases hc : s.vm.findClass (FieldType.array u).toString with
  | none => simp [hc] at h
  | some comp =>
    simp only [hc, Option.bind_some, Option.bind_eq_some_iff, Option.map_eq_some_iff] at h
    obtain ⟨c, hi, k, hk, hb⟩ := h
    obtain ⟨hlt, hp, -⟩ := Array.findIdx?_eq_some_iff_getElem.mp hi
    have hkk : s.vm.classes[c] = k := (Array.getElem?_eq_some_iff.mp hk).2
    rw [hkk] at hp
    cases hkind : k.kind with
    | array component ty =>
      rw [hkind] at hb hp
      simp at hb hp
      exact ⟨comp, c, k, rfl, hk, by rw [hkind, hp, hb.1], hb.2⟩
    | _ => rw [hkind] at hb; simp at hb
theorem tk_PA_aa {args : Array Value} {s : State} {t : Nat} {u : FieldType} (e : tk_at.getD t .int = .array u) (h : (Cond.arrayOver (.array u)).before args s = true) : ∃ c, tk_PA s t c := by
  obtain ⟨comp, c, k, h1, h2, h3, h4⟩ := tk_specA h
  unfold tk_PA
  rw [e]
  exact ⟨c, h4, k, comp, h2, h3, h1⟩
theorem tk_PAs {args : Array Value} {s : State} (hts : ∀ w ∈ lw_tbl, w.before args s = true) (t : Nat) (ht : t < 12) : ∃ c, tk_PA s t c := by
  match t, ht with
  | 0, _ => exact tk_PA_a (hts (.arrayClass .int) (by decide +kernel)) trivial
  | 1, _ => exact tk_PA_a (hts (.arrayClass .long) (by decide +kernel)) trivial
  | 2, _ => exact tk_PA_a (hts (.arrayClass .boolean) (by decide +kernel)) trivial
  | 3, _ => exact tk_PA_o rfl (hts (.arrayOver (.object "ThreeTouched$Scene")) (by decide +kernel))
  | 4, _ => exact tk_PA_o rfl (hts (.arrayOver (.object "ThreeTouched$Num")) (by decide +kernel))
  | 5, _ => exact tk_PA_o rfl (hts (.arrayOver (.object "ThreeTouched$Sheet")) (by decide +kernel))
  | 6, _ => exact tk_PA_o rfl (hts (.arrayOver (.object "ThreeTouched$Shape")) (by decide +kernel))
  | 7, _ => exact tk_PA_o rfl (hts (.arrayOver (.object "ThreeTouched$Circle")) (by decide +kernel))
  | 8, _ => exact tk_PA_o rfl (hts (.arrayOver (.object "ThreeTouched$Vecto\x72")) (by decide +kernel))
  | 9, _ => exact tk_PA_aa rfl (hts (.arrayOver (.array .int)) (by decide +kernel))
  | 10, _ => exact tk_PA_aa rfl (hts (.arrayOver (.array .long)) (by decide +kernel))
  | 11, _ => exact tk_PA_aa rfl (hts (.arrayOver (.array (.array .long))) (by decide +kernel))
  | n + 12, h => exact absurd h (by omega)
theorem tk_inst : (List.range 12).all (fun ci => decide (Cond.instantiable (tk_C ci).1 (tk_C ci).2.2 ∈ lw_tbl)) = true := by decide +kernel
theorem tk_entryK {args : Array Value} {s : State} (hts : ∀ w ∈ lw_tbl, w.before args s = true) : ∃ (dA dC : Nat → ClassId) (dI : Nat → Nat → Nat), va_K (dC, dI) vwCl (tk_tys dA) s ∧ tk_Kx dA s := by
  have hin : ∀ w ∈ tk_tbl, w.before args s = true := fun w hw => hts w (List.mem_filter.mp hw).1
  have h1 : ∀ ci, ci < 12 → ∃ q : ClassId × (Nat → Nat), u_Kn s (tk_C ci).1 (tk_C ci).2.1 (tk_C ci).2.2 q.1 q.2 := fun ci hci => by
    obtain ⟨cC, iS, h⟩ := u_known (C := (tk_C ci).1) (T := (tk_C ci).2.1) (N := (tk_C ci).2.2) (n := (tk_C ci).2.2) hin (tk_cls ci hci).2.1 (hts _ (of_decide_eq_true (List.all_eq_true.mp tk_inst ci (List.mem_range.mpr hci))))
    exact ⟨(cC, iS), h⟩
  obtain ⟨q0, -⟩ := h1 0 (by decide)
  obtain ⟨f, hf⟩ := tk_pick q0 h1
  obtain ⟨c0, -⟩ := tk_PAs hts 0 (by decide)
  obtain ⟨dA, hA⟩ := tk_pick c0 (fun t ht => tk_PAs hts t ht)
  refine ⟨dA, fun ci => (f ci).1, fun ci => (f ci).2, ⟨fun ci q hq => ?_, fun t q hq => ?_⟩, ?_, ?_, ?_⟩
  · have hci : ci < 12 := (List.getElem?_eq_some_iff.mp hq).1
    have e : q = tk_C ci := Option.some.inj (hq.symm.trans (tk_cls ci hci).1)
    subst e
    exact hf ci hci
  · have ht : t < 12 := by
      have := (List.getElem?_eq_some_iff.mp hq).1
      simpa [tk_tys] using this
    rw [tk_tys_get dA ht] at hq
    cases hq
    obtain ⟨a1, k, comp, a2, a3, a4⟩ := hA t ht
    refine ⟨fun N z => ⟨(fun k h => by cases h), k, a2, comp, a3⟩, ?_⟩
    unfold va_RA
    dsimp only at *
    split
    · rename_i C e
      rw [e] at a1 a3 a4
      exact ⟨k, comp, a2, a3, a4, a1⟩
    · exact a1
  · intro w hw hn
    cases w <;> first
      | (cases hn; done)
      | exact va_Nw.of rfl (hts _ hw)
  · intro t ht h3 h9
    rcases (show t = 3 ∨ t = 4 ∨ t = 5 ∨ t = 6 ∨ t = 7 ∨ t = 8 by omega) with rfl | rfl | rfl | rfl | rfl | rfl
    · exact va_AO.of (hts (.arrayOver (.object "ThreeTouched$Scene")) (by decide +kernel))
    · exact va_AO.of (hts (.arrayOver (.object "ThreeTouched$Num")) (by decide +kernel))
    · exact va_AO.of (hts (.arrayOver (.object "ThreeTouched$Sheet")) (by decide +kernel))
    · exact va_AO.of (hts (.arrayOver (.object "ThreeTouched$Shape")) (by decide +kernel))
    · exact va_AO.of (hts (.arrayOver (.object "ThreeTouched$Circle")) (by decide +kernel))
    · exact va_AO.of (hts (.arrayOver (.object "ThreeTouched$Vecto\x72")) (by decide +kernel))
  · intro t ht h9
    obtain ⟨b1, kb, compb, b2, b3, b4⟩ := hA t ht
    refine ⟨kb, b2, ?_⟩
    rw [b3]
    congr 1
    rcases (show t = 9 ∨ t = 10 ∨ t = 11 by omega) with rfl | rfl | rfl
    · exact Option.some.inj (b4.symm.trans (hA 0 (by decide)).1)
    · exact Option.some.inj (b4.symm.trans (hA 1 (by decide)).1)
    · exact Option.some.inj (b4.symm.trans (hA 10 (by decide)).1)
theorem tk_entryX {s : State} {b : Nat} (hts : ∀ w ∈ lw_tbl, w.before #[Value.ref b] s = true) (hgv : (Jvm.Cond.and given_1 narrow_1).before #[Value.ref b] s = true) : ∃ ex : Nat → Nat, ∀ k, k < 6 → (va_X (ex k) 6 (fun j => (tk_stv k).getD j 0) s s.heap ∧ ex k < s.heap.size) ∧ va_Z (tk_stn k).1 (tk_stn k).2 "[I" (.ref (ex k)) (fun q => s.heap.size ≤ q) s s.heap := by
  have hs := flat_of_before _ hgv
  refine tk_pick (n := 6) (P := fun k t => (va_X t 6 (fun j => (tk_stv k).getD j 0) s s.heap ∧ t < s.heap.size) ∧ va_Z (tk_stn k).1 (tk_stn k).2 "[I" (.ref t) (fun q => s.heap.size ≤ q) s s.heap) 0 (fun k hk => ?_)
  match k, hk with
  | 0, _ =>
    obtain ⟨t, h1, h2, h3⟩ := tk_statX (args := #[Value.ref b]) (C := "ThreeTouched") (n := "SLANT_A") (f := fun j => (tk_stv 0).getD j 0) (hs _ (by decide +kernel)) (hs _ (by decide +kernel)) (fun j hj => by
      match j, hj with
      | 0, _ => exact hs _ (by decide +kernel)
      | 1, _ => exact hs _ (by decide +kernel)
      | 2, _ => exact hs _ (by decide +kernel)
      | 3, _ => exact hs _ (by decide +kernel)
      | 4, _ => exact hs _ (by decide +kernel)
      | 5, _ => exact hs _ (by decide +kernel)
      | j + 6, h => exact absurd h (by omega))
    exact ⟨t, ⟨h2, h3⟩, va_Zof (hts (.laysStatic "ThreeTouched" "SLANT_A" "[I") (by decide +kernel)) (hts (.initialized "ThreeTouched") (by decide +kernel)) h1 (fun a h => Nat.not_le.mpr h)⟩
  | 1, _ =>
    obtain ⟨t, h1, h2, h3⟩ := tk_statX (args := #[Value.ref b]) (C := "ThreeTouched") (n := "SLANT_B") (f := fun j => (tk_stv 1).getD j 0) (hs _ (by decide +kernel)) (hs _ (by decide +kernel)) (fun j hj => by
      match j, hj with
      | 0, _ => exact hs _ (by decide +kernel)
      | 1, _ => exact hs _ (by decide +kernel)
      | 2, _ => exact hs _ (by decide +kernel)
      | 3, _ => exact hs _ (by decide +kernel)
      | 4, _ => exact hs _ (by decide +kernel)
      | 5, _ => exact hs _ (by decide +kernel)
      | j + 6, h => exact absurd h (by omega))
    exact ⟨t, ⟨h2, h3⟩, va_Zof (hts (.laysStatic "ThreeTouched" "SLANT_B" "[I") (by decide +kernel)) (hts (.initialized "ThreeTouched") (by decide +kernel)) h1 (fun a h => Nat.not_le.mpr h)⟩
  | 2, _ =>
    obtain ⟨t, h1, h2, h3⟩ := tk_statX (args := #[Value.ref b]) (C := "ThreeTouched") (n := "SLANT_L") (f := fun j => (tk_stv 2).getD j 0) (hs _ (by decide +kernel)) (hs _ (by decide +kernel)) (fun j hj => by
      match j, hj with
      | 0, _ => exact hs _ (by decide +kernel)
      | 1, _ => exact hs _ (by decide +kernel)
      | 2, _ => exact hs _ (by decide +kernel)
      | 3, _ => exact hs _ (by decide +kernel)
      | 4, _ => exact hs _ (by decide +kernel)
      | 5, _ => exact hs _ (by decide +kernel)
      | j + 6, h => exact absurd h (by omega))
    exact ⟨t, ⟨h2, h3⟩, va_Zof (hts (.laysStatic "ThreeTouched" "SLANT_L" "[I") (by decide +kernel)) (hts (.initialized "ThreeTouched") (by decide +kernel)) h1 (fun a h => Nat.not_le.mpr h)⟩
  | 3, _ =>
    obtain ⟨t, h1, h2, h3⟩ := tk_statX (args := #[Value.ref b]) (C := "ThreeTouchedModel") (n := "SLANT_A") (f := fun j => (tk_stv 3).getD j 0) (hs _ (by decide +kernel)) (hs _ (by decide +kernel)) (fun j hj => by
      match j, hj with
      | 0, _ => exact hs _ (by decide +kernel)
      | 1, _ => exact hs _ (by decide +kernel)
      | 2, _ => exact hs _ (by decide +kernel)
      | 3, _ => exact hs _ (by decide +kernel)
      | 4, _ => exact hs _ (by decide +kernel)
      | 5, _ => exact hs _ (by decide +kernel)
      | j + 6, h => exact absurd h (by omega))
    exact ⟨t, ⟨h2, h3⟩, va_Zof (hts (.laysStatic "ThreeTouchedModel" "SLANT_A" "[I") (by decide +kernel)) (hts (.initialized "ThreeTouchedModel") (by decide +kernel)) h1 (fun a h => Nat.not_le.mpr h)⟩
  | 4, _ =>
    obtain ⟨t, h1, h2, h3⟩ := tk_statX (args := #[Value.ref b]) (C := "ThreeTouchedModel") (n := "SLANT_B") (f := fun j => (tk_stv 4).getD j 0) (hs _ (by decide +kernel)) (hs _ (by decide +kernel)) (fun j hj => by
      match j, hj with
      | 0, _ => exact hs _ (by decide +kernel)
      | 1, _ => exact hs _ (by decide +kernel)
      | 2, _ => exact hs _ (by decide +kernel)
      | 3, _ => exact hs _ (by decide +kernel)
      | 4, _ => exact hs _ (by decide +kernel)
      | 5, _ => exact hs _ (by decide +kernel)
      | j + 6, h => exact absurd h (by omega))
    exact ⟨t, ⟨h2, h3⟩, va_Zof (hts (.laysStatic "ThreeTouchedModel" "SLANT_B" "[I") (by decide +kernel)) (hts (.initialized "ThreeTouchedModel") (by decide +kernel)) h1 (fun a h => Nat.not_le.mpr h)⟩
  | 5, _ =>
    obtain ⟨t, h1, h2, h3⟩ := tk_statX (args := #[Value.ref b]) (C := "ThreeTouchedModel") (n := "SLANT_L") (f := fun j => (tk_stv 5).getD j 0) (hs _ (by decide +kernel)) (hs _ (by decide +kernel)) (fun j hj => by
      match j, hj with
      | 0, _ => exact hs _ (by decide +kernel)
      | 1, _ => exact hs _ (by decide +kernel)
      | 2, _ => exact hs _ (by decide +kernel)
      | 3, _ => exact hs _ (by decide +kernel)
      | 4, _ => exact hs _ (by decide +kernel)
      | 5, _ => exact hs _ (by decide +kernel)
      | j + 6, h => exact absurd h (by omega))
    exact ⟨t, ⟨h2, h3⟩, va_Zof (hts (.laysStatic "ThreeTouchedModel" "SLANT_L" "[I") (by decide +kernel)) (hts (.initialized "ThreeTouchedModel") (by decide +kernel)) h1 (fun a h => Nat.not_le.mpr h)⟩
  | n + 6, h => exact absurd h (by omega)
theorem tk_exs_of {s : State} {ex ex' : Nat → Nat} {sc : tk_X} (h : ∀ k, k < 6 → (va_X (ex k) 6 (fun j => (tk_stv k).getD j 0) s s.heap ∧ ex k < s.heap.size) ∧ va_Z (tk_stn k).1 (tk_stn k).2 "[I" (.ref (ex k)) (fun q => s.heap.size ≤ q) s s.heap) (he : ∀ k, k < 6 → ex' k = ex k) (hx : va_X (ex' 6) sc.1 sc.2 s s.heap) (hl : ex' 6 < s.heap.size) : tk_exs s.heap.size ex' sc s s.heap := by
  refine ⟨fun k hk => ?_, fun k hk => ?_⟩
  · by_cases e : k = 6
    · subst e
      exact ⟨hx, hl⟩
    · have hk6 : k < 6 := by omega
      have e2 : tk_ext sc k = (6, fun j => (tk_stv k).getD j 0) := if_neg e
      rw [e2, he k hk6]
      exact (h k hk6).1
  · rw [he k hk]
    exact (h k hk).2
theorem tk_ss_room : Nat.ble (tk_ss 460) 7302250 = true := by decide +kernel
