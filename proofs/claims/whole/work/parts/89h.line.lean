/-! ===== the reference: both sides of a line, in order ===== -/
theorem an_ecmp {B : an_V} {r : an_R} (g : Int32) (h : an_rok B r) (hQ : 0 < r.1) {s d : Nat} (e : r.1.natAbs = s * s * d) : ∀ k, k < 3 → s_cmp (an_num (an_e g B r s d (-1)) k) (an_num (an_e g B r s d 1) k) = Int32.ofInt (nu_sg (-(r.2.2.1 k * r.2.2.2))) := by
  intro k hk
  have hq := h.1
  obtain ⟨s1, s2, s3, s4⟩ := an_sdb (by omega) (by omega) e
  rcases h.2.2.2.2 with ⟨h4, h5, h6⟩ | ⟨h4, _⟩
  case inr => omega
  have h3 := h.2.2.1
  have hW := h.2.1 k hk
  have bs : an_bd (s : Int) 6400 := by unfold an_bd; omega
  have bX : an_bd ((s : Int) * r.2.2.1 k) 1000000000000 := bd_mul bs hW (by decide)
  have bP : an_bd (r.2.1 k + B k * r.2.2.2) 1000000000000 := bd_add (h4 k hk) (bd_mul (h5 k hk) h6 (Nat.le_refl _)) (by decide)
  have bM : an_bd r.2.2.2 1000000000000 := bd_le h6 (by decide)
  have bp : ∀ i : Int, (i = 1 ∨ i = -1) → an_bd (i * s) 6400 := fun i hi => bd_mul (a := 1) (by unfold an_bd; omega) bs (by decide)
  have b0 : an_bd 0 6400 := by unfold an_bd; decide
  have es : nu_sg (-((s : Int) * r.2.2.1 k * r.2.2.2)) = nu_sg (-(r.2.2.1 k * r.2.2.2)) := by
    rw [show -((s : Int) * r.2.2.1 k * r.2.2.2) = (s : Int) * (-(r.2.2.1 k * r.2.2.2)) by grind, nu_sgp (by omega)]
  by_cases c : d = 1
  · have hn : ∀ i : Int, (i = 1 ∨ i = -1) → an_num (an_e g B r s d i) k = lo_val (r.2.1 k + i * s * r.2.2.1 k + B k * r.2.2.2) 0 0 r.2.2.2 := fun i hi => by
      have hs := an_rok_row h (bp i hi) b0 (.inl hQ)
      have := an_val hs.1 hk 0
      rw [an_row_lo hk, an_row_hi hk, an_row_6, Int.zero_mul] at this
      unfold an_e
      rw [if_pos c, if_pos c, if_pos c]
      exact this
    rw [hn (-1) (.inr rfl), hn 1 (.inl rfl)]
    have := (an_cmp (d := 0) bP bX bM h3).1
    rw [es] at this
    rw [← this]
    congr 2
    · grind
    · grind
  · have hn : ∀ i : Int, (i = 1 ∨ i = -1) → an_num (an_e g B r s d i) k = lo_val (r.2.1 k + B k * r.2.2.2) (i * s * r.2.2.1 k) (rt_o d) r.2.2.2 := fun i hi => by
      have hs := an_rok_row h b0 (bp i hi) (.inl hQ)
      have := an_val hs.1 hk (rt_o d)
      rw [an_row_lo hk, an_row_hi hk, an_row_6, Int.zero_mul, Int.add_zero] at this
      unfold an_e
      rw [if_neg c, if_neg c, if_neg c]
      exact this
    rw [hn (-1) (.inr rfl), hn 1 (.inl rfl)]
    have := (an_cmp (d := rt_o d) bP bX bM h3).2
    rw [es] at this
    rw [← this]
    congr 2
    · grind
    · grind
theorem y_end {F : an_F} {B : an_V} {r : an_R} {g : Int32} {m : tk_m} (h : an_rok B r) (hQ : 0 < r.1) {s d : Nat} (e : r.1.natAbs = s * s * d) (hd : nu_sf d) (hl : F.2.length ≤ 14) (hF : y_Fd (F.1, F.2 ++ [an_e g B r s d (-1), an_e g B r s d 1].filter an_rad) m) : ∃ m1, fM_laysInOrder (Int32.ofNat F.2.length) m = some m1 ∧ z_F m m1 ∧ y_Fd (F.1, F.2 ++ [an_e g B r s d (an_ls r.2.2.2 r.2.2.1), an_e g B r s d (-an_ls r.2.2.2 r.2.2.1)].filter an_rad) m1 := by
  have hls := an_ls_1 r.2.2.2 r.2.2.1
  have his := an_isls (an_ecmp g h hQ e) h.2.2.1 (h.2.2.2.1 hQ)
  have o1 := an_e_ok g h hQ e hd (i := -1) (.inr rfl)
  have o2 := an_e_ok g h hQ e hd (i := 1) (.inl rfl)
  generalize an_ls r.2.2.2 r.2.2.1 = l at *
  have hx : [an_e g B r s d l, an_e g B r s d (-l)] = if l = 1 then [an_e g B r s d 1, an_e g B r s d (-1)] else [an_e g B r s d (-1), an_e g B r s d 1] := by
    rcases hls with rfl | rfl
    · rw [if_pos rfl]
    · rw [if_neg (by decide)]; rfl
  rw [hx]
  have eg : (an_e g B r s d (-1)).1 = (an_e g B r s d 1).1 := rfl
  generalize an_e g B r s d (-1) = c1 at *
  generalize an_e g B r s d 1 = c2 at *
  have one : ([c1, c2].filter an_rad).length < 2 → [c1, c2].filter an_rad = (if l = 1 then [c2, c1] else [c1, c2]).filter an_rad := by
    intro hlen
    by_cases q : l = 1
    · rw [if_pos q]
      cases a1 : an_rad c1 <;> cases a2 : an_rad c2 <;> simp [a1, a2] at hlen ⊢
    · rw [if_neg q]
  by_cases hlen : ([c1, c2].filter an_rad).length < 2
  · rw [← one hlen]
    exact ⟨m, y_lays1 hF hlen (by omega), z_F_rf m, hF⟩
  · have full : [c1, c2].filter an_rad = [c1, c2] ∧ an_rad c1 = true ∧ an_rad c2 = true := by
      cases a1 : an_rad c1 <;> cases a2 : an_rad c2 <;> simp [a1, a2] at hlen ⊢
    rw [full.1] at hF
    obtain ⟨m1, s1, s2, s3⟩ := y_lays2 hF (by omega) o1 o2 eg
    refine ⟨m1, s1, s2, ?_⟩
    have : (if l = 1 then [c2, c1] else [c1, c2]).filter an_rad = if 0 < an_is c1 c2 then [c2, c1] else [c1, c2] := by
      by_cases q : l = 1
      · rw [if_pos q, if_pos (his.mpr q)]
        simp [full.2.1, full.2.2]
      · rw [if_neg q, if_neg (fun y => q (his.mp y))]
        exact full.1
    rw [this]
    exact s3
/-- the line met, the reference's numbers lowered by gg -/
theorem y_solve {a b x w Fv : an_V} {s t A B C U A' B' C' gg : Int} {g : Int32} {F : an_F} {r : an_R} {m : tk_m} (va : an_vb a 10) (vb : an_vb b 10) (vs : an_bd s 200) (vt : an_bd t 200) (vx : an_vb x 5) (hw : w = an_X a b) (hF : ∀ k, k < 3 → Fv k = an_W a b (s + 2 * an_S a x) (t + 2 * an_S b x) k) (hU : U = 2 * an_S w w) (hA : A = an_B w w) (hB : B = an_rb Fv w x U) (hC : C = an_rc Fv x U) (gA : A = gg * A') (gB : B = gg * B') (gC : C = gg * C') (gp : 0 < gg) (hr : an_m2 a b s t = some r) (hab : ¬ (A = 0 ∧ B = 0)) (h5 : an_at m 436 w) (h6 : an_at m 437 Fv) (hY : y_Fd F m) (hl : F.2.length ≤ 14) : ∃ m1, fM_solves g (Int64.ofInt A') (Int64.ofInt B') (Int64.ofInt C') (Int64.ofInt U) m = some m1 ∧ w_F m m1 ∧ y_Fd (F.1, F.2 ++ an_cs g x r) m1 := by
  subst hw
  have g0 : gg ≠ 0 := by omega
  have hok := an_m2_ok va vb vs vt vx hr
  obtain ⟨z1, z2, z3, z4, z5, z6⟩ := an_sz va vb vs vt
  have bU : an_bd U 240000 := by rw [hU]; exact bd_mul (a := 2) (by unfold an_bd; decide) z2 (by decide)
  have bA : an_bd A 120000 := by rw [hA]; exact z3
  have bA' : an_bd A' 120000 := an_ab gA g0 bA
  obtain ⟨m0, e0, f0, k0⟩ := y_s (m := m) (g := g) (Int64.ofInt A') (Int64.ofInt B') (Int64.ofInt C') (Int64.ofInt U)
  have h50 := at_fr h5 (by decide) f0
  have h60 := at_fr h6 (by decide) f0
  have hY0 : y_Fd F m0 := by
    have := y_Fd_l (L := m0.2.1) (by omega) hY (fun r r1 r2 => f0.2.2.1 r (by omega))
    have e : m0 = (m.1, m0.2.1, m.2.2.1, m.2.2.2) := by
      rw [← f0.1, ← f0.2.1]
    rw [e]; exact this
  have hw0 : w_F m m0 := ⟨fun r hr => f0.2.2.1 r (by omega), fun r k _ _ => by rw [f0.1], fun r _ => by rw [f0.2.1], by rw [f0.2.1]⟩
  rw [e0, hY.1]
  unfold fM_solves_29
  unfold an_m2 at hr
  by_cases c1 : an_X a b 0 = 0 ∧ an_X a b 1 = 0 ∧ an_X a b 2 = 0
  · rw [if_pos c1] at hr; cases hr
  rw [if_neg c1] at hr
  have hU0 : U ≠ 0 := by rw [hU]; intro y; exact c1 (an_SS.mp (by omega))
  by_cases cA : A = 0
  · -- as steep as the cone
    have cB : B ≠ 0 := fun y => hab ⟨cA, y⟩
    have hA0 : an_B (an_X a b) (an_X a b) = 0 := by rw [← hA]; exact cA
    obtain ⟨t1, t2, t3, t4⟩ := an_steep a b x s t hA0 hF hU hB hC
    have hlean : an_B (an_W a b s t) (an_X a b) ≠ 0 := fun y => cB (by rw [t1, y]; rfl)
    rw [if_pos hA0, if_neg hlean] at hr
    cases hr
    have hA'0 : A' = 0 := by
      rw [cA] at gA
      exact (Int.mul_eq_zero.mp gA.symm).resolve_left g0
    rw [if_pos ((o_z bA' (by decide)).mpr hA'0)]
    obtain ⟨m1, u1, u2, u3⟩ := y_38 (g := g) (B := B') (C := C') (U := U) h50 h60
    rw [u1]
    have hsm := (an_edge va vb vs vt vx c1 hA0 hlean).2
    have hsc : ∀ k, k < 7 → gg * an_r2 (fun k => B' * Fv k - C' * an_X a b k) (fun _ => 0) (B' * U) k = 1 * an_row (an_L (2 * an_B (an_W a b s t) (an_X a b)) (an_W a b s t) (- an_B (an_W a b s t) (an_W a b s t)) (an_X a b)) (fun _ => 0) x (4 * an_B (an_W a b s t) (an_X a b) * an_S (an_X a b) (an_X a b)) 0 0 k := by
      refine an_7 (fun k hk => ?_) (fun k hk => ?_) ?_
      · rw [r2_lo hk, an_row_lo hk]
        have := t3 k hk
        unfold an_L
        rw [show gg * (B' * Fv k - C' * an_X a b k) = (gg * B') * Fv k - (gg * C') * an_X a b k by grind, ← gB, ← gC, this]
        grind
      · rw [r2_hi hk, an_row_hi hk, Int.mul_zero, Int.zero_mul, Int.mul_zero]
      · rw [r2_6, an_row_6, show gg * (B' * U) = (gg * B') * U by grind, ← gB, t4, Int.one_mul]
    obtain ⟨w1, w2⟩ := an_sm3 g0 (by decide) hsc (fun k hk => by rw [Int.one_mul]; exact hsm.1.2 k hk) hsm
    have hcok := an_mk_ok g hok (p := 0) (by unfold an_bd; decide) (.inr rfl)
    have hce : ((g, an_lw (an_r2 (fun k => B' * Fv k - C' * an_X a b k) (fun _ => 0) (B' * U)), 0) : an_c) = an_mk g x (0, an_L (2 * an_B (an_W a b s t) (an_X a b)) (an_W a b s t) (- an_B (an_W a b s t) (an_W a b s t)) (an_X a b), (fun _ => 0), 4 * an_B (an_W a b s t) (an_X a b) * an_S (an_X a b) (an_X a b)) 0 0 0 := by
      unfold an_mk
      rw [w2]
    have hY1 : y_Fd F m1 := by
      have := y_Fd_l (L := m1.2.1) (by omega) hY0 (fun r r1 r2 => u2.2.2.1 r (by omega))
      have e : m1 = (m0.1, m1.2.1, m0.2.2.1, m0.2.2.2) := by rw [← u2.1, ← u2.2.1]
      rw [e]; exact this
    obtain ⟨m2, p1, p2, p3⟩ := y_takes (m := m1) (F := F) (g := g) (d := 0) (f := an_r2 (fun k => B' * Fv k - C' * an_X a b k) (fun _ => 0) (B' * U)) (fun i hi => ⟨by rw [r2_lo hi]; exact u3 i hi, by rw [r2_hi hi, u2.2.2.1 441 (by decide)]; exact k0 i hi⟩) w1 hY1 (by omega) (by rw [hce]; exact hcok)
    refine ⟨m2, p1, w_tr hw0 (w_tr ⟨fun r hr => u2.2.2.1 r (by omega), fun r k _ _ => by rw [u2.1], fun r _ => by rw [u2.2.1], by rw [u2.2.1]⟩ (w_z p3)), ?_⟩
    unfold an_cs
    rw [if_neg (show ¬ (0 : Int) < 0 by decide), if_pos rfl, ← hce]
    exact p2
  · -- once, twice or never
    have hA0 : ¬ an_B (an_X a b) (an_X a b) = 0 := by rw [← hA]; exact cA
    rw [if_neg hA0] at hr
    cases hr
    obtain ⟨t1, t2⟩ := an_pierce a b x s t hF hU hA hB hC
    have hA'0 : A' ≠ 0 := fun y => cA (by rw [gA, y, Int.mul_zero])
    rw [if_neg (fun y => hA'0 ((o_z bA' (by decide)).mp y))]
    have eR : Int64.ofInt B' * Int64.ofInt B' - ((4 : Int64) * Int64.ofInt A') * Int64.ofInt C' = Int64.ofInt (B' * B' - 4 * A' * C') := by rw [o_four, o_mul, o_mul, o_mul, o_sub]
    rw [eR]
    have hR2 : gg * gg * (B' * B' - 4 * A' * C') = U * U * an_sq a b s t := by
      rw [← t1, gA, gB, gC]
      grind
    generalize hRd : B' * B' - 4 * A' * C' = R at *
    have gg2 : 0 < gg * gg := by
      rcases Int.lt_or_gt_of_ne g0 with y | y
      · exact Int.mul_pos_of_neg_of_neg y y
      · exact Int.mul_pos y y
    have UU : 0 < U * U := by
      rcases Int.lt_or_gt_of_ne hU0 with y | y
      · exact Int.mul_pos_of_neg_of_neg y y
      · exact Int.mul_pos y y
    have bR : an_bd R 2304000000000000000 := an_ab hR2.symm (by omega) (bd_mul (bd_mul bU bU (Nat.le_refl _)) z5 (by decide))
    have rR : lo_r R := bd_r bR (by decide)
    have sgn : nu_sg R = nu_sg (an_sq a b s t) := by rw [← nu_sgp gg2, hR2, nu_sgp UU]
    have hQ0 : R = 0 ↔ an_sq a b s t = 0 := by rw [← nu_sg_iz, sgn, nu_sg_iz]
    have hQp : 0 < R ↔ 0 < an_sq a b s t := by rw [← nu_sg_ip, sgn, nu_sg_ip]
    have hQn : R < 0 ↔ an_sq a b s t < 0 := by rw [← nu_sg_in, sgn, nu_sg_in]
    have l1 : (0 : Int64) ≤ Int64.ofInt R ↔ 0 ≤ R := by rw [Int64.le_iff_toInt_le, lo_i rR]; rfl
    have l2 : Int64.ofInt R ≤ 0 ↔ R ≤ 0 := by rw [Int64.le_iff_toInt_le, lo_i rR]; rfl
    have l3 : Int64.ofInt R = 0 ↔ R = 0 := by rw [lo_z, lo_i rR]
    have h2A : 2 * A = 2 * an_B (an_X a b) (an_X a b) := by rw [hA]
    -- the rows, in the class's numbers
    have rows : ∀ (pp qq p q : Int) (dd : Int64), gg * pp = U * p → gg * qq = U * q → an_bd p 6400 → an_bd q 6400 → (0 < an_sq a b s t ∨ (p = 0 ∧ q = 0)) → an_small (an_r2 (fun k => 2 * A' * Fv k - B' * an_X a b k + pp * an_X a b k) (fun k => qq * an_X a b k) (2 * A' * U)) ∧ an_lw (an_r2 (fun k => 2 * A' * Fv k - B' * an_X a b k + pp * an_X a b k) (fun k => qq * an_X a b k) (2 * A' * U)) = an_lw (an_row (an_st a b s t) (an_X a b) x (2 * an_B (an_X a b) (an_X a b)) p q) := by
      intro pp qq p q dd hp hq bp bq hz
      have bM : an_bd (2 * an_B (an_X a b) (an_X a b)) 240000 := bd_mul (a := 2) (by unfold an_bd; decide) z3 (by decide)
      refine an_sm3 g0 hU0 (an_7 (fun k hk => ?_) (fun k hk => ?_) ?_) (an_7 (fun k hk => ?_) (fun k hk => ?_) ?_) (an_rok_row hok bp bq hz)
      · rw [r2_lo hk, an_row_lo hk]
        have := t2 k hk
        rw [show gg * (2 * A' * Fv k - B' * an_X a b k + pp * an_X a b k) = (2 * (gg * A') * Fv k - (gg * B') * an_X a b k) + (gg * pp) * an_X a b k by grind, ← gA, ← gB, this, hp, h2A]
        grind
      · rw [r2_hi hk, an_row_hi hk, ← Int.mul_assoc, hq, Int.mul_assoc]
      · rw [r2_6, an_row_6, show gg * (2 * A' * U) = U * (2 * (gg * A')) by grind, ← gA, h2A]
      · rw [an_row_lo hk]
        exact bd_mul bU (bd_add (bd_add (z4 k hk) (bd_mul bp (z1 k hk) (Nat.le_refl _)) (Nat.le_refl _)) (bd_mul (vx k hk) bM (Nat.le_refl _)) (Nat.le_refl _)) (by decide)
      · rw [an_row_hi hk]
        exact bd_mul bU (bd_mul bq (z1 k hk) (Nat.le_refl _)) (by decide)
      · rw [an_row_6]
        exact bd_mul bU bM (by decide)
    unfold an_cs
    dsimp only
    by_cases d1 : an_sq a b s t < 0
    · rw [if_pos d1, if_neg (fun y => by have := l1.mp y; have := hQn.mpr d1; omega), List.append_nil]
      exact ⟨m0, rfl, hw0, hY0⟩
    · rw [if_neg d1, if_pos (l1.mpr (by have := hQn; omega))]
      by_cases d2 : an_sq a b s t = 0
      · have hR0 := hQ0.mpr d2
        rw [if_pos d2, if_pos (l2.mpr (by omega))]
        have hz0 : Int64.ofInt R = 0 := l3.mpr hR0
        obtain ⟨w1, w2⟩ := rows 0 0 0 0 0 (by rw [Int.mul_zero, Int.mul_zero]) (by rw [Int.mul_zero, Int.mul_zero]) (by unfold an_bd; decide) (by unfold an_bd; decide) (.inr ⟨rfl, rfl⟩)
        have hce : ((g, an_lw (an_r2 (fun k => 2 * A' * Fv k - B' * an_X a b k + 0 * an_X a b k) (fun k => 0 * an_X a b k) (2 * A' * U)), 0) : an_c) = an_mk g x (an_sq a b s t, an_st a b s t, an_X a b, 2 * an_B (an_X a b) (an_X a b)) 0 0 0 := by
          unfold an_mk
          rw [w2]
        have hcok := an_mk_ok g hok (p := 0) (by unfold an_bd; decide) (.inr rfl)
        rw [← hce] at hcok ⊢
        rw [iv_F]
        conv => enter [1, m1, 1, 1]; unfold fM_solves_130
        rw [if_pos hz0, if_neg (by decide)]
        obtain ⟨m1, p1, p2, p3, p4⟩ := y_pass (m := m0) (g := g) (A := A') (B := B') (U := U) (s := 0) (d := 0) (e := -1) (z := true) (R := Int64.ofInt R) (F := F) ⟨fun _ => rfl, fun _ => hz0⟩ h50 h60 (.inr rfl) (fun y => Bool.noConfusion y) (fM_solves_130 (999995 + 1 + 1 + 1 + 1)) (Int32.ofNat F.2.length) hY0 (by omega) w1 hcok
        have p1' : fM_solves_150 (fM_solves_130 (999995 + 1 + 1 + 1 + 1)) tk_F g (Int64.ofInt A') (Int64.ofInt B') (Int64.ofInt U) (Int32.ofNat F.2.length) (Int64.ofInt R) (-1) 0 m0 = _ := p1
        rw [p1']
        have hlen := y_lays1 p4 (by have := List.length_filter_le an_rad [((g, an_lw (an_r2 (fun k => 2 * A' * Fv k - B' * an_X a b k + 0 * an_X a b k) (fun k => 0 * an_X a b k) (2 * A' * U)), 0) : an_c)]; exact Nat.lt_of_le_of_lt this (by show 1 < 2; decide)) (by omega)
        refine ⟨m1, ?_, w_tr hw0 p2, p4⟩
        unfold fM_solves_130
        rw [if_pos hz0, if_pos (by decide), hlen, Option.bind_some]
      · have hQ : 0 < an_sq a b s t := by omega
        have hR0 : 0 < R := hQp.mpr hQ
        rw [if_neg d2, if_neg (fun y => by have := l2.mp y; omega)]
        have hzn : ¬ Int64.ofInt R = 0 := fun y => by have := l3.mp y; omega
        obtain ⟨q1, q2⟩ := an_sd_of (n := (an_sq a b s t).natAbs) (by omega)
        obtain ⟨s', d', r1, r2⟩ := rt_parts R.natAbs (by omega)
        obtain ⟨sb1, sb2, sb3, sb4⟩ := an_sdb (by unfold an_bd at z5; omega) (by omega) q1
        generalize hsd1 : (an_sd (an_sq a b s t).natAbs).1 = sq at *
        generalize hsd2 : (an_sd (an_sq a b s t).natAbs).2 = dq at *
        have hu : d' = dq ∧ gg.natAbs * s' = U.natAbs * sq := by
          have e1 : (gg.natAbs * s') * (gg.natAbs * s') * d' = (U.natAbs * sq) * (U.natAbs * sq) * dq := by
            have e2 : gg.natAbs * gg.natAbs * R.natAbs = U.natAbs * U.natAbs * (an_sq a b s t).natAbs := by
              rw [← Int.natAbs_mul, ← Int.natAbs_mul, ← Int.natAbs_mul, ← Int.natAbs_mul, hR2]
            rw [r1, q1] at e2
            have e3 : (gg.natAbs * s') * (gg.natAbs * s') * d' = gg.natAbs * gg.natAbs * (s' * s' * d') := by grind
            have e4 : (U.natAbs * sq) * (U.natAbs * sq) * dq = U.natAbs * U.natAbs * (sq * sq * dq) := by grind
            rw [e3, e4]; exact e2
          have hb0 : 0 < gg.natAbs * s' := by
            refine Nat.mul_pos (by omega) ?_
            rcases Nat.eq_zero_or_pos s' with y | y
            · rw [y, Nat.zero_mul] at r1; omega
            · exact y
          exact nu_sf_uniq r2 q2 hb0 e1
        obtain ⟨hd', hgs⟩ := hu
        subst hd'
        -- the parts of what is under the root
        have hparts : fM_parts (Int64.ofInt R) m0 = some (rt_M m0 s' d') := by
          have eo : Int64.ofInt R = rt_o R.natAbs := lo_ext (by rw [lo_i rR, rt_i (by unfold an_bd at bR; omega)]; omega)
          rw [eo]
          refine y_parts 240001 (by decide) (by decide) (by unfold an_bd at bR; omega) (by omega) (fun l hl1 hl2 => ?_) r1 r2
          have hco : Nat.Coprime l U.natAbs := by
            rcases Nat.lt_or_ge (Nat.gcd l U.natAbs) 2 with y | y
            · have : 0 < Nat.gcd l U.natAbs := Nat.gcd_pos_of_pos_right _ (by omega)
              show Nat.gcd l U.natAbs = 1
              omega
            · exfalso
              have g1 := Nat.gcd_dvd_left l U.natAbs
              have g2 := Nat.le_of_dvd (by omega) (Nat.gcd_dvd_right l U.natAbs)
              unfold an_bd at bU
              exact hl2 _ y (by omega) g1
          have h1 : l ∣ U.natAbs * (U.natAbs * (an_sq a b s t).natAbs) := by
            have e2 : gg.natAbs * gg.natAbs * R.natAbs = U.natAbs * U.natAbs * (an_sq a b s t).natAbs := by
              rw [← Int.natAbs_mul, ← Int.natAbs_mul, ← Int.natAbs_mul, ← Int.natAbs_mul, hR2]
            rw [← Nat.mul_assoc, ← e2]
            exact Nat.dvd_trans hl1 (Nat.dvd_mul_left _ _)
          have h2 := Nat.Coprime.dvd_of_dvd_mul_left hco (Nat.Coprime.dvd_of_dvd_mul_left hco h1)
          have h3 := Nat.le_of_dvd (by omega) h2
          unfold an_bd at z5
          omega
        rw [hparts, Option.bind_some]
        have hM5 := rt_M5 m0 s' d'
        have hM6 := rt_M6 m0 s' d'
        have hMr : ∀ r, r ≠ 295 → (rt_M m0 s' d').2.1 r = m0.2.1 r := fun r hr => by unfold rt_M; dsimp only; rw [tk_u2_ne hr, tk_u2_ne hr]
        have hM1 : (rt_M m0 s' d').1 = m0.1 := rfl
        have hM2 : (rt_M m0 s' d').2.2 = m0.2.2 := rfl
        have hYM : y_Fd F (rt_M m0 s' d') := y_Fd_l (by omega) hY0 (fun r r1 r2 => hMr r (by omega))
        generalize rt_M m0 s' d' = mM at *
        have hwM : w_F m mM := w_tr hw0 ⟨fun r hr => hMr r (by omega), fun r k _ _ => by rw [hM1], fun r _ => by rw [hM2], by rw [hM2]⟩
        have h5M : an_at mM 436 (an_X a b) := fun k hk => by rw [hMr 436 (by decide)]; exact h50 k hk
        have h6M : an_at mM 437 Fv := fun k hk => by rw [hMr 437 (by decide)]; exact h60 k hk
        have hdb : d' < 9223372036854775808 := by omega
        have Up : 0 < U := by
          have : 0 ≤ an_S (an_X a b) (an_X a b) := by
            have y0 := an_sqn (an_X a b 0)
            have y1 := an_sqn (an_X a b 1)
            have y2 := an_sqn (an_X a b 2)
            unfold an_S
            omega
          omega
        have hgsI : gg * (s' : Int) = U * (sq : Int) := by
          have e1 : ((gg.natAbs * s' : Nat) : Int) = ((U.natAbs * sq : Nat) : Int) := by rw [hgs]
          rw [Int.natCast_mul, Int.natCast_mul, Int.natAbs_of_nonneg (by omega), Int.natAbs_of_nonneg (by omega)] at e1
          exact e1
        have hpp : ∀ e : Int, ps_p false d' e s' = if d' = 1 then e * s' else 0 := fun e => by unfold ps_p; rw [if_neg (fun y => Bool.noConfusion y)]
        have hqq : ∀ e : Int, ps_q false d' e s' = if d' = 1 then 0 else e * s' := fun e => by unfold ps_q; rw [if_neg (fun y => Bool.noConfusion y)]
        have hdd : ps_d false d' = if d' = 1 then 0 else rt_o d' := by unfold ps_d; rw [if_neg (fun y => Bool.noConfusion y)]
        have bsq : an_bd (sq : Int) 6400 := by unfold an_bd; omega
        have both : ∀ e : Int, (e = 1 ∨ e = -1) → an_small (an_r2 (fun k => 2 * A' * Fv k - B' * an_X a b k + ps_p false d' e s' * an_X a b k) (fun k => ps_q false d' e s' * an_X a b k) (2 * A' * U)) ∧ ((g, an_lw (an_r2 (fun k => 2 * A' * Fv k - B' * an_X a b k + ps_p false d' e s' * an_X a b k) (fun k => ps_q false d' e s' * an_X a b k) (2 * A' * U)), ps_d false d') : an_c) = an_e g x (an_sq a b s t, an_st a b s t, an_X a b, 2 * an_B (an_X a b) (an_X a b)) sq d' e := by
          intro e he
          have be : an_bd (e * sq) 6400 := bd_mul (a := 1) (by unfold an_bd; omega) bsq (by decide)
          have b0 : an_bd 0 6400 := by unfold an_bd; decide
          have hge : gg * (e * s') = U * (e * sq) := by
            rw [show gg * (e * (s' : Int)) = e * (gg * s') by grind, hgsI]
            grind
          unfold an_e an_mk
          rw [hpp, hqq, hdd]
          by_cases c : d' = 1
          · rw [if_pos c, if_pos c, if_pos c, if_pos c, if_pos c]
            obtain ⟨w1, w2⟩ := rows (e * s') 0 (e * sq) 0 0 hge (by rw [Int.mul_zero, Int.mul_zero]) be b0 (.inl hQ)
            exact ⟨w1, by rw [w2]⟩
          · rw [if_neg c, if_neg c, if_neg c, if_neg c, if_neg c]
            obtain ⟨w1, w2⟩ := rows 0 (e * s') 0 (e * sq) 0 (by rw [Int.mul_zero, Int.mul_zero]) hge b0 be (.inl hQ)
            exact ⟨w1, by rw [w2]⟩
        obtain ⟨w1, w2⟩ := both (-1) (.inr rfl)
        obtain ⟨w3, w4⟩ := both 1 (.inl rfl)
        have o1 := an_e_ok g hok hQ q1 q2 (i := -1) (.inr rfl)
        have o2 := an_e_ok g hok hQ q1 q2 (i := 1) (.inl rfl)
        rw [iv_F]
        conv => enter [1, m1, 1, 1]; unfold fM_solves_130
        rw [if_neg hzn, if_neg (by decide)]
        have hzz : Int64.ofInt R = 0 ↔ false = true := ⟨fun y => absurd y hzn, fun y => Bool.noConfusion y⟩
        obtain ⟨m1, p1, p2, p3, p4⟩ := y_pass (m := mM) (g := g) (A := A') (B := B') (U := U) (s := s') (d := d') (e := -1) (z := false) (R := Int64.ofInt R) (F := F) hzz h5M h6M (.inr rfl) (fun _ => ⟨hM5, hM6, hdb⟩) (fM_solves_130 (999995 + 1 + 1 + 1 + 1)) (Int32.ofNat F.2.length) hYM (by omega) w1 (by rw [w2]; exact o1)
        have p1' : fM_solves_150 (fM_solves_130 (999995 + 1 + 1 + 1 + 1)) tk_F g (Int64.ofInt A') (Int64.ofInt B') (Int64.ofInt U) (Int32.ofNat F.2.length) (Int64.ofInt R) (-1) 0 mM = _ := p1
        rw [p1', show Int32.ofInt (-1) + 2 = Int32.ofInt 1 by decide]
        rw [w2] at p4
        conv => enter [1, m1, 1, 1]; unfold fM_solves_130
        rw [if_neg hzn, if_neg (by decide)]
        have l14 : ((F.1, F.2 ++ [an_e g x (an_sq a b s t, an_st a b s t, an_X a b, 2 * an_B (an_X a b) (an_X a b)) sq d' (-1)].filter an_rad) : an_F).2.length < 16 := by
          dsimp only
          rw [List.length_append]
          have : ([an_e g x (an_sq a b s t, an_st a b s t, an_X a b, 2 * an_B (an_X a b) (an_X a b)) sq d' (-1)].filter an_rad).length ≤ 1 := List.length_filter_le _ _
          omega
        obtain ⟨m2, n1, n2, n3, n4⟩ := y_pass (m := m1) (g := g) (A := A') (B := B') (U := U) (s := s') (d := d') (e := 1) (z := false) (R := Int64.ofInt R) hzz (fun k hk => by rw [p2.1 436 (by decide)]; exact h5M k hk) (fun k hk => by rw [p2.1 437 (by decide)]; exact h6M k hk) (.inl rfl) (fun _ => by rw [p3]; exact ⟨hM5, hM6, hdb⟩) (fM_solves_130 (999995 + 1 + 1 + 1)) (Int32.ofNat F.2.length) p4 l14 w3 (by rw [w4]; exact o2)
        rw [n1]
        rw [w4] at n4
        dsimp only at n4
        rw [List.append_assoc, ← List.filter_append] at n4
        obtain ⟨m3, v1, v2, v3⟩ := y_end (r := (an_sq a b s t, an_st a b s t, an_X a b, 2 * an_B (an_X a b) (an_X a b))) hok hQ q1 q2 hl n4
        refine ⟨m3, ?_, w_tr hwM (w_tr p2 (w_tr n2 (w_z v2))), v3⟩
        unfold fM_solves_130
        rw [if_neg hzn, if_pos (by decide), v1, Option.bind_some]
