/-! ===== the class: circles found ===== -/
def an_set (l : List an_c) : Int32 := l.foldl (fun v c => v ||| tk_ishl 1 c.1) 0
theorem an_set_add (l : List an_c) (c : an_c) : an_set (l ++ [c]) = an_set l ||| tk_ishl 1 c.1 := by
  unfold an_set
  rw [List.foldl_append]
  rfl
def x_Fd (f : an_F) (m : tk_m) : Prop := m.1 39 2 = Int32.ofNat f.2.length ∧ m.1 39 3 = f.1 ∧ m.1 39 4 = an_set f.2 ∧ ∀ k c, f.2[k]? = some c → x_C c (71 + 8 * k) m
theorem x_C_k {c : an_c} {r : Nat} {m m' : tk_m} (h : x_C c r m) (q : ∀ p, r ≤ p → p < r + 8 → tk_row m m' p) : x_C c r m' := by
  obtain ⟨h1, h2, h3, h4⟩ := h
  refine ⟨by rw [(q r (by omega) (by omega)).1]; exact h1, fun k hk => by rw [(q (r + 1) (by omega) (by omega)).2.1]; exact h2 k hk, by rw [(q r (by omega) (by omega)).2.1]; exact h3, fun i hi => ⟨x_num_k (h4 i hi).1 (q _ (by omega) (by omega)) (q _ (by omega) (by omega)), by rw [(q (r + 2 + 2 * i) (by omega) (by omega)).2.2.1]; exact (h4 i hi).2⟩⟩
theorem x_Fd_k {f : an_F} {m m' : tk_m} (hl : f.2.length ≤ 16) (h : x_Fd f m) (q : ∀ r, (r = 39 ∨ 61 ≤ r) → r ≤ 201 → tk_row m m' r) : x_Fd f m' := by
  obtain ⟨h1, h2, h3, h4⟩ := h
  have q9 := q 39 (by decide) (by decide)
  refine ⟨by rw [q9.1]; exact h1, by rw [q9.1]; exact h2, by rw [q9.1]; exact h3, fun k c hc => x_C_k (h4 k c hc) (fun p a b => q p (by omega) ?_)⟩
  have := (List.getElem?_eq_some_iff.mp hc).1
  omega
theorem x_Fd_c {f : an_F} {m m' : tk_m} (hl : f.2.length ≤ 16) (h : x_Fd f m) (q : ∀ r, (70 < r ∧ r < 199) → tk_row m m' r) (q1 : m'.1 39 = m.1 39) : x_Fd f m' := by
  obtain ⟨h1, h2, h3, h4⟩ := h
  refine ⟨by rw [q1]; exact h1, by rw [q1]; exact h2, by rw [q1]; exact h3, fun k c hc => x_C_k (h4 k c hc) (fun p a b => q p ?_)⟩
  have := (List.getElem?_eq_some_iff.mp hc).1
  omega
theorem lo_val1 (p q : Int) (d : Int64) : lo_val p q d 1 = (Int64.ofInt p, Int64.ofInt q, if q = 0 then 0 else d, 1) := by
  have e : lo_D3 p q 1 = 1 := by
    unfold lo_D3
    rw [lo_g3, show (1 : Int).natAbs = 1 from rfl, Nat.gcd_one_right]
    rfl
  unfold lo_val
  rw [e, Int.ediv_one, Int.ediv_one, Int.ediv_one]
  rfl
theorem tk_al49 : tk_al (69 + 1) = 3 := by decide +kernel
/-- the root of what is under it, as its whole and its rooted part -/
noncomputable def c_rt (Q : Int) : Int × Int × Int64 := if Q ≤ 0 then (0, 0, 0) else (if (an_sd Q.natAbs).2 = 1 then ((an_sd Q.natAbs).1 : Int) else 0, if (an_sd Q.natAbs).2 = 1 then 0 else ((an_sd Q.natAbs).1 : Int), if (an_sd Q.natAbs).2 = 1 then 0 else rt_o (an_sd Q.natAbs).2)
theorem x_hold1 {m : tk_m} (p q : Int) (d : Int64) (bp : an_bd p 1000000) (bq : an_bd q 1000000) : ∃ m1, ((fN_hold 69 (Int64.ofInt p) (Int64.ofInt q) d 1 m).bind fun o => some o.2) = some m1 ∧ m1.1 = m.1 ∧ (∀ r, r ≠ 69 → r ≠ 70 → tk_row m m1 r) ∧ m1.2.1 70 0 = Int64.ofInt p ∧ m1.2.1 70 1 = Int64.ofInt q ∧ m1.2.1 69 2 = if q = 0 then 0 else d := by
  obtain ⟨b, M1, x1, x2, x3, x4, x5, x6, x7⟩ := x_hold tk_al49 (Int64.ofInt p) (Int64.ofInt q) d 1 m (by decide)
  have ep : (Int64.ofInt p).toInt = p := lo_i (bd_r bp (by decide))
  have eq : (Int64.ofInt q).toInt = q := lo_i (bd_r bq (by decide))
  have nb : ¬ lo_bad (Int64.ofInt p).toInt (Int64.ofInt q).toInt (1 : Int64).toInt := by
    rw [ep, eq]
    unfold an_bd at bp bq
    exact lo_small (by omega) (by omega) (by decide)
  have n1 := x7 (x2.mpr nb)
  rw [ep, eq, show (1 : Int64).toInt = 1 from rfl, lo_val1] at n1
  rw [x1, Option.bind_some]
  exact ⟨M1, rfl, x4, x3, n1.1, n1.2.1, n1.2.2.2⟩
theorem x_root1 {m : tk_m} {Q : Int} (hQ : Q ≤ 40000000) (hr : lo_r Q) : ∃ m1, fN_holdRoot 69 (Int64.ofInt Q) m = some m1 ∧ m1.1 = m.1 ∧ (∀ r, r ≠ 69 → r ≠ 70 → tk_row m m1 r) ∧ m1.2.1 70 0 = Int64.ofInt (c_rt Q).1 ∧ m1.2.1 70 1 = Int64.ofInt (c_rt Q).2.1 ∧ m1.2.1 69 2 = (c_rt Q).2.2 := by
  by_cases c : Q ≤ 0
  · unfold fN_holdRoot c_rt
    rw [if_pos c, if_neg]
    · exact x_hold1 0 0 0 (by unfold an_bd; decide) (by unfold an_bd; decide)
    · rw [Int64.lt_iff_toInt_lt, lo_i hr, show (0 : Int64).toInt = 0 from rfl]; omega
  · obtain ⟨e, hd⟩ := an_sd_of (n := Q.natAbs) (by omega)
    obtain ⟨s1, s2, s3, s4⟩ := an_sdb (by omega) (by omega) e
    have eo : Int64.ofInt Q = rt_o Q.natAbs := lo_ext (by rw [lo_i hr, rt_i (by omega)]; omega)
    rw [eo, x_holdRoot (by omega) (by omega) e hd]
    unfold rt_H c_rt
    rw [if_neg c]
    generalize (an_sd Q.natAbs).1 = s at *
    generalize (an_sd Q.natAbs).2 = d at *
    have es : rt_o s = Int64.ofInt (s : Int) := lo_ext (by rw [rt_i (by omega), lo_i (by constructor <;> omega)])
    by_cases c1 : d = 1
    · rw [if_pos c1, if_pos c1, if_pos c1, if_pos c1, if_pos c1, es]
      exact x_hold1 s 0 (rt_o d) (by unfold an_bd; omega) (by unfold an_bd; decide)
    · rw [if_neg c1, if_neg c1, if_neg c1, if_neg c1, if_neg c1, es]
      have := x_hold1 (m := m) 0 s (rt_o d) (by unfold an_bd; decide) (by unfold an_bd; omega)
      rw [if_neg (show ¬ (s : Int) = 0 by omega)] at this
      exact this
theorem x_side {m : tk_m} {M : Int} {W : an_V} (h43 : an_at m 64 W) (hM : m.2.1 39 13 = Int64.ofInt M) (vW : an_vb W 200) (bM : an_bd M 240000) (h0 : M ≠ 0) : fF_lesserSide m = Int32.ofInt (an_ls M W) := by
  have z : ∀ k, k < 3 → (m.2.1 64 k = 0 ↔ W k = 0) := fun k hk => by rw [h43 k hk]; exact o_z (vW k hk) (by decide)
  have l : ∀ k, k < 3 → (m.2.1 64 k ≤ 0 ↔ W k ≤ 0) := fun k hk => by rw [h43 k hk, Int64.le_iff_toInt_le, lo_i (bd_r (vW k hk) (by decide))]; rfl
  have hm : m.2.1 39 13 ≤ 0 ↔ M ≤ 0 := by rw [hM, Int64.le_iff_toInt_le, lo_i (bd_r bM (by decide))]; rfl
  have e63 : ∀ L : Int, fF_lesserSide_63 (if L ≤ 0 then 0 else 1) m = Int32.ofInt (if (0 < L ↔ 0 < M) then -1 else 1) := by
    intro L
    unfold fF_lesserSide_63
    by_cases c : M ≤ 0
    · rw [if_pos (hm.mpr c)]
      by_cases d : L ≤ 0
      · rw [if_pos d, if_pos rfl, if_pos (by omega)]; rfl
      · rw [if_neg d, if_neg (by decide), if_neg (by omega)]; rfl
    · rw [if_neg (fun q => c (hm.mp q))]
      by_cases d : L ≤ 0
      · rw [if_pos d, if_neg (by decide), if_neg (by omega)]; rfl
      · rw [if_neg d, if_pos rfl, if_pos (by omega)]; rfl
  have ei : ∀ (P : Prop) [Decidable P] (L : Int), (P ↔ L ≤ 0) → (if P then fF_lesserSide_63 0 m else fF_lesserSide_63 1 m) = Int32.ofInt (if (0 < L ↔ 0 < M) then -1 else 1) := by
    intro P _ L hP
    rw [← e63 L]
    by_cases d : L ≤ 0
    · rw [if_pos (hP.mpr d), if_pos d]
    · rw [if_neg (fun q => d (hP.mp q)), if_neg d]
  unfold fF_lesserSide an_ls
  by_cases c2 : W 2 = 0
  · rw [if_pos ((z 2 (by decide)).mpr c2), if_pos c2]
    by_cases c0 : W 0 = 0
    · rw [if_pos ((z 0 (by decide)).mpr c0), if_pos c0]
      exact ei _ _ (l 1 (by decide))
    · rw [if_neg (fun q => c0 ((z 0 (by decide)).mp q)), if_neg c0]
      exact ei _ _ (l 0 (by decide))
  · rw [if_neg (fun q => c2 ((z 2 (by decide)).mp q)), if_neg c2]
    exact ei _ _ (l 2 (by decide))
theorem x_place {m : tk_m} {S W : an_V} {P q e : Int} (h45 : an_at m 66 S) (h43 : an_at m 64 W) (hP : m.2.1 70 0 = Int64.ofInt P) (hq : m.2.1 70 1 = Int64.ofInt q) (he : e = 1 ∨ e = -1) : (fF_takePlace (Int32.ofInt e) m).1 = m.1 ∧ (fF_takePlace (Int32.ofInt e) m).2.2 = m.2.2 ∧ (∀ r, r ≠ 67 → r ≠ 68 → (fF_takePlace (Int32.ofInt e) m).2.1 r = m.2.1 r) ∧ an_at (fF_takePlace (Int32.ofInt e) m) 67 (fun k => S k + e * P * W k) ∧ an_at (fF_takePlace (Int32.ofInt e) m) 68 (fun k => e * q * W k) := by
  have ee : Int32.toInt64 (Int32.ofInt e) = Int64.ofInt e := by rcases he with rfl | rfl <;> decide
  unfold fF_takePlace fN_p fN_q
  obtain ⟨g1, k1⟩ := v_set (m := m) (t := 67) (v := S) (h45 0 (by decide)) (h45 1 (by decide)) (h45 2 (by decide))
  generalize fV_set 67 (m.2.1 66 0) (m.2.1 66 1) (m.2.1 66 2) m = m1 at *
  rw [tk_letE, ee, show m1.2.1 (69 + 1) 0 = Int64.ofInt P by rw [g1.2.2.1 70 (by decide)]; exact hP, o_mul]
  obtain ⟨g2, k2⟩ := v_add (m := m1) (t := 67) (a := 64) (f := Int64.ofInt (e * P)) (by decide) rfl k1 (at_fr h43 (by decide) g1)
  generalize fV_add 67 (Int64.ofInt (e * P)) 64 m1 = m2 at *
  rw [tk_letE]
  obtain ⟨g3, k3⟩ := v_set (m := m2) (t := 68) (v := fun _ => 0) (x := 0) (y := 0) (z := 0) rfl rfl rfl
  generalize fV_set 68 0 0 0 m2 = m3 at *
  have h3 : ∀ r, r ≠ 67 → r ≠ 68 → m3.2.1 r = m.2.1 r := fun r a b => (g3.2.2.1 r b).trans ((g2.2.2.1 r a).trans (g1.2.2.1 r a))
  rw [tk_letE, show m3.2.1 (69 + 1) 1 = Int64.ofInt q by rw [h3 70 (by decide) (by decide)]; exact hq, o_mul]
  obtain ⟨g4, k4⟩ := v_add (m := m3) (t := 68) (a := 64) (f := Int64.ofInt (e * q)) (w := W) (by decide) rfl k3 (fun k hk => by rw [h3 64 (by decide) (by decide)]; exact h43 k hk)
  generalize fV_add 68 (Int64.ofInt (e * q)) 64 m3 = m4 at *
  rw [tk_letE]
  refine ⟨g4.1.trans (g3.1.trans (g2.1.trans g1.1)), g4.2.1.trans (g3.2.1.trans (g2.2.1.trans g1.2.1)), fun r a b => (g4.2.2.1 r b).trans (h3 r a b), at_fr (at_fr k2 (by decide) g3) (by decide) g4, at_eq k4 (fun k hk => by rw [Int.zero_add])⟩
/-- one side taken -/
theorem c_step {m : tk_m} {f : an_F} {S W B : an_V} {M P q e : Int} {d : Int64} {g : Int32} (he : e = 1 ∨ e = -1) (n : Nat) {v4 v6 : Int32} (hv : ¬ v4 ≤ v6) (hl : f.2.length < 16) (hF : x_Fd f m) (h41 : an_at m 62 B) (h45 : an_at m 66 S) (hM : m.2.1 39 13 = Int64.ofInt M) (h43 : an_at m 64 W) (hP : m.2.1 70 0 = Int64.ofInt P) (hq : m.2.1 70 1 = Int64.ofInt q) (hd : m.2.1 69 2 = d) (hs : an_small (an_row S W B M (e * P) (e * q))) (hc : an_cok (g, an_lw (an_row S W B M (e * P) (e * q)), d)) :
    ∃ m2, fF_findBy_79 (n + 1) g v4 (Int32.ofInt e) v6 m = fF_findBy_79 n g v4 (Int32.ofInt (-e)) (v6 + 1) m2 ∧ x_Fd (f.1, f.2 ++ [((g, an_lw (an_row S W B M (e * P) (e * q)), d) : an_c)].filter an_rad) m2 ∧ (∀ r, (r < 67 ∨ (68 < r ∧ r < 71) ∨ 198 < r) → m2.2.1 r = m.2.1 r) ∧ ∀ r, (r < 39 ∨ 201 < r) → tk_row m m2 r := by
  obtain ⟨F1, F2, F3, F4⟩ := hF
  obtain ⟨t1, t2, t3, t4, t5⟩ := x_place h45 h43 hP hq he
  have en : -Int32.ofInt e = Int32.ofInt (-e) := by rcases he with rfl | rfl <;> decide
  have h16 : ¬ (16 : Int32) ≤ Int32.ofNat f.2.length := by
    show ¬ Int32.ofNat 16 ≤ Int32.ofNat f.2.length
    rw [i_le (by omega) (by omega)]
    omega
  conv => enter [1, m2, 1, 1]; unfold fF_findBy_79
  rw [if_neg hv, F1, if_neg h16, tk_letE]
  generalize fF_takePlace (Int32.ofInt e) m = m3 at *
  have z3 : m3.1 39 2 = Int32.ofNat f.2.length := by rw [t1]; exact F1
  rw [z3, if_pos (i_ok hl (by omega)), i_nn (show f.2.length < 2147483648 by omega), t3 69 (by decide) (by decide), t3 39 (by decide) (by decide), hd, hM]
  obtain ⟨m5, b1, b2, b3, b4, b5, b6⟩ := x_become (f := an_row S W B M (e * P) (e * q)) hl g d t4 t5 (at_eq (w := B) (fun k hk => by rw [t3 62 (by decide) (by decide)]; exact h41 k hk) (fun _ _ => rfl)) (fun j hj => an_row_lo hj) (fun j hj => an_row_hi hj) rfl hs
  have z5 : m5.1 39 2 = Int32.ofNat f.2.length := by rw [b2]; exact z3
  rw [b1, Option.bind_some, z5, if_pos (i_ok hl (by omega)), i_nn (show f.2.length < 2147483648 by omega)]
  have u9 : ∀ v : Int32, tk_u2 m5.1 (71 + 8 * f.2.length) 0 v 39 = m5.1 39 := fun v => tk_u2_ne (by omega)
  rw [u9, z5, if_pos (i_ok hl (by omega)), i_nn (show f.2.length < 2147483648 by omega)]
  have hrad : fC_hasRadius (71 + 8 * f.2.length) (tk_u2 m5.1 (71 + 8 * f.2.length) 0 g, m5.2.1, m5.2.2.1, m5.2.2.2) = an_rad (g, an_lw (an_row S W B M (e * P) (e * q)), d) := x_rad b4 b5 hc
  rw [hrad, en]
  have r3 : ∀ r, r ≠ 67 → r ≠ 68 → tk_row m m3 r := fun r a b => ⟨by rw [t1], t3 r a b, by rw [t2], by rw [t2]⟩
  have r5 : ∀ r, r ≠ 67 → r ≠ 68 → (r < 71 + 8 * f.2.length ∨ 71 + 8 * f.2.length + 8 ≤ r) → tk_row m m5 r := fun r a b c => tk_row_tr (r3 r a b) (b3 r c)
  have hold : ∀ (I : Nat → Nat → Int32), (∀ r, r ≠ 39 → r ≠ 71 + 8 * f.2.length → I r = m5.1 r) → ∀ k c, f.2[k]? = some c → x_C c (71 + 8 * k) ((I, m5.2.1, m5.2.2.1, m5.2.2.2) : tk_m) := by
    intro I hI k c hk
    have hkl := (List.getElem?_eq_some_iff.mp hk).1
    refine x_C_k (F4 k c hk) (fun p p1 p2 => ?_)
    have := r5 p (by omega) (by omega) (by omega)
    exact ⟨(hI p (by omega) (by omega)).trans this.1, this.2.1, this.2.2.1, this.2.2.2⟩
  have m39 : m5.1 39 = m.1 39 := by rw [b2, t1]
  by_cases c : an_rad (g, an_lw (an_row S W B M (e * P) (e * q)), d) = true
  · rw [if_pos c, List.filter_cons_of_pos c]
    refine ⟨_, rfl, ⟨?_, ?_, ?_, ?_⟩, fun r hr => ?_, fun r hr => ?_⟩
    · dsimp only
      rw [tk_u2_nk (by decide), tk_u2_eq, List.length_append]
      exact i_add _ 1
    · dsimp only
      rw [tk_u2_nk (by decide), tk_u2_nk (by decide), u9, m39]; exact F2
    · dsimp only
      rw [tk_u2_eq, tk_u2_nk (by decide), u9, m39, F3]
      exact (an_set_add f.2 (g, an_lw (an_row S W B M (e * P) (e * q)), d)).symm
    · intro k c' hk
      dsimp only at hk ⊢
      by_cases hkl : k < f.2.length
      · rw [List.getElem?_append_left hkl] at hk
        exact hold _ (fun r a b => by rw [tk_u2_ne a, tk_u2_ne a, tk_u2_ne b]) k c' hk
      · rw [List.getElem?_append_right (by omega)] at hk
        have : k = f.2.length := by
          have := (List.getElem?_eq_some_iff.mp hk).1
          simp at this
          omega
        subst this
        rw [Nat.sub_self] at hk
        have : c' = (g, an_lw (an_row S W B M (e * P) (e * q)), d) := (Option.some.inj hk).symm
        subst this
        refine ⟨?_, b4, b5, fun i hi => ⟨x_num_k (b6 i hi).1 ⟨?_, rfl, rfl, rfl⟩ ⟨?_, rfl, rfl, rfl⟩, (b6 i hi).2⟩⟩
        · dsimp only; rw [tk_u2_ne (by omega), tk_u2_ne (by omega), tk_u2_eq]
        · dsimp only; rw [tk_u2_ne (by omega), tk_u2_ne (by omega), tk_u2_ne (by omega)]
        · dsimp only; rw [tk_u2_ne (by omega), tk_u2_ne (by omega), tk_u2_ne (by omega)]
    · exact (b3 r (by omega)).2.1.trans (t3 r (by omega) (by omega))
    · have := r5 r (by omega) (by omega) (by omega)
      exact ⟨by dsimp only; rw [tk_u2_ne (by omega), tk_u2_ne (by omega), tk_u2_ne (by omega)]; exact this.1, this.2.1, this.2.2.1, this.2.2.2⟩
  · rw [if_neg c, List.filter_cons_of_neg c, List.filter_nil, List.append_nil]
    refine ⟨_, rfl, ⟨?_, ?_, ?_, ?_⟩, fun r hr => ?_, fun r hr => ?_⟩
    · dsimp only; rw [u9]; exact z5
    · dsimp only; rw [u9, m39]; exact F2
    · dsimp only; rw [u9, m39]; exact F3
    · exact hold _ (fun r a b => tk_u2_ne b)
    · exact (b3 r (by omega)).2.1.trans (t3 r (by omega) (by omega))
    · have := r5 r (by omega) (by omega) (by omega)
      exact ⟨by dsimp only; rw [tk_u2_ne (by omega)]; exact this.1, this.2.1, this.2.2.1, this.2.2.2⟩
