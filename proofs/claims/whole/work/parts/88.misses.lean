/-! ===== the class: all SIGNS ===== -/
theorem an_row0 {S W W' B : an_V} {M e : Int} : ∀ k, k < 7 → an_row S W B M (e * 0) (e * 0) k = an_row S W' B M 0 0 k := by
  refine an_7 (fun k hk => ?_) (fun k hk => ?_) ?_
  · rw [an_row_lo hk, an_row_lo hk, Int.mul_zero, Int.zero_mul, Int.zero_mul]
  · rw [an_row_hi hk, an_row_hi hk, Int.mul_zero, Int.zero_mul, Int.zero_mul]
  · rw [an_row_6, an_row_6]
theorem an_small_ext {f g : Nat → Int} (h : ∀ k, k < 7 → f k = g k) (hs : an_small g) : an_small f := by
  refine ⟨⟨by rw [h 6 (by decide)]; exact hs.1.1, fun k hk => by rw [h k hk]; exact hs.1.2 k hk⟩, ?_⟩
  rw [an_lw_ext h]
  exact hs.2
theorem x_side1 (m : tk_m) : ∃ e : Int, (e = 1 ∨ e = -1) ∧ fF_lesserSide m = Int32.ofInt e := by
  have h : ∀ s, ∃ e : Int, (e = 1 ∨ e = -1) ∧ fF_lesserSide_63 s m = Int32.ofInt e := by
    intro s
    unfold fF_lesserSide_63
    split
    · split
      · exact ⟨-1, .inr rfl, rfl⟩
      · exact ⟨1, .inl rfl, rfl⟩
    · split
      · exact ⟨-1, .inr rfl, rfl⟩
      · exact ⟨1, .inl rfl, rfl⟩
  unfold fF_lesserSide
  split
  · split
    · split
      · exact h _
      · exact h _
    · split
      · exact h _
      · exact h _
  · split
    · exact h _
    · exact h _
theorem z_cmp {Q : Int} (hr : lo_r Q) : fZ_compare_J (Int64.ofInt Q) 0 + 1 = if Q < 0 then 0 else if Q = 0 then 1 else 2 := by
  have h1 : (0 : Int64) ≤ Int64.ofInt Q ↔ 0 ≤ Q := by rw [Int64.le_iff_toInt_le, lo_i hr]; rfl
  have h2 : Int64.ofInt Q = 0 ↔ Q = 0 := by rw [lo_z, lo_i hr]
  unfold fZ_compare_J
  by_cases c1 : Q < 0
  · rw [if_neg (fun z => by have := h1.mp z; omega), if_pos c1]; rfl
  · rw [if_pos (h1.mpr (by omega)), if_neg c1]
    by_cases c2 : Q = 0
    · rw [if_pos (h2.mpr c2), if_pos c2]; rfl
    · rw [if_neg (fun z => c2 (h2.mp z)), if_neg c2]; rfl
theorem c_rtb {Q : Int} (hQ : Q ≤ 40000000) (h0 : 0 < Q) : an_bd (c_rt Q).1 6400 ∧ an_bd (c_rt Q).2.1 6400 := by
  obtain ⟨e, hd⟩ := an_sd_of (n := Q.natAbs) (by omega)
  obtain ⟨s1, s2, s3, s4⟩ := an_sdb (by omega) (by omega) e
  unfold c_rt an_bd
  rw [if_neg (by omega)]
  constructor
  · dsimp only; split
    · omega
    · decide
  · dsimp only; split
    · decide
    · omega
theorem c_e {Q : Int} (h0 : 0 < Q) (g : Int32) (B : an_V) (S W : an_V) (M e : Int) : an_e g B (Q, S, W, M) (an_sd Q.natAbs).1 (an_sd Q.natAbs).2 e = (g, an_lw (an_row S W B M (e * (c_rt Q).1) (e * (c_rt Q).2.1)), (c_rt Q).2.2) := by
  unfold an_e an_mk c_rt
  have hq : ¬ Q ≤ 0 := by omega
  by_cases c : (an_sd Q.natAbs).2 = 1
  · rw [if_pos c, if_pos c, if_pos c, if_pos c, if_pos c, if_neg hq, Int.mul_zero]
  · rw [if_neg c, if_neg c, if_neg c, if_neg c, if_neg c, if_neg hq, Int.mul_zero]
theorem x_29 {m : tk_m} {f : an_F} {r : an_R} {B : an_V} {g : Nat} (hl : f.2.length ≤ 14) (hr : an_rok B r) (hF : x_Fd f m) (h41 : an_at m 62 B) (hR : c_R r m) (hlr : lo_r r.1) : ∃ m1, fF_findBy_29 (Int32.ofNat g) false m = some m1 ∧ x_Fd (f.1, f.2 ++ an_cs (Int32.ofNat g) B r) m1 ∧ ∀ q, (q < 39 ∨ 201 < q) → tk_row m m1 q := by
  obtain ⟨R1, R2, R3⟩ := hR
  unfold fF_findBy_29
  rw [if_neg (fun z => Bool.noConfusion z), R1]
  obtain ⟨m1, e1, e2, e3, e4, e5, e6⟩ := x_root1 (m := m) hr.1 hlr
  rw [e1, Option.bind_some, (e3 39 (by decide) (by decide)).2.1, R1, z_cmp hlr]
  have k41 : an_at m1 62 B := fun k hk => by rw [(e3 62 (by decide) (by decide)).2.1]; exact h41 k hk
  have kF : x_Fd f m1 := x_Fd_c (by omega) hF (fun q hq => e3 q (by omega) (by omega)) (by rw [e2])
  unfold an_cs
  by_cases c1 : r.1 < 0
  · rw [if_pos c1, if_pos c1, List.append_nil, iv_F]
    refine ⟨m1, ?_, kF, fun q hq => e3 q (by omega) (by omega)⟩
    unfold fF_findBy_79
    rw [if_pos (by decide)]
  · obtain ⟨R2a, R2b⟩ := R2 (by omega)
    have k45 : an_at m1 66 r.2.1 := fun k hk => by rw [(e3 66 (by decide) (by decide)).2.1]; exact R2a k hk
    have k13 : m1.2.1 39 13 = Int64.ofInt r.2.2.2 := by rw [(e3 39 (by decide) (by decide)).2.1]; exact R2b
    rw [if_neg c1, if_neg c1]
    by_cases c2 : r.1 = 0
    · rw [if_pos c2, if_pos c2]
      have eP : (c_rt r.1) = (0, 0, 0) := by unfold c_rt; rw [if_pos (by omega)]
      rw [eP] at e4 e5 e6
      obtain ⟨e, he, hes⟩ := x_side1 m1
      rw [hes, iv_F]
      have hx := an_row0 (S := r.2.1) (W := fun k => (m1.2.1 64 k).toInt) (W' := r.2.2.1) (B := B) (M := r.2.2.2) (e := e)
      have hsm := an_rok_row hr (p := 0) (q := 0) (by unfold an_bd; decide) (by unfold an_bd; decide) (.inr ⟨rfl, rfl⟩)
      have hcc : ((Int32.ofNat g, an_lw (an_row r.2.1 (fun k => (m1.2.1 64 k).toInt) B r.2.2.2 (e * 0) (e * 0)), 0) : an_c) = an_mk (Int32.ofNat g) B r 0 0 0 := by
        unfold an_mk
        rw [an_lw_ext hx]
      have hck := an_mk_ok (Int32.ofNat g) hr (p := 0) (by unfold an_bd; decide) (.inr rfl)
      rw [← hcc] at hck ⊢
      obtain ⟨m2, s1, s2, s3, s4⟩ := c_step he (999995 + 1 + 1 + 1 + 1) (v4 := 1) (v6 := 0) (by decide) (by omega) kF k41 k45 k13 (at_any m1 64) e4 e5 e6 (an_small_ext hx hsm) hck
      refine ⟨m2, ?_, s2, fun q hq => tk_row_tr (e3 q (by omega) (by omega)) (s4 q hq)⟩
      rw [s1]
      unfold fF_findBy_79
      rw [if_pos (by decide)]
    · have hQ : 0 < r.1 := by omega
      rw [if_neg c2, if_neg c2]
      have k43 : an_at m1 64 r.2.2.1 := fun k hk => by rw [(e3 64 (by decide) (by decide)).2.1]; exact R3 hQ k hk
      have hM : an_bd r.2.2.2 240000 := by
        rcases hr.2.2.2.2 with z | z
        · exact z.2.2
        · omega
      have hls := an_ls_1 r.2.2.2 r.2.2.1
      obtain ⟨d1, d2⟩ := an_sd_of (n := r.1.natAbs) (by omega)
      obtain ⟨b1, b2⟩ := c_rtb hr.1 hQ
      have hb1 : ∀ e : Int, (e = 1 ∨ e = -1) → ∀ x : Int, an_bd x 6400 → an_bd (e * x) 6400 := fun e he x hx => bd_mul (a := 1) (by unfold an_bd; omega) hx (by decide)
      have hsm : ∀ e : Int, (e = 1 ∨ e = -1) → an_small (an_row r.2.1 r.2.2.1 B r.2.2.2 (e * (c_rt r.1).1) (e * (c_rt r.1).2.1)) := fun e he => an_rok_row hr (hb1 e he _ b1) (hb1 e he _ b2) (.inl hQ)
      have hce : ∀ e : Int, an_e (Int32.ofNat g) B r (an_sd r.1.natAbs).1 (an_sd r.1.natAbs).2 e = (Int32.ofNat g, an_lw (an_row r.2.1 r.2.2.1 B r.2.2.2 (e * (c_rt r.1).1) (e * (c_rt r.1).2.1)), (c_rt r.1).2.2) := fun e => c_e hQ _ _ _ _ _ _
      have hck : ∀ e : Int, (e = 1 ∨ e = -1) → an_cok (Int32.ofNat g, an_lw (an_row r.2.1 r.2.2.1 B r.2.2.2 (e * (c_rt r.1).1) (e * (c_rt r.1).2.1)), (c_rt r.1).2.2) := fun e he => by rw [← hce e]; exact an_e_ok _ hr hQ d1 d2 he
      rw [x_side k43 k13 hr.2.1 hM hr.2.2.1, hce, hce, iv_F]
      generalize an_ls r.2.2.2 r.2.2.1 = e at *
      have hls2 : -e = 1 ∨ -e = -1 := by omega
      obtain ⟨m2, s1, s2, s3, s4⟩ := c_step hls (999995 + 1 + 1 + 1 + 1) (v4 := 2) (v6 := 0) (by decide) (by omega) kF k41 k45 k13 k43 e4 e5 e6 (hsm e hls) (hck e hls)
      have w1 : ((List.filter an_rad [((Int32.ofNat g, an_lw (an_row r.2.1 r.2.2.1 B r.2.2.2 (e * (c_rt r.1).1) (e * (c_rt r.1).2.1)), (c_rt r.1).2.2) : an_c)])).length ≤ 1 := List.length_filter_le _ _
      obtain ⟨m3, u1, u2, u3, u4⟩ := c_step hls2 (999995 + 1 + 1 + 1) (v4 := 2) (v6 := 0 + 1) (by decide) (by dsimp only; rw [List.length_append]; omega) s2 (fun k hk => by rw [s3 62 (by decide)]; exact k41 k hk) (fun k hk => by rw [s3 66 (by decide)]; exact k45 k hk) (by rw [s3 39 (by decide)]; exact k13) (fun k hk => by rw [s3 64 (by decide)]; exact k43 k hk) (by rw [s3 70 (by decide)]; exact e4) (by rw [s3 70 (by decide)]; exact e5) (by rw [s3 69 (by decide)]; exact e6) (hsm (-e) hls2) (hck (-e) hls2)
      refine ⟨m3, ?_, ?_, fun q hq => tk_row_tr (e3 q (by omega) (by omega)) (tk_row_tr (s4 q hq) (u4 q hq))⟩
      · rw [s1, u1]
        unfold fF_findBy_79
        rw [if_pos (by decide)]
      · dsimp only at u2
        rw [List.append_assoc, ← List.filter_append] at u2
        exact u2
theorem an_m2_lr {a b : an_V} {s t : Int} {r : an_R} (ha : an_vb a 10) (hb : an_vb b 10) (hs : an_bd s 200) (ht : an_bd t 200) (h : an_m2 a b s t = some r) : -40000000 ≤ r.1 := by
  obtain ⟨z1, z2, z3, z4, z5, z6⟩ := an_sz ha hb hs ht
  unfold an_m2 at h
  split at h
  · cases h
  · split at h
    · split at h
      · split at h
        · cases h
        · cases h; decide
      · cases h; show (-40000000 : Int) ≤ 0; decide
    · cases h
      unfold an_bd at z5
      show -40000000 ≤ an_sq a b s t
      omega
theorem an_sol_lr {x y z : s_sh} {a b c : Bool} {r : an_R} (hx : s_shOk x) (hy : s_shOk y) (hz : s_shOk z) (h : (an_sol x y z a b c).2 = some r) : -40000000 ≤ r.1 := by
  unfold an_sol at h
  by_cases c1 : x.1 = false
  · rw [if_pos c1] at h
    have hB := an_base_b (b := a) hx c1
    exact an_m2_lr (an_pl_b hy hB).1 (an_pl_b hz hB).1 (an_pl_b hy hB).2.1 (an_pl_b hz hB).2.1 h
  · rw [if_neg c1] at h
    by_cases c2 : y.1 = false
    · rw [if_pos c2] at h
      have hB := an_base_b (b := b) hy c2
      exact an_m2_lr (an_pl_b hx hB).1 (an_pl_b hz hB).1 (an_pl_b hx hB).2.1 (an_pl_b hz hB).2.1 h
    · rw [if_neg c2] at h
      by_cases c3 : z.1 = false
      · rw [if_pos c3] at h
        have hB := an_base_b (b := c) hz c3
        exact an_m2_lr (an_pl_b hx hB).1 (an_pl_b hy hB).1 (an_pl_b hx hB).2.1 (an_pl_b hy hB).2.1 h
      · rw [if_neg c3] at h
        unfold an_m3 at h
        dsimp only at h
        split at h
        · cases h
        · cases h; show (-40000000 : Int) ≤ 0; decide
theorem x_findBy {m : tk_m} {f : an_F} {t : Nat → s_sh} {g : Nat} (hg : g < 8) (h : x_G t m) (hl : f.2.length ≤ 14) (hF : x_Fd f m) : ∃ m1, fF_findBy 1 (Int32.ofNat g) m = some m1 ∧ x_Fd (an_one (t 0) (t 1) (t 2) g f) m1 ∧ ∀ q, (q < 39 ∨ 201 < q) → tk_row m m1 q := by
  rw [an_one_eq]
  cases hc : an_cnt (t 0) (t 1) (t 2) g with
  | false =>
    rw [if_neg (fun z => Bool.noConfusion z)]
    exact ⟨m, x_find0 hg h hc, hF, fun q _ => tk_row_rf m q⟩
  | true =>
    rw [if_pos rfl]
    obtain ⟨b, m1, e1, e2, e3, e4, e5⟩ := x_find1 hg h hc
    have kF : x_Fd f m1 := x_Fd_c (by omega) hF (fun q hq => c_row e2 q (by omega)) (by rw [e2.1])
    rw [e1]
    rw [c_solE] at e3 e4 e5
    cases es : (an_sol (t 0) (t 1) (t 2) (an_bit g 0) (an_bit g 1) (an_bit g 2)).2 with
    | none =>
      rw [e4 es]
      unfold fF_findBy_29
      rw [if_pos rfl]
      obtain ⟨F1, F2, F3, F4⟩ := kF
      refine ⟨_, rfl, ⟨?_, ?_, ?_, fun k c hk => ?_⟩, fun q hq => ?_⟩
      · dsimp only; rw [tk_u2_nk (by decide)]; exact F1
      · dsimp only; rw [tk_u2_eq, F2]
      · dsimp only; rw [tk_u2_nk (by decide)]; exact F3
      · refine x_C_k (F4 k c hk) (fun p p1 p2 => ⟨?_, rfl, rfl, rfl⟩)
        dsimp only; rw [tk_u2_ne (by omega)]
      · have := c_row e2 q (by omega)
        exact ⟨by dsimp only; rw [tk_u2_ne (by omega)]; exact this.1, this.2.1, this.2.2.1, this.2.2.2⟩
    | some r =>
      obtain ⟨z1, z2⟩ := e5 r es
      have hok := an_sol_ok (h 0 (by decide)).1 (h 1 (by decide)).1 (h 2 (by decide)).1 es
      have hlr : lo_r r.1 := by
        have hq := hok.1
        have hz := an_sol_lr (h 0 (by decide)).1 (h 1 (by decide)).1 (h 2 (by decide)).1 es
        constructor <;> omega
      rw [z1]
      obtain ⟨m2, y1, y2, y3⟩ := x_29 (g := g) hl hok kF e3 z2 hlr
      exact ⟨m2, y1, y2, fun q hq => tk_row_tr (c_row e2 q (by omega)) (y3 q hq)⟩
theorem an_upto_len (x y z : s_sh) : ∀ g, (an_upto x y z g).2.length ≤ 2 * g := by
  intro g
  induction g with
  | zero => exact Nat.le_refl _
  | succ g ih =>
    unfold an_upto
    rw [an_one_eq]
    have hc : ∀ B r, (an_cs (Int32.ofNat g) B r).length ≤ 2 := by
      intro B r
      unfold an_cs
      split
      · exact Nat.zero_le _
      · split
        · exact Nat.le_trans (List.length_filter_le _ _) (show 1 ≤ 2 by decide)
        · exact Nat.le_trans (List.length_filter_le _ _) (show 2 ≤ 2 by decide)
    split
    · split
      · dsimp only; omega
      · dsimp only
        rw [List.length_append]
        have := hc (an_sol x y z (an_bit g 0) (an_bit g 1) (an_bit g 2)).1
        rename_i r _
        have := this r
        omega
    · omega
