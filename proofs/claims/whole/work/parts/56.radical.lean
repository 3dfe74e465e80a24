/-! ===== like powers ===== -/
theorem i_gcd : ∀ (N : Nat) (x y : Nat) (n : Nat), y ≤ N → x < 1000000 → y < 1000000 → N < n → fM_divisor_10 n (Int32.ofNat x) (Int32.ofNat y) = some (Int32.ofNat (Nat.gcd x y)) := by
  intro N
  induction N with
  | zero =>
    intro x y n h1 hx hy h2
    obtain ⟨n, rfl⟩ : ∃ k, n = k + 1 := ⟨n - 1, by omega⟩
    have : y = 0 := by omega
    subst this
    unfold fM_divisor_10
    rw [if_pos (show Int32.ofNat 0 = 0 from rfl), Nat.gcd_zero_right]
  | succ N ih =>
    intro x y n h1 hx hy h2
    obtain ⟨n, rfl⟩ : ∃ k, n = k + 1 := ⟨n - 1, by omega⟩
    unfold fM_divisor_10
    by_cases h0 : y = 0
    · subst h0
      rw [if_pos (show Int32.ofNat 0 = 0 from rfl), Nat.gcd_zero_right]
    · have hz : ¬ Int32.ofNat y = 0 := fun q => h0 ((i_eq (b := 0) (by omega) (by omega)).mp q)
      rw [if_neg hz, if_neg hz]
      have hr : tk_irem (Int32.ofNat x) (Int32.ofNat y) = Int32.ofNat (x % y) := by
        apply i_ext
        have hlt : x % y ≤ x := Nat.mod_le x y
        rw [i_rem, i_to (by omega), i_to (by omega), i_to (by omega), ← Int.ofNat_tmod]
      have hlt : x % y < y := Nat.mod_lt x (by omega)
      rw [hr, ih y (x % y) n (by omega) hy (by omega) (by omega), Nat.gcd_comm x y, Nat.gcd_rec y x, Nat.gcd_comm]
theorem i_abs {x : Int32} (h : x.toInt.natAbs < 1000000) : fZ_abs_I x = Int32.ofNat x.toInt.natAbs := by
  unfold fZ_abs_I
  apply i_ext
  rw [i_to (by omega)]
  by_cases c : 0 ≤ x
  · rw [if_pos c]
    rw [Int32.le_iff_toInt_le, show (0 : Int32).toInt = 0 from rfl] at c
    omega
  · rw [if_neg c]
    rw [Int32.le_iff_toInt_le, show (0 : Int32).toInt = 0 from rfl] at c
    rw [i_tneg (by omega)]
    omega
theorem i_divisor {x y : Int32} (hx : x.toInt.natAbs < 100000) (hy : y.toInt.natAbs < 100000) : fM_divisor x y = some (Int32.ofNat (Nat.gcd x.toInt.natAbs y.toInt.natAbs)) := by
  unfold fM_divisor
  rw [i_abs (by omega), i_abs (by omega)]
  exact i_gcd y.toInt.natAbs _ _ tk_F (Nat.le_refl _) (by omega) (by omega) (by unfold tk_F; omega)
/-- u, v, w of two rounds, the first less the second -/
def s_U (s u : s_sh) : Int32 := s_form s 1 - s_form u 1
def s_V (s u : s_sh) : Int32 := s_form s 2 - s_form u 2
def s_W (s u : s_sh) : Int32 := s_form u 3 - s_form s 3
def s_ld (U V : Int) : Int := if U = 0 then V else U
def s_rad (s u : s_sh) (w : Int32) : Int32 := Int32.ofInt (lo_f3 (s_U s u).toInt (s_V s u).toInt (s_W s u).toInt (tk_n w) / lo_D (lo_g (lo_f3 (s_U s u).toInt (s_V s u).toInt (s_W s u).toInt) 3) (s_ld (s_U s u).toInt (s_V s u).toInt))
theorem s_rd {s : s_sh} (h : s_shOk s) (e : ¬ s.1 = true) : (s_form s 1).toInt = -2 * s.2.1.toInt ∧ (s_form s 2).toInt = -2 * s.2.2.1.toInt ∧ (s_form s 3).toInt.natAbs ≤ 75 ∧ s.2.1.toInt.natAbs ≤ 5 ∧ s.2.2.1.toInt.natAbs ≤ 5 ∧ s.2.2.2.toInt.natAbs ≤ 5 ∧ (s_form s 3).toInt = s.2.1.toInt * s.2.1.toInt + s.2.2.1.toInt * s.2.2.1.toInt - s.2.2.2.toInt * s.2.2.2.toInt := by
  unfold s_shOk at h
  rw [if_neg e] at h
  obtain ⟨h1, h2, h3⟩ := h
  unfold s_in at h1 h2 h3
  have f1 : s_form s 1 = -2 * s.2.1 := by unfold s_form; rw [if_neg (by decide), if_pos rfl, if_neg e]
  have f2 : s_form s 2 = -2 * s.2.2.1 := by unfold s_form; rw [if_neg (by decide), if_neg (by decide), if_pos rfl, if_neg e]
  have f3 : s_form s 3 = s.2.1 * s.2.1 + s.2.2.1 * s.2.2.1 - s.2.2.2 * s.2.2.2 := by unfold s_form; rw [if_neg (by decide), if_neg (by decide), if_neg (by decide), if_neg e]
  have b1 : s.2.1.toInt.natAbs ≤ 5 := by omega
  have b2 : s.2.2.1.toInt.natAbs ≤ 5 := by omega
  have b3 : s.2.2.2.toInt.natAbs ≤ 5 := by omega
  have t2 : (-2 : Int32).toInt = -2 := rfl
  have bt : (-2 : Int32).toInt.natAbs ≤ 2 := by decide
  have m1 := i_mulb bt b1 (by decide)
  have m2 := i_mulb bt b2 (by decide)
  have q1 := i_mulb b1 b1 (by decide)
  have q2 := i_mulb b2 b2 (by decide)
  have q3 := i_mulb b3 b3 (by decide)
  have a1 : (s.2.1 * s.2.1 + s.2.2.1 * s.2.2.1).toInt = (s.2.1 * s.2.1).toInt + (s.2.2.1 * s.2.2.1).toInt := i_tadd (by omega)
  have a2 : (s.2.1 * s.2.1 + s.2.2.1 * s.2.2.1 - s.2.2.2 * s.2.2.2).toInt = (s.2.1 * s.2.1).toInt + (s.2.2.1 * s.2.2.1).toInt - (s.2.2.2 * s.2.2.2).toInt := by rw [i_tsub (by omega), a1]
  rw [f1, f2, f3]
  refine ⟨by rw [m1.1, t2], by rw [m2.1, t2], by rw [a2]; omega, b1, b2, b3, by rw [a2, q1.1, q2.1, q3.1]⟩
theorem s_uvw {s u : s_sh} (hs : s_shOk s) (hu : s_shOk u) (e : ¬ s.1 = true) (e2 : ¬ u.1 = true) : (s_U s u).toInt = -2 * s.2.1.toInt + 2 * u.2.1.toInt ∧ (s_V s u).toInt = -2 * s.2.2.1.toInt + 2 * u.2.2.1.toInt ∧ (s_U s u).toInt.natAbs ≤ 20 ∧ (s_V s u).toInt.natAbs ≤ 20 ∧ (s_W s u).toInt.natAbs ≤ 150 ∧ (s_form u 1 - s_form s 1).toInt = -(s_U s u).toInt ∧ (s_form u 2 - s_form s 2).toInt = -(s_V s u).toInt ∧ (s_form s 3 - s_form u 3).toInt = -(s_W s u).toInt := by
  obtain ⟨a1, a2, a3, a4, a5, a6, a7⟩ := s_rd hs e
  obtain ⟨b1, b2, b3, b4, b5, b6, b7⟩ := s_rd hu e2
  have c1 : (s_U s u).toInt = (s_form s 1).toInt - (s_form u 1).toInt := i_tsub (by omega)
  have c2 : (s_V s u).toInt = (s_form s 2).toInt - (s_form u 2).toInt := i_tsub (by omega)
  have c3 : (s_W s u).toInt = (s_form u 3).toInt - (s_form s 3).toInt := i_tsub (by omega)
  have c4 : (s_form u 1 - s_form s 1).toInt = (s_form u 1).toInt - (s_form s 1).toInt := i_tsub (by omega)
  have c5 : (s_form u 2 - s_form s 2).toInt = (s_form u 2).toInt - (s_form s 2).toInt := i_tsub (by omega)
  have c6 : (s_form s 3 - s_form u 3).toInt = (s_form s 3).toInt - (s_form u 3).toInt := i_tsub (by omega)
  omega
theorem s_D3s {U V W : Int} (hU : U.natAbs ≤ 20) (hV : V.natAbs ≤ 20) (h : ¬ (U = 0 ∧ V = 0)) : (lo_D (lo_g (lo_f3 U V W) 3) (s_ld U V)).natAbs ≤ 20 ∧ lo_D (lo_g (lo_f3 U V W) 3) (s_ld U V) ≠ 0 ∧ s_ld U V ≠ 0 ∧ 0 < lo_g (lo_f3 U V W) 3 := by
  have g0 := lo_g_dvd (lo_f3 U V W) 3 0 (by decide)
  have g1 := lo_g_dvd (lo_f3 U V W) 3 1 (by decide)
  have e0 : lo_f3 U V W 0 = U := rfl
  have e1 : lo_f3 U V W 1 = V := rfl
  rw [e0] at g0
  rw [e1] at g1
  have hl : s_ld U V ≠ 0 := by unfold s_ld; split <;> omega
  have hg : 0 < lo_g (lo_f3 U V W) 3 := by
    by_cases q : U = 0
    · exact lo_g_pos (k := 1) (by decide) (show lo_f3 U V W 1 ≠ 0 by rw [e1]; omega)
    · exact lo_g_pos (k := 0) (by decide) (show lo_f3 U V W 0 ≠ 0 by rw [e0]; omega)
  have hle : lo_g (lo_f3 U V W) 3 ≤ 20 := by
    by_cases q : U = 0
    · have := Nat.le_of_dvd (by omega) g1; omega
    · have := Nat.le_of_dvd (by omega) g0; omega
  exact ⟨by unfold lo_D; split <;> omega, lo_D_ne hg, hl, hg⟩
section
variable {K : List s_sh → Int32 × Int32 × Int32 → tk_m → Prop} {a : s_as} {m m' : tk_m} {α : Type}
/-- the class's own rows that nothing of its state lies in: 13, 16 to 38 -/
def x_scr (m m' : tk_m) : Prop := ∀ r, ¬ ((16 ≤ r ∧ r ≤ 38) ∨ (40 ≤ r ∧ r ≤ 60)) → tk_row m m' r
theorem x_scr_X (HK : x_K K) (ha : s_Ok a) (h : x_X K a m) (q : x_scr m m') : x_X K a m' := by
  obtain ⟨h1, h2, h3, h4, h5, h6, h7⟩ := h
  refine ⟨x_F_k h1 (q 202 (by omega)), x_S_k h2 (fun r a b => q r (by omega)), x_P_k ha.2.1 h3 (tk_rowi (q 0 (by omega))) (fun r a b => q r (by omega)), x_N_k h4 (fun r a b => q r (by omega)), x_T_k h5 (fun r a b => q r (by omega)), x_Z_k h6 (q 14 (by omega)) (q 15 (by omega)), fun hc => ?_⟩
  rw [(q 1 (by omega)).2.2.1] at hc
  exact HK _ _ _ _ (fun r a b => q r (by omega)) (h7 hc)
theorem x_scr_hi (q : x_scr m m') : tk_hi m m' := fun r hr => q r (by omega)
theorem x_scrd (HK : x_K K) (ha : s_Ok a) (h : x_X K a m) (q : x_scr m m') (v : α) : x_does K m (some (v, m')) (v, a) := ⟨m', rfl, x_scr_X HK ha h q, x_scr_hi q⟩
theorem x_equal {s u : s_sh} {h g : Nat} {w : Int32} (hs : x_H s h m) (hu : x_H u g m) (os : s_shOk s) (ou : s_shOk u) (e : ¬ s.1 = true) (e2 : ¬ u.1 = true) (hw : fX_isWithin w 0 2 = true) (hne : ¬ ((s_U s u).toInt = 0 ∧ (s_V s u).toInt = 0)) : ∃ m', fK_equalPowers h g w m = some (s_rad s u w, m') ∧ x_scr m m' := by
  obtain ⟨c1, c2, c3, c4, c5, c6, c7, c8⟩ := s_uvw os ou e e2
  obtain ⟨d1, d2, d3, d4⟩ := s_D3s (W := (s_W s u).toInt) c3 c4 hne
  have fs : ∀ (L : Nat → Nat → Int64) (k : Int32), fH_formNumber h k (m.1, L, m.2.2.1, m.2.2.2) = s_form s k := fun L k => x_form (m := (m.1, L, m.2.2.1, m.2.2.2)) hs
  have fu : ∀ (L : Nat → Nat → Int64) (k : Int32), fH_formNumber g k (m.1, L, m.2.2.1, m.2.2.2) = s_form u k := fun L k => x_form (m := (m.1, L, m.2.2.1, m.2.2.2)) hu
  have fs0 : ∀ k : Int32, fH_formNumber h k m = s_form s k := fun k => x_form hs
  have fu0 : ∀ k : Int32, fH_formNumber g k m = s_form u k := fun k => x_form hu
  unfold fK_equalPowers
  simp only [fs, fu, fs0, fu0]
  have eU : s_form s 1 - s_form u 1 = s_U s u := rfl
  have eV : s_form s 2 - s_form u 2 = s_V s u := rfl
  have eW : s_form u 3 - s_form s 3 = s_W s u := rfl
  simp only [eU, eV, eW]
  have h38 : tk_al 38 = 3 := by decide +kernel
  have hf : ∀ k, k < 3 → ((m.1, tk_u2 (tk_u2 (tk_u2 m.2.1 38 0 (s_U s u).toInt64) 38 1 (s_V s u).toInt64) 38 2 (s_W s u).toInt64, m.2.2.1, m.2.2.2).2.1 38 k).toInt = lo_f3 (s_U s u).toInt (s_V s u).toInt (s_W s u).toInt k := by
    intro k hk
    rcases (show k = 0 ∨ k = 1 ∨ k = 2 by omega) with q | q | q <;> subst q
    · dsimp only; rw [tk_u2_nk (by decide), tk_u2_nk (by decide), tk_u2_eq, Int32.toInt_toInt64]; rfl
    · dsimp only; rw [tk_u2_nk (by decide), tk_u2_eq, Int32.toInt_toInt64]; rfl
    · dsimp only; rw [tk_u2_eq, Int32.toInt_toInt64]; rfl
  have key : ∀ (ld : Nat) (l32 : Int32), l32 = Int32.ofNat ld → ld < 3 → lo_f3 (s_U s u).toInt (s_V s u).toInt (s_W s u).toInt ld = s_ld (s_U s u).toInt (s_V s u).toInt → ∃ m', fK_equalPowers_74 w l32 (m.1, tk_u2 (tk_u2 (tk_u2 m.2.1 38 0 (s_U s u).toInt64) 38 1 (s_V s u).toInt64) 38 2 (s_W s u).toInt64, m.2.2.1, m.2.2.2) = some (s_rad s u w, m') ∧ x_scr m m' := by
    intro ld l32 hl hld hlf
    have hlow := lo_low (v0 := 38) (L := 3) (ld := ld) (f := lo_f3 (s_U s u).toInt (s_V s u).toInt (s_W s u).toInt) h38 (by decide) hld hf (by rw [hlf]; exact d3)
    rw [hlf, if_neg (by
      rintro ⟨_, k, hk, q⟩
      rcases (show k = 0 ∨ k = 1 ∨ k = 2 by omega) with z | z | z <;> subst z
      · rw [show lo_f3 (s_U s u).toInt (s_V s u).toInt (s_W s u).toInt 0 = (s_U s u).toInt from rfl] at q; omega
      · rw [show lo_f3 (s_U s u).toInt (s_V s u).toInt (s_W s u).toInt 1 = (s_V s u).toInt from rfl] at q; omega
      · rw [show lo_f3 (s_U s u).toInt (s_V s u).toInt (s_W s u).toInt 2 = (s_W s u).toInt from rfl] at q; omega)] at hlow
    unfold fK_equalPowers_74
    rw [hl, hlow, Option.bind_some]
    have hw2 := w_i hw
    have t0 : (0 : Int32).toInt = 0 := rfl
    have t2 : (2 : Int32).toInt = 2 := rfl
    have hn : tk_n w = w.toInt.toNat := rfl
    have hk : tk_n w < 3 := by omega
    rw [if_neg (by rw [Int32.lt_iff_toInt_lt]; omega), if_neg (by rw [Int32.le_iff_toInt_le, show (3 : Int32).toInt = 3 from rfl]; omega), if_pos ⟨by rw [Int32.lt_iff_toInt_lt]; omega, hk⟩]
    unfold lo_up
    dsimp only
    rw [if_pos ⟨rfl, hk⟩, Int64.toInt32_ofInt]
    refine ⟨_, rfl, fun r hr => ⟨rfl, ?_, rfl, rfl⟩⟩
    dsimp only
    funext b
    have h3 : r ≠ 38 := by omega
    rw [if_neg (fun q => h3 q.1), tk_u2_ne h3, tk_u2_ne h3, tk_u2_ne h3]
  have hz : (tk_u2 (tk_u2 (tk_u2 m.2.1 38 0 (s_U s u).toInt64) 38 1 (s_V s u).toInt64) 38 2 (s_W s u).toInt64 38 0 = 0) ↔ (s_U s u).toInt = 0 := by
    rw [tk_u2_nk (by decide), tk_u2_nk (by decide), tk_u2_eq, lo_z, Int32.toInt_toInt64]
  by_cases c : (s_U s u).toInt = 0
  · rw [if_pos (hz.mpr c)]
    exact key 1 1 rfl (by decide) (by unfold s_ld; rw [if_pos c]; rfl)
  · rw [if_neg (fun q => c (hz.mp q))]
    exact key 0 0 rfl (by decide) (by unfold s_ld; rw [if_neg c]; rfl)
def o_radical (i j w : Int32) (a : s_as) : Int32 × s_as := if s_two a.1.1 i j = true then (if fX_isWithin w 0 2 = true then (if (s_get a.1.1 i).1 = true then s_fd a 2 else if (s_get a.1.1 j).1 = true then s_fd a 2 else (if (s_get a.1.1 i).2.1 = (s_get a.1.1 j).2.1 ∧ (s_get a.1.1 i).2.2.1 = (s_get a.1.1 j).2.2.1 then s_fd a 3 else (s_rad (s_get a.1.1 i) (s_get a.1.1 j) w, a))) else s_fd a 0) else s_fd a 0
theorem s_cz {s u : s_sh} (hs : s_shOk s) (hu : s_shOk u) (e : ¬ s.1 = true) (e2 : ¬ u.1 = true) : ((s_U s u).toInt = 0 ↔ s.2.1 = u.2.1) ∧ ((s_V s u).toInt = 0 ↔ s.2.2.1 = u.2.2.1) := by
  obtain ⟨c1, c2, c3, c4, c5, c6, c7, c8⟩ := s_uvw hs hu e e2
  rw [← Int32.toInt_inj, ← Int32.toInt_inj]
  omega
theorem x_radical (HK : x_K K) (ha : s_Ok a) (h : x_X K a m) (i j w : Int32) : x_does K m (fX_radical i j w m) (o_radical i j w a) := by
  unfold fX_radical o_radical
  refine x_ite (by rw [x_two ha h]) (fun g => x_ite Iff.rfl (fun gw => ?_) (fun _ => x_bt (x_find HK ha h 0 (by decide)))) (fun _ => x_bt (x_find HK ha h 0 (by decide)))
  obtain ⟨s, u, hs, hu⟩ := s_two_get g
  obtain ⟨hk, hH⟩ := x_at h.2.1 (s_len ha) hs
  obtain ⟨gk, gH⟩ := x_at h.2.1 (s_len ha) hu
  rw [s_get_of hs, s_get_of hu]
  refine x_grd hk (x_grd gk (x_ite (by rw [hH.1]) (fun _ => x_bt (x_find HK ha h 2 (by decide))) (fun e => x_ite (by rw [gH.1]) (fun _ => x_bt (x_find HK ha h 2 (by decide))) (fun e2 => ?_))))
  have os := s_at_ok ha.1 hs
  have ou := s_at_ok ha.1 hu
  obtain ⟨z1, z2⟩ := s_cz os ou e e2
  obtain ⟨a1, a2, a3⟩ := hH.2.1 (by simpa using e)
  obtain ⟨b1, b2, b3⟩ := gH.2.1 (by simpa using e2)
  rw [show m.1 (2 + 2 + (m.2.2.2 2 (tk_n i)).val) 1 = s.2.1 from a1, show m.1 (2 + 2 + (m.2.2.2 2 (tk_n i)).val) 2 = s.2.2.1 from a2, show m.1 (2 + 2 + (m.2.2.2 2 (tk_n j)).val) 1 = u.2.1 from b1, show m.1 (2 + 2 + (m.2.2.2 2 (tk_n j)).val) 2 = u.2.2.1 from b2]
  have go : ¬ ((s_U s u).toInt = 0 ∧ (s_V s u).toInt = 0) → x_does K m ((fK_equalPowers (2 + 2 + (m.2.2.2 2 (tk_n i)).val) (2 + 2 + (m.2.2.2 2 (tk_n j)).val) w m).bind fun z => some (z.1, z.2)) (s_rad s u w, a) := by
    intro hne
    obtain ⟨m1, e1, e3⟩ := x_equal hH gH os ou e e2 gw hne
    rw [show fK_equalPowers (2 + 2 + (m.2.2.2 2 (tk_n i)).val) (2 + 2 + (m.2.2.2 2 (tk_n j)).val) w m = some (s_rad s u w, m1) from e1, Option.bind_some]
    exact x_scrd HK ha h e3 _
  by_cases p : s.2.1 = u.2.1
  · rw [if_pos p]
    by_cases q : s.2.2.1 = u.2.2.1
    · rw [if_pos q, if_pos ⟨p, q⟩]
      exact x_bt (x_find HK ha h 3 (by decide))
    · rw [if_neg q, if_neg (fun z => q z.2)]
      exact go (fun z => q (z2.mp z.2))
  · rw [if_neg p, if_neg (fun z => p z.1)]
    exact go (fun z => p (z1.mp z.1))
theorem y_rad147 {w : Int32} (hw : fX_isWithin w 0 2 = true) {U V W D : Int} {p q r d : Int32} (hp : p.toInt = -U) (hq : q.toInt = -V) (hr : r.toInt = -W) (hd : d.toInt = -D) (hD0 : D ≠ 0) (bU : U.natAbs ≤ 20) (bV : V.natAbs ≤ 20) (bW : W.natAbs ≤ 150) (d1 : D ∣ U) (d2 : D ∣ V) (d3 : D ∣ W) : fM_radical_147 w p q r d m = some (Int32.ofInt (lo_f3 U V W (tk_n w) / D), m) := by
  have hz : ¬ d = 0 := by
    intro z
    rw [z] at hd
    have : (0 : Int32).toInt = 0 := rfl
    omega
  have quo : ∀ (x : Int32) (X : Int), x.toInt = -X → D ∣ X → X.natAbs ≤ 150 → x / d = Int32.ofInt (X / D) := by
    intro x X hx hdv hb
    apply i_oft
    rw [i_tdiv (.inl (by omega)), hx, hd, Int.neg_tdiv, Int.tdiv_neg, Int.neg_neg, Int.tdiv_eq_ediv_of_dvd hdv]
  unfold fM_radical_147
  rcases s_w3 hw with z | z | z <;> subst z
  · rw [if_pos rfl, if_neg hz, quo p U hp d1 (by omega)]; rfl
  · rw [if_neg (by decide), if_pos rfl, if_neg hz, quo q V hq d2 (by omega)]; rfl
  · rw [if_neg (by decide), if_neg (by decide), if_neg hz, quo r W hr d3 bW]; rfl
theorem y_radical (ha : s_Ok a) (h : y_Y a m) (i j w : Int32) : y_does m (fM_radical i j w m) (o_radical i j w a) := by
  unfold fM_radical o_radical
  refine y_ite (by rw [y_two ha h]) (fun g => y_ite (by rw [← w_eq (v := w) (a := 0) (b := 2)]; rfl) (fun gw => ?_) (fun _ => y_bt (y_find ha h 0 (by decide)))) (fun _ => y_bt (y_find ha h 0 (by decide)))
  obtain ⟨s, u, hs, hu⟩ := s_two_get g
  obtain ⟨h0, h1, h2, h3⟩ := y_at h.2.1 (s_len ha) hs
  obtain ⟨g0, g1, g2, g3⟩ := y_at h.2.1 (s_len ha) hu
  have os := s_at_ok ha.1 hs
  have ou := s_at_ok ha.1 hu
  rw [s_get_of hs, s_get_of hu, y_round h0, Option.bind_some]
  by_cases e : s.1 = true
  · rw [if_pos e, e, if_neg (by decide)]
    exact y_bt (y_find ha h 2 (by decide))
  rw [if_neg e, show (!s.1) = true by simpa using e, if_pos rfl, y_round g0, Option.bind_some]
  by_cases e2 : u.1 = true
  · rw [if_pos e2, e2, if_neg (by decide)]
    exact y_bt (y_find ha h 2 (by decide))
  rw [if_neg e2, show (!u.1) = true by simpa using e2, if_pos rfl, y_form h.2.1 ha.1 hu, Option.bind_some, y_form h.2.1 ha.1 hs, Option.bind_some, y_form h.2.1 ha.1 hu, Option.bind_some, y_form h.2.1 ha.1 hs, Option.bind_some, y_form h.2.1 ha.1 hs, Option.bind_some, y_form h.2.1 ha.1 hu, Option.bind_some]
  obtain ⟨z1, z2⟩ := s_cz os ou e e2
  obtain ⟨c1, c2, c3, c4, c5, c6, c7, c8⟩ := s_uvw os ou e e2
  have k1 : (s_form u 1 - s_form s 1 = 0) ↔ s.2.1 = u.2.1 := by
    rw [← z1]
    constructor
    · intro q; rw [q] at c6; have : (0 : Int32).toInt = 0 := rfl; omega
    · intro q; apply i_ext; rw [c6, q]; rfl
  have k2 : (s_form u 2 - s_form s 2 = 0) ↔ s.2.2.1 = u.2.2.1 := by
    rw [← z2]
    constructor
    · intro q; rw [q] at c7; have : (0 : Int32).toInt = 0 := rfl; omega
    · intro q; apply i_ext; rw [c7, q]; rfl
  have go : ¬ ((s_U s u).toInt = 0 ∧ (s_V s u).toInt = 0) → y_does m (fM_radical_110 w (s_form u 1 - s_form s 1) (s_form u 2 - s_form s 2) (s_form s 3 - s_form u 3) m) (s_rad s u w, a) := by
    intro hne
    obtain ⟨d1, d2, d3, d4⟩ := s_D3s (W := (s_W s u).toInt) c3 c4 hne
    have hg := lo_g3 (s_U s u).toInt (s_V s u).toInt (s_W s u).toInt
    have hgd := fun k hk => lo_g_dvd (lo_f3 (s_U s u).toInt (s_V s u).toInt (s_W s u).toInt) 3 k hk
    have hgle : lo_g (lo_f3 (s_U s u).toInt (s_V s u).toInt (s_W s u).toInt) 3 ≤ 20 := by
      unfold lo_D at d1
      split at d1 <;> omega
    have hG1 : Nat.gcd (s_U s u).toInt.natAbs (s_V s u).toInt.natAbs ≤ 20 := by
      by_cases q : (s_U s u).toInt = 0
      · have := Nat.le_of_dvd (by omega) (Nat.gcd_dvd_right (s_U s u).toInt.natAbs (s_V s u).toInt.natAbs); omega
      · have := Nat.le_of_dvd (by omega) (Nat.gcd_dvd_left (s_U s u).toInt.natAbs (s_V s u).toInt.natAbs); omega
    unfold fM_radical_110
    rw [i_divisor (by rw [c6]; omega) (by rw [c7]; omega), Option.bind_some, c6, c7, Int.natAbs_neg, Int.natAbs_neg, i_divisor (by rw [i_to (by omega)]; omega) (by rw [c8]; omega), Option.bind_some, i_to (by omega), Int.natAbs_natCast, c8, Int.natAbs_neg, ← hg]
    unfold s_rad
    have dv : ∀ k, k < 3 → lo_D (lo_g (lo_f3 (s_U s u).toInt (s_V s u).toInt (s_W s u).toInt) 3) (s_ld (s_U s u).toInt (s_V s u).toInt) ∣ lo_f3 (s_U s u).toInt (s_V s u).toInt (s_W s u).toInt k := fun k hk => lo_D_dvd (hgd k hk)
    have fin : ∀ d : Int32, d.toInt = -(lo_D (lo_g (lo_f3 (s_U s u).toInt (s_V s u).toInt (s_W s u).toInt) 3) (s_ld (s_U s u).toInt (s_V s u).toInt)) → y_does m (fM_radical_147 w (s_form u 1 - s_form s 1) (s_form u 2 - s_form s 2) (s_form s 3 - s_form u 3) d m) (Int32.ofInt (lo_f3 (s_U s u).toInt (s_V s u).toInt (s_W s u).toInt (tk_n w) / lo_D (lo_g (lo_f3 (s_U s u).toInt (s_V s u).toInt (s_W s u).toInt) 3) (s_ld (s_U s u).toInt (s_V s u).toInt)), a) := by
      intro d hd
      rw [y_rad147 gw c6 c7 c8 hd d2 c3 c4 c5 (dv 0 (by decide)) (dv 1 (by decide)) (dv 2 (by decide))]
      exact y_same h _
    have gi : (Int32.ofNat (lo_g (lo_f3 (s_U s u).toInt (s_V s u).toInt (s_W s u).toInt) 3)).toInt = (lo_g (lo_f3 (s_U s u).toInt (s_V s u).toInt (s_W s u).toInt) 3 : Int) := i_to (by omega)
    have t0 : (0 : Int32).toInt = 0 := rfl
    by_cases p1 : s_form u 1 - s_form s 1 < 0
    · rw [if_pos p1]
      rw [Int32.lt_iff_toInt_lt, c6] at p1
      refine fin _ ?_
      rw [i_tneg (by omega), gi]
      unfold lo_D s_ld
      rw [if_neg (show ¬ (s_U s u).toInt = 0 by omega), if_neg (by omega)]
    · rw [if_neg p1]
      rw [Int32.lt_iff_toInt_lt, c6] at p1
      by_cases p2 : s_form u 1 - s_form s 1 = 0
      · rw [if_pos p2]
        have q2 : (s_U s u).toInt = 0 := by rw [p2] at c6; omega
        by_cases p3 : 0 ≤ s_form u 2 - s_form s 2
        · rw [if_pos p3]
          rw [Int32.le_iff_toInt_le, c7] at p3
          refine fin _ ?_
          rw [gi]
          unfold lo_D s_ld
          rw [if_pos q2, if_pos (show (s_V s u).toInt < 0 by omega)]
          omega
        · rw [if_neg p3]
          rw [Int32.le_iff_toInt_le, c7] at p3
          refine fin _ ?_
          rw [i_tneg (by omega), gi]
          unfold lo_D s_ld
          rw [if_pos q2, if_neg (show ¬ (s_V s u).toInt < 0 by omega)]
      · rw [if_neg p2]
        have q2 : (s_U s u).toInt ≠ 0 := fun z => p2 (i_ext (by rw [c6, z]; rfl))
        refine fin _ ?_
        rw [gi]
        unfold lo_D s_ld
        rw [if_neg q2, if_pos (show (s_U s u).toInt < 0 by omega)]
        omega
  by_cases p : s.2.1 = u.2.1
  · rw [if_pos (k1.mpr p)]
    by_cases q : s.2.2.1 = u.2.2.1
    · rw [if_pos (k2.mpr q), if_pos ⟨p, q⟩]
      exact y_bt (y_find ha h 3 (by decide))
    · rw [if_neg (fun z => q (k2.mp z)), if_neg (fun z => q z.2)]
      exact go (fun z => q (z2.mp z.2))
  · rw [if_neg (fun z => p (k1.mp z)), if_neg (fun z => p z.1)]
    exact go (fun z => p (z1.mp z.1))
theorem o_radical_ok (ha : s_Ok a) (i j w : Int32) : s_Ok (o_radical i j w a).2 := by
  unfold o_radical
  repeat (first | exact ha | split)
end
