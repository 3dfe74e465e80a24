/-! ===== invert: both lower alike ===== -/
def iv_f (f : Nat → Int64) : Nat → Int := fun k => (f k).toInt
def iv_D (f : Nat → Int64) : Int := lo_D (lo_g (iv_f f) 4) (f (iv_ld f)).toInt
def iv_b (f : Nat → Int64) : Bool := decide ((f 0).toInt = -9223372036854775808 ∧ iv_D f = -1) || decide ((f 1).toInt = -9223372036854775808 ∧ iv_D f = -1) || decide ((f 2).toInt = -9223372036854775808 ∧ iv_D f = -1) || decide ((f 3).toInt = -9223372036854775808 ∧ iv_D f = -1)
def iv_w (f : Nat → Int64) : Nat → Int64 := fun k => Int64.ofInt ((f k).toInt / iv_D f)
theorem iv_Dr {f : Nat → Int64} (h : iv_z f = false) : lo_r (iv_D f) ∧ iv_D f ≠ 0 ∧ ∀ k, k < 4 → iv_D f ∣ (f k).toInt := by
  obtain ⟨h1, h2⟩ := iv_ld_ne h
  have h0 : iv_f f (iv_ld f) ≠ 0 := fun z => h2 (lo_z.mpr z)
  have hg : 0 < lo_g (iv_f f) 4 := lo_g_pos h1 h0
  have hgl : lo_g (iv_f f) 4 ≤ (iv_f f (iv_ld f)).natAbs := Nat.le_of_dvd (by omega) (lo_g_dvd (iv_f f) 4 _ h1)
  have hr := lo_rng (f (iv_ld f))
  have e : iv_f f (iv_ld f) = (f (iv_ld f)).toInt := rfl
  rw [e] at hgl
  refine ⟨?_, lo_D_ne hg, fun k hk => lo_D_dvd (lo_g_dvd (iv_f f) 4 k hk)⟩
  unfold iv_D lo_D
  split <;> (constructor <;> omega)
theorem iv_49 {m : tk_m} (L : Nat → Nat → Int64) (B : Bool) (h : iv_z (L 449) = false) : ∃ L', fM_laysLowest (ov_Y m L B) = some (ov_Y m L' (B || iv_b (L 449))) ∧ (∀ j, j ≠ 449 → L' j = L j) ∧ (iv_b (L 449) = false → ∀ k, k < 4 → L' 449 k = iv_w (L 449) k) := by
  obtain ⟨h1, h2⟩ := iv_ld_ne h
  obtain ⟨d1, d2, d3⟩ := iv_Dr h
  have hv : Int64.ofInt (iv_D (L 449)) ≠ 0 := fun z => d2 (by rw [lo_z, lo_i d1] at z; exact z)
  have hl : (L 449 (iv_ld (L 449))).toInt ≠ 0 := fun z => h2 (lo_z.mpr z)
  have e1 : fM_laysLowest (ov_Y m L B) = fM_laysLowest_71 tk_F (Int64.ofInt (iv_D (L 449))) 0 (ov_Y m L B) := by
    rw [show fM_laysLowest (ov_Y m L B) = fM_laysLowest_49 (Int64.ofInt (-(lo_g (iv_f (L 449)) 4 : Int))) (Int32.ofNat (iv_ld (L 449))) (ov_Y m L B) from iv_low (m := ov_Y m L B) h]
    unfold fM_laysLowest_49
    rw [if_pos (show (0 : Int32) ≤ Int32.ofNat (iv_ld (L 449)) from (i_le (a := 0) (by omega) (by omega)).mpr (by omega)), if_pos (i_ok h1 (by omega)), i_nn (show iv_ld (L 449) < 2147483648 by omega), ov_Y1]
    unfold iv_D lo_D
    by_cases hs : (L 449 (iv_ld (L 449))).toInt < 0
    · rw [if_pos (by rw [Int64.le_iff_toInt_le, show (0 : Int64).toInt = 0 from rfl]; omega), if_pos hs]
    · rw [if_neg (by rw [Int64.le_iff_toInt_le, show (0 : Int64).toInt = 0 from rfl]; omega), if_neg hs, ← Int64.ofInt_neg, Int.neg_neg]
  have hi := lo_i d1
  rw [e1, iv_71 hv, hi]
  refine ⟨iv_L L 449 (fun i => L 449 i / Int64.ofInt (iv_D (L 449))), ?_, ?_, ?_⟩
  · unfold iv_b
    simp only [Bool.or_assoc]
  · intro j hj
    unfold iv_L
    rw [tk_u2_ne hj, tk_u2_ne hj, tk_u2_ne hj, tk_u2_ne hj]
  · intro hb k hk
    have hov : ∀ k, k < 4 → (L 449 k).toInt ≠ -9223372036854775808 ∨ iv_D (L 449) ≠ -1 := by
      unfold iv_b at hb
      simp only [Bool.or_eq_false_iff, decide_eq_false_iff_not] at hb
      intro k hk
      rcases (show k = 0 ∨ k = 1 ∨ k = 2 ∨ k = 3 by omega) with rfl | rfl | rfl | rfl <;> omega
    have hq : ∀ k, k < 4 → L 449 k / Int64.ofInt (iv_D (L 449)) = iv_w (L 449) k := by
      intro k hk
      apply lo_of
      rw [lo_div (by rw [hi]; exact hov k hk), hi, Int.tdiv_eq_ediv_of_dvd (d3 k hk)]
    unfold iv_L
    rcases (show k = 0 ∨ k = 1 ∨ k = 2 ∨ k = 3 by omega) with rfl | rfl | rfl | rfl
    · rw [tk_u2_nk (by decide), tk_u2_nk (by decide), tk_u2_nk (by decide), tk_u2_eq]; exact hq 0 hk
    · rw [tk_u2_nk (by decide), tk_u2_nk (by decide), tk_u2_eq]; exact hq 1 hk
    · rw [tk_u2_nk (by decide), tk_u2_eq]; exact hq 2 hk
    · rw [tk_u2_eq]; exact hq 3 hk
