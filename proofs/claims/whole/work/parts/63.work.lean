/-! ===== working with longs: what is over ===== -/
def ov_t (x y : Int64) : Bool := decide (¬ x = 0 ∧ (¬ (x * y) / x = y ∨ (x = -1 ∧ y = -9223372036854775808)))
def ov_p (x y : Int64) : Bool := decide (¬ (0 : Int64) ≤ ((x ^^^ (x + y)) &&& (y ^^^ (x + y))))
def ov_m (x y : Int64) : Bool := decide (¬ (0 : Int64) ≤ ((x ^^^ y) &&& (x ^^^ (x - y))))
/-- what is not over is exact -/
theorem ov_t_ok {x y : Int64} (h : ov_t x y = false) : (x * y).toInt = x.toInt * y.toInt := by
  unfold ov_t at h
  rw [decide_eq_false_iff_not] at h
  have hx := lo_rng x
  have hy := lo_rng y
  by_cases h0 : x = 0
  · rw [h0, Int64.zero_mul, show (0 : Int64).toInt = 0 from rfl, Int.zero_mul]
  · have h1 : x * y / x = y := Decidable.not_not.mp (fun q => h ⟨h0, .inl q⟩)
    have h2 : ¬ (x = -1 ∧ y = -9223372036854775808) := fun q => h ⟨h0, .inr q⟩
    have hx0 : x.toInt ≠ 0 := fun q => h0 (lo_z.mpr q)
    by_cases hc : (x * y).toInt = -9223372036854775808 ∧ x.toInt = -1
    · -- the quotient would be the least long again, so y is it
      exfalso
      have e1 : x = -1 := lo_ext (by rw [hc.2]; rfl)
      have e2 : x * y = -9223372036854775808 := lo_ext (by rw [hc.1]; rfl)
      rw [e2, e1, show (-9223372036854775808 : Int64) / -1 = -9223372036854775808 from by decide] at h1
      exact h2 ⟨e1, h1.symm⟩
    · have hd : (x * y / x).toInt = (x * y).toInt.tdiv x.toInt := lo_div (by
        by_cases q : (x * y).toInt = -9223372036854775808
        · exact .inr (fun z => hc ⟨q, z⟩)
        · exact .inl q)
      rw [h1] at hd
      have hP := lo_rng (x * y)
      have hm := Int.mul_tdiv_add_tmod (x * y).toInt x.toInt
      rw [← hd] at hm
      have hlt : ((x * y).toInt.tmod x.toInt).natAbs < x.toInt.natAbs := by
        rw [Int.natAbs_tmod]
        exact Nat.mod_lt _ (by omega)
      -- both are the same beside multiples of 2^64, and less than 2^63 + 2^64 apart
      have hb : (x * y).toInt = (x.toInt * y.toInt).bmod (2 ^ 64) := Int64.toInt_mul x y
      have hdv : ∃ k : Int, x.toInt * y.toInt = (x * y).toInt + 18446744073709551616 * k := by
        have := Int.bmod_add_bdiv (x.toInt * y.toInt) (2 ^ 64)
        refine ⟨(x.toInt * y.toInt).bdiv (2 ^ 64), ?_⟩
        rw [hb]
        omega
      obtain ⟨k, hk⟩ := hdv
      generalize x.toInt * y.toInt = Z at *
      generalize (x * y).toInt.tmod x.toInt = R at *
      omega
def ov_X (m : tk_m) (B : Bool) : tk_m := (m.1, m.2.1, tk_u2 m.2.2.1 34 0 B, m.2.2.2)
def ov_Y (m : tk_m) (L : Nat → Nat → Int64) (B : Bool) : tk_m := (m.1, L, tk_u2 m.2.2.1 295 4 B, m.2.2.2)
theorem ov_Xt (x y : Int64) (m : tk_m) (B : Bool) : fK_times x y (ov_X m B) = some (x * y, ov_X m (B || ov_t x y)) := by
  have e : ∀ b : Bool, ((ov_X m B).1, (ov_X m B).2.1, tk_u2 (ov_X m B).2.2.1 34 0 b, (ov_X m B).2.2.2) = ov_X m b := fun b => by unfold ov_X; dsimp only; rw [tk_u2_rw]
  unfold fK_times
  by_cases h0 : x = 0
  · rw [if_pos h0, show ov_t x y = false from decide_eq_false (fun q => q.1 h0), Bool.or_false]
  · rw [if_neg h0, if_neg h0]
    by_cases h1 : x * y / x = y
    · rw [if_pos h1]
      by_cases h2 : x = -1
      · rw [if_pos h2]
        by_cases h3 : y = -9223372036854775808
        · rw [if_pos h3, show ov_t x y = true from decide_eq_true ⟨h0, .inr ⟨h2, h3⟩⟩, Bool.or_true, e]
        · rw [if_neg h3, show ov_t x y = false from decide_eq_false (fun q => q.2.elim (fun z => z h1) (fun z => h3 z.2)), Bool.or_false]
      · rw [if_neg h2, show ov_t x y = false from decide_eq_false (fun q => q.2.elim (fun z => z h1) (fun z => h2 z.1)), Bool.or_false]
    · rw [if_neg h1, show ov_t x y = true from decide_eq_true ⟨h0, .inl h1⟩, Bool.or_true, e]
theorem ov_Xp (x y : Int64) (m : tk_m) (B : Bool) : fK_plus x y (ov_X m B) = (x + y, ov_X m (B || ov_p x y)) := by
  have e : ∀ b : Bool, ((ov_X m B).1, (ov_X m B).2.1, tk_u2 (ov_X m B).2.2.1 34 0 b, (ov_X m B).2.2.2) = ov_X m b := fun b => by unfold ov_X; dsimp only; rw [tk_u2_rw]
  unfold fK_plus
  by_cases h : (0 : Int64) ≤ ((x ^^^ (x + y)) &&& (y ^^^ (x + y)))
  · rw [if_pos h, show ov_p x y = false from decide_eq_false (fun q => q h), Bool.or_false]
  · rw [if_neg h, show ov_p x y = true from decide_eq_true h, Bool.or_true, e]
theorem ov_Xm (x y : Int64) (m : tk_m) (B : Bool) : fK_minus x y (ov_X m B) = (x - y, ov_X m (B || ov_m x y)) := by
  have e : ∀ b : Bool, ((ov_X m B).1, (ov_X m B).2.1, tk_u2 (ov_X m B).2.2.1 34 0 b, (ov_X m B).2.2.2) = ov_X m b := fun b => by unfold ov_X; dsimp only; rw [tk_u2_rw]
  unfold fK_minus
  by_cases h : (0 : Int64) ≤ ((x ^^^ y) &&& (x ^^^ (x - y)))
  · rw [if_pos h, show ov_m x y = false from decide_eq_false (fun q => q h), Bool.or_false]
  · rw [if_neg h, show ov_m x y = true from decide_eq_true h, Bool.or_true, e]
theorem ov_Yt (x y : Int64) (m : tk_m) (L : Nat → Nat → Int64) (B : Bool) : fM_times x y (ov_Y m L B) = some (x * y, ov_Y m L (B || ov_t x y)) := by
  have e : ∀ b : Bool, ((ov_Y m L B).1, (ov_Y m L B).2.1, tk_u2 (ov_Y m L B).2.2.1 295 4 b, (ov_Y m L B).2.2.2) = ov_Y m L b := fun b => by unfold ov_Y; dsimp only; rw [tk_u2_rw]
  have r : (ov_Y m L B).2.2.1 295 4 = B := by
    show tk_u2 m.2.2.1 295 4 B 295 4 = B
    exact tk_u2_eq
  have h32 : ¬ x = 0 → ¬ (x = -1 ∧ y = -9223372036854775808) → fM_times_32 x y (x * y) B (ov_Y m L B) = some (x * y, ov_Y m L (B || ov_t x y)) := by
    intro h0 h2
    unfold fM_times_32
    rw [if_neg h0, e, e]
    by_cases h1 : x * y / x = y
    · rw [if_pos h1, show ov_t x y = false from decide_eq_false (fun q => q.2.elim (fun z => z h1) h2)]
    · rw [if_neg h1, show ov_t x y = true from decide_eq_true ⟨h0, .inl h1⟩]
  unfold fM_times
  rw [r, e, e]
  by_cases h0 : x = 0
  · rw [if_pos h0, show ov_t x y = false from decide_eq_false (fun q => q.1 h0)]
  · rw [if_neg h0]
    by_cases h2 : x = -1
    · rw [if_pos h2]
      by_cases h3 : y = -9223372036854775808
      · rw [if_pos h3, show ov_t x y = true from decide_eq_true ⟨h0, .inr ⟨h2, h3⟩⟩]
      · rw [if_neg h3]; exact h32 h0 (fun q => h3 q.2)
    · rw [if_neg h2]; exact h32 h0 (fun q => h2 q.1)
theorem ov_Yp (x y : Int64) (m : tk_m) (L : Nat → Nat → Int64) (B : Bool) : fM_plus x y (ov_Y m L B) = (x + y, ov_Y m L (B || ov_p x y)) := by
  have e : ∀ b : Bool, ((ov_Y m L B).1, (ov_Y m L B).2.1, tk_u2 (ov_Y m L B).2.2.1 295 4 b, (ov_Y m L B).2.2.2) = ov_Y m L b := fun b => by unfold ov_Y; dsimp only; rw [tk_u2_rw]
  have r : (ov_Y m L B).2.2.1 295 4 = B := by
    show tk_u2 m.2.2.1 295 4 B 295 4 = B
    exact tk_u2_eq
  unfold fM_plus
  rw [r, e, e]
  by_cases h : (0 : Int64) ≤ ((x ^^^ (x + y)) &&& (y ^^^ (x + y)))
  · rw [if_pos h, show ov_p x y = false from decide_eq_false (fun q => q h)]
  · rw [if_neg h, show ov_p x y = true from decide_eq_true h]
theorem ov_Ym (x y : Int64) (m : tk_m) (L : Nat → Nat → Int64) (B : Bool) : fM_minus x y (ov_Y m L B) = (x - y, ov_Y m L (B || ov_m x y)) := by
  have e : ∀ b : Bool, ((ov_Y m L B).1, (ov_Y m L B).2.1, tk_u2 (ov_Y m L B).2.2.1 295 4 b, (ov_Y m L B).2.2.2) = ov_Y m L b := fun b => by unfold ov_Y; dsimp only; rw [tk_u2_rw]
  have r : (ov_Y m L B).2.2.1 295 4 = B := by
    show tk_u2 m.2.2.1 295 4 B 295 4 = B
    exact tk_u2_eq
  unfold fM_minus
  rw [r, e, e]
  by_cases h : (0 : Int64) ≤ ((x ^^^ y) &&& (x ^^^ (x - y)))
  · rw [if_pos h, show ov_m x y = false from decide_eq_false (fun q => q h)]
  · rw [if_neg h, show ov_m x y = true from decide_eq_true h]

theorem ov_msb (z : Int64) : (0 : Int64) ≤ z ↔ z.toBitVec.msb = false := by
  rw [Int64.le_iff_toInt_le, BitVec.msb_eq_toInt, decide_eq_false_iff_not, show (0 : Int64).toInt = 0 from rfl, Int.not_lt]
  rfl
theorem ov_sg (z : Int64) : z.toBitVec.msb = decide (z.toInt < 0) := BitVec.msb_eq_toInt
theorem ov_p_ok {x y : Int64} (h : ov_p x y = false) : (x + y).toInt = x.toInt + y.toInt := by
  unfold ov_p at h
  rw [decide_eq_false_iff_not, Decidable.not_not, ov_msb, Int64.toBitVec_and, BitVec.msb_and, Int64.toBitVec_xor, Int64.toBitVec_xor, BitVec.msb_xor, BitVec.msb_xor, ov_sg, ov_sg, ov_sg] at h
  have hx := lo_rng x
  have hy := lo_rng y
  have hs := lo_rng (x + y)
  have hk : ∃ k : Int, x.toInt + y.toInt = (x + y).toInt + 18446744073709551616 * k := by
    have := Int.bmod_add_bdiv (x.toInt + y.toInt) (2 ^ 64)
    refine ⟨(x.toInt + y.toInt).bdiv (2 ^ 64), ?_⟩
    rw [Int64.toInt_add]
    omega
  obtain ⟨k, hk⟩ := hk
  generalize (x + y).toInt = s at *
  by_cases a : x.toInt < 0 <;> by_cases b : y.toInt < 0 <;> by_cases c : s < 0 <;> simp [a, b, c] at h <;> omega
theorem ov_m_ok {x y : Int64} (h : ov_m x y = false) : (x - y).toInt = x.toInt - y.toInt := by
  unfold ov_m at h
  rw [decide_eq_false_iff_not, Decidable.not_not, ov_msb, Int64.toBitVec_and, BitVec.msb_and, Int64.toBitVec_xor, Int64.toBitVec_xor, BitVec.msb_xor, BitVec.msb_xor, ov_sg, ov_sg, ov_sg] at h
  have hx := lo_rng x
  have hy := lo_rng y
  have hs := lo_rng (x - y)
  have hk : ∃ k : Int, x.toInt - y.toInt = (x - y).toInt + 18446744073709551616 * k := by
    have := Int.bmod_add_bdiv (x.toInt - y.toInt) (2 ^ 64)
    refine ⟨(x.toInt - y.toInt).bdiv (2 ^ 64), ?_⟩
    rw [Int64.toInt_sub]
    omega
  obtain ⟨k, hk⟩ := hk
  generalize (x - y).toInt = s at *
  by_cases a : x.toInt < 0 <;> by_cases b : y.toInt < 0 <;> by_cases c : s < 0 <;> simp [a, b, c] at h <;> omega
