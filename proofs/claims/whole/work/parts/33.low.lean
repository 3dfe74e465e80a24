/-! ===== longs as numbers; the divisor; lowest terms ===== -/
abbrev lo_r (x : Int) : Prop := -9223372036854775808 ≤ x ∧ x < 9223372036854775808
theorem lo_rng (x : Int64) : lo_r x.toInt := ⟨by have := x.le_toInt; omega, by have := x.toInt_lt; omega⟩
theorem lo_i {x : Int} (h : lo_r x) : (Int64.ofInt x).toInt = x := Int64.toInt_ofInt_of_le (by have := h.1; omega) (by have := h.2; omega)
theorem lo_bm {x : Int} (h : lo_r x) : x.bmod (2 ^ 64) = x := Int.bmod_eq_of_le (by have := h.1; omega) (by have := h.2; omega)
theorem lo_add {a b : Int64} (h : lo_r (a.toInt + b.toInt)) : (a + b).toInt = a.toInt + b.toInt := by rw [Int64.toInt_add, lo_bm h]
theorem lo_sub {a b : Int64} (h : lo_r (a.toInt - b.toInt)) : (a - b).toInt = a.toInt - b.toInt := by rw [Int64.toInt_sub, lo_bm h]
theorem lo_mul {a b : Int64} (h : lo_r (a.toInt * b.toInt)) : (a * b).toInt = a.toInt * b.toInt := by rw [Int64.toInt_mul, lo_bm h]
theorem lo_neg {a : Int64} (h : lo_r (-a.toInt)) : (-a).toInt = -a.toInt := by rw [Int64.toInt_neg, lo_bm h]
theorem lo_dvo (a b : Int64) : a / b = Int64.ofInt (a.toInt.tdiv b.toInt) := ((Int64.ofInt_eq_iff_bmod_eq_toInt _ _).mpr (Int64.toInt_div a b).symm).symm
theorem lo_ab (a b : Int) : (a.tdiv b).natAbs ≤ a.natAbs := Int.natAbs_tdiv_le_natAbs a b
theorem lo_div {a b : Int64} (h : a.toInt ≠ -9223372036854775808 ∨ b.toInt ≠ -1) : (a / b).toInt = a.toInt.tdiv b.toInt := by
  rcases h with h | h
  · exact Int64.toInt_div_of_ne_left a b (fun q => h (by rw [q]; rfl))
  · exact Int64.toInt_div_of_ne_right a b (fun q => h (by rw [q]; rfl))
theorem lo_tmr {a : Int} (b : Int) (h : lo_r a) : lo_r (a.tmod b) := by
  have h1 : (a.tmod b).natAbs = a.natAbs % b.natAbs := Int.natAbs_tmod a b
  have h2 : a.natAbs % b.natAbs ≤ a.natAbs := Nat.mod_le _ _
  have h3 := h.1
  have h4 := h.2
  rcases Int.le_total 0 a with q | q
  · have := Int.tmod_nonneg b q
    constructor <;> omega
  · have h5 := Int.tmod_nonneg b (show 0 ≤ -a by omega)
    rw [Int.neg_tmod] at h5
    constructor <;> omega
theorem lo_rem (a b : Int64) : (tk_lrem a b).toInt = a.toInt.tmod b.toInt := by
  have e : tk_lrem a b = Int64.ofInt (a.toInt.tmod b.toInt) := by
    unfold tk_lrem
    rw [lo_dvo]
    have h1 : a.toInt.tmod b.toInt = a.toInt - a.toInt.tdiv b.toInt * b.toInt := by
      have := Int.mul_tdiv_add_tmod a.toInt b.toInt
      rw [Int.mul_comm] at this
      omega
    rw [h1, Int64.ofInt_sub, Int64.ofInt_mul, Int64.ofInt_toInt, Int64.ofInt_toInt]
  rw [e, lo_i (lo_tmr _ (lo_rng a))]
theorem lo_ext {a b : Int64} (h : a.toInt = b.toInt) : a = b := Int64.toInt_inj.mp h
theorem lo_of {a : Int64} {x : Int} (h : a.toInt = x) : a = Int64.ofInt x := by rw [← h, Int64.ofInt_toInt]
theorem lo_z {a : Int64} : a = 0 ↔ a.toInt = 0 := ⟨fun h => by rw [h]; rfl, fun h => lo_ext h⟩
/-! the divisor -/
theorem lo_gcd : ∀ (k : Nat) (x y : Int64), x.toInt ≤ 0 → y.toInt ≤ 0 → y.toInt.natAbs < 2 ^ k → fM_below_28 (2 * k + 1) x y = some (Int64.ofInt (-(Int.gcd x.toInt y.toInt : Int))) := by
  intro k
  induction k with
  | zero =>
    intro x y hx hy h
    have hy0 : y.toInt = 0 := by omega
    unfold fM_below_28
    rw [if_pos (lo_z.mpr hy0), hy0]
    congr 1
    apply lo_of
    have := lo_rng x
    simp only [Int.gcd_zero_right]
    omega
  | succ k ih =>
    intro x y hx hy h
    show fM_below_28 ((2 * k + 1) + 1 + 1) x y = _
    unfold fM_below_28
    by_cases hy0 : y = 0
    · rw [if_pos hy0, lo_z.mp hy0]
      congr 1
      apply lo_of
      simp only [Int.gcd_zero_right]
      omega
    rw [if_neg hy0, if_neg hy0]
    have hy1 : y.toInt ≠ 0 := fun q => hy0 (lo_z.mpr q)
    have hr := lo_rem x y
    have hrn : (tk_lrem x y).toInt ≤ 0 := by
      rw [hr]
      have h5 := Int.tmod_nonneg y.toInt (show 0 ≤ -x.toInt by omega)
      rw [Int.neg_tmod] at h5
      omega
    have hra : (tk_lrem x y).toInt.natAbs = x.toInt.natAbs % y.toInt.natAbs := by rw [hr, Int.natAbs_tmod]
    have hg : Int.gcd x.toInt y.toInt = Int.gcd y.toInt (tk_lrem x y).toInt := by
      unfold Int.gcd
      rw [hra, Nat.gcd_comm x.toInt.natAbs, Nat.gcd_rec, Nat.gcd_comm]
    unfold fM_below_28
    by_cases hr0 : tk_lrem x y = 0
    · rw [if_pos hr0, hg, lo_z.mp hr0]
      congr 1
      apply lo_of
      simp only [Int.gcd_zero_right]
      omega
    rw [if_neg hr0, if_neg hr0]
    have hr1 : (tk_lrem x y).toInt ≠ 0 := fun q => hr0 (lo_z.mpr q)
    have hr2 := lo_rem y (tk_lrem x y)
    have hrn2 : (tk_lrem y (tk_lrem x y)).toInt ≤ 0 := by
      rw [hr2]
      have h5 := Int.tmod_nonneg (tk_lrem x y).toInt (show 0 ≤ -y.toInt by omega)
      rw [Int.neg_tmod] at h5
      omega
    have hra2 : (tk_lrem y (tk_lrem x y)).toInt.natAbs = y.toInt.natAbs % (tk_lrem x y).toInt.natAbs := by rw [hr2, Int.natAbs_tmod]
    have hg2 : Int.gcd y.toInt (tk_lrem x y).toInt = Int.gcd (tk_lrem x y).toInt (tk_lrem y (tk_lrem x y)).toInt := by
      unfold Int.gcd
      rw [hra2, Nat.gcd_comm y.toInt.natAbs, Nat.gcd_rec, Nat.gcd_comm]
    rw [hg, hg2]
    apply ih _ _ hrn hrn2
    have hlt : x.toInt.natAbs % y.toInt.natAbs < y.toInt.natAbs := Nat.mod_lt _ (by omega)
    rw [← hra] at hlt
    have hlt2 : y.toInt.natAbs % (tk_lrem x y).toInt.natAbs < (tk_lrem x y).toInt.natAbs := Nat.mod_lt _ (by omega)
    have hle : (tk_lrem x y).toInt.natAbs + y.toInt.natAbs % (tk_lrem x y).toInt.natAbs ≤ y.toInt.natAbs := by
      have e1 := Nat.div_add_mod y.toInt.natAbs (tk_lrem x y).toInt.natAbs
      have e2 : 1 ≤ y.toInt.natAbs / (tk_lrem x y).toInt.natAbs := Nat.div_pos (by omega) (by omega)
      have e3 : (tk_lrem x y).toInt.natAbs * 1 ≤ (tk_lrem x y).toInt.natAbs * (y.toInt.natAbs / (tk_lrem x y).toInt.natAbs) := Nat.mul_le_mul_left _ e2
      omega
    rw [hra2]
    rw [Nat.pow_succ] at h
    omega
theorem lo_fuel : ∀ (n : Nat) (x y r : Int64), fM_below_28 n x y = some r → ∀ N, n ≤ N → fM_below_28 N x y = some r := by
  intro n
  induction n with
  | zero => intro x y r h; unfold fM_below_28 at h; cases h
  | succ n ih =>
    intro x y r h N hN
    obtain ⟨M, rfl⟩ : ∃ M, N = M + 1 := ⟨N - 1, by omega⟩
    unfold fM_below_28 at h ⊢
    by_cases hy : y = 0
    · rw [if_pos hy] at h ⊢; exact h
    · rw [if_neg hy, if_neg hy] at h ⊢
      exact ih _ _ _ h M (by omega)
theorem lo_fuelK : ∀ (n : Nat) (x y r : Int64) (i : Nat), fM_below_28 n x y = some r → i + n ≤ 200 → ∀ N, n ≤ N → fK_negativeDivisor_20 N x y (Int32.ofNat i) = some r := by
  intro n
  induction n with
  | zero => intro x y r i h; unfold fM_below_28 at h; cases h
  | succ n ih =>
    intro x y r i h hi N hN
    obtain ⟨M, rfl⟩ : ∃ M, N = M + 1 := ⟨N - 1, by omega⟩
    unfold fM_below_28 at h
    unfold fK_negativeDivisor_20
    rw [if_neg (show ¬ (200 : Int32) ≤ Int32.ofNat i from fun q => absurd ((i_le (a := 200) (b := i) (by omega) (by omega)).mp q) (by omega))]
    by_cases hy : y = 0
    · rw [if_pos hy] at h ⊢; exact h
    · rw [if_neg hy, if_neg hy] at h ⊢
      rw [show Int32.ofNat i + 1 = Int32.ofNat (i + 1) from i_add i 1]
      exact ih _ _ _ (i + 1) h (by omega) M (by omega)
theorem lo_lt64 (y : Int64) : y.toInt.natAbs < 2 ^ 64 := by have := lo_rng y; omega
theorem lo_below (a b : Int64) : fM_below a b = some (Int64.ofInt (-(Int.gcd a.toInt b.toInt : Int))) := by
  have key : ∀ x y : Int64, x.toInt ≤ 0 → y.toInt ≤ 0 → fM_below_28 tk_F x y = some (Int64.ofInt (-(Int.gcd x.toInt y.toInt : Int))) := fun x y hx hy => lo_fuel _ _ _ _ (lo_gcd 64 x y hx hy (lo_lt64 y)) _ (by decide)
  have hn : ∀ x : Int64, 0 ≤ x → (-x).toInt = -x.toInt := fun x h => lo_neg (by
    rw [Int64.le_iff_toInt_le] at h
    have h0 : (0 : Int64).toInt = 0 := rfl
    have := lo_rng x
    constructor <;> omega)
  unfold fM_below
  by_cases ha : 0 ≤ a <;> by_cases hb : 0 ≤ b
  · rw [if_pos ha, if_pos hb, key _ _ (by rw [hn a ha]; rw [Int64.le_iff_toInt_le] at ha; have h0 : (0 : Int64).toInt = 0 := rfl; omega) (by rw [hn b hb]; rw [Int64.le_iff_toInt_le] at hb; have h0 : (0 : Int64).toInt = 0 := rfl; omega), hn a ha, hn b hb, Int.gcd_neg, Int.neg_gcd]
  · rw [if_pos ha, if_neg hb, key _ _ (by rw [hn a ha]; rw [Int64.le_iff_toInt_le] at ha; have h0 : (0 : Int64).toInt = 0 := rfl; omega) (by rw [Int64.le_iff_toInt_le] at hb; have h0 : (0 : Int64).toInt = 0 := rfl; omega), hn a ha, Int.neg_gcd]
  · rw [if_neg ha, if_pos hb, key _ _ (by rw [Int64.le_iff_toInt_le] at ha; have h0 : (0 : Int64).toInt = 0 := rfl; omega) (by rw [hn b hb]; rw [Int64.le_iff_toInt_le] at hb; have h0 : (0 : Int64).toInt = 0 := rfl; omega), hn b hb, Int.gcd_neg]
  · rw [if_neg ha, if_neg hb, key _ _ (by rw [Int64.le_iff_toInt_le] at ha; have h0 : (0 : Int64).toInt = 0 := rfl; omega) (by rw [Int64.le_iff_toInt_le] at hb; have h0 : (0 : Int64).toInt = 0 := rfl; omega)]
theorem lo_ndiv (a b : Int64) (ha : a.toInt ≤ 0) : fK_negativeDivisor a b = some (Int64.ofInt (-(Int.gcd a.toInt b.toInt : Int))) := by
  have key : ∀ y : Int64, y.toInt ≤ 0 → fK_negativeDivisor_20 tk_F a y 0 = some (Int64.ofInt (-(Int.gcd a.toInt y.toInt : Int))) := fun y hy => lo_fuelK _ _ _ _ 0 (lo_gcd 64 a y ha hy (lo_lt64 y)) (by decide) _ (by decide)
  have h0 : (0 : Int64).toInt = 0 := rfl
  unfold fK_negativeDivisor
  by_cases hb : b ≤ 0
  · rw [if_pos hb]
    exact key b (by rw [Int64.le_iff_toInt_le] at hb; omega)
  · rw [Int64.le_iff_toInt_le] at hb
    have hn : (-b).toInt = -b.toInt := lo_neg (by have := lo_rng b; constructor <;> omega)
    rw [if_neg (by rw [Int64.le_iff_toInt_le]; omega), key (-b) (by omega), hn, Int.gcd_neg]
