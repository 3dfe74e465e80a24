/-! ===== small numbers ===== -/
theorem i_nn {k : Nat} (h : k < 2147483648) : tk_n (Int32.ofNat k) = k := Int32.toNatClampNeg_ofNat_of_lt (by omega)
theorem i_to {k : Nat} (h : k < 2147483648) : (Int32.ofNat k).toInt = k := Int32.toInt_ofNat_of_lt (by omega)
theorem i_neg {k : Nat} (h : k < 2147483648) : ¬ Int32.ofNat k < 0 := by
  rw [Int32.lt_iff_toInt_lt, i_to h, show (0 : Int32).toInt = 0 from rfl]
  omega
theorem i_lt {a b : Nat} (ha : a < 2147483648) (hb : b < 2147483648) : (Int32.ofNat a < Int32.ofNat b) ↔ a < b := by
  rw [Int32.lt_iff_toInt_lt, i_to ha, i_to hb]
  omega
theorem i_le {a b : Nat} (ha : a < 2147483648) (hb : b < 2147483648) : (Int32.ofNat a ≤ Int32.ofNat b) ↔ a ≤ b := by
  rw [Int32.le_iff_toInt_le, i_to ha, i_to hb]
  omega
theorem i_eq {a b : Nat} (ha : a < 2147483648) (hb : b < 2147483648) : (Int32.ofNat a = Int32.ofNat b) ↔ a = b := by
  rw [← Int32.toInt_inj, i_to ha, i_to hb]
  omega
theorem i_ok {k n : Nat} (h : k < n) (hn : n ≤ 2147483648) : tk_ok (Int32.ofNat k) n := ⟨i_neg (by omega), by rw [i_nn (by omega)]; exact h⟩
theorem i_get {x : Int32} {n : Nat} (hn : n < 2147483648) (h0 : ¬ x < 0) (h1 : x < Int32.ofNat n) : ∃ k, k < n ∧ x = Int32.ofNat k := by
  rw [Int32.lt_iff_toInt_lt, show (0 : Int32).toInt = 0 from rfl] at h0
  rw [Int32.lt_iff_toInt_lt, i_to hn] at h1
  refine ⟨x.toInt.toNat, by omega, ?_⟩
  rw [← Int32.toInt_inj, i_to (by omega)]
  omega
theorem i_add (a b : Nat) : Int32.ofNat a + Int32.ofNat b = Int32.ofNat (a + b) := (Int32.ofNat_add a b).symm
theorem i_at (i j : Nat) : ((5 : Int32) + ((4 : Int32) * Int32.ofNat i)) + Int32.ofNat j = Int32.ofNat (5 + 4 * i + j) := by
  rw [Int32.ofNat_add, Int32.ofNat_add, Int32.ofNat_mul]
  rfl
theorem w_in {v a b : Int32} : fX_isWithin v a b = true ↔ ¬ v < a ∧ ¬ b < v := by
  unfold fX_isWithin
  by_cases h1 : v < a <;> by_cases h2 : b < v <;> simp [h1, h2]
theorem w_inM {v a b : Int64} : fM_in v a b = true ↔ ¬ v < a ∧ ¬ b < v := by
  unfold fM_in
  by_cases h1 : v < a <;> by_cases h2 : b < v <;> simp [h1, h2]
theorem w_eq {v a b : Int32} : fM_in v.toInt64 a.toInt64 b.toInt64 = fX_isWithin v a b := by
  rw [Bool.eq_iff_iff, w_inM, w_in, Int32.toInt64_lt, Int32.toInt64_lt]
/-! ===== what both sides hold ===== -/
abbrev s_sh : Type := Bool × Int32 × Int32 × Int32
abbrev s_sn : Type := List s_sh × (Int32 × Int32 × Int32) × Int32
abbrev s_nm : Type := Int64 × Int64 × Int64 × Int64
abbrev s_st : Type := Int32 × Nat × (Nat → Int64)
/-- the scene; the pile, its lowest image first; spots; sheets; findings -/
abbrev s_as : Type := s_sn × List s_sn × (Nat → Option s_nm) × (Nat → s_st) × (Nat → Int32)
def s_A (k : Int32) : Int32 := (tk_stv 0).getD (tk_n k) 0
def s_B (k : Int32) : Int32 := (tk_stv 1).getD (tk_n k) 0
def s_L (k : Int32) : Int32 := (tk_stv 2).getD (tk_n k) 0
def s_in (v : Int32) (a b : Int) : Prop := a ≤ v.toInt ∧ v.toInt ≤ b
def s_shOk (s : s_sh) : Prop := if s.1 = true then s_in s.2.1 0 5 ∧ s_in s.2.2.1 (-30) 30 else s_in s.2.1 (-5) 5 ∧ s_in s.2.2.1 (-5) 5 ∧ s_in s.2.2.2 0 5
def s_snOk (c : s_sn) : Prop := c.1.length ≤ 6 ∧ ∀ s ∈ c.1, s_shOk s
/-! the class -/
def x_F (f : Nat → Int32) (m : tk_m) : Prop := ∀ k, k < 8 → m.1 202 k = f k
def x_H (s : s_sh) (h : Nat) (m : tk_m) : Prop := m.2.2.1 h 0 = s.1 ∧ (s.1 = false → m.1 h 1 = s.2.1 ∧ m.1 h 2 = s.2.2.1 ∧ m.1 h 3 = s.2.2.2) ∧ (s.1 = true → m.1 h 4 = s.2.1 ∧ m.1 h 5 = s.2.2.1 ∧ m.1 h 6 = s_A s.2.1 ∧ m.1 h 7 = s_B s.2.1 ∧ m.1 h 8 = s_L s.2.1)
def x_S (c : s_sn) (t : Nat) (m : tk_m) : Prop := m.1 t 1 = Int32.ofNat c.1.length ∧ m.1 t 3 = c.2.2 ∧ (m.1 (t + 2) 0 = c.2.1.1 ∧ m.1 (t + 2) 1 = c.2.1.2.1 ∧ m.1 (t + 2) 2 = c.2.1.2.2) ∧
  (∀ i s, c.1[i]? = some s → x_H s (t + 1 + 2 + (m.2.2.2 (t + 1) i).val) m) ∧ ∀ i j, i < 6 → j < 6 → m.2.2.2 (t + 1) i = m.2.2.2 (t + 1) j → i = j
def x_P (p : List s_sn) (m : tk_m) : Prop := m.1 0 2 = Int32.ofNat p.length ∧ (∀ i c, p[i]? = some c → x_S c (203 + 9 * i) m) ∧ ∀ i, i < 8 → ∀ j k, j < 6 → k < 6 → m.2.2.2 (204 + 9 * i) j = m.2.2.2 (204 + 9 * i) k → j = k
def x_num (n : s_nm) (r : Nat) (m : tk_m) : Prop := m.2.1 (r + 1) 0 = n.1 ∧ m.2.1 (r + 1) 1 = n.2.1 ∧ m.2.1 (r + 1) 2 = n.2.2.2 ∧ m.2.1 r 2 = n.2.2.1
def x_N (n : Nat → Option s_nm) (m : tk_m) : Prop := ∀ i, i < 6 → m.2.2.1 (275 + 2 * i) 0 = (n i).isSome ∧ ∀ v, n i = some v → x_num v (275 + 2 * i) m
def x_T (t : Nat → s_st) (m : tk_m) : Prop := ∀ i, i < 4 → m.1 (287 + 2 * i) 0 = (t i).1 ∧ m.1 (287 + 2 * i) 1 = Int32.ofNat (t i).2.1 ∧ ∀ k, k < 40 → m.2.1 (287 + 2 * i + 1) k = (t i).2.2 k
def x_Z (m : tk_m) : Prop := x_num (0, 0, 0, 1) 14 m
/-! the reference -/
def y_F (f : Nat → Int32) (m : tk_m) : Prop := ∀ k, k < 8 → m.1 306 k = f k
def y_H (s : s_sh) (r i : Nat) (m : tk_m) : Prop := m.1 r (5 + 4 * i + 0) = tk_b s.1 ∧ m.1 r (5 + 4 * i + 1) = s.2.1 ∧ m.1 r (5 + 4 * i + 2) = s.2.2.1 ∧ m.1 r (5 + 4 * i + 3) = s.2.2.2
def y_S (c : s_sn) (r : Nat) (m : tk_m) : Prop := m.1 r 0 = Int32.ofNat c.1.length ∧ m.1 r 4 = c.2.2 ∧ (m.1 r 1 = c.2.1.1 ∧ m.1 r 2 = c.2.1.2.1 ∧ m.1 r 3 = c.2.1.2.2) ∧ ∀ i s, c.1[i]? = some s → y_H s r i m
def y_P (p : List s_sn) (m : tk_m) : Prop := m.1 295 2 = Int32.ofNat p.length ∧ ∀ i c, p[i]? = some c → y_S c (298 + i) m
def y_N (n : Nat → Option s_nm) (m : tk_m) : Prop := ∀ i, i < 6 → m.2.2.1 450 i = (n i).isSome ∧ ∀ v, n i = some v → m.2.1 (452 + i) 0 = v.1 ∧ m.2.1 (452 + i) 1 = v.2.1 ∧ m.2.1 (452 + i) 2 = v.2.2.1 ∧ m.2.1 (452 + i) 3 = v.2.2.2
def y_T (t : Nat → s_st) (m : tk_m) : Prop := ∀ i, i < 4 → m.1 442 i = (t i).1 ∧ m.1 443 i = Int32.ofNat (t i).2.1 ∧ ∀ k, k < 40 → m.2.1 (445 + i) k = (t i).2.2 k
/-! rows alike -/
def tk_row (m m' : tk_m) (r : Nat) : Prop := m'.1 r = m.1 r ∧ m'.2.1 r = m.2.1 r ∧ m'.2.2.1 r = m.2.2.1 r ∧ m'.2.2.2 r = m.2.2.2 r
def tk_hi (m m' : tk_m) : Prop := ∀ r, 295 ≤ r → tk_row m m' r
def tk_lo (m m' : tk_m) : Prop := ∀ r, r < 295 → tk_row m m' r
theorem tk_row_rf (m : tk_m) (r : Nat) : tk_row m m r := ⟨rfl, rfl, rfl, rfl⟩
theorem tk_row_tr {m m' m2 : tk_m} {r : Nat} (h : tk_row m m' r) (h2 : tk_row m' m2 r) : tk_row m m2 r := ⟨h2.1.trans h.1, h2.2.1.trans h.2.1, h2.2.2.1.trans h.2.2.1, h2.2.2.2.trans h.2.2.2⟩
theorem x_F_k {f : Nat → Int32} {m m' : tk_m} (h : x_F f m) (q : tk_row m m' 202) : x_F f m' := fun k hk => by rw [q.1]; exact h k hk
theorem x_H_k {s : s_sh} {h : Nat} {m m' : tk_m} (hh : x_H s h m) (q : tk_row m m' h) : x_H s h m' := by
  unfold x_H at *
  rw [q.1, q.2.2.1]
  exact hh
theorem x_S_k {c : s_sn} {t : Nat} {m m' : tk_m} (h : x_S c t m) (q : ∀ r, t ≤ r → r < t + 9 → tk_row m m' r) : x_S c t m' := by
  obtain ⟨h1, h2, h3, h4, h5⟩ := h
  have q0 := q t (by omega) (by omega)
  have q1 := q (t + 1) (by omega) (by omega)
  have q2 := q (t + 2) (by omega) (by omega)
  refine ⟨by rw [q0.1]; exact h1, by rw [q0.1]; exact h2, by rw [q2.1]; exact h3, fun i s hs => ?_, by rw [q1.2.2.2]; exact h5⟩
  rw [q1.2.2.2]
  exact x_H_k (h4 i s hs) (q _ (by omega) (by have := (m.2.2.2 (t + 1) i).isLt; omega))
theorem x_P_k {p : List s_sn} {m m' : tk_m} (hp : p.length ≤ 8) (h : x_P p m) (q0 : m'.1 0 2 = m.1 0 2) (q : ∀ r, 203 ≤ r → r < 275 → tk_row m m' r) : x_P p m' := by
  refine ⟨by rw [q0]; exact h.1, fun i c hc => x_S_k (h.2.1 i c hc) (fun r h1 h2 => q r (by omega) ?_), fun i hi j k hj hk hq => ?_⟩
  · have := (List.getElem?_eq_some_iff.mp hc).1
    omega
  · rw [(q (204 + 9 * i) (by omega) (by omega)).2.2.2] at hq
    exact h.2.2 i hi j k hj hk hq
theorem x_num_k {n : s_nm} {r : Nat} {m m' : tk_m} (h : x_num n r m) (q : tk_row m m' r) (q1 : tk_row m m' (r + 1)) : x_num n r m' := by
  unfold x_num at *
  rw [q.2.1, q1.2.1]
  exact h
theorem x_N_k {n : Nat → Option s_nm} {m m' : tk_m} (h : x_N n m) (q : ∀ r, 275 ≤ r → r < 287 → tk_row m m' r) : x_N n m' := fun i hi => by
  have q0 := q (275 + 2 * i) (by omega) (by omega)
  have q1 := q (275 + 2 * i + 1) (by omega) (by omega)
  exact ⟨by rw [q0.2.2.1]; exact (h i hi).1, fun v hv => x_num_k ((h i hi).2 v hv) q0 q1⟩
theorem x_T_k {t : Nat → s_st} {m m' : tk_m} (h : x_T t m) (q : ∀ r, 287 ≤ r → r < 295 → tk_row m m' r) : x_T t m' := fun i hi => by
  have q0 := q (287 + 2 * i) (by omega) (by omega)
  have q1 := q (287 + 2 * i + 1) (by omega) (by omega)
  rw [q0.1, q1.2.1]
  exact h i hi
theorem x_Z_k {m m' : tk_m} (h : x_Z m) (q : tk_row m m' 14) (q1 : tk_row m m' 15) : x_Z m' := x_num_k h q q1
theorem y_F_k {f : Nat → Int32} {m m' : tk_m} (h : y_F f m) (q : tk_row m m' 306) : y_F f m' := fun k hk => by rw [q.1]; exact h k hk
theorem y_S_k {c : s_sn} {r : Nat} {m m' : tk_m} (h : y_S c r m) (q : tk_row m m' r) : y_S c r m' := by
  unfold y_S y_H at *
  rw [q.1]
  exact h
theorem y_P_k {p : List s_sn} {m m' : tk_m} (hp : p.length ≤ 8) (h : y_P p m) (q0 : m'.1 295 2 = m.1 295 2) (q : ∀ r, 298 ≤ r → r < 306 → tk_row m m' r) : y_P p m' := by
  refine ⟨by rw [q0]; exact h.1, fun i c hc => y_S_k (h.2 i c hc) (q _ (by omega) ?_)⟩
  have := (List.getElem?_eq_some_iff.mp hc).1
  omega
theorem y_N_k {n : Nat → Option s_nm} {m m' : tk_m} (h : y_N n m) (q : ∀ r, 450 ≤ r → r < 458 → tk_row m m' r) : y_N n m' := fun i hi => by
  have q0 := q 450 (by omega) (by omega)
  have q1 := q (452 + i) (by omega) (by omega)
  rw [q0.2.2.1, q1.2.1]
  exact h i hi
theorem y_T_k {t : Nat → s_st} {m m' : tk_m} (h : y_T t m) (q : ∀ r, 442 ≤ r → r < 449 → tk_row m m' r) : y_T t m' := fun i hi => by
  have q0 := q 442 (by omega) (by omega)
  have q1 := q 443 (by omega) (by omega)
  have q2 := q (445 + i) (by omega) (by omega)
  rw [q0.1, q1.1, q2.2.1]
  exact h i hi
/-- one int written -/
theorem tk_row_u {m : tk_m} {i k r : Nat} {v : Int32} (h : r ≠ i) : tk_row m (tk_u2 m.1 i k v, m.2.1, m.2.2.1, m.2.2.2) r := ⟨tk_u2_ne h, rfl, rfl, rfl⟩
theorem tk_rowi {m m' : tk_m} {r k : Nat} (h : tk_row m m' r) : m'.1 r k = m.1 r k := by rw [h.1]
