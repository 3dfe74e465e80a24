/-! ===== the class's wide numbers ===== -/
def bg_v (f : Nat → Int32) : Nat → Nat
  | 0 => 0
  | n + 1 => bg_v f n + bg_u (f n) * 4294967296 ^ n
theorem bg_vs (f : Nat → Int32) (n : Nat) : bg_v f (n + 1) = bg_v f n + bg_u (f n) * 4294967296 ^ n := rfl
def bg_l (f : Nat → Int32) (n k : Nat) : Nat := if k < n then bg_u (f k) else 0
def bg_w (f : Nat → Int32) (n : Nat) : Nat → Nat
  | 0 => 0
  | i + 1 => bg_w f n i + bg_l f n i * 4294967296 ^ i
theorem bg_ws (f : Nat → Int32) (n i : Nat) : bg_w f n (i + 1) = bg_w f n i + bg_l f n i * 4294967296 ^ i := rfl
theorem bg_v_ext {f g : Nat → Int32} : ∀ n, (∀ k, k < n → f k = g k) → bg_v f n = bg_v g n := by
  intro n
  induction n with
  | zero => intro _; rfl
  | succ n ih => intro h; rw [bg_vs, bg_vs, ih (fun k hk => h k (by omega)), h n (by omega)]
theorem bg_v_lt (f : Nat → Int32) : ∀ n, bg_v f n < 4294967296 ^ n := by
  intro n
  induction n with
  | zero => exact Nat.one_pos
  | succ n ih =>
    have h3 : bg_u (f n) ≤ 4294967295 := by have := bg_u_lt (f n); omega
    have h4 : bg_u (f n) * 4294967296 ^ n ≤ 4294967295 * 4294967296 ^ n := Nat.mul_le_mul_right _ h3
    rw [bg_vs, Nat.pow_succ]
    omega
theorem bg_w_le {f : Nat → Int32} {n : Nat} : ∀ i, i ≤ n → bg_w f n i = bg_v f i := by
  intro i
  induction i with
  | zero => intro _; rfl
  | succ i ih =>
    intro h
    rw [bg_ws, bg_vs, ih (by omega)]
    unfold bg_l
    rw [if_pos (by omega)]
theorem bg_w_ge {f : Nat → Int32} {n : Nat} : ∀ j, bg_w f n (n + j) = bg_v f n := by
  intro j
  induction j with
  | zero => exact bg_w_le n (Nat.le_refl n)
  | succ j ih =>
    show bg_w f n (n + j) + bg_l f n (n + j) * 4294967296 ^ (n + j) = _
    unfold bg_l
    rw [ih, if_neg (by omega), Nat.zero_mul, Nat.add_zero]
theorem bg_w_gt {f : Nat → Int32} {n i : Nat} (h : n ≤ i) : bg_w f n i = bg_v f n := by
  obtain ⟨j, rfl⟩ : ∃ j, i = n + j := ⟨i - n, by omega⟩
  exact bg_w_ge j
theorem bg_l_lt (f : Nat → Int32) (n k : Nat) : bg_l f n k < 4294967296 := by
  unfold bg_l
  split
  · exact bg_u_lt _
  · decide
theorem bg_w_lt (f : Nat → Int32) (n : Nat) : ∀ i, bg_w f n i < 4294967296 ^ i := by
  intro i
  induction i with
  | zero => exact Nat.one_pos
  | succ i ih =>
    have h3 : bg_l f n i ≤ 4294967295 := by have := bg_l_lt f n i; omega
    have h4 : bg_l f n i * 4294967296 ^ i ≤ 4294967295 * 4294967296 ^ i := Nat.mul_le_mul_right _ h3
    rw [bg_ws, Nat.pow_succ]
    omega
/-- one limb written -/
theorem bg_v_upd {f g : Nat → Int32} {p : Nat} (hfg : ∀ k, k ≠ p → g k = f k) : ∀ n, p < n → bg_v g n + bg_u (f p) * 4294967296 ^ p = bg_v f n + bg_u (g p) * 4294967296 ^ p := by
  intro n
  induction n with
  | zero => intro h; omega
  | succ n ih =>
    intro h
    rw [bg_vs, bg_vs]
    by_cases e : p = n
    · subst e
      rw [bg_v_ext p (fun k hk => hfg k (by omega))]
      omega
    · rw [hfg n (fun q => e q.symm)]
      have := ih (by omega)
      omega
theorem bg_z {x : Int32} : bg_u x = 0 ↔ x = 0 := ⟨fun h => bg_ext32 (by rw [h]; rfl), fun h => by rw [h]; rfl⟩
def bg_N (m : tk_m) (r n : Nat) (v : Int) : Prop := n ≤ 24 ∧ m.1 r 1 = Int32.ofNat n ∧ bg_v (m.1 (r + 1)) n = v.natAbs ∧ m.1 r 0 = nu_t v ∧ (n = 0 ∨ m.1 (r + 1) (n - 1) ≠ 0)
def bg_B (m : tk_m) (r : Nat) (v : Int) : Prop := ∃ n, bg_N m r n v
def bg_fr (r : Nat) (m m' : tk_m) : Prop := m'.2 = m.2 ∧ ∀ q, q ≠ r → q ≠ r + 1 → m'.1 q = m.1 q
theorem bg_B_k {m m' : tk_m} {r : Nat} {v : Int} (h : bg_B m r v) (h0 : m'.1 r = m.1 r) (h1 : m'.1 (r + 1) = m.1 (r + 1)) : bg_B m' r v := by
  obtain ⟨n, a, b, c, d, e⟩ := h
  exact ⟨n, a, by rw [h0]; exact b, by rw [h1]; exact c, by rw [h0]; exact d, by rw [h1]; exact e⟩
theorem bg_used {m : tk_m} {r n k : Nat} {v : Int} (h : bg_N m r n v) (hv : v.natAbs < 4294967296 ^ k) : n ≤ k := by
  obtain ⟨a, b, c, d, e⟩ := h
  rcases e with e | e
  · omega
  · by_cases hn : n = 0
    · omega
    · obtain ⟨n', rfl⟩ : ∃ n', n = n' + 1 := ⟨n - 1, by omega⟩
      rw [Nat.add_sub_cancel] at e
      rw [bg_vs] at c
      apply Nat.le_of_not_lt
      intro q
      have h1 : 1 ≤ bg_u (m.1 (r + 1) n') := by
        apply Nat.pos_of_ne_zero
        exact fun q2 => e (bg_z.mp q2)
      have h2 : 1 * 4294967296 ^ n' ≤ bg_u (m.1 (r + 1) n') * 4294967296 ^ n' := Nat.mul_le_mul_right _ h1
      have h3 : 4294967296 ^ k ≤ 4294967296 ^ n' := Nat.pow_le_pow_right (by decide) (by omega)
      omega
theorem bg_trim5 (r : Nat) : ∀ (n F : Nat) (m : tk_m), n ≤ 24 → n < F → m.1 r 1 = Int32.ofNat n → ∃ m' n', fB_trim_5 F r m = some m' ∧ m'.2 = m.2 ∧ (∀ q, q ≠ r → m'.1 q = m.1 q) ∧ n' ≤ n ∧ m'.1 r 1 = Int32.ofNat n' ∧ bg_v (m.1 (r + 1)) n' = bg_v (m.1 (r + 1)) n ∧ (n' = 0 ∨ m.1 (r + 1) (n' - 1) ≠ 0) ∧ m'.1 r 0 = if n' = 0 then 0 else m.1 r 0 := by
  intro n
  induction n with
  | zero =>
    intro F m h1 h2 h3
    obtain ⟨F, rfl⟩ : ∃ k, F = k + 1 := ⟨F - 1, by omega⟩
    have e0 : m.1 r 1 = 0 := h3
    unfold fB_trim_5
    rw [if_pos (by rw [e0]; decide)]
    unfold fB_trim_39
    rw [if_pos e0]
    refine ⟨_, 0, rfl, rfl, fun q hq => tk_u2_ne hq, Nat.le_refl 0, ?_, rfl, .inl rfl, ?_⟩
    · dsimp only; rw [tk_u2_nk (by decide)]; exact h3
    · dsimp only; rw [tk_u2_eq, if_pos rfl]
  | succ n ih =>
    intro F m h1 h2 h3
    obtain ⟨F, rfl⟩ : ∃ k, F = k + 1 := ⟨F - 1, by omega⟩
    have e1 : Int32.ofNat (n + 1) - 1 = Int32.ofNat n := by
      rw [Int32.ofNat_add]
      exact Int32.add_sub_cancel _ _
    unfold fB_trim_5
    rw [h3, e1, if_neg (show ¬ Int32.ofNat (n + 1) ≤ 0 from fun q => absurd ((i_le (a := n + 1) (b := 0) (by omega) (by omega)).mp q) (by omega)), if_pos (i_ok (show n < 24 by omega) (by omega)), i_nn (show n < 2147483648 by omega)]
    by_cases hz : m.1 (r + 1) n = 0
    · rw [if_pos hz]
      obtain ⟨m', n', a1, a2, a3, a4, a5, a6, a7, a8⟩ := ih F (tk_u2 m.1 r 1 (Int32.ofNat n), m.2.1, m.2.2.1, m.2.2.2) (by omega) (by omega) (by dsimp only; rw [tk_u2_eq])
      dsimp only at a3 a6 a7 a8
      rw [tk_u2_ne (show r + 1 ≠ r by omega)] at a6 a7
      refine ⟨m', n', a1, a2, fun q hq => by rw [a3 q hq, tk_u2_ne hq], by omega, a5, ?_, a7, ?_⟩
      · rw [a6, bg_vs, hz, show bg_u 0 = 0 from rfl, Nat.zero_mul]; rfl
      · rw [a8, tk_u2_nk (by decide)]
    · rw [if_neg hz]
      unfold fB_trim_39
      rw [if_neg (by rw [h3]; exact fun q => absurd ((i_eq (a := n + 1) (b := 0) (by omega) (by omega)).mp q) (by omega))]
      exact ⟨m, n + 1, rfl, rfl, fun _ _ => rfl, Nat.le_refl _, h3, rfl, .inr hz, by rw [if_neg (by omega)]⟩
theorem bg_trim {r n : Nat} {m : tk_m} {v : Int} (hn : n ≤ 24) (hv : bg_v (m.1 (r + 1)) n = v.natAbs) (hs : v ≠ 0 → m.1 r 0 = nu_t v) : ∃ m', fB_trim r (Int32.ofNat n) m = some m' ∧ bg_B m' r v ∧ m'.2 = m.2 ∧ (∀ q, q ≠ r → m'.1 q = m.1 q) := by
  unfold fB_trim
  obtain ⟨m', n', a1, a2, a3, a4, a5, a6, a7, a8⟩ := bg_trim5 r n tk_F (tk_u2 m.1 r 1 (Int32.ofNat n), m.2.1, m.2.2.1, m.2.2.2) hn (by unfold tk_F; omega) (by dsimp only; rw [tk_u2_eq])
  dsimp only at a3 a6 a7 a8
  rw [tk_u2_ne (show r + 1 ≠ r by omega)] at a6 a7
  have a3' : ∀ q, q ≠ r → m'.1 q = m.1 q := fun q hq => by rw [a3 q hq, tk_u2_ne hq]
  refine ⟨m', a1, ⟨n', by omega, a5, ?_, ?_, ?_⟩, a2, a3'⟩
  · rw [a3' (r + 1) (by omega), a6]; exact hv
  · rw [a8, tk_u2_nk (by decide)]
    by_cases h0 : n' = 0
    · rw [if_pos h0]
      subst h0
      have : v = 0 := by
        have : bg_v (m.1 (r + 1)) 0 = 0 := rfl
        omega
      rw [this]
      rfl
    · rw [if_neg h0]
      apply hs
      intro q
      rcases a7 with a7 | a7
      · exact h0 a7
      · obtain ⟨n2, rfl⟩ : ∃ n2, n' = n2 + 1 := ⟨n' - 1, by omega⟩
        rw [Nat.add_sub_cancel] at a7
        rw [bg_vs, hv, q] at a6
        have h1 : 1 ≤ bg_u (m.1 (r + 1) n2) := Nat.pos_of_ne_zero (fun q2 => a7 (bg_z.mp q2))
        have h2 : 1 * 4294967296 ^ n2 ≤ bg_u (m.1 (r + 1) n2) * 4294967296 ^ n2 := Nat.mul_le_mul_right _ h1
        have h3 : 0 < 4294967296 ^ n2 := Nat.pow_pos (by decide)
        have h4 : Int.natAbs 0 = 0 := rfl
        omega
  · rw [a3' (r + 1) (by omega)]; exact a7
theorem bg_take (r : Nat) (a : Int64) (m : tk_m) : ∃ m', fB_take r a m = some m' ∧ bg_B m' r a.toInt ∧ bg_fr r m m' := by
  have key : ∀ s0 : Int64, bg_U s0 = a.toInt.natAbs → ∃ m', fB_take_12 r a s0 m = some m' ∧ bg_B m' r a.toInt ∧ bg_fr r m m' := by
    intro s0 hs0
    have go : ∀ sg : Int32, (a.toInt ≠ 0 → sg = nu_t a.toInt) → ∃ m', (fB_trim r 2 (tk_u2 (tk_u2 (tk_u2 m.1 (r + 1) 0 (Int64.toInt32 s0)) (r + 1) 1 (Int64.toInt32 (tk_lushr s0 32))) r 0 sg, m.2.1, m.2.2.1, m.2.2.2)).bind (fun o => some o) = some m' ∧ bg_B m' r a.toInt ∧ bg_fr r m m' := by
      intro sg hsg
      obtain ⟨m', b1, b2, b3, b4⟩ := bg_trim (r := r) (n := 2) (v := a.toInt) (m := (tk_u2 (tk_u2 (tk_u2 m.1 (r + 1) 0 (Int64.toInt32 s0)) (r + 1) 1 (Int64.toInt32 (tk_lushr s0 32))) r 0 sg, m.2.1, m.2.2.1, m.2.2.2)) (by decide) (by
        dsimp only
        rw [tk_u2_ne (by omega), bg_vs, bg_vs, tk_u2_eq, tk_u2_nk (by decide), tk_u2_eq, bg_lo, bg_lo, bg_hi, hs0]
        show 0 + _ + _ = _
        have := bg_U_lt s0
        rw [hs0] at this
        rw [Nat.pow_zero, Nat.pow_one, Nat.mul_one, Nat.zero_add]
        omega) (by intro h; dsimp only; rw [tk_u2_eq]; exact hsg h)
      refine ⟨m', ?_, b2, b3, fun q h1 h2 => ?_⟩
      · rw [show (2 : Int32) = Int32.ofNat 2 from rfl, b1]; rfl
      · rw [b4 q h1]; dsimp only; rw [tk_u2_ne h1, tk_u2_ne h2, tk_u2_ne h2]
    unfold fB_take_12
    by_cases h : (0 : Int64) ≤ a
    · rw [if_pos h]
      rw [Int64.le_iff_toInt_le, show (0 : Int64).toInt = 0 from rfl] at h
      apply go
      intro h0
      unfold nu_t
      rw [nu_sg_pos (by omega)]
      rfl
    · rw [if_neg h]
      rw [Int64.le_iff_toInt_le, show (0 : Int64).toInt = 0 from rfl] at h
      apply go
      intro h0
      unfold nu_t
      rw [nu_sg_neg1 (by omega)]
      rfl
  unfold fB_take
  have h1 := bg_toInt a
  have h2 := bg_U_lt a
  by_cases h : (0 : Int64) ≤ a
  · rw [if_pos h]
    rw [Int64.le_iff_toInt_le, show (0 : Int64).toInt = 0 from rfl] at h
    apply key
    split at h1 <;> omega
  · rw [if_neg h]
    rw [Int64.le_iff_toInt_le, show (0 : Int64).toInt = 0 from rfl] at h
    apply key
    have h3 : bg_U (-a) = (18446744073709551616 - bg_U a) % 18446744073709551616 := by
      unfold bg_U
      rw [Int64.toBitVec_neg, BitVec.toNat_neg]
    rw [h3]
    split at h1 <;> omega
theorem bg_limb {m : tk_m} {t n k : Nat} (hn : n ≤ 24) (h : m.1 t 1 = Int32.ofNat n) (hk : k < 1000) : ∃ x, fB_limb t (Int32.ofNat k) m = some x ∧ bg_U x = bg_l (m.1 (t + 1)) n k := by
  unfold fB_limb bg_l
  rw [if_neg (i_neg (by omega)), h]
  by_cases hc : k < n
  · rw [if_neg (fun q => absurd ((i_le (by omega) (by omega)).mp q) (by omega)), if_pos (i_ok (show k < 24 by omega) (by omega)), i_nn (show k < 2147483648 by omega), if_pos hc]
    exact ⟨_, rfl, bg_mask _⟩
  · rw [if_pos ((i_le (by omega) (by omega)).mpr (by omega)), if_neg hc]
    exact ⟨_, rfl, rfl⟩
