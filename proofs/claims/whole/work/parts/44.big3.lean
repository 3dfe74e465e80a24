/-! ===== the class's wide numbers: sums, sizes ===== -/
theorem bg_25 (t a b na nb tp : Nat) (hna : na < tp) (hnb : nb < tp) (htp : tp ≤ 24) (hta2 : t + 1 ≠ a) (htb2 : t + 1 ≠ b) (fa fb : Nat → Int32) : ∀ (j i n : Nat) (c : Int64) (m : tk_m), i + j = tp → j < n → m.1 a 1 = Int32.ofNat na → m.1 b 1 = Int32.ofNat nb → (∀ k, i ≤ k → m.1 (a + 1) k = fa k) → (∀ k, i ≤ k → m.1 (b + 1) k = fb k) → bg_U c ≤ 1 → (i = tp → bg_U c = 0) → bg_v (m.1 (t + 1)) i + bg_U c * 4294967296 ^ i = bg_w fa na i + bg_w fb nb i → ∃ m', fB_addLimbs_25 n t a b (Int32.ofNat tp) c (Int32.ofNat i) m = (fB_trim t (Int32.ofNat tp) m').bind (fun o => some o) ∧ m'.2 = m.2 ∧ (∀ q, q ≠ t + 1 → m'.1 q = m.1 q) ∧ bg_v (m'.1 (t + 1)) tp = bg_w fa na tp + bg_w fb nb tp := by
  intro j
  induction j with
  | zero =>
    intro i n c m h1 h2 h3 h4 h5 h6 h7 h8 h9
    obtain ⟨n, rfl⟩ : ∃ k, n = k + 1 := ⟨n - 1, by omega⟩
    have hp : i = tp := by omega
    subst hp
    unfold fB_addLimbs_25
    rw [if_pos ((i_le (by omega) (by omega)).mpr (by omega))]
    rw [h8 rfl, Nat.zero_mul, Nat.add_zero] at h9
    exact ⟨m, rfl, rfl, fun _ _ => rfl, h9⟩
  | succ j ih =>
    intro i n c m h1 h2 h3 h4 h5 h6 h7 h8 h9
    obtain ⟨n, rfl⟩ : ∃ k, n = k + 1 := ⟨n - 1, by omega⟩
    obtain ⟨o3, l3, u3⟩ := bg_limb (m := m) (t := a) (k := i) (by omega) h3 (by omega)
    obtain ⟨o4, l4, u4⟩ := bg_limb (m := m) (t := b) (k := i) (by omega) h4 (by omega)
    have ua : bg_U o3 = bg_l fa na i := by rw [u3]; unfold bg_l; rw [h5 i (Nat.le_refl i)]
    have ub : bg_U o4 = bg_l fb nb i := by rw [u4]; unfold bg_l; rw [h6 i (Nat.le_refl i)]
    have la := bg_l_lt fa na i
    have lb := bg_l_lt fb nb i
    unfold fB_addLimbs_25
    rw [if_neg (fun q => absurd ((i_le (by omega) (by omega)).mp q) (by omega)), l3, Option.bind_some, l4, Option.bind_some, if_pos (i_ok (show i < 24 by omega) (by omega)), i_nn (show i < 2147483648 by omega), show Int32.ofNat i + 1 = Int32.ofNat (i + 1) from i_add i 1]
    have hS : bg_U (c + (o3 + o4)) = bg_U c + bg_l fa na i + bg_l fb nb i := by
      rw [bg_add, bg_add, ua, ub]
      omega
    generalize c + (o3 + o4) = X at *
    have hlo := bg_lo X
    have hhi := bg_hi X
    obtain ⟨m', g1, g2, g3, g4⟩ := ih (i + 1) n (tk_lushr X 32) (tk_u2 m.1 (t + 1) i (Int64.toInt32 X), m.2.1, m.2.2.1, m.2.2.2) (by omega) (by omega) (by dsimp only; rw [tk_u2_ne (fun q => hta2 q.symm)]; exact h3) (by dsimp only; rw [tk_u2_ne (fun q => htb2 q.symm)]; exact h4) (by
      intro k hk
      dsimp only
      by_cases e : a + 1 = t + 1
      · rw [e, tk_u2_nk (by omega), ← e]; exact h5 k (by omega)
      · rw [tk_u2_ne e]; exact h5 k (by omega)) (by
      intro k hk
      dsimp only
      by_cases e : b + 1 = t + 1
      · rw [e, tk_u2_nk (by omega), ← e]; exact h6 k (by omega)
      · rw [tk_u2_ne e]; exact h6 k (by omega)) (by rw [hhi, hS]; omega) (by
      intro hp
      rw [hhi, hS]
      have z1 : bg_l fa na i = 0 := by unfold bg_l; rw [if_neg (by omega)]
      have z2 : bg_l fb nb i = 0 := by unfold bg_l; rw [if_neg (by omega)]
      rw [z1, z2]
      omega) (by
      dsimp only
      have hx : bg_v (tk_u2 m.1 (t + 1) i (Int64.toInt32 X) (t + 1)) i = bg_v (m.1 (t + 1)) i := bg_v_ext i (fun k hk => tk_u2_nk (by omega))
      rw [bg_vs, tk_u2_eq, hx, hlo, hhi, bg_ws, bg_ws, Nat.pow_succ]
      have hdm := Nat.div_add_mod (bg_U X) 4294967296
      generalize bg_U X / 4294967296 = Q at *
      generalize bg_U X % 4294967296 = R at *
      rw [hS] at hdm
      generalize bg_l fa na i = A at *
      generalize bg_l fb nb i = B at *
      generalize bg_w fa na i = WA at *
      generalize bg_w fb nb i = WB at *
      generalize bg_v (m.1 (t + 1)) i = V at *
      generalize bg_U c = C at *
      generalize 4294967296 ^ i = P at *
      have e1 : (4294967296 * Q + R) * P = (C + A + B) * P := by rw [hdm]
      grind)
    refine ⟨m', g1, g2, fun q hq => ?_, g4⟩
    rw [g3 q hq]
    exact tk_u2_ne hq
theorem bg_11 (t a b na nb : Nat) (hna : na ≤ 24) (hnb : nb ≤ 24) (hta2 : t + 1 ≠ a) (htb2 : t + 1 ≠ b) (fa fb : Nat → Int32) : ∀ (j i n w : Nat) (m : tk_m), i + j = na → j < n → m.1 a 1 = Int32.ofNat na → m.1 b 1 = Int32.ofNat nb → (∀ k, i ≤ k → m.1 (a + 1) k = fa k) → (∀ k, i ≤ k → m.1 (b + 1) k = fb k) → w ≤ 1 → bg_v (m.1 (t + 1)) i + bg_w fb nb i = bg_w fa na i + w * 4294967296 ^ i → ∃ m' w', fB_subtractLimbs_11 n t a b (Int32.ofNat na) (rt_o w) (Int32.ofNat i) m = (fB_trim t (Int32.ofNat na) m').bind (fun o => some o) ∧ m'.2 = m.2 ∧ (∀ q, q ≠ t + 1 → m'.1 q = m.1 q) ∧ bg_v (m'.1 (t + 1)) na + bg_w fb nb na = bg_w fa na na + w' * 4294967296 ^ na := by
  intro j
  induction j with
  | zero =>
    intro i n w m h1 h2 h3 h4 h5 h6 h7 h9
    obtain ⟨n, rfl⟩ : ∃ k, n = k + 1 := ⟨n - 1, by omega⟩
    have hp : i = na := by omega
    subst hp
    unfold fB_subtractLimbs_11
    rw [if_pos ((i_le (by omega) (by omega)).mpr (by omega))]
    exact ⟨m, w, rfl, rfl, fun _ _ => rfl, h9⟩
  | succ j ih =>
    intro i n w m h1 h2 h3 h4 h5 h6 h7 h9
    obtain ⟨n, rfl⟩ : ∃ k, n = k + 1 := ⟨n - 1, by omega⟩
    obtain ⟨o3, l3, u3⟩ := bg_limb (m := m) (t := a) (k := i) hna h3 (by omega)
    obtain ⟨o4, l4, u4⟩ := bg_limb (m := m) (t := b) (k := i) hnb h4 (by omega)
    have ua : bg_U o3 = bg_l fa na i := by rw [u3]; unfold bg_l; rw [h5 i (Nat.le_refl i)]
    have ub : bg_U o4 = bg_l fb nb i := by rw [u4]; unfold bg_l; rw [h6 i (Nat.le_refl i)]
    have la := bg_l_lt fa na i
    have lb := bg_l_lt fb nb i
    have t3 : o3.toInt = (bg_l fa na i : Int) := by rw [bg_toInt, ua, if_pos (by omega)]
    have t4 : o4.toInt = (bg_l fb nb i : Int) := by rw [bg_toInt, ub, if_pos (by omega)]
    have tw : (rt_o w).toInt = (w : Int) := rt_i (by omega)
    have t34 : (o3 - o4).toInt = o3.toInt - o4.toInt := lo_sub (by constructor <;> omega)
    have tX : (o3 - o4 - rt_o w).toInt = (bg_l fa na i : Int) - bg_l fb nb i - w := by
      rw [lo_sub (by rw [t34]; constructor <;> omega), t34, t3, t4, tw]
    unfold fB_subtractLimbs_11
    rw [if_neg (fun q => absurd ((i_le (by omega) (by omega)).mp q) (by omega)), l3, Option.bind_some, l4, Option.bind_some, if_pos (i_ok (show i < 24 by omega) (by omega)), i_nn (show i < 2147483648 by omega), show Int32.ofNat i + 1 = Int32.ofNat (i + 1) from i_add i 1]
    generalize o3 - o4 - rt_o w = X at *
    have hlo := bg_lo X
    have hX2 := bg_toInt X
    have hX3 := bg_U_lt X
    have key : ∀ w' : Nat, w' ≤ 1 → (bg_u (Int64.toInt32 X) : Int) = (bg_l fa na i : Int) - bg_l fb nb i - w + w' * 4294967296 → ∃ m' w'', fB_subtractLimbs_11 n t a b (Int32.ofNat na) (rt_o w') (Int32.ofNat (i + 1)) (tk_u2 m.1 (t + 1) i (Int64.toInt32 X), m.2.1, m.2.2.1, m.2.2.2) = (fB_trim t (Int32.ofNat na) m').bind (fun o => some o) ∧ m'.2 = m.2 ∧ (∀ q, q ≠ t + 1 → m'.1 q = m.1 q) ∧ bg_v (m'.1 (t + 1)) na + bg_w fb nb na = bg_w fa na na + w'' * 4294967296 ^ na := by
      intro w' hw' hnew
      obtain ⟨m', w'', g1, g2, g3, g4⟩ := ih (i + 1) n w' (tk_u2 m.1 (t + 1) i (Int64.toInt32 X), m.2.1, m.2.2.1, m.2.2.2) (by omega) (by omega) (by dsimp only; rw [tk_u2_ne (fun q => hta2 q.symm)]; exact h3) (by dsimp only; rw [tk_u2_ne (fun q => htb2 q.symm)]; exact h4) (by
        intro k hk
        dsimp only
        by_cases e : a + 1 = t + 1
        · rw [e, tk_u2_nk (by omega), ← e]; exact h5 k (by omega)
        · rw [tk_u2_ne e]; exact h5 k (by omega)) (by
        intro k hk
        dsimp only
        by_cases e : b + 1 = t + 1
        · rw [e, tk_u2_nk (by omega), ← e]; exact h6 k (by omega)
        · rw [tk_u2_ne e]; exact h6 k (by omega)) hw' (by
        dsimp only
        have hx : bg_v (tk_u2 m.1 (t + 1) i (Int64.toInt32 X) (t + 1)) i = bg_v (m.1 (t + 1)) i := bg_v_ext i (fun k hk => tk_u2_nk (by omega))
        rw [bg_vs, tk_u2_eq, hx, bg_ws, bg_ws, Nat.pow_succ]
        generalize bg_u (Int64.toInt32 X) = N at *
        generalize bg_l fa na i = A at *
        generalize bg_l fb nb i = B at *
        generalize bg_w fa na i = WA at *
        generalize bg_w fb nb i = WB at *
        generalize bg_v (m.1 (t + 1)) i = V at *
        generalize 4294967296 ^ i = P at *
        have e0 : N + B + w = A + w' * 4294967296 := by omega
        have e1 : (N + B + w) * P = (A + w' * 4294967296) * P := by rw [e0]
        grind)
      refine ⟨m', w'', g1, g2, fun q hq => ?_, g4⟩
      rw [g3 q hq]
      exact tk_u2_ne hq
    by_cases hc : (0 : Int64) ≤ X
    · rw [if_pos hc]
      rw [Int64.le_iff_toInt_le, show (0 : Int64).toInt = 0 from rfl] at hc
      refine key 0 (by omega) ?_
      rw [hlo]
      split at hX2 <;> omega
    · rw [if_neg hc]
      rw [Int64.le_iff_toInt_le, show (0 : Int64).toInt = 0 from rfl] at hc
      refine key 1 (by omega) ?_
      rw [hlo]
      split at hX2 <;> omega
theorem bg_cJ {x y : Int64} {a b : Nat} (hx : bg_U x = a) (hy : bg_U y = b) (ha : a < 4294967296) (hb : b < 4294967296) : fZ_compare_J x y = nu_t ((a : Int) - b) := by
  have tx : x.toInt = (a : Int) := by rw [bg_toInt, hx, if_pos (by omega)]
  have ty : y.toInt = (b : Int) := by rw [bg_toInt, hy, if_pos (by omega)]
  unfold fZ_compare_J nu_t
  by_cases h : y ≤ x
  · rw [if_pos h]
    rw [Int64.le_iff_toInt_le] at h
    by_cases e : x = y
    · rw [if_pos e]
      rw [e] at tx
      rw [show (a : Int) - b = 0 by omega]
      rfl
    · rw [if_neg e]
      have : x.toInt ≠ y.toInt := fun q => e (lo_ext q)
      rw [nu_sg_pos (by omega)]
      rfl
  · rw [if_neg h]
    rw [Int64.le_iff_toInt_le] at h
    rw [nu_sg_neg1 (by omega)]
    rfl
theorem bg_14 (a b na nb : Nat) (m : tk_m) (hna : na ≤ 24) (hnb : nb ≤ 24) (h3 : m.1 a 1 = Int32.ofNat na) (h4 : m.1 b 1 = Int32.ofNat nb) : ∀ (k n : Nat), k ≤ 24 → k < n → fB_sizeAgainst_14 n a b (Int32.ofInt ((k : Int) - 1)) m = some (nu_t ((bg_w (m.1 (a + 1)) na k : Int) - bg_w (m.1 (b + 1)) nb k)) := by
  intro k
  induction k with
  | zero =>
    intro n h1 h2
    obtain ⟨n, rfl⟩ : ∃ k, n = k + 1 := ⟨n - 1, by omega⟩
    unfold fB_sizeAgainst_14
    rw [if_pos (by decide)]
    rfl
  | succ k ih =>
    intro n h1 h2
    obtain ⟨n, rfl⟩ : ∃ k, n = k + 1 := ⟨n - 1, by omega⟩
    have e1 : Int32.ofInt (((k + 1 : Nat) : Int) - 1) = Int32.ofNat k := by
      rw [show ((k + 1 : Nat) : Int) - 1 = (k : Int) by omega]; rfl
    have e2 : Int32.ofNat k + -1 = Int32.ofInt ((k : Int) - 1) := by
      rw [Int.sub_eq_add_neg, Int32.ofInt_add]; rfl
    obtain ⟨o3, l3, u3⟩ := bg_limb (m := m) (t := a) (k := k) hna h3 (by omega)
    obtain ⟨o4, l4, u4⟩ := bg_limb (m := m) (t := b) (k := k) hnb h4 (by omega)
    have la := bg_l_lt (m.1 (a + 1)) na k
    have lb := bg_l_lt (m.1 (b + 1)) nb k
    have hfl := bg_w_lt (m.1 (a + 1)) na k
    have hgl := bg_w_lt (m.1 (b + 1)) nb k
    unfold fB_sizeAgainst_14
    rw [e1, if_neg (i_neg (by omega)), l3, Option.bind_some, l4, Option.bind_some, bg_cJ u3 u4 la lb, bg_ws, bg_ws]
    generalize bg_l (m.1 (a + 1)) na k = A at *
    generalize bg_l (m.1 (b + 1)) nb k = B at *
    by_cases he : A = B
    · rw [if_pos (nu_tz.mpr (by omega)), e2, ih n (by omega) (by omega), he]
      congr 2
      omega
    · rw [if_neg (fun q => by have := nu_tz.mp q; omega)]
      refine congrArg some (nu_tq.mpr ?_)
      generalize bg_w (m.1 (a + 1)) na k = F at *
      generalize bg_w (m.1 (b + 1)) nb k = G at *
      generalize 4294967296 ^ k = P at *
      by_cases hc : B < A
      · obtain ⟨d, hd⟩ : ∃ d, A = B + 1 + d := ⟨A - B - 1, by omega⟩
        rw [nu_sg_pos (by omega), hd, Nat.add_mul, Nat.add_mul, nu_sg_pos (by omega)]
      · obtain ⟨d, hd⟩ : ∃ d, B = A + 1 + d := ⟨B - A - 1, by omega⟩
        rw [nu_sg_neg1 (by omega), hd, Nat.add_mul, Nat.add_mul, nu_sg_neg1 (by omega)]
theorem bg_max {a b : Nat} (ha : a ≤ 24) (hb : b ≤ 24) : fZ_max_I (Int32.ofNat a) (Int32.ofNat b) = Int32.ofNat (max a b) := by
  unfold fZ_max_I
  by_cases h : a < b
  · rw [if_pos ((i_lt (by omega) (by omega)).mpr h), Nat.max_eq_right (by omega)]
  · rw [if_neg (fun q => h ((i_lt (by omega) (by omega)).mp q)), Nat.max_eq_left (by omega)]
/-- which size is greater -/
theorem bg_size {a b : Nat} {m : tk_m} {u v : Int} (ha : bg_B m a u) (hb : bg_B m b v) : fB_sizeAgainst a b m = some (nu_t ((u.natAbs : Int) - v.natAbs)) := by
  obtain ⟨na, a1, a2, a3, a4, a5⟩ := ha
  obtain ⟨nb, b1, b2, b3, b4, b5⟩ := hb
  have hm : max na nb ≤ 24 := Nat.max_le.mpr ⟨a1, b1⟩
  have e : Int32.ofNat (max na nb) - 1 = Int32.ofInt (((max na nb : Nat) : Int) - 1) := by
    rw [Int32.ofInt_sub]; rfl
  have := bg_14 a b na nb m a1 b1 a2 b2 (max na nb) tk_F hm (by unfold tk_F; omega)
  unfold fB_sizeAgainst
  rw [a2, b2, bg_max a1 b1, e, this, bg_w_gt (Nat.le_max_left na nb), bg_w_gt (Nat.le_max_right na nb), a3, b3]
/-- t takes a and s times b; t may be a or b -/
theorem bg_sum {t a b k : Nat} {m : tk_m} {u v s : Int} (hs : s = 1 ∨ s = -1) (ha : bg_B m a u) (hb : bg_B m b v) (hk : k ≤ 23) (hu : u.natAbs < 4294967296 ^ k) (hv : v.natAbs < 4294967296 ^ k) (d3 : t + 1 ≠ a) (d4 : t + 1 ≠ b) (d5 : t ≠ a + 1) (d6 : t ≠ b + 1) : ∃ m', fB_takeSum t a (Int32.ofInt s) b m = some m' ∧ bg_B m' t (u + s * v) ∧ bg_fr t m m' := by
  have hsz := bg_size ha hb
  obtain ⟨na, Na⟩ := ha
  obtain ⟨nb, Nb⟩ := hb
  have la := bg_used Na hu
  have lb := bg_used Nb hv
  obtain ⟨a1, a2, a3, a4, a5⟩ := Na
  obtain ⟨b1, b2, b3, b4, b5⟩ := Nb
  have hsv : Int32.ofInt s * nu_t v = nu_t (s * v) := by
    rw [← nu_tm]
    congr 1
    rcases hs with h | h <;> rw [h] <;> rfl
  have hav : (s * v).natAbs = v.natAbs := by rcases hs with h | h <;> rw [h] <;> omega
  generalize hw : s * v = w at *
  -- adding
  have add : ∀ sg : Int32, sg = nu_t (u + w) → (u + w).natAbs = u.natAbs + v.natAbs → ∃ m', (fB_addLimbs t a b (tk_u2 m.1 t 0 sg, m.2.1, m.2.2.1, m.2.2.2)).bind (fun o => some o) = some m' ∧ bg_B m' t (u + w) ∧ bg_fr t m m' := by
    intro sg hsg hval
    have hlen : ∀ x, tk_u2 m.1 t 0 sg x 1 = m.1 x 1 := fun x => by
      by_cases e : x = t
      · subst e; rw [tk_u2_nk (by decide)]
      · rw [tk_u2_ne e]
    have hm : max na nb ≤ 23 := Nat.max_le.mpr ⟨by omega, by omega⟩
    unfold fB_addLimbs
    have hmin : fZ_min_I (fZ_max_I (tk_u2 m.1 t 0 sg a 1) (tk_u2 m.1 t 0 sg b 1) + 1) 24 = Int32.ofNat (max na nb + 1) := by
      rw [hlen, hlen, a2, b2, bg_max a1 b1, show Int32.ofNat (max na nb) + 1 = Int32.ofNat (max na nb + 1) from i_add _ 1]
      unfold fZ_min_I
      rw [if_neg (show ¬ (24 : Int32) < Int32.ofNat (max na nb + 1) from fun q => absurd ((i_lt (a := 24) (by omega) (by omega)).mp q) (by omega))]
    dsimp only
    rw [hmin]
    obtain ⟨m1, g1, g2, g3, g4⟩ := bg_25 t a b na nb (max na nb + 1) (by have := Nat.le_max_left na nb; omega) (by have := Nat.le_max_right na nb; omega) (by omega) d3 d4 (m.1 (a + 1)) (m.1 (b + 1)) (max na nb + 1) 0 tk_F 0 (tk_u2 m.1 t 0 sg, m.2.1, m.2.2.1, m.2.2.2) (by omega) (by unfold tk_F; omega) (by dsimp only; rw [hlen]; exact a2) (by dsimp only; rw [hlen]; exact b2) (by intro k _; dsimp only; rw [tk_u2_ne (fun q => d5 q.symm)]) (by intro k _; dsimp only; rw [tk_u2_ne (fun q => d6 q.symm)]) (by decide) (by intro _; rfl) rfl
    rw [show Int32.ofNat 0 = 0 from rfl] at g1
    rw [g1]
    rw [bg_w_gt (by have := Nat.le_max_left na nb; omega), bg_w_gt (by have := Nat.le_max_right na nb; omega), a3, b3] at g4
    obtain ⟨m', k1, k2, k3, k4⟩ := bg_trim (r := t) (n := max na nb + 1) (v := u + w) (m := m1) (by omega) (by rw [g4, hval]) (by intro _; rw [g3 t (by omega)]; dsimp only; rw [tk_u2_eq]; exact hsg)
    refine ⟨m', by rw [k1]; rfl, k2, by rw [k3, g2], fun q h1 h2 => ?_⟩
    rw [k4 q h1, g3 q h2]; dsimp only; rw [tk_u2_ne h1]
  -- taking off: x less y, x the greater
  have sub : ∀ (x y nx ny : Nat) (p q : Int) (sg : Int32), nx ≤ 24 → ny ≤ 24 → m.1 x 1 = Int32.ofNat nx → m.1 y 1 = Int32.ofNat ny → bg_v (m.1 (x + 1)) nx = p.natAbs → bg_v (m.1 (y + 1)) ny = q.natAbs → (ny = 0 ∨ m.1 (y + 1) (ny - 1) ≠ 0) → t + 1 ≠ x → t + 1 ≠ y → t ≠ x + 1 → t ≠ y + 1 → q.natAbs ≤ p.natAbs → (u + w).natAbs = p.natAbs - q.natAbs → (u + w ≠ 0 → sg = nu_t (u + w)) → ∃ m', (fB_subtractLimbs t x y (tk_u2 m.1 t 0 sg, m.2.1, m.2.2.1, m.2.2.2)).bind (fun o => some o) = some m' ∧ bg_B m' t (u + w) ∧ bg_fr t m m' := by
    intro x y nx ny p q sg hx hy x2 y2 x3 y3 y5 e3 e4 e5 e6 hpq hval hsg
    have hlen : ∀ z, tk_u2 m.1 t 0 sg z 1 = m.1 z 1 := fun z => by
      by_cases e : z = t
      · subst e; rw [tk_u2_nk (by decide)]
      · rw [tk_u2_ne e]
    have hny : ny ≤ nx := by
      rcases y5 with h | h
      · omega
      · by_cases h0 : ny = 0
        · omega
        · obtain ⟨n2, rfl⟩ : ∃ n2, ny = n2 + 1 := ⟨ny - 1, by omega⟩
          rw [Nat.add_sub_cancel] at h
          rw [bg_vs] at y3
          have h1 : 1 ≤ bg_u (m.1 (y + 1) n2) := Nat.pos_of_ne_zero (fun q2 => h (bg_z.mp q2))
          have h2 : 1 * 4294967296 ^ n2 ≤ bg_u (m.1 (y + 1) n2) * 4294967296 ^ n2 := Nat.mul_le_mul_right _ h1
          have h3 := bg_v_lt (m.1 (x + 1)) nx
          apply Nat.le_of_not_lt
          intro hlt
          have h4 : 4294967296 ^ nx ≤ 4294967296 ^ n2 := Nat.pow_le_pow_right (by decide) (by omega)
          omega
    unfold fB_subtractLimbs
    dsimp only
    rw [hlen, x2]
    obtain ⟨m1, w', g1, g2, g3, g4⟩ := bg_11 t x y nx ny hx hy e3 e4 (m.1 (x + 1)) (m.1 (y + 1)) nx 0 tk_F 0 (tk_u2 m.1 t 0 sg, m.2.1, m.2.2.1, m.2.2.2) (by omega) (by unfold tk_F; omega) (by dsimp only; rw [hlen]; exact x2) (by dsimp only; rw [hlen]; exact y2) (by intro k _; dsimp only; rw [tk_u2_ne (fun q => e5 q.symm)]) (by intro k _; dsimp only; rw [tk_u2_ne (fun q => e6 q.symm)]) (by decide) rfl
    rw [show Int32.ofNat 0 = 0 from rfl, show rt_o 0 = 0 from rfl] at g1
    rw [g1]
    rw [bg_w_gt (Nat.le_refl nx), bg_w_gt hny, x3, y3] at g4
    have hlt := bg_v_lt (m1.1 (t + 1)) nx
    have hw' : w' = 0 := by
      apply Nat.eq_zero_of_not_pos
      intro h
      have : 1 * 4294967296 ^ nx ≤ w' * 4294967296 ^ nx := Nat.mul_le_mul_right _ h
      omega
    rw [hw', Nat.zero_mul] at g4
    obtain ⟨m', k1, k2, k3, k4⟩ := bg_trim (r := t) (n := nx) (v := u + w) (m := m1) (by omega) (by omega) (by intro h; rw [g3 t (by omega)]; dsimp only; rw [tk_u2_eq]; exact hsg h)
    refine ⟨m', by rw [k1]; rfl, k2, by rw [k3, g2], fun q h1 h2 => ?_⟩
    rw [k4 q h1, g3 q h2]; dsimp only; rw [tk_u2_ne h1]
  unfold fB_takeSum
  rw [a4, b4, hsv, nu_tm]
  by_cases hlike : u * w < 0
  · rw [if_pos (nu_tl.mpr hlike), hsz, Option.bind_some]
    have huv : (0 < u ∧ w < 0) ∨ (u < 0 ∧ 0 < w) := by
      rcases Int.lt_trichotomy u 0 with a | a | a
      · rcases Int.lt_trichotomy w 0 with b | b | b
        · have := Int.mul_pos_of_neg_of_neg a b; omega
        · rw [b] at hlike; omega
        · exact .inr ⟨a, b⟩
      · rw [a] at hlike; omega
      · rcases Int.lt_trichotomy w 0 with b | b | b
        · exact .inl ⟨a, b⟩
        · rw [b] at hlike; omega
        · have := Int.mul_pos a b; omega
    by_cases hlt : (u.natAbs : Int) - v.natAbs < 0
    · rw [if_pos (nu_tl.mpr hlt)]
      refine sub b a nb na v u _ b1 a1 b2 a2 b3 a3 a5 d4 d3 d6 d5 (by omega) (by omega) (fun _ => ?_)
      rw [nu_tq]
      rcases huv with ⟨a, b⟩ | ⟨a, b⟩
      · rw [nu_sg_neg1 b, nu_sg_neg1 (by omega)]
      · rw [nu_sg_pos b, nu_sg_pos (by omega)]
    · rw [if_neg (fun q => hlt (nu_tl.mp q))]
      refine sub a b na nb u v _ a1 b1 a2 b2 a3 b3 b5 d3 d4 d5 d6 (by omega) (by omega) (fun h0 => ?_)
      rw [nu_tq]
      rcases huv with ⟨a, b⟩ | ⟨a, b⟩
      · rw [nu_sg_pos a, nu_sg_pos (by omega)]
      · rw [nu_sg_neg1 a, nu_sg_neg1 (by omega)]
  · rw [if_neg (fun q => hlike (nu_tl.mp q))]
    have huv : (u + w).natAbs = u.natAbs + v.natAbs := by
      rcases Int.lt_trichotomy u 0 with a | a | a
      · rcases Int.lt_trichotomy w 0 with b | b | b
        · omega
        · omega
        · have := Int.mul_neg_of_neg_of_pos a b; omega
      · omega
      · rcases Int.lt_trichotomy w 0 with b | b | b
        · have := Int.mul_neg_of_pos_of_neg a b; omega
        · omega
        · omega
    by_cases hu0 : u = 0
    · rw [if_pos (nu_tz.mpr hu0)]
      exact add _ (by rw [hu0, Int.zero_add]) huv
    · rw [if_neg (fun q => hu0 (nu_tz.mp q))]
      refine add _ ?_ huv
      rw [nu_tq]
      rcases Int.lt_trichotomy u 0 with a | a | a
      · rw [nu_sg_neg1 a, nu_sg_neg1 (by omega)]
      · exact absurd a hu0
      · rw [nu_sg_pos a, nu_sg_pos (by omega)]
