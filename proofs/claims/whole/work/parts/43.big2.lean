/-! ===== the class's wide numbers: products, sums, sizes ===== -/
theorem bg_carry {c o3 o4 l : Nat} {x y z w : Int64} (hc : bg_U x = c) (h3 : bg_U y = o3) (h4 : bg_U z = o4) (hl : bg_U w = l) (c1 : c < 4294967296) (a1 : o3 < 4294967296) (b1 : o4 < 4294967296) (l1 : l < 4294967296) : bg_U (x + (y * z + w)) = c + o3 * o4 + l := by
  have h5 : o3 * o4 ≤ 4294967295 * 4294967295 := Nat.mul_le_mul (by omega) (by omega)
  rw [bg_add, bg_add, bg_mul, hc, h3, h4, hl]
  omega
theorem bg_56 (r : Nat → Nat → Nat → Int32 → Int32 → tk_m → Option tk_m) (t a b na nb : Nat) (i : Nat) (hna : na ≤ 24) (hnb : nb ≤ 24) (hn : na + nb ≤ 24) (hi : i < na) (hta : t + 1 ≠ a + 1) (htb : t + 1 ≠ b + 1) (hta2 : t + 1 ≠ a) (htb2 : t + 1 ≠ b) (fa fb : Nat → Int32) (T0 : Nat) : ∀ (j n : Nat) (c : Int64) (p : Nat) (m : tk_m), p + j = nb + 1 → j < n → m.1 a 1 = Int32.ofNat na → m.1 b 1 = Int32.ofNat nb → m.1 (a + 1) = fa → m.1 (b + 1) = fb → bg_U c < 4294967296 → (∀ k, i + nb ≤ k → i + p ≤ k → k < na + nb → m.1 (t + 1) k = 0) → (p = nb + 1 → bg_U c = 0) → bg_v (m.1 (t + 1)) (na + nb) + bg_U c * 4294967296 ^ (i + p) = T0 + bg_u (fa i) * bg_w fb nb p * 4294967296 ^ i → ∃ m', fB_takeProduct_56 r n t a b (Int32.ofNat (na + nb)) (Int32.ofNat i) c (Int32.ofNat p) m = r t a b (Int32.ofNat (na + nb)) (Int32.ofNat (i + 1)) m' ∧ m'.2 = m.2 ∧ (∀ q, q ≠ t + 1 → m'.1 q = m.1 q) ∧ (∀ k, i + 1 + nb ≤ k → k < na + nb → m'.1 (t + 1) k = 0) ∧ bg_v (m'.1 (t + 1)) (na + nb) = T0 + bg_u (fa i) * bg_v fb nb * 4294967296 ^ i := by
  intro j
  induction j with
  | zero =>
    intro n c p m h1 h2 h3 h4 h5 h6 h7 h8 h9 h10
    obtain ⟨n, rfl⟩ : ∃ k, n = k + 1 := ⟨n - 1, by omega⟩
    have hp : p = nb + 1 := by omega
    subst hp
    unfold fB_takeProduct_56
    rw [h4, if_pos ((i_lt (by omega) (by omega)).mpr (by omega)), show Int32.ofNat i + 1 = Int32.ofNat (i + 1) from i_add i 1]
    rw [h9 rfl, Nat.zero_mul, Nat.add_zero, bg_w_gt (show nb ≤ nb + 1 by omega)] at h10
    exact ⟨m, rfl, rfl, fun _ _ => rfl, fun k k1 k2 => h8 k (by omega) (by omega) k2, h10⟩
  | succ j ih =>
    intro n c p m h1 h2 h3 h4 h5 h6 h7 h8 h9 h10
    obtain ⟨n, rfl⟩ : ∃ k, n = k + 1 := ⟨n - 1, by omega⟩
    obtain ⟨o3, l3, u3⟩ := bg_limb (m := m) (t := a) (k := i) hna h3 (by omega)
    obtain ⟨o4, l4, u4⟩ := bg_limb (m := m) (t := b) (k := p) hnb h4 (by omega)
    unfold fB_takeProduct_56
    rw [h4, if_neg (fun q => absurd ((i_lt (by omega) (by omega)).mp q) (by omega)), show Int32.ofNat i + Int32.ofNat p = Int32.ofNat (i + p) from i_add i p, if_neg (fun q => absurd ((i_le (by omega) (by omega)).mp q) (by omega)), l3, Option.bind_some, l4, Option.bind_some, if_pos (i_ok (show i + p < 24 by omega) (by omega)), i_nn (show i + p < 2147483648 by omega), show Int32.ofNat p + 1 = Int32.ofNat (p + 1) from i_add p 1]
    rw [h5] at u3
    rw [h6] at u4
    have ua : bg_U o3 = bg_u (fa i) := by rw [u3]; unfold bg_l; rw [if_pos hi]
    have hS := bg_carry (c := bg_U c) (o3 := bg_u (fa i)) (o4 := bg_l fb nb p) (l := bg_u (m.1 (t + 1) (i + p))) rfl ua u4 (bg_mask _) h7 (bg_u_lt _) (bg_l_lt _ _ _) (bg_u_lt _)
    generalize hX : c + (o3 * o4 + (Int32.toInt64 (m.1 (t + 1) (i + p)) &&& 4294967295)) = X at *
    have hlo := bg_lo X
    have hhi := bg_hi X
    have hUX := bg_U_lt X
    have hnew : ∀ k, k ≠ i + p → tk_u2 m.1 (t + 1) (i + p) (Int64.toInt32 X) (t + 1) k = m.1 (t + 1) k := fun k hk => tk_u2_nk hk
    have hupd := bg_v_upd (f := m.1 (t + 1)) (g := tk_u2 m.1 (t + 1) (i + p) (Int64.toInt32 X) (t + 1)) (p := i + p) hnew (na + nb) (by omega)
    rw [tk_u2_eq, hlo] at hupd
    obtain ⟨m', g1, g2, g3, g4, g5⟩ := ih n (tk_lushr X 32) (p + 1) (tk_u2 m.1 (t + 1) (i + p) (Int64.toInt32 X), m.2.1, m.2.2.1, m.2.2.2) (by omega) (by omega) (by dsimp only; rw [tk_u2_ne (fun q => hta2 q.symm)]; exact h3) (by dsimp only; rw [tk_u2_ne (fun q => htb2 q.symm)]; exact h4) (by dsimp only; rw [tk_u2_ne (fun q => hta q.symm)]; exact h5) (by dsimp only; rw [tk_u2_ne (fun q => htb q.symm)]; exact h6) (by rw [hhi]; omega) (by
      intro k k1 k2 k3
      dsimp only
      rw [tk_u2_nk (by omega)]
      exact h8 k k1 (by omega) k3) (by
      intro hp
      have hp2 : p = nb := by omega
      rw [hhi, hS]
      have z1 : bg_l fb nb p = 0 := by unfold bg_l; rw [if_neg (by omega)]
      have z2 : m.1 (t + 1) (i + p) = 0 := h8 (i + p) (by omega) (by omega) (by omega)
      rw [z1, z2, Nat.mul_zero, Nat.add_zero, show bg_u 0 = 0 from rfl, Nat.add_zero]
      omega) (by
      dsimp only
      rw [hhi, bg_ws, show i + (p + 1) = (i + p) + 1 by omega, Nat.pow_succ]
      have hdm := Nat.div_add_mod (bg_U X) 4294967296
      have hp2 : 4294967296 ^ (i + p) = 4294967296 ^ i * 4294967296 ^ p := Nat.pow_add _ _ _
      generalize bg_v (tk_u2 m.1 (t + 1) (i + p) (Int64.toInt32 X) (t + 1)) (na + nb) = T1 at *
      generalize bg_v (m.1 (t + 1)) (na + nb) = T at *
      generalize bg_U X / 4294967296 = Q at *
      generalize bg_U X % 4294967296 = R at *
      rw [hS] at hdm
      generalize bg_u (m.1 (t + 1) (i + p)) = l at *
      generalize bg_u (fa i) = A at *
      generalize bg_l fb nb p = Bp at *
      generalize bg_w fb nb p = W at *
      generalize bg_U c = C at *
      generalize 4294967296 ^ (i + p) = P at *
      generalize 4294967296 ^ i = Pi at *
      generalize 4294967296 ^ p = Pp at *
      have e1 : (4294967296 * Q + R) * P = (C + A * Bp + l) * P := by rw [hdm]
      have e2 : A * (W + Bp * Pp) * Pi = A * W * Pi + A * Bp * P := by rw [hp2]; grind
      rw [e2]
      grind)
    refine ⟨m', g1, g2, fun q hq => ?_, g4, g5⟩
    rw [g3 q hq]
    exact tk_u2_ne hq
theorem bg_41 (t a b na nb : Nat) (hna : na ≤ 24) (hnb : nb ≤ 24) (hn : na + nb ≤ 24) (hta : t + 1 ≠ a + 1) (htb : t + 1 ≠ b + 1) (hta2 : t + 1 ≠ a) (htb2 : t + 1 ≠ b) (fa fb : Nat → Int32) : ∀ (j i n : Nat) (m : tk_m), i + j = na → j < n → m.1 a 1 = Int32.ofNat na → m.1 b 1 = Int32.ofNat nb → m.1 (a + 1) = fa → m.1 (b + 1) = fb → (∀ k, i + nb ≤ k → k < na + nb → m.1 (t + 1) k = 0) → bg_v (m.1 (t + 1)) (na + nb) = bg_v fa i * bg_v fb nb → ∃ m', fB_takeProduct_41 n t a b (Int32.ofNat (na + nb)) (Int32.ofNat i) m = fB_takeProduct_140 t a b (Int32.ofNat (na + nb)) m' ∧ m'.2 = m.2 ∧ (∀ q, q ≠ t + 1 → m'.1 q = m.1 q) ∧ bg_v (m'.1 (t + 1)) (na + nb) = bg_v fa na * bg_v fb nb := by
  intro j
  induction j with
  | zero =>
    intro i n m h1 h2 h3 h4 h5 h6 h7 h8
    obtain ⟨n, rfl⟩ : ∃ k, n = k + 1 := ⟨n - 1, by omega⟩
    have hp : i = na := by omega
    subst hp
    unfold fB_takeProduct_41
    rw [h3, if_pos ((i_le (by omega) (by omega)).mpr (by omega))]
    exact ⟨m, rfl, rfl, fun _ _ => rfl, h8⟩
  | succ j ih =>
    intro i n m h1 h2 h3 h4 h5 h6 h7 h8
    obtain ⟨n, rfl⟩ : ∃ k, n = k + 1 := ⟨n - 1, by omega⟩
    unfold fB_takeProduct_41
    rw [h3, if_neg (fun q => absurd ((i_le (by omega) (by omega)).mp q) (by omega))]
    obtain ⟨m1, g1, g2, g3, g4, g5⟩ := bg_56 (fB_takeProduct_41 n) t a b na nb i hna hnb hn (by omega) hta htb hta2 htb2 fa fb (bg_v fa i * bg_v fb nb) (nb + 1) tk_F 0 0 m (by omega) (by unfold tk_F; omega) h3 h4 h5 h6 (by decide) (fun k k1 _ k3 => h7 k k1 k3) (by omega) (by
      rw [h8]
      show _ + 0 * _ = _ + _ * 0 * _
      rw [Nat.zero_mul, Nat.mul_zero, Nat.zero_mul])
    rw [show Int32.ofNat 0 = 0 from rfl] at g1
    rw [g1]
    obtain ⟨m', k1, k2, k3, k4⟩ := ih (i + 1) n m1 (by omega) (by omega) (by rw [g3 a (fun q => hta2 q.symm)]; exact h3) (by rw [g3 b (fun q => htb2 q.symm)]; exact h4) (by rw [g3 (a + 1) (fun q => hta q.symm)]; exact h5) (by rw [g3 (b + 1) (fun q => htb q.symm)]; exact h6) g4 (by
      rw [g5, bg_vs]
      grind)
    exact ⟨m', k1, by rw [k2, g2], fun q hq => by rw [k3 q hq, g3 q hq], k4⟩
theorem bg_18 (t a b tp : Nat) (htp : tp ≤ 24) : ∀ (j i n : Nat) (m : tk_m), i + j = tp → j < n → (∀ k, k < i → m.1 (t + 1) k = 0) → ∃ m', fB_takeProduct_18 n t a b (Int32.ofNat tp) (Int32.ofNat i) m = fB_takeProduct_41 tk_F t a b (Int32.ofNat tp) 0 m' ∧ m'.2 = m.2 ∧ (∀ q, q ≠ t + 1 → m'.1 q = m.1 q) ∧ (∀ k, k < tp → m'.1 (t + 1) k = 0) := by
  intro j
  induction j with
  | zero =>
    intro i n m h1 h2 h3
    obtain ⟨n, rfl⟩ : ∃ k, n = k + 1 := ⟨n - 1, by omega⟩
    unfold fB_takeProduct_18
    rw [if_pos ((i_le (by omega) (by omega)).mpr (by omega))]
    exact ⟨m, rfl, rfl, fun _ _ => rfl, fun k hk => h3 k (by omega)⟩
  | succ j ih =>
    intro i n m h1 h2 h3
    obtain ⟨n, rfl⟩ : ∃ k, n = k + 1 := ⟨n - 1, by omega⟩
    unfold fB_takeProduct_18
    rw [if_neg (fun q => absurd ((i_le (by omega) (by omega)).mp q) (by omega)), if_pos (i_ok (show i < 24 by omega) (by omega)), i_nn (show i < 2147483648 by omega), show Int32.ofNat i + 1 = Int32.ofNat (i + 1) from i_add i 1]
    obtain ⟨m', k1, k2, k3, k4⟩ := ih (i + 1) n (tk_u2 m.1 (t + 1) i 0, m.2.1, m.2.2.1, m.2.2.2) (by omega) (by omega) (by
      intro k hk
      dsimp only
      by_cases e : k = i
      · subst e; rw [tk_u2_eq]
      · rw [tk_u2_nk e]; exact h3 k (by omega))
    exact ⟨m', k1, k2, fun q hq => by rw [k3 q hq]; exact tk_u2_ne hq, k4⟩
theorem bg_v0 {f : Nat → Int32} : ∀ n, (∀ k, k < n → f k = 0) → bg_v f n = 0 := by
  intro n
  induction n with
  | zero => intro _; rfl
  | succ n ih => intro h; rw [bg_vs, ih (fun k hk => h k (by omega)), h n (by omega), show bg_u 0 = 0 from rfl, Nat.zero_mul]
/-- t takes a times b -/
theorem bg_prod {t a b i j : Nat} {m : tk_m} {u v : Int} (ha : bg_B m a u) (hb : bg_B m b v) (hu : u.natAbs < 4294967296 ^ i) (hv : v.natAbs < 4294967296 ^ j) (hij : i + j ≤ 24) (d1 : t ≠ a) (d2 : t ≠ b) (d3 : t + 1 ≠ a) (d4 : t + 1 ≠ b) (d5 : t ≠ a + 1) (d6 : t ≠ b + 1) : ∃ m', fB_takeProduct t a b m = some m' ∧ bg_B m' t (u * v) ∧ bg_fr t m m' := by
  obtain ⟨na, Na⟩ := ha
  obtain ⟨nb, Nb⟩ := hb
  have la := bg_used Na hu
  have lb := bg_used Nb hv
  obtain ⟨a1, a2, a3, a4, a5⟩ := Na
  obtain ⟨b1, b2, b3, b4, b5⟩ := Nb
  unfold fB_takeProduct
  have hmin : fZ_min_I (m.1 a 1 + m.1 b 1) 24 = Int32.ofNat (na + nb) := by
    rw [a2, b2, i_add]
    unfold fZ_min_I
    rw [if_neg (show ¬ (24 : Int32) < Int32.ofNat (na + nb) from fun q => absurd ((i_lt (a := 24) (by omega) (by omega)).mp q) (by omega))]
  rw [hmin]
  obtain ⟨m1, e1, e2, e3, e4⟩ := bg_18 t a b (na + nb) (by omega) (na + nb) 0 tk_F m (by omega) (by unfold tk_F; omega) (fun k hk => by omega)
  rw [show Int32.ofNat 0 = 0 from rfl] at e1
  rw [e1]
  obtain ⟨m2, g1, g2, g3, g4⟩ := bg_41 t a b na nb a1 b1 (by omega) (by omega) (by omega) d3 d4 (m.1 (a + 1)) (m.1 (b + 1)) na 0 tk_F m1 (by omega) (by unfold tk_F; omega) (by rw [e3 a (fun q => d3 q.symm)]; exact a2) (by rw [e3 b (fun q => d4 q.symm)]; exact b2) (e3 (a + 1) (by omega)) (e3 (b + 1) (by omega)) (fun k _ k2 => e4 k k2) (by
    rw [bg_v0 _ e4]
    show 0 = 0 * _
    rw [Nat.zero_mul])
  rw [show Int32.ofNat 0 = 0 from rfl] at g1
  rw [g1]
  unfold fB_takeProduct_140
  have r1 : m2.1 a 0 = nu_t u := by rw [g3 a (fun q => d3 q.symm), e3 a (fun q => d3 q.symm)]; exact a4
  have r2 : m2.1 b 0 = nu_t v := by rw [g3 b (fun q => d4 q.symm), e3 b (fun q => d4 q.symm)]; exact b4
  rw [r1, r2, nu_tm]
  obtain ⟨m', b1, b2, b3, b4⟩ := bg_trim (r := t) (n := na + nb) (v := u * v) (m := (tk_u2 m2.1 t 0 (nu_t (u * v)), m2.2.1, m2.2.2.1, m2.2.2.2)) (by omega) (by
    dsimp only
    rw [tk_u2_ne (by omega), g4, a3, b3, Int.natAbs_mul]) (by intro _; dsimp only; rw [tk_u2_eq])
  refine ⟨m', ?_, b2, ?_, fun q h1 h2 => ?_⟩
  · rw [b1]; rfl
  · rw [b3]; show m2.2 = _; rw [g2, e2]
  · rw [b4 q h1]; dsimp only; rw [tk_u2_ne h1, g3 q h2, e3 q h2]
