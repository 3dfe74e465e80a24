/-! ===== invert: the reference's side ===== -/
theorem ov_byt {α : Type} (x y : Int64) (m : tk_m) (L : Nat → Nat → Int64) (B : Bool) (f : Int64 × tk_m → Option α) : (fM_times x y (ov_Y m L B)).bind f = f (x * y, ov_Y m L (B || ov_t x y)) := by rw [ov_Yt, Option.bind_some]
theorem ov_lyp {α : Type} (x y : Int64) (m : tk_m) (L : Nat → Nat → Int64) (B : Bool) (f : Int64 × tk_m → α) : tk_let (fM_plus x y (ov_Y m L B)) f = f (x + y, ov_Y m L (B || ov_p x y)) := by rw [ov_Yp]; rfl
theorem ov_lym {α : Type} (x y : Int64) (m : tk_m) (L : Nat → Nat → Int64) (B : Bool) (f : Int64 × tk_m → α) : tk_let (fM_minus x y (ov_Y m L B)) f = f (x - y, ov_Y m L (B || ov_m x y)) := by rw [ov_Ym]; rfl
theorem iv_Y {r : Nat} {m : tk_m} (hr : tk_al r = 40) (x y k : Int64) : fM_inverts r x y k (ov_Y m m.2.1 false) = some (ov_Y m (iv_L m.2.1 449 (iv_r 2 (m.2.1 r 0) (m.2.1 r 1) (m.2.1 r 2) (m.2.1 r 3) x y k)) (iv_o 2 (m.2.1 r 0) (m.2.1 r 1) (m.2.1 r 2) (m.2.1 r 3) x y k)) := by
  obtain ⟨k0, k1, k2, k3, k4⟩ := iv_ok hr
  have t0 : tk_n (0 : Int32) = 0 := rfl
  have t1 : tk_n (1 : Int32) = 1 := rfl
  have t2 : tk_n (2 : Int32) = 2 := rfl
  have t3 : tk_n (3 : Int32) = 3 := rfl
  unfold fM_inverts
  generalize (2 : Int64) = z
  rw [if_pos k0, if_pos k1]
  simp only [if_pos k2, if_pos k3, t0, t1, t2, t3, ov_Y1]
  generalize hA : m.2.1 r 0 = A
  generalize hD : m.2.1 r 1 = D
  generalize hE : m.2.1 r 2 = E
  generalize hF : m.2.1 r 3 = F
  rw [ov_byt]; dsimp only
  rw [ov_byt]; dsimp only
  rw [ov_lyp]; dsimp only [ov_Y1]
  rw [hE]
  rw [ov_byt]; dsimp only
  rw [ov_byt]; dsimp only
  rw [ov_lyp]; dsimp only [ov_Y1]
  rw [ov_byt]; dsimp only [ov_Y1]
  rw [hD, ov_byt]; dsimp only
  rw [ov_lyp]; dsimp only [ov_Y1]
  rw [hE, ov_byt]; dsimp only
  rw [ov_lyp]; dsimp only [ov_Y1]
  rw [hF, ov_lyp]; dsimp only [ov_Y1]
  rw [Bool.false_or]
  rw [show (ov_t z A || ov_t (z * A) x || ov_p D (z * A * x) || ov_t z A || ov_t (z * A) y || ov_p E (z * A * y) || ov_t A (x * x + y * y) || ov_t D x || ov_p (A * (x * x + y * y)) (D * x) || ov_t E y || ov_p (A * (x * x + y * y) + D * x) (E * y) || ov_p (A * (x * x + y * y) + D * x + E * y) F) = iv_o1 z A D E F x y from rfl, show A * (x * x + y * y) + D * x + E * y + F = iv_G A D E F x y from rfl, show D + z * A * x = iv_P z A D x from rfl, show E + z * A * y = iv_P z A E y from rfl]
  unfold iv_o iv_r iv_L
  generalize iv_o1 z A D E F x y = B1
  generalize iv_G A D E F x y = G
  generalize iv_P z A D x = P
  generalize iv_P z A E y = Q
  rw [ov_Yl, ov_byt]; dsimp only
  rw [ov_byt]; dsimp only
  rw [ov_byt]; dsimp only
  rw [ov_lym]; dsimp only [ov_Y1]
  rw [ov_Yl, ov_byt]; dsimp only
  rw [ov_byt]; dsimp only
  rw [ov_byt]; dsimp only
  rw [ov_lym]; dsimp only [ov_Y1]
  rw [ov_Yl, ov_byt]; dsimp only
  rw [ov_byt]; dsimp only
  rw [ov_byt]; dsimp only
  rw [ov_lym]; dsimp only
  rw [ov_byt]; dsimp only
  rw [ov_byt]; dsimp only
  rw [ov_lym]; dsimp only
  rw [ov_byt]; dsimp only
  rw [ov_lyp]; dsimp only [ov_Y1]
  have hB : (B1 || iv_o2 z A k P Q G x y) = (B1 || ov_t k P || ov_t z G || ov_t (z * G) x || ov_m (k * P) (z * G * x) || ov_t k Q || ov_t z G || ov_t (z * G) y || ov_m (k * Q) (z * G * y) || ov_t G (x * x + y * y) || ov_t k P || ov_t (k * P) x || ov_m (G * (x * x + y * y)) (k * P * x) || ov_t k Q || ov_t (k * Q) y || ov_m (G * (x * x + y * y) - k * P * x) (k * Q * y) || ov_t (k * k) A || ov_p (G * (x * x + y * y) - k * P * x - k * Q * y) (k * k * A)) := by
    unfold iv_o2
    simp only [Bool.or_assoc]
  rw [hB]
  generalize (B1 || ov_t k P || ov_t z G || ov_t (z * G) x || ov_m (k * P) (z * G * x) || ov_t k Q || ov_t z G || ov_t (z * G) y || ov_m (k * Q) (z * G * y) || ov_t G (x * x + y * y) || ov_t k P || ov_t (k * P) x || ov_m (G * (x * x + y * y)) (k * P * x) || ov_t k Q || ov_t (k * Q) y || ov_m (G * (x * x + y * y) - k * P * x) (k * Q * y) || ov_t (k * k) A || ov_p (G * (x * x + y * y) - k * P * x - k * Q * y) (k * k * A)) = B2
  rw [ov_Yl]
  rfl
/-- what is turned is not all zero, if nothing is over -/
theorem iv_ne {z A D E F x y k : Int64} (hk : k.toInt ≠ 0) (hkk : (k * k).toInt ≠ 0) (ho : iv_o z A D E F x y k = false) (h : ∀ i, i < 4 → iv_r z A D E F x y k i = 0) : A = 0 ∧ D = 0 ∧ E = 0 ∧ F = 0 := by
  have hG : iv_G A D E F x y = 0 := h 0 (by decide)
  have h1 : iv_1 z k (iv_P z A D x) (iv_G A D E F x y) x = 0 := h 1 (by decide)
  have h2 : iv_1 z k (iv_P z A E y) (iv_G A D E F x y) y = 0 := h 2 (by decide)
  have h3 : iv_3 A k (iv_P z A D x) (iv_P z A E y) (iv_G A D E F x y) x y = 0 := h 3 (by decide)
  unfold iv_o iv_o2 at ho
  simp only [Bool.or_eq_false_iff] at ho
  have oP : ov_t k (iv_P z A D x) = false := by simp_all
  have oQ : ov_t k (iv_P z A E y) = false := by simp_all
  have oA : ov_t (k * k) A = false := by simp_all
  clear ho h
  rw [hG] at h1 h2 h3
  have m0 : ∀ {a b : Int64}, ov_t a b = false → a.toInt ≠ 0 → a * b = 0 → b = 0 := by
    intro a b o n e
    have := ov_t_ok o
    rw [e, show (0 : Int64).toInt = 0 from rfl] at this
    rcases Int.mul_eq_zero.mp this.symm with q | q
    · exact absurd q n
    · exact lo_z.mpr q
  have hP : iv_P z A D x = 0 := m0 oP hk (by
    unfold iv_1 at h1
    rw [Int64.mul_zero, Int64.zero_mul, Int64.sub_zero] at h1
    exact h1)
  have hQ : iv_P z A E y = 0 := m0 oQ hk (by
    unfold iv_1 at h2
    rw [Int64.mul_zero, Int64.zero_mul, Int64.sub_zero] at h2
    exact h2)
  rw [hP, hQ] at h3
  have hA : A = 0 := m0 oA hkk (by
    unfold iv_3 at h3
    rw [Int64.mul_zero, Int64.zero_mul, Int64.zero_mul, Int64.zero_mul, Int64.sub_zero, Int64.sub_zero, Int64.zero_add] at h3
    exact h3)
  subst hA
  unfold iv_P at hP hQ
  rw [Int64.mul_zero, Int64.zero_mul, Int64.add_zero] at hP hQ
  subst hP hQ
  unfold iv_G at hG
  rw [Int64.zero_mul, Int64.zero_mul, Int64.zero_mul, Int64.add_zero, Int64.add_zero, Int64.zero_add] at hG
  exact ⟨rfl, rfl, rfl, hG⟩
