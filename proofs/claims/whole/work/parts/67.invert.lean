/-! ===== invert: what both work out ===== -/
def iv_P (z A D x : Int64) : Int64 := D + z * A * x
def iv_G (A D E F x y : Int64) : Int64 := A * (x * x + y * y) + D * x + E * y + F
def iv_1 (z k P G x : Int64) : Int64 := k * P - z * G * x
def iv_3 (A k P Q G x y : Int64) : Int64 := G * (x * x + y * y) - k * P * x - k * Q * y + k * k * A
def iv_o1 (z A D E F x y : Int64) : Bool := ov_t z A || ov_t (z * A) x || ov_p D (z * A * x) || ov_t z A || ov_t (z * A) y || ov_p E (z * A * y) || ov_t A (x * x + y * y) || ov_t D x || ov_p (A * (x * x + y * y)) (D * x) || ov_t E y || ov_p (A * (x * x + y * y) + D * x) (E * y) || ov_p (A * (x * x + y * y) + D * x + E * y) F
def iv_o2 (z A k P Q G x y : Int64) : Bool := ov_t k P || ov_t z G || ov_t (z * G) x || ov_m (k * P) (z * G * x) || ov_t k Q || ov_t z G || ov_t (z * G) y || ov_m (k * Q) (z * G * y) || ov_t G (x * x + y * y) || ov_t k P || ov_t (k * P) x || ov_m (G * (x * x + y * y)) (k * P * x) || ov_t k Q || ov_t (k * Q) y || ov_m (G * (x * x + y * y) - k * P * x) (k * Q * y) || ov_t (k * k) A || ov_p (G * (x * x + y * y) - k * P * x - k * Q * y) (k * k * A)
def iv_r (z A D E F x y k : Int64) (i : Nat) : Int64 := if i = 0 then iv_G A D E F x y else if i = 1 then iv_1 z k (iv_P z A D x) (iv_G A D E F x y) x else if i = 2 then iv_1 z k (iv_P z A E y) (iv_G A D E F x y) y else iv_3 A k (iv_P z A D x) (iv_P z A E y) (iv_G A D E F x y) x y
def iv_o (z A D E F x y k : Int64) : Bool := iv_o1 z A D E F x y || iv_o2 z A k (iv_P z A D x) (iv_P z A E y) (iv_G A D E F x y) x y
def iv_L (L : Nat → Nat → Int64) (r : Nat) (f : Nat → Int64) : Nat → Nat → Int64 := tk_u2 (tk_u2 (tk_u2 (tk_u2 L r 0 (f 0)) r 1 (f 1)) r 2 (f 2)) r 3 (f 3)
theorem ov_Xl (m : tk_m) (L' : Nat → Nat → Int64) (B : Bool) : ((ov_X m B).1, L', (ov_X m B).2.2.1, (ov_X m B).2.2.2) = ov_X (m.1, L', m.2.2.1, m.2.2.2) B := rfl
theorem ov_X1 (m : tk_m) (B : Bool) : (ov_X m B).2.1 = m.2.1 := rfl
theorem iv_ok {n : Nat} (h : n = 40) : tk_ok (0 : Int32) n ∧ tk_ok (1 : Int32) n ∧ tk_ok (2 : Int32) n ∧ tk_ok (3 : Int32) n ∧ (4 : Int32) ≤ Int32.ofNat n := by subst h; decide
theorem ov_bt {α : Type} (x y : Int64) (m : tk_m) (B : Bool) (f : Int64 × tk_m → Option α) : (fK_times x y (ov_X m B)).bind f = f (x * y, ov_X m (B || ov_t x y)) := by rw [ov_Xt, Option.bind_some]
theorem ov_lp {α : Type} (x y : Int64) (m : tk_m) (B : Bool) (f : Int64 × tk_m → α) : tk_let (fK_plus x y (ov_X m B)) f = f (x + y, ov_X m (B || ov_p x y)) := by rw [ov_Xp]; rfl
theorem ov_lm {α : Type} (x y : Int64) (m : tk_m) (B : Bool) (f : Int64 × tk_m → α) : tk_let (fK_minus x y (ov_X m B)) f = f (x - y, ov_X m (B || ov_m x y)) := by rw [ov_Xm]; rfl
theorem iv_X {r : Nat} {m : tk_m} (hr : tk_al r = 40) (a2 a3 a4 : Int32) : fK_turnInsideOut r a2 a3 a4 m =
    (if iv_o 2 (m.2.1 r 0) (m.2.1 r 1) (m.2.1 r 2) (m.2.1 r 3) a2.toInt64 a3.toInt64 a4.toInt64 = true then some (false, ov_X (m.1, iv_L m.2.1 37 (iv_r 2 (m.2.1 r 0) (m.2.1 r 1) (m.2.1 r 2) (m.2.1 r 3) a2.toInt64 a3.toInt64 a4.toInt64), m.2.2.1, m.2.2.2) (iv_o 2 (m.2.1 r 0) (m.2.1 r 1) (m.2.1 r 2) (m.2.1 r 3) a2.toInt64 a3.toInt64 a4.toInt64))
    else (fK_firstNotZero 37 (ov_X (m.1, iv_L m.2.1 37 (iv_r 2 (m.2.1 r 0) (m.2.1 r 1) (m.2.1 r 2) (m.2.1 r 3) a2.toInt64 a3.toInt64 a4.toInt64), m.2.2.1, m.2.2.2) (iv_o 2 (m.2.1 r 0) (m.2.1 r 1) (m.2.1 r 2) (m.2.1 r 3) a2.toInt64 a3.toInt64 a4.toInt64))).bind fun o36 => fK_lower 37 o36 (ov_X (m.1, iv_L m.2.1 37 (iv_r 2 (m.2.1 r 0) (m.2.1 r 1) (m.2.1 r 2) (m.2.1 r 3) a2.toInt64 a3.toInt64 a4.toInt64), m.2.2.1, m.2.2.2) (iv_o 2 (m.2.1 r 0) (m.2.1 r 1) (m.2.1 r 2) (m.2.1 r 3) a2.toInt64 a3.toInt64 a4.toInt64))) := by
  obtain ⟨k0, k1, k2, k3, k4⟩ := iv_ok hr
  have t0 : tk_n (0 : Int32) = 0 := rfl
  have t1 : tk_n (1 : Int32) = 1 := rfl
  have t2 : tk_n (2 : Int32) = 2 := rfl
  have t3 : tk_n (3 : Int32) = 3 := rfl
  have eta : ∀ o : Option (Bool × tk_m), (o.bind fun o2 => if o2.1 = true then some (true, o2.2) else some (false, o2.2)) = o := fun o => by
    cases o with
    | none => rfl
    | some o => obtain ⟨b, o⟩ := o; cases b <;> rfl
  unfold fK_turnInsideOut
  generalize (2 : Int64) = z
  generalize a2.toInt64 = x
  generalize a3.toInt64 = y
  generalize a4.toInt64 = k
  rw [if_pos k4, if_pos k0, if_pos k1, ov_X0]
  simp only [if_pos k2, if_pos k3, t0, t1, t2, t3]
  generalize hA : m.2.1 r 0 = A
  generalize hD : m.2.1 r 1 = D
  generalize hE : m.2.1 r 2 = E
  generalize hF : m.2.1 r 3 = F
  rw [ov_bt]; dsimp only
  rw [ov_bt]; dsimp only
  rw [ov_lp]; dsimp only [ov_X1]
  rw [hE]
  rw [ov_bt]; dsimp only
  rw [ov_bt]; dsimp only
  rw [ov_lp]; dsimp only [ov_X1]
  rw [ov_bt]; dsimp only [ov_X1]
  rw [hD, ov_bt]; dsimp only
  rw [ov_lp]; dsimp only [ov_X1]
  rw [hE, ov_bt]; dsimp only
  rw [ov_lp]; dsimp only [ov_X1]
  rw [hF, ov_lp]; dsimp only [ov_X1]
  rw [Bool.false_or]
  rw [show (ov_t z A || ov_t (z * A) x || ov_p D (z * A * x) || ov_t z A || ov_t (z * A) y || ov_p E (z * A * y) || ov_t A (x * x + y * y) || ov_t D x || ov_p (A * (x * x + y * y)) (D * x) || ov_t E y || ov_p (A * (x * x + y * y) + D * x) (E * y) || ov_p (A * (x * x + y * y) + D * x + E * y) F) = iv_o1 z A D E F x y from rfl, show A * (x * x + y * y) + D * x + E * y + F = iv_G A D E F x y from rfl, show D + z * A * x = iv_P z A D x from rfl, show E + z * A * y = iv_P z A E y from rfl]
  unfold iv_o iv_r iv_L
  generalize iv_o1 z A D E F x y = B1
  generalize iv_G A D E F x y = G
  generalize iv_P z A D x = P
  generalize iv_P z A E y = Q
  rw [ov_Xl, ov_bt]; dsimp only
  rw [ov_bt]; dsimp only
  rw [ov_bt]; dsimp only
  rw [ov_lm]; dsimp only [ov_X1]
  rw [ov_Xl, ov_bt]; dsimp only
  rw [ov_bt]; dsimp only
  rw [ov_bt]; dsimp only
  rw [ov_lm]; dsimp only [ov_X1]
  rw [ov_Xl, ov_bt]; dsimp only
  rw [ov_bt]; dsimp only
  rw [ov_bt]; dsimp only
  rw [ov_lm]; dsimp only
  rw [ov_bt]; dsimp only
  rw [ov_bt]; dsimp only
  rw [ov_lm]; dsimp only
  rw [ov_bt]; dsimp only
  rw [ov_lp]; dsimp only [ov_X1]
  have hB : (B1 || iv_o2 z A k P Q G x y) = (B1 || ov_t k P || ov_t z G || ov_t (z * G) x || ov_m (k * P) (z * G * x) || ov_t k Q || ov_t z G || ov_t (z * G) y || ov_m (k * Q) (z * G * y) || ov_t G (x * x + y * y) || ov_t k P || ov_t (k * P) x || ov_m (G * (x * x + y * y)) (k * P * x) || ov_t k Q || ov_t (k * Q) y || ov_m (G * (x * x + y * y) - k * P * x) (k * Q * y) || ov_t (k * k) A || ov_p (G * (x * x + y * y) - k * P * x - k * Q * y) (k * k * A)) := by
    unfold iv_o2
    simp only [Bool.or_assoc]
  rw [hB]
  generalize (B1 || ov_t k P || ov_t z G || ov_t (z * G) x || ov_m (k * P) (z * G * x) || ov_t k Q || ov_t z G || ov_t (z * G) y || ov_m (k * Q) (z * G * y) || ov_t G (x * x + y * y) || ov_t k P || ov_t (k * P) x || ov_m (G * (x * x + y * y)) (k * P * x) || ov_t k Q || ov_t (k * Q) y || ov_m (G * (x * x + y * y) - k * P * x) (k * Q * y) || ov_t (k * k) A || ov_p (G * (x * x + y * y) - k * P * x - k * Q * y) (k * k * A)) = B2
  rw [ov_Xl]
  dsimp only
  rw [ov_X34]
  simp only [eta]
  rfl
