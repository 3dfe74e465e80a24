/-! ===== ANSWERS: seen from elsewhere ===== -/
theorem an_B_L2 (c : an_V) (s t : Int) (a b : an_V) : an_B c (an_L s a t b) = s * an_B c a + t * an_B c b := by
  simp only [an_B, an_L]
  grind
/-- the same line, its place told from elsewhere -/
theorem an_far (a b x : an_V) (s t : Int) : ∀ k, k < 3 → an_W a b (s + 2 * an_S a x) (t + 2 * an_S b x) k = an_W a b s t k + 2 * an_S (an_X a b) (an_X a b) * x k - 2 * an_S (an_X a b) x * an_X a b k := by
  intro k hk
  have h := an_dual a b x k hk
  unfold an_W an_L
  generalize an_S a x = p at *
  generalize an_S b x = q at *
  generalize an_S (an_X a b) x = r at *
  generalize an_S (an_X a b) (an_X a b) = u at *
  generalize an_X b (an_X a b) k = x1 at *
  generalize an_X (an_X a b) a k = x2 at *
  generalize an_X a b k = w at *
  grind
/-- the middle and the last number of the reference's equation -/
def an_rb (F w x : an_V) (U : Int) : Int := 2 * an_B F w + U * (-2 * x 0 * w 0 + -2 * x 1 * w 1 + 2 * x 2 * w 2)
def an_rc (F x : an_V) (U : Int) : Int := an_B F F + U * (-2 * x 0 * F 0 + -2 * x 1 * F 1 + 2 * x 2 * F 2) + U * U * an_B x x
theorem an_rb_eq {F W w x : an_V} {U l : Int} (h : ∀ k, k < 3 → F k = W k + U * x k - 2 * l * w k) : an_rb F w x U = 2 * an_B W w - 4 * l * an_B w w := by
  unfold an_rb an_B
  rw [h 0 (by decide), h 1 (by decide), h 2 (by decide)]
  grind
theorem an_rc_eq {F W w x : an_V} {U l : Int} (h : ∀ k, k < 3 → F k = W k + U * x k - 2 * l * w k) : an_rc F x U = an_B W W - 4 * l * an_B W w + 4 * l * l * an_B w w := by
  unfold an_rc an_B
  rw [h 0 (by decide), h 1 (by decide), h 2 (by decide)]
  grind
/-- the line that meets the cone twice, once or never -/
theorem an_pierce (a b x : an_V) (s t : Int) {F : an_V} {U A B C : Int} (hF : ∀ k, k < 3 → F k = an_W a b (s + 2 * an_S a x) (t + 2 * an_S b x) k) (hU : U = 2 * an_S (an_X a b) (an_X a b)) (hA : A = an_B (an_X a b) (an_X a b)) (hB : B = an_rb F (an_X a b) x U) (hC : C = an_rc F x U) :
    B * B - 4 * A * C = U * U * an_sq a b s t ∧ ∀ k, k < 3 → 2 * A * F k - B * an_X a b k = U * (an_st a b s t k + x k * (2 * A)) := by
  have h : ∀ k, k < 3 → F k = an_W a b s t k + U * x k - 2 * an_S (an_X a b) x * an_X a b k := fun k hk => by rw [hF k hk, an_far a b x s t k hk, hU]
  rw [an_rb_eq h] at hB
  rw [an_rc_eq h] at hC
  have hd := an_disc a b s t
  have hn := an_near a b s t
  constructor
  · generalize an_S (an_X a b) x = l at *
    generalize an_S (an_X a b) (an_X a b) = u at *
    generalize an_B (an_X a b) (an_X a b) = v at *
    generalize an_B (an_W a b s t) (an_X a b) = β at *
    generalize an_B (an_W a b s t) (an_W a b s t) = o at *
    generalize an_sq a b s t = q at *
    subst hA hB hC hU
    grind
  · intro k hk
    have hk1 := h k hk
    have hk2 := hn k hk
    generalize an_S (an_X a b) x = l at *
    generalize an_S (an_X a b) (an_X a b) = u at *
    generalize an_B (an_X a b) (an_X a b) = v at *
    generalize an_B (an_W a b s t) (an_X a b) = β at *
    generalize an_W a b s t k = W at *
    generalize an_st a b s t k = S at *
    generalize an_X a b k = w at *
    generalize x k = y at *
    generalize F k = f at *
    clear hF h hC hd hn
    subst hA hB hU
    grind
/-- the line as steep as the cone -/
theorem an_steep (a b x : an_V) (s t : Int) {F : an_V} {U B C : Int} (h0 : an_B (an_X a b) (an_X a b) = 0) (hF : ∀ k, k < 3 → F k = an_W a b (s + 2 * an_S a x) (t + 2 * an_S b x) k) (hU : U = 2 * an_S (an_X a b) (an_X a b)) (hB : B = an_rb F (an_X a b) x U) (hC : C = an_rc F x U) :
    B = 2 * an_B (an_W a b s t) (an_X a b) ∧ C = an_B (an_W a b s t) (an_W a b s t) - 4 * an_S (an_X a b) x * an_B (an_W a b s t) (an_X a b) ∧ (∀ k, k < 3 → B * F k - C * an_X a b k = 2 * an_B (an_W a b s t) (an_X a b) * an_W a b s t k - an_B (an_W a b s t) (an_W a b s t) * an_X a b k + x k * (4 * an_B (an_W a b s t) (an_X a b) * an_S (an_X a b) (an_X a b))) ∧ B * U = 4 * an_B (an_W a b s t) (an_X a b) * an_S (an_X a b) (an_X a b) := by
  have h : ∀ k, k < 3 → F k = an_W a b s t k + U * x k - 2 * an_S (an_X a b) x * an_X a b k := fun k hk => by rw [hF k hk, an_far a b x s t k hk, hU]
  rw [an_rb_eq h, h0] at hB
  rw [an_rc_eq h, h0] at hC
  rw [Int.mul_zero, Int.sub_zero] at hB
  rw [Int.mul_zero, Int.add_zero] at hC
  refine ⟨hB, hC, fun k hk => ?_, ?_⟩
  · have hk1 := h k hk
    generalize an_S (an_X a b) x = l at *
    generalize an_S (an_X a b) (an_X a b) = u at *
    generalize an_B (an_W a b s t) (an_X a b) = β at *
    generalize an_B (an_W a b s t) (an_W a b s t) = o at *
    generalize an_W a b s t k = W at *
    generalize an_X a b k = w at *
    generalize x k = y at *
    generalize F k = f at *
    clear hF h
    subst hB hC hU
    grind
  · rw [hB, hU]
    grind
/-! ===== sizes ===== -/
def an_bd (x : Int) (n : Nat) : Prop := x.natAbs ≤ n
theorem bd_mul {x y : Int} {a b c : Nat} (hx : an_bd x a) (hy : an_bd y b) (h : a * b ≤ c) : an_bd (x * y) c := by
  unfold an_bd at *
  rw [Int.natAbs_mul]
  exact Nat.le_trans (Nat.mul_le_mul hx hy) h
theorem bd_add {x y : Int} {a b c : Nat} (hx : an_bd x a) (hy : an_bd y b) (h : a + b ≤ c) : an_bd (x + y) c := by
  unfold an_bd at *
  omega
theorem bd_sub {x y : Int} {a b c : Nat} (hx : an_bd x a) (hy : an_bd y b) (h : a + b ≤ c) : an_bd (x - y) c := by
  unfold an_bd at *
  omega
theorem bd_neg {x : Int} {a : Nat} (hx : an_bd x a) : an_bd (-x) a := by
  unfold an_bd at *
  omega
theorem bd_le {x : Int} {a b : Nat} (hx : an_bd x a) (h : a ≤ b) : an_bd x b := Nat.le_trans hx h
theorem bd_r {x : Int} {a : Nat} (hx : an_bd x a) (h : a < 9223372036854775808) : lo_r x := by
  unfold an_bd at hx
  unfold lo_r
  omega
def an_vb (v : an_V) (n : Nat) : Prop := ∀ k, k < 3 → an_bd (v k) n
theorem vb_X {a b : an_V} {m n c : Nat} (ha : an_vb a m) (hb : an_vb b n) (h : m * n + m * n ≤ c) : an_vb (an_X a b) c := by
  have a0 := ha 0 (by decide)
  have a1 := ha 1 (by decide)
  have a2 := ha 2 (by decide)
  have b0 := hb 0 (by decide)
  have b1 := hb 1 (by decide)
  have b2 := hb 2 (by decide)
  refine an_3 ?_ ?_ ?_
  · exact bd_sub (bd_mul a1 b2 (Nat.le_refl _)) (bd_mul a2 b1 (Nat.le_refl _)) h
  · exact bd_sub (bd_mul a2 b0 (Nat.le_refl _)) (bd_mul a0 b2 (Nat.le_refl _)) h
  · exact bd_sub (bd_mul a0 b1 (Nat.le_refl _)) (bd_mul a1 b0 (Nat.le_refl _)) h
theorem vb_S {a b : an_V} {m n c : Nat} (ha : an_vb a m) (hb : an_vb b n) (h : m * n + m * n + m * n ≤ c) : an_bd (an_S a b) c := bd_add (bd_add (bd_mul (ha 0 (by decide)) (hb 0 (by decide)) (Nat.le_refl _)) (bd_mul (ha 1 (by decide)) (hb 1 (by decide)) (Nat.le_refl _)) (Nat.le_refl _)) (bd_mul (ha 2 (by decide)) (hb 2 (by decide)) (Nat.le_refl _)) h
theorem vb_B {a b : an_V} {m n c : Nat} (ha : an_vb a m) (hb : an_vb b n) (h : m * n + m * n + m * n ≤ c) : an_bd (an_B a b) c := bd_sub (bd_add (bd_mul (ha 0 (by decide)) (hb 0 (by decide)) (Nat.le_refl _)) (bd_mul (ha 1 (by decide)) (hb 1 (by decide)) (Nat.le_refl _)) (Nat.le_refl _)) (bd_mul (ha 2 (by decide)) (hb 2 (by decide)) (Nat.le_refl _)) h
theorem vb_L {s t : Int} {a b : an_V} {l m p q c : Nat} (hs : an_bd s l) (ha : an_vb a m) (ht : an_bd t p) (hb : an_vb b q) (h : l * m + p * q ≤ c) : an_vb (an_L s a t b) c := fun k hk => bd_add (bd_mul hs (ha k hk) (Nat.le_refl _)) (bd_mul ht (hb k hk) (Nat.le_refl _)) h
theorem vb_J {a : an_V} {m : Nat} (ha : an_vb a m) : an_vb (an_J a) m := an_3 (ha 0 (by decide)) (ha 1 (by decide)) (bd_neg (ha 2 (by decide)))
/-- a plane's own product is smaller than its size lets see -/
theorem vb_BB {a : an_V} (ha : an_vb a 10) : an_bd (an_B a a) 200 := by
  have h : ∀ x : Int, an_bd x 10 → 0 ≤ x * x ∧ x * x ≤ 100 := fun x hx => by
    have e : x * x = ((x.natAbs * x.natAbs : Nat) : Int) := by rw [Int.natAbs_mul_self]
    have : x.natAbs * x.natAbs ≤ 10 * 10 := Nat.mul_le_mul hx hx
    omega
  have h0 := h _ (ha 0 (by decide))
  have h1 := h _ (ha 1 (by decide))
  have h2 := h _ (ha 2 (by decide))
  unfold an_B an_bd
  omega
theorem an_sz {a b : an_V} {s t : Int} (ha : an_vb a 10) (hb : an_vb b 10) (hs : an_bd s 200) (ht : an_bd t 200) : an_vb (an_X a b) 200 ∧ an_bd (an_S (an_X a b) (an_X a b)) 120000 ∧ an_bd (an_B (an_X a b) (an_X a b)) 120000 ∧ an_vb (an_st a b s t) 2000000 ∧ an_bd (an_sq a b s t) 40000000 ∧ an_vb (an_W a b s t) 1600000 := by
  have hw : an_vb (an_X a b) 200 := vb_X ha hb (by decide)
  have h01 : an_bd (an_B a b) 300 := vb_B ha hb (by decide)
  have h0 : an_bd (an_b0 a b s t) 100000 := bd_sub (bd_mul h01 ht (Nat.le_refl _)) (bd_mul (vb_BB hb) hs (Nat.le_refl _)) (by decide)
  have h1 : an_bd (an_b1 a b s t) 100000 := bd_sub (bd_mul h01 hs (Nat.le_refl _)) (bd_mul (vb_BB ha) ht (Nat.le_refl _)) (by decide)
  refine ⟨hw, vb_S hw hw (by decide), vb_B hw hw (by decide), vb_L h0 (vb_J ha) h1 (vb_J hb) (by decide), bd_sub (bd_mul (bd_neg h0) hs (Nat.le_refl _)) (bd_mul h1 ht (Nat.le_refl _)) (by decide), ?_⟩
  exact vb_L hs (vb_X hb hw (Nat.le_refl _)) ht (vb_X hw ha (Nat.le_refl _)) (by decide)
