/-! ===== ANSWERS: places in three numbers ===== -/
abbrev an_V : Type := Nat → Int
def an_v (x y z : Int) : an_V
  | 0 => x
  | 1 => y
  | _ => z
theorem an_v0 (x y z : Int) : an_v x y z 0 = x := rfl
theorem an_v1 (x y z : Int) : an_v x y z 1 = y := rfl
theorem an_v2 (x y z : Int) : an_v x y z 2 = z := rfl
def an_X (a b : an_V) : an_V := an_v (a 1 * b 2 - a 2 * b 1) (a 2 * b 0 - a 0 * b 2) (a 0 * b 1 - a 1 * b 0)
theorem an_X0 (a b : an_V) : an_X a b 0 = a 1 * b 2 - a 2 * b 1 := rfl
theorem an_X1 (a b : an_V) : an_X a b 1 = a 2 * b 0 - a 0 * b 2 := rfl
theorem an_X2 (a b : an_V) : an_X a b 2 = a 0 * b 1 - a 1 * b 0 := rfl
def an_S (a b : an_V) : Int := a 0 * b 0 + a 1 * b 1 + a 2 * b 2
def an_B (a b : an_V) : Int := a 0 * b 0 + a 1 * b 1 - a 2 * b 2
/-- s times a and t times b -/
def an_L (s : Int) (a : an_V) (t : Int) (b : an_V) : an_V := fun k => s * a k + t * b k
theorem an_3 {P : Nat → Prop} (h0 : P 0) (h1 : P 1) (h2 : P 2) : ∀ k, k < 3 → P k := fun k hk => by
  rcases (show k = 0 ∨ k = 1 ∨ k = 2 by omega) with rfl | rfl | rfl
  · exact h0
  · exact h1
  · exact h2
theorem an_w0 (a b : an_V) : an_S a (an_X a b) = 0 := by
  simp only [an_S, an_X0, an_X1, an_X2]
  grind
theorem an_w1 (a b : an_V) : an_S b (an_X a b) = 0 := by
  simp only [an_S, an_X0, an_X1, an_X2]
  grind
theorem an_c3 (a b c : an_V) : an_S a (an_X b c) = an_S c (an_X a b) := by
  simp only [an_S, an_X0, an_X1, an_X2]
  grind
/-- what stands square to both, and on itself: a place by its three products -/
theorem an_dual (a b x : an_V) : ∀ k, k < 3 → an_S a x * an_X b (an_X a b) k + an_S b x * an_X (an_X a b) a k + an_S (an_X a b) x * an_X a b k = an_S (an_X a b) (an_X a b) * x k := by
  refine an_3 ?_ ?_ ?_
  · simp only [an_S, an_X0, an_X1, an_X2]
    grind
  · simp only [an_S, an_X0, an_X1, an_X2]
    grind
  · simp only [an_S, an_X0, an_X1, an_X2]
    grind
def an_J (a : an_V) : an_V := an_v (a 0) (a 1) (- a 2)
theorem an_J0 (a : an_V) : an_J a 0 = a 0 := rfl
theorem an_J1 (a : an_V) : an_J a 1 = a 1 := rfl
theorem an_J2 (a : an_V) : an_J a 2 = - a 2 := rfl
theorem an_up1 (n w : an_V) (h : an_S n w = 0) : ∀ k, k < 3 → an_B w w * an_X n w k - an_B (an_X n w) w * w k = - (an_S w w * an_X (an_J w) n k) := by
  unfold an_S at h
  refine an_3 ?_ ?_ ?_
  · simp only [an_S, an_B, an_X0, an_X1, an_X2, an_J0, an_J1, an_J2]
    grind
  · simp only [an_S, an_B, an_X0, an_X1, an_X2, an_J0, an_J1, an_J2]
    grind
  · simp only [an_S, an_B, an_X0, an_X1, an_X2, an_J0, an_J1, an_J2]
    grind
theorem an_jw (a b c : an_V) : ∀ k, k < 3 → an_X (an_J (an_X a b)) c k = an_B b c * an_J a k - an_B a c * an_J b k := by
  refine an_3 ?_ ?_ ?_
  · simp only [an_B, an_X0, an_X1, an_X2, an_J0, an_J1, an_J2]
    grind
  · simp only [an_B, an_X0, an_X1, an_X2, an_J0, an_J1, an_J2]
    grind
  · simp only [an_B, an_X0, an_X1, an_X2, an_J0, an_J1, an_J2]
    grind
/-- the line of two planes: a place, times the size of its way -/
def an_W (a b : an_V) (s t : Int) : an_V := an_L s (an_X b (an_X a b)) t (an_X (an_X a b) a)
def an_b0 (a b : an_V) (s t : Int) : Int := an_B a b * t - an_B b b * s
def an_b1 (a b : an_V) (s t : Int) : Int := an_B a b * s - an_B a a * t
/-- where the line is nearest -/
def an_st (a b : an_V) (s t : Int) : an_V := an_L (an_b0 a b s t) (an_J a) (an_b1 a b s t) (an_J b)
def an_sq (a b : an_V) (s t : Int) : Int := - an_b0 a b s t * s - an_b1 a b s t * t
theorem an_X_neg (a b : an_V) : ∀ k, k < 3 → an_X a b k = - an_X b a k := by
  refine an_3 ?_ ?_ ?_
  · simp only [an_X0]; grind
  · simp only [an_X1]; grind
  · simp only [an_X2]; grind
theorem an_B_L (s t : Int) (a b c : an_V) : an_B (an_L s a t b) c = s * an_B a c + t * an_B b c := by
  simp only [an_B, an_L]
  grind
theorem an_B_c (a b : an_V) : an_B a b = an_B b a := by
  simp only [an_B]
  grind
theorem an_B_x {a b : an_V} (c : an_V) (h : ∀ k, k < 3 → a k = b k) : an_B a c = an_B b c := by
  unfold an_B
  rw [h 0 (by decide), h 1 (by decide), h 2 (by decide)]
theorem an_near (a b : an_V) (s t : Int) : ∀ k, k < 3 → an_S (an_X a b) (an_X a b) * an_st a b s t k = an_B (an_X a b) (an_X a b) * an_W a b s t k - an_B (an_W a b s t) (an_X a b) * an_X a b k := by
  intro k hk
  have h1 := an_up1 b (an_X a b) (an_w1 a b) k hk
  have h0 := an_up1 a (an_X a b) (an_w0 a b) k hk
  have e1 := an_jw a b b k hk
  have e0 := an_jw a b a k hk
  have n0 := an_X_neg (an_X a b) a k hk
  have n1 : an_B (an_X (an_X a b) a) (an_X a b) = - an_B (an_X a (an_X a b)) (an_X a b) := by
    rw [an_B_x (b := fun k => - an_X a (an_X a b) k) _ (an_X_neg (an_X a b) a)]
    simp only [an_B]
    grind
  have c := an_B_c b a
  unfold an_W
  rw [an_B_L, n1]
  unfold an_st an_b0 an_b1 an_L
  rw [n0]
  rw [e1] at h1
  rw [e0] at h0
  rw [c] at h0
  generalize an_S (an_X a b) (an_X a b) = u at *
  generalize an_B (an_X a b) (an_X a b) = v at *
  generalize an_X b (an_X a b) k = x1 at *
  generalize an_X a (an_X a b) k = x0 at *
  generalize an_B (an_X b (an_X a b)) (an_X a b) = y1 at *
  generalize an_B (an_X a (an_X a b)) (an_X a b) = y0 at *
  generalize an_X a b k = w at *
  generalize an_J a k = ja at *
  generalize an_J b k = jb at *
  grind
theorem an_W0 (a b : an_V) (s t : Int) : an_S a (an_W a b s t) = s * an_S (an_X a b) (an_X a b) ∧ an_S b (an_W a b s t) = t * an_S (an_X a b) (an_X a b) := by
  have h1 : an_S a (an_X b (an_X a b)) = an_S (an_X a b) (an_X a b) := an_c3 a b (an_X a b)
  have h2 : an_S a (an_X (an_X a b) a) = 0 := an_w1 (an_X a b) a
  have h3 : an_S b (an_X b (an_X a b)) = 0 := an_w0 b (an_X a b)
  have h4 : an_S b (an_X (an_X a b) a) = an_S (an_X a b) (an_X a b) := by
    rw [an_c3 b (an_X a b) a, an_c3 a b (an_X a b)]
  have hL : ∀ c p q : an_V, an_S c (an_L s p t q) = s * an_S c p + t * an_S c q := fun c p q => by
    simp only [an_S, an_L]
    grind
  unfold an_W
  rw [hL, hL, h1, h2, h3, h4]
  constructor
  · rw [Int.mul_zero, Int.add_zero]
  · rw [Int.mul_zero, Int.zero_add]
theorem an_sqW (a b : an_V) (s t : Int) : an_S (an_X a b) (an_X a b) * an_sq a b s t = - an_B (an_st a b s t) (an_W a b s t) := by
  have hJ : ∀ c d : an_V, an_B (an_J c) d = an_S c d := fun c d => by
    simp only [an_B, an_S, an_J0, an_J1, an_J2]
    grind
  obtain ⟨h1, h2⟩ := an_W0 a b s t
  unfold an_st
  rw [an_B_L, hJ, hJ, h1, h2]
  unfold an_sq
  grind
/-- the square of the size, times what is under the root -/
theorem an_disc (a b : an_V) (s t : Int) : an_S (an_X a b) (an_X a b) * an_S (an_X a b) (an_X a b) * an_sq a b s t = an_B (an_W a b s t) (an_X a b) * an_B (an_W a b s t) (an_X a b) - an_B (an_X a b) (an_X a b) * an_B (an_W a b s t) (an_W a b s t) := by
  have h := an_sqW a b s t
  have e : an_S (an_X a b) (an_X a b) * an_B (an_st a b s t) (an_W a b s t) = an_B (an_X a b) (an_X a b) * an_B (an_W a b s t) (an_W a b s t) - an_B (an_W a b s t) (an_X a b) * an_B (an_W a b s t) (an_X a b) := by
    have n0 := an_near a b s t 0 (by decide)
    have n1 := an_near a b s t 1 (by decide)
    have n2 := an_near a b s t 2 (by decide)
    have hb : an_B (an_W a b s t) (an_X a b) = an_B (an_X a b) (an_W a b s t) := an_B_c _ _
    generalize an_W a b s t = W at *
    generalize an_st a b s t = S at *
    generalize an_X a b = w at *
    generalize an_S w w = u at *
    generalize hA : an_B w w = A at *
    generalize hβ : an_B W w = β at *
    unfold an_B at hb ⊢
    grind
  grind
