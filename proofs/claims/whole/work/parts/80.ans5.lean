/-! ===== ANSWERS: their sizes ===== -/
theorem an_sqn (x : Int) : 0 ≤ x * x := by
  rcases Int.le_total 0 x with z | z
  · exact Int.mul_nonneg z z
  · exact Int.mul_nonneg_of_nonpos_of_nonpos z z
theorem an_sq0 {x : Int} (h : x * x = 0) : x = 0 := by rcases Int.mul_eq_zero.mp h with z | z <;> exact z
theorem an_SS {w : an_V} : an_S w w = 0 ↔ (w 0 = 0 ∧ w 1 = 0 ∧ w 2 = 0) := by
  unfold an_S
  have h0 := an_sqn (w 0)
  have h1 := an_sqn (w 1)
  have h2 := an_sqn (w 2)
  constructor
  · intro h
    exact ⟨an_sq0 (by omega), an_sq0 (by omega), an_sq0 (by omega)⟩
  · rintro ⟨z0, z1, z2⟩
    rw [z0, z1, z2]; rfl
theorem an_sqb {x : Int} {n : Nat} (hx : an_bd x n) : x * x ≤ ((n * n : Nat) : Int) := by
  have e : x * x = ((x.natAbs * x.natAbs : Nat) : Int) := by rw [Int.natAbs_mul_self]
  have := Nat.mul_le_mul hx hx
  omega
theorem an_bsq {x : Int} {n : Nat} (h : x * x < (((n + 1) * (n + 1) : Nat) : Int)) : an_bd x n := by
  have e : x * x = ((x.natAbs * x.natAbs : Nat) : Int) := by rw [Int.natAbs_mul_self]
  unfold an_bd
  rcases Nat.lt_or_ge n x.natAbs with z | z
  · have := Nat.mul_le_mul z z
    exfalso
    have h3 : n.succ = n + 1 := rfl
    rw [h3] at this
    omega
  · exact z
def an_small (f : Nat → Int) : Prop := an_rb1 f ∧ ∀ k, k < 7 → an_bd (an_lw f k).toInt 300000000
theorem an_sm1 {f : Nat → Int} (h6 : f 6 ≠ 0) (h : ∀ k, k < 7 → an_bd (f k) 300000000) : an_small f := by
  have h1 : an_rb1 f := ⟨h6, fun k hk => bd_le (h k hk) (by decide)⟩
  obtain ⟨D, d0, d1, _⟩ := an_lw_D h1
  exact ⟨h1, fun k hk => an_ab (d1 k hk) d0 (h k hk)⟩
theorem an_sm2 {f g : Nat → Int} {c d : Int} (hc : c ≠ 0) (hd : d ≠ 0) (h : ∀ k, k < 7 → c * f k = d * g k) (h1 : an_rb1 f) (h2 : ∀ k, k < 7 → an_bd (g k) 300000000) : an_small f := by
  have g6 : g 6 ≠ 0 := fun z => by
    have := h 6 (by decide)
    rw [z, Int.mul_zero] at this
    exact h1.1 ((Int.mul_eq_zero.mp this).resolve_left hc)
  have e : an_lw f = an_lw g := by
    rw [← an_lw_mul hc h1.1, ← an_lw_mul hd g6]
    exact an_lw_ext h
  refine ⟨h1, ?_⟩
  rw [e]
  exact (an_sm1 g6 h2).2
theorem an_WN (a b : an_V) (s t : Int) : ∀ k, k < 3 → an_W a b s t k = an_X (an_X a b) (fun k => t * a k - s * b k) k := by
  unfold an_W an_L
  refine an_3 ?_ ?_ ?_
  · simp only [an_X0, an_X1, an_X2]; grind
  · simp only [an_X0, an_X1, an_X2]; grind
  · simp only [an_X0, an_X1, an_X2]; grind
theorem an_h1 {n0 n1 n2 u v A C : Int} (e4 : n2 - n0 = u * C) (e5 : n2 + n0 = v * A) (e6 : 2 * n1 = -(u * A + v * C)) : (u * A - v * C) * (u * A - v * C) = 4 * (n0 * n0 + n1 * n1 - n2 * n2) := by
  have h1 : 2 * n1 * (2 * n1) = (u * A + v * C) * (u * A + v * C) := by rw [e6]; grind
  have h2 : (n2 - n0) * (n2 + n0) = u * C * (v * A) := by rw [e4, e5]
  grind
theorem an_h2 {X E o K Y : Int} (h1 : X = 32 * E) (h2 : X = -(4 * o * K) * Y) : 8 * E = -(o * K) * Y := by
  have : 4 * (8 * E) = 4 * (-(o * K) * Y) := by grind
  omega
theorem an_h3 {E Y c M μ x : Int} (h1 : 8 * E = c * Y) (h2 : 8 * M = c * μ) : 8 * (E + 0 * 0 + x * M) = c * (Y + 0 * 0 + x * μ) := by
  have e : 8 * (E + 0 * 0 + x * M) = 8 * E + x * (8 * M) := by grind
  rw [e, h1, h2]
  grind
theorem an_h4 {P L S c μ : Int} (h1 : P = 32 * (L * S)) (h2 : P = c * μ) : 8 * (4 * L * S) = c * μ := by
  rw [← h2, h1]
  grind
theorem an_edge {a b x : an_V} {s t : Int} (ha : an_vb a 10) (hb : an_vb b 10) (hs : an_bd s 200) (ht : an_bd t 200) (hx : an_vb x 5) (hw : ¬ (an_X a b 0 = 0 ∧ an_X a b 1 = 0 ∧ an_X a b 2 = 0)) (h0 : an_B (an_X a b) (an_X a b) = 0) (hl : an_B (an_W a b s t) (an_X a b) ≠ 0) : 4 * an_B (an_W a b s t) (an_X a b) * an_S (an_X a b) (an_X a b) ≠ 0 ∧ an_small (an_row (an_L (2 * an_B (an_W a b s t) (an_X a b)) (an_W a b s t) (- an_B (an_W a b s t) (an_W a b s t)) (an_X a b)) (fun _ => 0) x (4 * an_B (an_W a b s t) (an_X a b) * an_S (an_X a b) (an_X a b)) 0 0) := by
  obtain ⟨z1, z2, z3, z4, z5, z6⟩ := an_sz ha hb hs ht
  have hss : an_S (an_X a b) (an_X a b) ≠ 0 := fun z => hw (an_SS.mp z)
  have hm : 4 * an_B (an_W a b s t) (an_X a b) * an_S (an_X a b) (an_X a b) ≠ 0 := fun z => by
    rcases Int.mul_eq_zero.mp z with y | y
    · exact hl (by omega)
    · exact hss y
  refine ⟨hm, ?_⟩
  have bl : an_bd (an_B (an_W a b s t) (an_X a b)) 960000000 := vb_B z6 z1 (by decide)
  have bo : an_bd (an_B (an_W a b s t) (an_W a b s t)) 7680000000000 := vb_B z6 z6 (by decide)
  have b4 : an_bd (4 * an_B (an_W a b s t) (an_X a b) * an_S (an_X a b) (an_X a b)) 500000000000000 := bd_mul (bd_mul (a := 4) (by unfold an_bd; decide) bl (Nat.le_refl _)) z2 (by decide)
  have bS : an_vb (an_L (2 * an_B (an_W a b s t) (an_X a b)) (an_W a b s t) (- an_B (an_W a b s t) (an_W a b s t)) (an_X a b)) 10000000000000000 := vb_L (bd_mul (a := 2) (by unfold an_bd; decide) bl (Nat.le_refl _)) z6 (bd_neg bo) z1 (by decide)
  have hN : an_S (fun k => t * a k - s * b k) (an_X a b) = 0 := by
    have q0 := an_w0 a b
    have q1 := an_w1 a b
    unfold an_S at *
    grind
  have bN : an_vb (fun k => t * a k - s * b k) 4000 := fun k hk => bd_sub (bd_mul ht (ha k hk) (Nat.le_refl _)) (bd_mul hs (hb k hk) (Nat.le_refl _)) (by decide)
  have hWN := an_WN a b s t
  have hl2 : an_B (an_W a b s t) (an_X a b) = an_B (an_X (an_X a b) (fun k => t * a k - s * b k)) (an_X a b) := an_B_x _ hWN
  have ho2 : an_B (an_W a b s t) (an_W a b s t) = an_B (an_X (an_X a b) (fun k => t * a k - s * b k)) (an_X (an_X a b) (fun k => t * a k - s * b k)) := by rw [an_B_x _ hWN, an_B_c, an_B_x _ hWN]
  have hrb : an_rb1 (an_row (an_L (2 * an_B (an_W a b s t) (an_X a b)) (an_W a b s t) (- an_B (an_W a b s t) (an_W a b s t)) (an_X a b)) (fun _ => 0) x (4 * an_B (an_W a b s t) (an_X a b) * an_S (an_X a b) (an_X a b)) 0 0) := by
    refine ⟨hm, an_7 (fun k hk => ?_) (fun k hk => ?_) ?_⟩
    · rw [an_row_lo hk, Int.zero_mul, Int.add_zero]
      exact bd_add (bS k hk) (bd_mul (hx k hk) b4 (Nat.le_refl _)) (by decide)
    · rw [an_row_hi hk, Int.zero_mul]; unfold an_bd; decide
    · rw [an_row_6]; exact bd_le b4 (by decide)
  obtain ⟨u, v, o, A, C, e1, e2, e3, e4, e5, e6, bA, bC, o0, uv⟩ := an_spin hw h0 hN bN
  have hx2 : ∀ k, k < 3 → an_v (o * (u * u - v * v)) (2 * (u * v * o)) (o * (u * u + v * v)) k = 2 * an_X a b k := by
    refine an_3 ?_ ?_ ?_
    · rw [an_v0]; grind
    · rw [an_v1]; grind
    · rw [an_v2]; grind
  have hy2 : ∀ k, k < 3 → an_v (v * A - u * C) (-(u * A + v * C)) (v * A + u * C) k = 2 * (fun k => t * a k - s * b k) k := by
    refine an_3 ?_ ?_ ?_
    · rw [an_v0]; dsimp only at e4 e5 e6 ⊢; omega
    · rw [an_v1]; dsimp only at e4 e5 e6 ⊢; omega
    · rw [an_v2]; dsimp only at e4 e5 e6 ⊢; omega
  obtain ⟨p1, p2⟩ := an_ed32 (an_X a b) (fun k => t * a k - s * b k) _ _ hx2 hy2
  obtain ⟨q1, q2⟩ := an_edx u v o A C
  have hed : ∀ k, k < 3 → an_L (2 * an_B (an_W a b s t) (an_X a b)) (an_W a b s t) (- an_B (an_W a b s t) (an_W a b s t)) (an_X a b) k = an_ed (an_X a b) (fun k => t * a k - s * b k) k := fun k hk => by
    unfold an_L an_ed
    rw [hl2, ho2, hWN k hk]
    grind
  have hn4 : (u * A - v * C) * (u * A - v * C) = 4 * an_B (fun k => t * a k - s * b k) (fun k => t * a k - s * b k) := an_h1 e4 e5 e6
  have bk : an_bd (u * A - v * C) 11400 := by
    refine an_bsq ?_
    rw [hn4]
    have y0 := an_sqb (bN 0 (by decide))
    have y1 := an_sqb (bN 1 (by decide))
    have y2 := an_sqn ((fun k => t * a k - s * b k) 2)
    unfold an_B
    omega
  have bo1 : an_bd o 400 := by
    refine an_ab (x := 2 * an_X a b 2) (y := u * u + v * v) (z := o) ?_ (by omega) (bd_mul (a := 2) (by unfold an_bd; decide) (z1 2 (by decide)) (by decide))
    grind
  have bmu : an_bd (4 * (v * C - u * A) * o) 20000000 := bd_mul (bd_mul (a := 4) (by unfold an_bd; decide) (show an_bd (v * C - u * A) 11400 by unfold an_bd at bk ⊢; omega) (Nat.le_refl _)) bo1 (by decide)
  have bY : an_vb (an_v (C * C - A * A) (2 * A * C) (A * A + C * C)) 128000000 := an_3 (bd_sub (bd_mul bC bC (Nat.le_refl _)) (bd_mul bA bA (Nat.le_refl _)) (by decide)) (bd_mul (bd_mul (a := 2) (by unfold an_bd; decide) bA (Nat.le_refl _)) bC (by decide)) (bd_add (bd_mul bA bA (Nat.le_refl _)) (bd_mul bC bC (Nat.le_refl _)) (by decide))
  have hk0 : -((o * o * o) * ((u * u + v * v) * (u * u + v * v) * ((u * u + v * v) * (u * u + v * v)))) ≠ 0 := by
    intro z
    have z' : (o * o * o) * ((u * u + v * v) * (u * u + v * v) * ((u * u + v * v) * (u * u + v * v))) = 0 := by omega
    rcases Int.mul_eq_zero.mp z' with y | y
    · rcases Int.mul_eq_zero.mp y with y | y
      · exact o0 (an_sq0 y)
      · exact o0 y
    · exact absurd (an_sq0 (an_sq0 y)) (by omega)
  rw [← hl2] at p2
  have h8E : ∀ k, k < 3 → 8 * an_ed (an_X a b) (fun k => t * a k - s * b k) k = -((o * o * o) * ((u * u + v * v) * (u * u + v * v) * ((u * u + v * v) * (u * u + v * v)))) * an_v (C * C - A * A) (2 * A * C) (A * A + C * C) k := fun k hk => an_h2 (p1 k hk) (q1 k hk)
  have h8M : 8 * (4 * an_B (an_W a b s t) (an_X a b) * an_S (an_X a b) (an_X a b)) = -((o * o * o) * ((u * u + v * v) * (u * u + v * v) * ((u * u + v * v) * (u * u + v * v)))) * (4 * (v * C - u * A) * o) := an_h4 p2 q2
  refine an_sm2 (g := an_row (an_v (C * C - A * A) (2 * A * C) (A * A + C * C)) (fun _ => 0) x (4 * (v * C - u * A) * o) 0 0) (c := 8) (by decide) hk0 (an_7 (fun k hk => ?_) (fun k hk => ?_) ?_) hrb (an_7 (fun k hk => ?_) (fun k hk => ?_) ?_)
  · rw [an_row_lo hk, an_row_lo hk, hed k hk]
    exact an_h3 (h8E k hk) h8M
  · rw [an_row_hi hk, an_row_hi hk, Int.zero_mul, Int.mul_zero, Int.mul_zero]
  · rw [an_row_6, an_row_6]
    exact h8M
  · rw [an_row_lo hk, Int.zero_mul, Int.add_zero]
    exact bd_add (bY k hk) (bd_mul (hx k hk) bmu (Nat.le_refl _)) (by decide)
  · rw [an_row_hi hk, Int.zero_mul]; unfold an_bd; decide
  · rw [an_row_6]; exact bd_le bmu (by decide)
