/-! ===== invert: the loops at its ends ===== -/
def iv_T (t : Nat → s_st) (k : Nat) (f : Nat → Int64) : Nat → Nat → s_st
  | 0 => t
  | p + 1 => s_put (iv_T t k f p) k p (f p)
theorem iv_T_k {t : Nat → s_st} {k : Nat} {f : Nat → Int64} : ∀ p, (iv_T t k f p k).1 = (t k).1 ∧ (iv_T t k f p k).2.1 = (t k).2.1 := by
  intro p
  induction p with
  | zero => exact ⟨rfl, rfl⟩
  | succ p ih =>
    unfold iv_T s_put s_setT
    rw [if_pos rfl]
    exact ih
theorem iv_T_ok {t : Nat → s_st} {k : Nat} {f : Nat → Int64} (h : ∀ i, (t i).2.1 ≤ 40 ∧ s_in (t i).1 (-1) 2) : ∀ p i, (iv_T t k f p i).2.1 ≤ 40 ∧ s_in (iv_T t k f p i).1 (-1) 2 := by
  intro p
  induction p with
  | zero => exact h
  | succ p ih =>
    intro i
    unfold iv_T s_put s_setT
    split
    · exact ih k
    · exact ih i
section
variable {K : List s_sh → Int32 × Int32 × Int32 → tk_m → Prop} {a : s_as} {m m' : tk_m} {α : Type}
theorem iv_x142 {t : Nat → s_st} {k : Nat} (hk : k < 4) {f : Nat → Int64} (hc : ∀ p, p < 4 → fM_cut (t k).1 (f p) = f p) : ∀ (c p n : Nat) (m1 : tk_m), p + c = 4 → c < n → (∀ r, r ≠ 287 + 2 * k + 1 → tk_row m m1 r) → (∀ p, p < 4 → m.2.1 37 p = f p) → x_T (iv_T t k f p) m1 → ∃ m2, fX_invert_142 n (287 + 2 * k) (Int32.ofNat p) m1 = some (1, m2) ∧ (∀ r, r ≠ 287 + 2 * k + 1 → tk_row m m2 r) ∧ x_T (iv_T t k f 4) m2 := by
  intro c
  induction c with
  | zero =>
    intro p n m1 h1 h2 h3 h37 h4
    obtain ⟨n, rfl⟩ : ∃ k, n = k + 1 := ⟨n - 1, by omega⟩
    unfold fX_invert_142
    have : p = 4 := by omega
    subst this
    rw [if_pos (by decide)]
    exact ⟨m1, rfl, h3, h4⟩
  | succ c ih =>
    intro p n m1 h1 h2 h3 h37 h4
    obtain ⟨n, rfl⟩ : ∃ k, n = k + 1 := ⟨n - 1, by omega⟩
    have hp : p < 4 := by omega
    unfold fX_invert_142
    rw [if_neg (iv_n4 hp), if_pos (i_ok hp (by omega)), i_nn (show p < 2147483648 by omega), (h3 37 (by omega)).2.1, h37 p hp]
    unfold fT_set
    rw [if_pos (i_ok (show p < 40 by omega) (by omega)), i_nn (show p < 2147483648 by omega), x_nar h4 hk, (iv_T_k p).1, hc p hp, Option.bind_some, show Int32.ofNat p + 1 = Int32.ofNat (p + 1) from i_add p 1]
    exact ih (p + 1) n _ (by omega) (by omega) (fun r hr => tk_row_tr (h3 r hr) (tk_row_ul hr)) h37 (x_T_put h4 hk)
theorem iv_y252 {t : Nat → s_st} {k : Nat} (hk : k < 4) {f : Nat → Int64} : ∀ (c p n : Nat) (m1 : tk_m), p + c = 4 → c < n → (∀ r, r ≠ 445 + k → tk_row m m1 r) → (∀ p, p < 4 → m.2.1 449 p = f p) → y_T (iv_T t k f p) m1 → ∃ m2, fM_invert_252 n (Int32.ofNat k) (Int32.ofNat p) m1 = some (1, m2) ∧ (∀ r, r ≠ 445 + k → tk_row m m2 r) ∧ y_T (iv_T t k f 4) m2 := by
  intro c
  induction c with
  | zero =>
    intro p n m1 h1 h2 h3 h37 h4
    obtain ⟨n, rfl⟩ : ∃ k, n = k + 1 := ⟨n - 1, by omega⟩
    unfold fM_invert_252
    have : p = 4 := by omega
    subst this
    rw [if_pos (by decide)]
    exact ⟨m1, rfl, h3, h4⟩
  | succ c ih =>
    intro p n m1 h1 h2 h3 h37 h4
    obtain ⟨n, rfl⟩ : ∃ k, n = k + 1 := ⟨n - 1, by omega⟩
    have hp : p < 4 := by omega
    unfold fM_invert_252
    rw [if_neg (iv_n4 hp), if_pos (i_ok hk (by omega)), if_pos (i_ok hp (by omega)), if_pos (i_ok (show p < 40 by omega) (by omega)), i_nn (show p < 2147483648 by omega), i_nn (show k < 2147483648 by omega), (h3 449 (by omega)).2.1, h37 p hp, show Int32.ofNat p + 1 = Int32.ofNat (p + 1) from i_add p 1]
    exact ih (p + 1) n _ (by omega) (by omega) (fun r hr => tk_row_tr (h3 r hr) (tk_row_ul hr)) h37 (y_T_put h4 hk)
/-- the reference's look at the sizes -/
theorem iv_182s {k : Nat} (hk : k < 4) (n i : Nat) (hi : i < 4) (L : Nat → Nat → Int64) (B : Bool) : fM_invert_182 (n + 1) (Int32.ofNat k) (Int32.ofNat i) (ov_Y m L B) = fM_invert_182 n (Int32.ofNat k) (Int32.ofNat (i + 1)) (ov_Y m L (B || !decide (fM_cut (m.1 442 k) (L 449 i) = L 449 i))) := by
  have e : ∀ b : Bool, ((ov_Y m L B).1, (ov_Y m L B).2.1, tk_u2 (ov_Y m L B).2.2.1 295 4 b, (ov_Y m L B).2.2.2) = ov_Y m L b := fun b => by unfold ov_Y; dsimp only; rw [tk_u2_rw]
  conv => lhs; unfold fM_invert_182
  rw [if_neg (iv_n4 hi), if_pos (i_ok hk (by omega)), if_pos (i_ok hi (by omega)), i_nn (show i < 2147483648 by omega), i_nn (show k < 2147483648 by omega), ov_Y274, e, e, ov_Y1, show (ov_Y m L B).1 = m.1 from rfl, show Int32.ofNat i + 1 = Int32.ofNat (i + 1) from i_add i 1]
  by_cases c : fM_cut (m.1 442 k) (L 449 i) = L 449 i
  · rw [if_pos c, decide_eq_true c]; rfl
  · rw [if_neg c, decide_eq_false c]; rfl
theorem iv_182 {k : Nat} (hk : k < 4) (L : Nat → Nat → Int64) (B : Bool) : fM_invert_182 tk_F (Int32.ofNat k) 0 (ov_Y m L B) = fM_invert_235 (Int32.ofNat k) (ov_Y m L (B || !iv_c (m.1 442 k) (L 449))) := by
  have e4 : ∀ (n : Nat) (M : tk_m), fM_invert_182 (n + 1) (Int32.ofNat k) (Int32.ofNat (0 + 1 + 1 + 1 + 1)) M = fM_invert_235 (Int32.ofNat k) M := fun n M => by
    conv => lhs; unfold fM_invert_182
    rw [if_pos (by decide)]
  rw [show (0 : Int32) = Int32.ofNat 0 from rfl, iv_F, iv_182s hk _ 0 (by decide), iv_182s hk _ (0 + 1) (by decide), iv_182s hk _ (0 + 1 + 1) (by decide), iv_182s hk _ (0 + 1 + 1 + 1) (by decide), e4]
  unfold iv_c
  rw [Bool.not_and, Bool.not_and, Bool.not_and, ← Bool.or_assoc, ← Bool.or_assoc, ← Bool.or_assoc]
/-- the reference's look at the form -/
theorem iv_92s {k : Nat} (hk : k < 4) (n i : Nat) (hi : i < 4) (x y w v : Int32) : fM_invert_92 (n + 1) (Int32.ofNat k) x y w v (Int32.ofNat i) m = fM_invert_92 n (Int32.ofNat k) x y w (v &&& (if m.2.1 (445 + k) i = 0 then 1 else 0)) (Int32.ofNat (i + 1)) m := by
  conv => lhs; unfold fM_invert_92
  rw [if_neg (iv_n4 hi), if_pos (i_ok hk (by omega)), if_pos (i_ok (show i < 40 by omega) (by omega)), i_nn (show i < 2147483648 by omega), i_nn (show k < 2147483648 by omega), show Int32.ofNat i + 1 = Int32.ofNat (i + 1) from i_add i 1]
  by_cases c : m.2.1 (445 + k) i = 0
  · rw [if_pos c, if_pos c]
  · rw [if_neg c, if_neg c]
theorem iv_92 {k : Nat} (hk : k < 4) (x y w : Int32) : fM_invert_92 tk_F (Int32.ofNat k) x y w 1 0 m = fM_invert_128 (Int32.ofNat k) x y w (if iv_z (m.2.1 (445 + k)) = true then 1 else 0) m := by
  have e4 : ∀ (n : Nat) (v : Int32), fM_invert_92 (n + 1) (Int32.ofNat k) x y w v (Int32.ofNat (0 + 1 + 1 + 1 + 1)) m = fM_invert_128 (Int32.ofNat k) x y w v m := fun n v => by
    conv => lhs; unfold fM_invert_92
    rw [if_pos (by decide)]
  rw [show (0 : Int32) = Int32.ofNat 0 from rfl, iv_F, iv_92s hk _ 0 (by decide), iv_92s hk _ (0 + 1) (by decide), iv_92s hk _ (0 + 1 + 1) (by decide), iv_92s hk _ (0 + 1 + 1 + 1) (by decide), e4]
  refine congrArg (fun v => fM_invert_128 (Int32.ofNat k) x y w v m) ?_
  have e0 : Int32.ofNat 0 = 0 := rfl
  rw [e0]
  unfold iv_z
  by_cases c0 : m.2.1 (445 + k) 0 = 0 <;> by_cases c1 : m.2.1 (445 + k) 1 = 0 <;> by_cases c2 : m.2.1 (445 + k) 2 = 0 <;> by_cases c3 : m.2.1 (445 + k) 3 = 0 <;> simp [c0, c1, c2, c3]
end
