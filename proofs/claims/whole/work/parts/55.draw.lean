/-! ===== three by lot ===== -/
abbrev s_T3 : Type := Int32 × Int32 × Int32
def s_dk (num : Int32) : Nat → Nat → Nat → Nat → Nat → s_T3 → s_T3
  | 0, _, _, _, _, T => T
  | c + 1, s, i, j, k, T => s_dk num c (s + 1) i j (k + 1) (if Int32.ofNat s = num then (Int32.ofNat i, Int32.ofNat j, Int32.ofNat k) else T)
def s_dj (num : Int32) (N : Nat) : Nat → Nat → Nat → Nat → s_T3 → Nat × s_T3
  | 0, s, _, _, T => (s, T)
  | c + 1, s, i, j, T => s_dj num N c (s + (N - (j + 1))) i (j + 1) (s_dk num (N - (j + 1)) s i j (j + 1) T)
def s_di (num : Int32) (N : Nat) : Nat → Nat → Nat → s_T3 → s_T3
  | 0, _, _, T => T
  | c + 1, s, i, T => s_di num N c (s_dj num N (N - (i + 1)) s i (i + 1) T).1 (i + 1) (s_dj num N (N - (i + 1)) s i (i + 1) T).2
/-- the class's memory while three is chosen -/
def x_D (m0 : tk_m) (T : s_T3) (m : tk_m) : Prop := (∀ r, r ≠ 3 → m.1 r = m0.1 r) ∧ (m.1 3 0 = T.1 ∧ m.1 3 1 = T.2.1 ∧ m.1 3 2 = T.2.2) ∧ m.2.1 = m0.2.1 ∧ (∀ r, r ≠ 1 → m.2.2.1 r = m0.2.2.1 r) ∧ m.2.2.2 = m0.2.2.2 ∧ (m.2.2.1 1 4 = true ∨ (m.2.2.1 1 4 = m0.2.2.1 1 4 ∧ T = (m0.1 3 0, m0.1 3 1, m0.1 3 2)))
theorem x_D_ch {m0 m : tk_m} {T : s_T3} (h : x_D m0 T m) (i j k : Int32) : x_D m0 (i, j, k) (fS_choose 1 i j k m) := by
  obtain ⟨h1, h2, h3, h4, h5, h6⟩ := h
  unfold fS_choose
  refine ⟨?_, ⟨?_, ?_, ?_⟩, h3, ?_, h5, .inl (by dsimp only; exact tk_u2_eq)⟩
  · intro r hr; dsimp only; rw [tk_u2_ne (by omega), tk_u2_ne (by omega), tk_u2_ne (by omega)]; exact h1 r hr
  · dsimp only; rw [tk_u2_nk (by decide), tk_u2_nk (by decide), tk_u2_eq]
  · dsimp only; rw [tk_u2_nk (by decide), tk_u2_eq]
  · dsimp only; rw [tk_u2_eq]
  · intro r hr; dsimp only; rw [tk_u2_ne hr]; exact h4 r hr
theorem x_d32 (r4 : Nat → Int32 → Int32 → Int32 → tk_m → Option tk_m) (r17 : Nat → Int32 → Int32 → Int32 → Int32 → tk_m → Option tk_m) (m0 : tk_m) (N : Nat) (hN : N ≤ 6) (h0 : m0.1 1 1 = Int32.ofNat N) (num : Int32) (i j : Nat) : ∀ (c s k n : Nat) (m : tk_m) (T : s_T3), k + c = N → c < n → x_D m0 T m → ∃ m', fS_chooseSet_32 r4 r17 n 1 num (Int32.ofNat s) (Int32.ofNat i) (Int32.ofNat j) (Int32.ofNat k) m = r17 1 num (Int32.ofNat (s + c)) (Int32.ofNat i) (Int32.ofNat (j + 1)) m' ∧ x_D m0 (s_dk num c s i j k T) m' := by
  intro c
  induction c with
  | zero =>
    intro s k n m T h1 h2 h3
    obtain ⟨n, rfl⟩ : ∃ k, n = k + 1 := ⟨n - 1, by omega⟩
    unfold fS_chooseSet_32
    rw [h3.1 1 (by decide), h0, if_pos ((i_le (by omega) (by omega)).mpr (by omega)), show Int32.ofNat j + 1 = Int32.ofNat (j + 1) from i_add j 1]
    exact ⟨m, rfl, h3⟩
  | succ c ih =>
    intro s k n m T h1 h2 h3
    obtain ⟨n, rfl⟩ : ∃ k, n = k + 1 := ⟨n - 1, by omega⟩
    unfold fS_chooseSet_32
    rw [h3.1 1 (by decide), h0, if_neg (fun q => absurd ((i_le (by omega) (by omega)).mp q) (by omega)), show Int32.ofNat s + 1 = Int32.ofNat (s + 1) from i_add s 1, show Int32.ofNat k + 1 = Int32.ofNat (k + 1) from i_add k 1, show s + (c + 1) = s + 1 + c by omega]
    show ∃ m', (if Int32.ofNat s = num then _ else _) = _ ∧ x_D m0 (s_dk num c (s + 1) i j (k + 1) (if Int32.ofNat s = num then (Int32.ofNat i, Int32.ofNat j, Int32.ofNat k) else T)) m'
    by_cases e : Int32.ofNat s = num
    · rw [if_pos e, if_pos e]
      exact ih (s + 1) (k + 1) n _ _ (by omega) (by omega) (x_D_ch h3 _ _ _)
    · rw [if_neg e, if_neg e]
      exact ih (s + 1) (k + 1) n _ _ (by omega) (by omega) h3
theorem x_d17 (r4 : Nat → Int32 → Int32 → Int32 → tk_m → Option tk_m) (m0 : tk_m) (N : Nat) (hN : N ≤ 6) (h0 : m0.1 1 1 = Int32.ofNat N) (num : Int32) (i : Nat) : ∀ (c s j n : Nat) (m : tk_m) (T : s_T3), j + c = N → c < n → x_D m0 T m → ∃ m', fS_chooseSet_17 r4 n 1 num (Int32.ofNat s) (Int32.ofNat i) (Int32.ofNat j) m = r4 1 num (Int32.ofNat (s_dj num N c s i j T).1) (Int32.ofNat (i + 1)) m' ∧ x_D m0 (s_dj num N c s i j T).2 m' := by
  intro c
  induction c with
  | zero =>
    intro s j n m T h1 h2 h3
    obtain ⟨n, rfl⟩ : ∃ k, n = k + 1 := ⟨n - 1, by omega⟩
    unfold fS_chooseSet_17
    rw [h3.1 1 (by decide), h0, if_pos ((i_le (by omega) (by omega)).mpr (by omega)), show Int32.ofNat i + 1 = Int32.ofNat (i + 1) from i_add i 1]
    exact ⟨m, rfl, h3⟩
  | succ c ih =>
    intro s j n m T h1 h2 h3
    obtain ⟨n, rfl⟩ : ∃ k, n = k + 1 := ⟨n - 1, by omega⟩
    unfold fS_chooseSet_17
    rw [h3.1 1 (by decide), h0, if_neg (fun q => absurd ((i_le (by omega) (by omega)).mp q) (by omega)), show Int32.ofNat j + 1 = Int32.ofNat (j + 1) from i_add j 1]
    obtain ⟨m1, e1, e2⟩ := x_d32 r4 (fS_chooseSet_17 r4 n) m0 N hN h0 num i j (N - (j + 1)) s (j + 1) tk_F m T (by omega) (by unfold tk_F; omega) h3
    rw [e1]
    exact ih _ (j + 1) n m1 _ (by omega) (by omega) e2
theorem x_d4 (m0 : tk_m) (N : Nat) (hN : N ≤ 6) (h0 : m0.1 1 1 = Int32.ofNat N) (num : Int32) : ∀ (c s i n : Nat) (m : tk_m) (T : s_T3), i + c = N → c < n → x_D m0 T m → ∃ m', fS_chooseSet_4 n 1 num (Int32.ofNat s) (Int32.ofNat i) m = some m' ∧ x_D m0 (s_di num N c s i T) m' := by
  intro c
  induction c with
  | zero =>
    intro s i n m T h1 h2 h3
    obtain ⟨n, rfl⟩ : ∃ k, n = k + 1 := ⟨n - 1, by omega⟩
    unfold fS_chooseSet_4
    rw [h3.1 1 (by decide), h0, if_pos ((i_le (by omega) (by omega)).mpr (by omega))]
    exact ⟨m, rfl, h3⟩
  | succ c ih =>
    intro s i n m T h1 h2 h3
    obtain ⟨n, rfl⟩ : ∃ k, n = k + 1 := ⟨n - 1, by omega⟩
    unfold fS_chooseSet_4
    rw [h3.1 1 (by decide), h0, if_neg (fun q => absurd ((i_le (by omega) (by omega)).mp q) (by omega)), show Int32.ofNat i + 1 = Int32.ofNat (i + 1) from i_add i 1]
    obtain ⟨m1, e1, e2⟩ := x_d17 (fS_chooseSet_4 n) m0 N hN h0 num i (N - (i + 1)) s (i + 1) tk_F m T (by omega) (by unfold tk_F; omega) h3
    rw [e1]
    exact ih _ (i + 1) n m1 _ (by omega) (by omega) e2
/-- the reference's -/
def y_D (m0 : tk_m) (T : s_T3) (m : tk_m) : Prop := (∀ r, r ≠ 296 → m.1 r = m0.1 r) ∧ (∀ x, ¬ (1 ≤ x ∧ x ≤ 3) → m.1 296 x = m0.1 296 x) ∧ (m.1 296 1 = T.1 ∧ m.1 296 2 = T.2.1 ∧ m.1 296 3 = T.2.2) ∧ m.2 = m0.2
theorem y_D_ch {m0 m : tk_m} {T : s_T3} (h : y_D m0 T m) (i j k : Int32) : y_D m0 (i, j, k) (tk_u2 (tk_u2 (tk_u2 m.1 296 1 i) 296 2 j) 296 3 k, m.2.1, m.2.2.1, m.2.2.2) := by
  obtain ⟨h1, h2, h3, h4⟩ := h
  refine ⟨?_, ?_, ⟨?_, ?_, ?_⟩, h4⟩
  · intro r hr; dsimp only; rw [tk_u2_ne hr, tk_u2_ne hr, tk_u2_ne hr]; exact h1 r hr
  · intro x hx; dsimp only; rw [tk_u2_nk (by omega), tk_u2_nk (by omega), tk_u2_nk (by omega)]; exact h2 x hx
  · dsimp only; rw [tk_u2_nk (by decide), tk_u2_nk (by decide), tk_u2_eq]
  · dsimp only; rw [tk_u2_nk (by decide), tk_u2_eq]
  · dsimp only; rw [tk_u2_eq]
theorem y_d114 (r80 : Int32 → Int32 → Int32 → tk_m → Option (Int32 × tk_m)) (r97 : Int32 → Int32 → Int32 → Int32 → tk_m → Option (Int32 × tk_m)) (m0 : tk_m) (N : Nat) (hN : N ≤ 6) (h0 : m0.1 296 0 = Int32.ofNat N) (num : Int32) (i j : Nat) : ∀ (c s k n : Nat) (m : tk_m) (T : s_T3), k + c = N → c < n → y_D m0 T m → ∃ m', fM_draw_114 r80 r97 n num (Int32.ofNat s) (Int32.ofNat i) (Int32.ofNat j) (Int32.ofNat k) m = r97 num (Int32.ofNat (s + c)) (Int32.ofNat i) (Int32.ofNat (j + 1)) m' ∧ y_D m0 (s_dk num c s i j k T) m' := by
  intro c
  induction c with
  | zero =>
    intro s k n m T h1 h2 h3
    obtain ⟨n, rfl⟩ : ∃ k, n = k + 1 := ⟨n - 1, by omega⟩
    unfold fM_draw_114
    rw [h3.2.1 0 (by decide), h0, if_pos ((i_le (by omega) (by omega)).mpr (by omega)), show Int32.ofNat j + 1 = Int32.ofNat (j + 1) from i_add j 1]
    exact ⟨m, rfl, h3⟩
  | succ c ih =>
    intro s k n m T h1 h2 h3
    obtain ⟨n, rfl⟩ : ∃ k, n = k + 1 := ⟨n - 1, by omega⟩
    unfold fM_draw_114
    rw [h3.2.1 0 (by decide), h0, if_neg (fun q => absurd ((i_le (by omega) (by omega)).mp q) (by omega)), show Int32.ofNat s + 1 = Int32.ofNat (s + 1) from i_add s 1, show Int32.ofNat k + 1 = Int32.ofNat (k + 1) from i_add k 1, show s + (c + 1) = s + 1 + c by omega]
    show ∃ m', (if Int32.ofNat s = num then _ else _) = _ ∧ y_D m0 (s_dk num c (s + 1) i j (k + 1) (if Int32.ofNat s = num then (Int32.ofNat i, Int32.ofNat j, Int32.ofNat k) else T)) m'
    by_cases e : Int32.ofNat s = num
    · rw [if_pos e, if_pos e]
      exact ih (s + 1) (k + 1) n _ _ (by omega) (by omega) (y_D_ch h3 _ _ _)
    · rw [if_neg e, if_neg e]
      exact ih (s + 1) (k + 1) n _ _ (by omega) (by omega) h3
theorem y_d97 (r80 : Int32 → Int32 → Int32 → tk_m → Option (Int32 × tk_m)) (m0 : tk_m) (N : Nat) (hN : N ≤ 6) (h0 : m0.1 296 0 = Int32.ofNat N) (num : Int32) (i : Nat) : ∀ (c s j n : Nat) (m : tk_m) (T : s_T3), j + c = N → c < n → y_D m0 T m → ∃ m', fM_draw_97 r80 n num (Int32.ofNat s) (Int32.ofNat i) (Int32.ofNat j) m = r80 num (Int32.ofNat (s_dj num N c s i j T).1) (Int32.ofNat (i + 1)) m' ∧ y_D m0 (s_dj num N c s i j T).2 m' := by
  intro c
  induction c with
  | zero =>
    intro s j n m T h1 h2 h3
    obtain ⟨n, rfl⟩ : ∃ k, n = k + 1 := ⟨n - 1, by omega⟩
    unfold fM_draw_97
    rw [h3.2.1 0 (by decide), h0, if_pos ((i_le (by omega) (by omega)).mpr (by omega)), show Int32.ofNat i + 1 = Int32.ofNat (i + 1) from i_add i 1]
    exact ⟨m, rfl, h3⟩
  | succ c ih =>
    intro s j n m T h1 h2 h3
    obtain ⟨n, rfl⟩ : ∃ k, n = k + 1 := ⟨n - 1, by omega⟩
    unfold fM_draw_97
    rw [h3.2.1 0 (by decide), h0, if_neg (fun q => absurd ((i_le (by omega) (by omega)).mp q) (by omega)), show Int32.ofNat j + 1 = Int32.ofNat (j + 1) from i_add j 1]
    obtain ⟨m1, e1, e2⟩ := y_d114 r80 (fM_draw_97 r80 n) m0 N hN h0 num i j (N - (j + 1)) s (j + 1) tk_F m T (by omega) (by unfold tk_F; omega) h3
    rw [e1]
    exact ih _ (j + 1) n m1 _ (by omega) (by omega) e2
theorem y_d80 (m0 : tk_m) (N : Nat) (hN : N ≤ 6) (h0 : m0.1 296 0 = Int32.ofNat N) (num : Int32) : ∀ (c s i n : Nat) (m : tk_m) (T : s_T3), i + c = N → c < n → y_D m0 T m → ∃ m', fM_draw_80 n num (Int32.ofNat s) (Int32.ofNat i) m = some (num, m') ∧ y_D m0 (s_di num N c s i T) m' := by
  intro c
  induction c with
  | zero =>
    intro s i n m T h1 h2 h3
    obtain ⟨n, rfl⟩ : ∃ k, n = k + 1 := ⟨n - 1, by omega⟩
    unfold fM_draw_80
    rw [h3.2.1 0 (by decide), h0, if_pos ((i_le (by omega) (by omega)).mpr (by omega))]
    exact ⟨m, rfl, h3⟩
  | succ c ih =>
    intro s i n m T h1 h2 h3
    obtain ⟨n, rfl⟩ : ∃ k, n = k + 1 := ⟨n - 1, by omega⟩
    unfold fM_draw_80
    rw [h3.2.1 0 (by decide), h0, if_neg (fun q => absurd ((i_le (by omega) (by omega)).mp q) (by omega)), show Int32.ofNat i + 1 = Int32.ofNat (i + 1) from i_add i 1]
    obtain ⟨m1, e1, e2⟩ := y_d97 (fM_draw_80 n) m0 N hN h0 num i (N - (i + 1)) s (i + 1) tk_F m T (by omega) (by unfold tk_F; omega) h3
    rw [e1]
    exact ih _ (i + 1) n m1 _ (by omega) (by omega) e2
def s_sets (N : Nat) : Int32 := ((Int32.ofNat N * (Int32.ofNat N - 1)) * (Int32.ofNat N - 2)) / 6
def s_z (z : Int32) : Int32 := (z * 1103515245) + 12345
def s_num (N : Nat) (z : Int32) : Int32 := tk_irem (tk_iushr (s_z z) 8) (s_sets N)
def o_draw (a : s_as) : Int32 × s_as := if 3 ≤ a.1.1.length then (s_num a.1.1.length a.1.2.2, ((a.1.1, s_di (s_num a.1.1.length a.1.2.2) a.1.1.length a.1.1.length 0 0 a.1.2.1, s_z a.1.2.2), a.2)) else s_fd a 4
theorem s_setsp {N : Nat} (h : 3 ≤ N) (h6 : N ≤ 6) : ¬ s_sets N ≤ 0 ∧ ¬ s_sets N = 0 := by
  rcases (show N = 3 ∨ N = 4 ∨ N = 5 ∨ N = 6 by omega) with q | q | q | q <;> subst q <;> decide
section
variable {K : List s_sh → Int32 × Int32 × Int32 → tk_m → Prop} {a : s_as} {m m' : tk_m} {α : Type}
theorem x_draw (HK : x_K K) (ha : s_Ok a) (h : x_X K a m) : x_does K m (fX_draw m) (o_draw a) := by
  have hl := s_len ha
  obtain ⟨q1, q2, ⟨q3, q3b, q3c⟩, q4, q5⟩ := h.2.1
  unfold fX_draw o_draw
  rw [q1]
  refine x_ite (i_le (a := 3) (by omega) (by omega)) (fun g => x_bt ?_) (fun _ => x_bt (x_find HK ha h 4 (by decide)))
  obtain ⟨p1, p2⟩ := s_setsp g hl
  unfold s_sets at p1 p2
  unfold fS_drawThree fS_chooseSet
  rw [q1, q2, if_neg p1, if_neg p2, tk_u2_eq]
  have hD : x_D (tk_u2 m.1 1 3 (s_z a.1.2.2), m.2.1, m.2.2.1, m.2.2.2) a.1.2.1 (tk_u2 m.1 1 3 (s_z a.1.2.2), m.2.1, m.2.2.1, m.2.2.2) := by
    have e3 : tk_u2 m.1 1 3 (s_z a.1.2.2) 3 = m.1 3 := tk_u2_ne (by decide)
    refine ⟨fun _ _ => rfl, ⟨?_, ?_, ?_⟩, rfl, fun _ _ => rfl, rfl, .inr ⟨rfl, ?_⟩⟩
    · dsimp only; rw [e3]; exact q3
    · dsimp only; rw [e3]; exact q3b
    · dsimp only; rw [e3]; exact q3c
    · dsimp only; rw [e3]
      rw [show m.1 3 0 = a.1.2.1.1 from q3, show m.1 3 1 = a.1.2.1.2.1 from q3b, show m.1 3 2 = a.1.2.1.2.2 from q3c]
  obtain ⟨m1, e1, e2⟩ := x_d4 _ a.1.1.length hl (by dsimp only; rw [tk_u2_nk (by decide)]; exact q1) (s_num a.1.1.length a.1.2.2) a.1.1.length 0 0 tk_F _ a.1.2.1 (by omega) (by unfold tk_F; omega) hD
  rw [show fS_chooseSet_4 tk_F 1 (tk_irem (tk_iushr (a.1.2.2 * 1103515245 + 12345) 8) (Int32.ofNat a.1.1.length * (Int32.ofNat a.1.1.length - 1) * (Int32.ofNat a.1.1.length - 2) / 6)) 0 0 (tk_u2 m.1 1 3 (a.1.2.2 * 1103515245 + 12345), m.2.1, m.2.2.1, m.2.2.2) = some m1 from e1, Option.bind_some]
  obtain ⟨d1, d2, d3, d4, d5, d6⟩ := e2
  dsimp only at d1 d3 d4 d5 d6
  refine x_put1 HK ha h ?_ ?_ ?_ _
  · intro r hr
    exact ⟨by rw [d1 r (by omega), tk_u2_ne (by omega)], by rw [d3], by rw [d4 r (by omega)], by rw [d5]⟩
  · refine ⟨?_, ?_, d2, ?_, ?_⟩
    · rw [d1 1 (by decide), tk_u2_nk (by decide)]; exact q1
    · rw [d1 1 (by decide), tk_u2_eq]
    · intro i s hs
      have hx := q4 i s hs
      rw [d5]
      unfold x_H at hx ⊢
      rw [d1 _ (by omega), d4 _ (by omega), tk_u2_ne (by omega)]
      exact hx
    · rw [d5]; exact q5
  · rcases d6 with d6 | ⟨d6, d7⟩
    · exact .inl d6
    · refine .inr ⟨rfl, ?_, d6⟩
      show s_di (s_num a.1.1.length a.1.2.2) a.1.1.length a.1.1.length 0 0 a.1.2.1 = a.1.2.1
      rw [d7]
      rw [tk_u2_ne (show 3 ≠ 1 by decide), show m.1 3 0 = a.1.2.1.1 from q3, show m.1 3 1 = a.1.2.1.2.1 from q3b, show m.1 3 2 = a.1.2.1.2.2 from q3c]
theorem y_draw (ha : s_Ok a) (h : y_Y a m) : y_does m (fM_draw m) (o_draw a) := by
  have hl := s_len ha
  obtain ⟨q1, q2, ⟨q3, q3b, q3c⟩, q4⟩ := h.2.1
  unfold fM_draw o_draw
  rw [q1]
  refine y_ite (i_le (a := 3) (by omega) (by omega)) (fun g => ?_) (fun _ => y_bt (y_find ha h 4 (by decide)))
  obtain ⟨p1, p2⟩ := s_setsp g hl
  unfold s_sets at p1 p2
  rw [tk_u2_eq, tk_u2_nk (show (0 : Nat) ≠ 4 by decide), q1, q2, if_neg p2]
  have hD : y_D (tk_u2 m.1 296 4 (s_z a.1.2.2), m.2.1, m.2.2.1, m.2.2.2) a.1.2.1 (tk_u2 m.1 296 4 (s_z a.1.2.2), m.2.1, m.2.2.1, m.2.2.2) := by
    refine ⟨fun _ _ => rfl, fun _ _ => rfl, ⟨?_, ?_, ?_⟩, rfl⟩
    · dsimp only; rw [tk_u2_nk (by decide)]; exact q3
    · dsimp only; rw [tk_u2_nk (by decide)]; exact q3b
    · dsimp only; rw [tk_u2_nk (by decide)]; exact q3c
  obtain ⟨m1, e1, e2⟩ := y_d80 _ a.1.1.length hl (by dsimp only; rw [tk_u2_nk (by decide)]; exact q1) (s_num a.1.1.length a.1.2.2) a.1.1.length 0 0 tk_F _ a.1.2.1 (by omega) (by unfold tk_F; omega) hD
  rw [show fM_draw_80 tk_F (tk_irem (tk_iushr (a.1.2.2 * 1103515245 + 12345) 8) (Int32.ofNat a.1.1.length * (Int32.ofNat a.1.1.length - 1) * (Int32.ofNat a.1.1.length - 2) / 6)) 0 0 (tk_u2 m.1 296 4 (a.1.2.2 * 1103515245 + 12345), m.2.1, m.2.2.1, m.2.2.2) = some (s_num a.1.1.length a.1.2.2, m1) from e1]
  obtain ⟨d1, d2, d3, d4⟩ := e2
  dsimp only at d1 d2 d4
  refine y_put1 ha h ?_ ?_ _
  · intro r hr
    exact ⟨by rw [d1 r hr, tk_u2_ne hr], by rw [d4], by rw [d4], by rw [d4]⟩
  · refine ⟨?_, ?_, d3, ?_⟩
    · rw [d2 0 (by decide), tk_u2_nk (by decide)]; exact q1
    · rw [d2 4 (by decide), tk_u2_eq]
    · intro i s hs
      obtain ⟨z1, z2, z3, z4⟩ := q4 i s hs
      exact ⟨by rw [d2 _ (by omega), tk_u2_nk (by omega)]; exact z1, by rw [d2 _ (by omega), tk_u2_nk (by omega)]; exact z2, by rw [d2 _ (by omega), tk_u2_nk (by omega)]; exact z3, by rw [d2 _ (by omega), tk_u2_nk (by omega)]; exact z4⟩
theorem o_draw_ok (ha : s_Ok a) : s_Ok (o_draw a).2 := by
  unfold o_draw
  split
  · exact ha
  · exact ha
end
