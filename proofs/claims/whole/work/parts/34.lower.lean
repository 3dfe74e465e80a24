/-! ===== a row brought to lowest terms ===== -/
def lo_g (f : Nat → Int) : Nat → Nat
  | 0 => 0
  | n + 1 => Nat.gcd (lo_g f n) (f n).natAbs
def lo_D (g : Nat) (lead : Int) : Int := if lead < 0 then -(g : Int) else g
def lo_up (m : tk_m) (v0 L : Nat) (h : Nat → Int64) : tk_m := (m.1, fun a b => if a = v0 ∧ b < L then h b else m.2.1 a b, m.2.2.1, m.2.2.2)
theorem lo_g_dvd (f : Nat → Int) : ∀ (n k : Nat), k < n → lo_g f n ∣ (f k).natAbs := by
  intro n
  induction n with
  | zero => intro k h; omega
  | succ n ih =>
    intro k h
    unfold lo_g
    by_cases e : k = n
    · subst e; exact Nat.gcd_dvd_right _ _
    · exact Nat.dvd_trans (Nat.gcd_dvd_left _ _) (ih k (by omega))
theorem lo_g_max (f : Nat → Int) (d : Nat) : ∀ (n : Nat), (∀ k, k < n → d ∣ (f k).natAbs) → d ∣ lo_g f n := by
  intro n
  induction n with
  | zero => intro _; exact Nat.dvd_zero d
  | succ n ih => intro h; exact Nat.dvd_gcd (ih (fun k hk => h k (by omega))) (h n (by omega))
theorem lo_g_pos {f : Nat → Int} {n k : Nat} (hk : k < n) (h : f k ≠ 0) : 0 < lo_g f n := Nat.pos_of_dvd_of_pos (lo_g_dvd f n k hk) (by omega)
theorem lo_g_mul (f : Nat → Int) (c : Int) : ∀ n, lo_g (fun k => c * f k) n = c.natAbs * lo_g f n := by
  intro n
  induction n with
  | zero => unfold lo_g; rw [Nat.mul_zero]
  | succ n ih =>
    unfold lo_g
    rw [ih, Int.natAbs_mul, Nat.gcd_mul_left]
theorem lo_g_ext {f f' : Nat → Int} : ∀ n, (∀ k, k < n → f k = f' k) → lo_g f n = lo_g f' n := by
  intro n
  induction n with
  | zero => intro _; rfl
  | succ n ih => intro h; unfold lo_g; rw [ih (fun k hk => h k (by omega)), h n (by omega)]
theorem lo_D_ne {g : Nat} {l : Int} (h : 0 < g) : lo_D g l ≠ 0 := by unfold lo_D; split <;> omega
theorem lo_D_dvd {g : Nat} {l x : Int} (h : g ∣ x.natAbs) : lo_D g l ∣ x := by
  have h1 : (g : Int) ∣ x := Int.ofNat_dvd_left.mpr h
  unfold lo_D
  split
  · exact Int.neg_dvd.mpr h1
  · exact h1
/-- the same quotients for rows in the same ratio -/
theorem lo_scale {g : Nat} {l x c : Int} (hc : c ≠ 0) (hg : 0 < g) (hl : l ≠ 0) (hx : g ∣ x.natAbs) : (c * x) / lo_D (c.natAbs * g) (c * l) = x / lo_D g l := by
  have hD : lo_D (c.natAbs * g) (c * l) = c * lo_D g l := by
    unfold lo_D
    rw [Int.natCast_mul]
    rcases Int.lt_trichotomy c 0 with h | h | h
    · rcases Int.lt_trichotomy l 0 with h2 | h2 | h2
      · have := Int.mul_pos_of_neg_of_neg h h2
        rw [if_neg (by omega), if_pos h2, show (c.natAbs : Int) = -c by omega]; grind
      · exact absurd h2 hl
      · have := Int.mul_neg_of_neg_of_pos h h2
        rw [if_pos (by omega), if_neg (by omega), show (c.natAbs : Int) = -c by omega]; grind
    · exact absurd h hc
    · rcases Int.lt_trichotomy l 0 with h2 | h2 | h2
      · have := Int.mul_neg_of_pos_of_neg h h2
        rw [if_pos (by omega), if_pos h2, show (c.natAbs : Int) = c by omega]; grind
      · exact absurd h2 hl
      · have := Int.mul_pos h h2
        rw [if_neg (by omega), if_neg (by omega), show (c.natAbs : Int) = c by omega]
  rw [hD]
  obtain ⟨k, hk⟩ := lo_D_dvd (l := l) hx
  have h0 : lo_D g l ≠ 0 := lo_D_ne hg
  rw [hk, Int.mul_ediv_cancel_left _ h0, ← Int.mul_assoc, Int.mul_ediv_cancel_left _ (Int.mul_ne_zero hc h0)]
section
variable {v0 L : Nat} {m : tk_m} {f : Nat → Int} {D : Int}
theorem lo_tkok {i L : Nat} (h : i < L) (hL : L ≤ 40) : tk_ok (Int32.ofNat i) L := i_ok h (by omega)
theorem lo_step (i : Nat) (h : Nat → Int64) (x : Int64) (hx : x = h i) : ((lo_up m v0 i h).1, tk_u2 (lo_up m v0 i h).2.1 v0 i x, (lo_up m v0 i h).2.2.1, (lo_up m v0 i h).2.2.2) = lo_up m v0 (i + 1) h := by
  subst hx
  unfold lo_up
  dsimp only
  congr 2
  funext a b
  unfold tk_u2
  by_cases ha : a = v0
  · subst ha
    by_cases hb : b = i
    · subst hb; simp
    · by_cases hl : b < i
      · simp [hb, hl, show b < i + 1 by omega]
      · simp [hb, hl, show ¬ b < i + 1 by omega]
  · simp [ha]
theorem lo_111 (hL : tk_al v0 = L) (h40 : L ≤ 40) (hf : ∀ k, k < L → (m.2.1 v0 k).toInt = f k) (hD : lo_r D) (hD0 : D ≠ 0) (hdv : ∀ k, k < L → D ∣ f k) (hov : ∀ k, k < L → f k ≠ -9223372036854775808 ∨ D ≠ -1) : ∀ (j i n : Nat), i + j = L → j < n → fK_lower_111 n v0 (Int64.ofInt D) (Int32.ofNat i) (lo_up m v0 i (fun k => Int64.ofInt (f k / D))) = some (true, lo_up m v0 L (fun k => Int64.ofInt (f k / D))) := by
  have hz : ¬ Int64.ofInt D = 0 := by rw [lo_z, lo_i hD]; exact hD0
  intro j
  induction j with
  | zero =>
    intro i n hi hn
    obtain ⟨n, rfl⟩ : ∃ k, n = k + 1 := ⟨n - 1, by omega⟩
    unfold fK_lower_111
    rw [hL, if_pos ((i_le (by omega) (by omega)).mpr (by omega)), show i = L by omega]
  | succ j ih =>
    intro i n hi hn
    obtain ⟨n, rfl⟩ : ∃ k, n = k + 1 := ⟨n - 1, by omega⟩
    unfold fK_lower_111
    rw [hL, if_neg (fun q => absurd ((i_le (by omega) (by omega)).mp q) (by omega)), if_pos (lo_tkok (by omega) h40), if_neg hz, i_nn (by omega), show Int32.ofNat i + 1 = Int32.ofNat (i + 1) from i_add i 1]
    rw [lo_step]
    · exact ih (i + 1) n (by omega) (by omega)
    · have e : (lo_up m v0 i (fun k => Int64.ofInt (f k / D))).2.1 v0 i = m.2.1 v0 i := by
        unfold lo_up; dsimp only; rw [if_neg (by omega)]
      rw [e]
      apply lo_of
      rw [lo_div (by rw [hf i (by omega), lo_i hD]; exact hov i (by omega)), hf i (by omega), lo_i hD, Int.tdiv_eq_ediv_of_dvd (hdv i (by omega))]
theorem lo_66 (hL : tk_al v0 = L) (h40 : L ≤ 40) (hf : ∀ k, k < L → (m.2.1 v0 k).toInt = f k) (hD : lo_r D) (hD0 : D ≠ 0) : ∀ (j i n : Nat), (∀ k, i ≤ k → k < L → f k ≠ -9223372036854775808 ∨ D ≠ -1) → i + j = L → j < n → fK_lower_66 n v0 (Int64.ofInt D) (Int32.ofNat i) m = fK_lower_111 tk_F v0 (Int64.ofInt D) 0 m := by
  have hz : ¬ Int64.ofInt D = 0 := by rw [lo_z, lo_i hD]; exact hD0
  intro j
  induction j with
  | zero =>
    intro i n hov hi hn
    obtain ⟨n, rfl⟩ : ∃ k, n = k + 1 := ⟨n - 1, by omega⟩
    unfold fK_lower_66
    rw [hL, if_pos ((i_le (by omega) (by omega)).mpr (by omega))]
  | succ j ih =>
    intro i n hov hi hn
    obtain ⟨n, rfl⟩ : ∃ k, n = k + 1 := ⟨n - 1, by omega⟩
    unfold fK_lower_66
    rw [hL, if_neg (fun q => absurd ((i_le (by omega) (by omega)).mp q) (by omega)), if_neg hz, show Int32.ofNat i + 1 = Int32.ofNat (i + 1) from i_add i 1, ih (i + 1) n (fun k h1 h2 => hov k (by omega) h2) (by omega) (by omega), if_pos (lo_tkok (by omega) h40), i_nn (by omega)]
    by_cases h1 : Int64.ofInt D = -1
    · rw [if_pos h1, if_neg]
      intro q
      have h2 : f i = -9223372036854775808 := by rw [← hf i (by omega), q]; rfl
      have h3 : D = -1 := by rw [← lo_i hD, h1]; rfl
      rcases hov i (by omega) (by omega) with h | h
      · exact h h2
      · exact h h3
    · rw [if_neg h1]
theorem lo_66v (hL : tk_al v0 = L) (h40 : L ≤ 40) (hf : ∀ k, k < L → (m.2.1 v0 k).toInt = f k) (e : Nat) (he : e < L) (hfe : f e = -9223372036854775808) : ∀ (j i n : Nat), i ≤ e → i + j = L → j < n → fK_lower_66 n v0 (-1) (Int32.ofNat i) m = some (false, m) := by
  intro j
  induction j with
  | zero => intro i n h1 h2; omega
  | succ j ih =>
    intro i n hie hi hn
    obtain ⟨n, rfl⟩ : ∃ k, n = k + 1 := ⟨n - 1, by omega⟩
    unfold fK_lower_66
    rw [hL, if_neg (fun q => absurd ((i_le (by omega) (by omega)).mp q) (by omega)), if_neg (by decide), if_pos rfl, if_pos (lo_tkok (by omega) h40), i_nn (by omega)]
    by_cases h1 : m.2.1 v0 i = -9223372036854775808
    · rw [if_pos h1]
    · rw [if_neg h1, show Int32.ofNat i + 1 = Int32.ofNat (i + 1) from i_add i 1]
      refine ih (i + 1) n ?_ (by omega) (by omega)
      have : i ≠ e := by
        intro q
        subst q
        exact h1 (lo_ext (by rw [hf i he, hfe]; rfl))
      omega
theorem lo_25 (ld : Int32) (hL : tk_al v0 = L) (h40 : L ≤ 40) (hf : ∀ k, k < L → (m.2.1 v0 k).toInt = f k) : ∀ (j i n : Nat), i + j = L → j < n → fK_lower_25 n v0 ld (Int64.ofInt (-(lo_g f i : Int))) (Int32.ofNat i) m = fK_lower_47 v0 ld (Int64.ofInt (-(lo_g f L : Int))) m := by
  have hrg : ∀ i, i ≤ L → lo_r (-(lo_g f i : Int)) := by
    intro i
    induction i with
    | zero =>
      intro _
      show lo_r (-((0 : Nat) : Int))
      exact ⟨by decide, by decide⟩
    | succ i ih =>
      intro hi
      unfold lo_g
      by_cases h0 : f i = 0
      · rw [h0]
        simp only [Int.natAbs_zero, Nat.gcd_zero_right]
        exact ih (by omega)
      · have h1 := Nat.le_of_dvd (by omega) (Nat.gcd_dvd_right (lo_g f i) (f i).natAbs)
        have h2 := lo_rng (m.2.1 v0 i)
        rw [hf i (by omega)] at h2
        constructor <;> omega
  intro j
  induction j with
  | zero =>
    intro i n hi hn
    obtain ⟨n, rfl⟩ : ∃ k, n = k + 1 := ⟨n - 1, by omega⟩
    unfold fK_lower_25
    rw [hL, if_pos ((i_le (by omega) (by omega)).mpr (by omega)), show i = L by omega]
  | succ j ih =>
    intro i n hi hn
    obtain ⟨n, rfl⟩ : ∃ k, n = k + 1 := ⟨n - 1, by omega⟩
    unfold fK_lower_25
    rw [hL, if_neg (fun q => absurd ((i_le (by omega) (by omega)).mp q) (by omega)), if_pos (lo_tkok (by omega) h40), i_nn (by omega), lo_ndiv _ _ (by rw [lo_i (hrg i (by omega))]; omega), Option.bind_some, lo_i (hrg i (by omega)), hf i (by omega), show Int32.ofNat i + 1 = Int32.ofNat (i + 1) from i_add i 1]
    have e : Int.gcd (-(lo_g f i : Int)) (f i) = lo_g f (i + 1) := by
      rw [Int.neg_gcd]
      rfl
    rw [e]
    exact ih (i + 1) n (by omega) (by omega)
theorem lo_up0 (h : Nat → Int64) : lo_up m v0 0 h = m := by
  unfold lo_up
  simp
/-- the row of length L with number ld ahead of all is lowered, or it isn't -/
theorem lo_low {ld : Nat} (hL : tk_al v0 = L) (h40 : L ≤ 40) (hld : ld < L) (hf : ∀ k, k < L → (m.2.1 v0 k).toInt = f k) (h0 : f ld ≠ 0) : fK_lower v0 (Int32.ofNat ld) m = if lo_D (lo_g f L) (f ld) = -1 ∧ ∃ k, k < L ∧ f k = -9223372036854775808 then some (false, m) else some (true, lo_up m v0 L (fun k => Int64.ofInt (f k / lo_D (lo_g f L) (f ld)))) := by
  have hg : 0 < lo_g f L := lo_g_pos hld h0
  have hgd := fun k hk => lo_g_dvd f L k hk
  have hfr : ∀ k, k < L → lo_r (f k) := fun k hk => by rw [← hf k hk]; exact lo_rng _
  have hgl : lo_g f L ≤ (f ld).natAbs := Nat.le_of_dvd (by omega) (hgd ld hld)
  have hr1 := hfr ld hld
  have hDr : lo_r (lo_D (lo_g f L) (f ld)) := by unfold lo_D; split <;> (constructor <;> omega)
  have hD0 := lo_D_ne (l := f ld) hg
  unfold fK_lower
  rw [if_neg (i_neg (by omega)), hL, if_neg (fun q => absurd ((i_le (by omega) (by omega)).mp q) (by omega)), if_pos (lo_tkok hld h40), i_nn (by omega), if_neg (by rw [lo_z, hf ld hld]; exact h0)]
  have e25 := lo_25 (m := m) (f := f) (Int32.ofNat ld) hL h40 hf L 0 tk_F (by omega) (by unfold tk_F; omega)
  rw [show Int64.ofInt (-(lo_g f 0 : Int)) = 0 from rfl, show Int32.ofNat 0 = 0 from rfl] at e25
  rw [e25]
  unfold fK_lower_47
  rw [hL, if_pos (lo_tkok hld h40), i_nn (by omega)]
  have hDD : (if (0 : Int64) ≤ m.2.1 v0 ld then fK_lower_66 tk_F v0 (-Int64.ofInt (-(lo_g f L : Int))) 0 m else fK_lower_66 tk_F v0 (Int64.ofInt (-(lo_g f L : Int))) 0 m) = fK_lower_66 tk_F v0 (Int64.ofInt (lo_D (lo_g f L) (f ld))) 0 m := by
    unfold lo_D
    by_cases hs : f ld < 0
    · rw [if_neg (by rw [Int64.le_iff_toInt_le, hf ld hld, show (0 : Int64).toInt = 0 from rfl]; omega), if_pos hs]
    · rw [if_pos (by rw [Int64.le_iff_toInt_le, hf ld hld, show (0 : Int64).toInt = 0 from rfl]; omega), if_neg hs, ← Int64.ofInt_neg, Int.neg_neg]
  rw [hDD]
  by_cases hc : lo_D (lo_g f L) (f ld) = -1 ∧ ∃ k, k < L ∧ f k = -9223372036854775808
  · rw [if_pos hc]
    obtain ⟨c1, e, c2, c3⟩ := hc
    rw [c1]
    exact lo_66v hL h40 hf e c2 c3 L 0 tk_F (by omega) (by omega) (by unfold tk_F; omega)
  · rw [if_neg hc]
    have hov : ∀ k, k < L → f k ≠ -9223372036854775808 ∨ lo_D (lo_g f L) (f ld) ≠ -1 := by
      intro k hk
      by_cases q : f k = -9223372036854775808
      · exact .inr (fun q2 => hc ⟨q2, k, hk, q⟩)
      · exact .inl q
    have e66 := lo_66 (m := m) hL h40 hf hDr hD0 L 0 tk_F (fun k _ h2 => hov k h2) (by omega) (by unfold tk_F; omega)
    rw [show Int32.ofNat 0 = 0 from rfl] at e66
    rw [e66]
    have e111 := lo_111 (m := m) hL h40 hf hDr hD0 (fun k hk => lo_D_dvd (hgd k hk)) hov L 0 tk_F (by omega) (by unfold tk_F; omega)
    rw [lo_up0] at e111
    exact e111
theorem lo_low0 {ld : Nat} (hL : tk_al v0 = L) (h40 : L ≤ 40) (hld : ld < L) (h0 : m.2.1 v0 ld = 0) : fK_lower v0 (Int32.ofNat ld) m = some (false, m) := by
  unfold fK_lower
  rw [if_neg (i_neg (by omega)), hL, if_neg (fun q => absurd ((i_le (by omega) (by omega)).mp q) (by omega)), if_pos (lo_tkok hld h40), i_nn (by omega), if_pos h0]
end
