/-! ===== the reference's wide numbers: digits ===== -/
def nu_t (v : Int) : Int32 := Int32.ofInt (nu_sg v)
theorem nu_ti (v : Int) : (nu_t v).toInt = nu_sg v := by
  unfold nu_t
  rcases nu_sg_cs v with h | h | h <;> rw [h] <;> rfl
theorem nu_tz {v : Int} : nu_t v = 0 ↔ v = 0 := by
  rw [← Int32.toInt_inj, nu_ti, ← nu_sg_iz]; rfl
theorem nu_tq {u v : Int} : nu_t u = nu_t v ↔ nu_sg u = nu_sg v := by rw [← Int32.toInt_inj, nu_ti, nu_ti]
theorem nu_tm (u v : Int) : nu_t u * nu_t v = nu_t (u * v) := by
  unfold nu_t
  rw [nu_sg_mul, Int32.ofInt_mul]
theorem nu_tn (v : Int) : - nu_t v = nu_t (-v) := by
  unfold nu_t
  rw [nu_sg_neg, Int32.ofInt_neg]
theorem nu_tl {v : Int} : nu_t v < 0 ↔ v < 0 := by
  rw [Int32.lt_iff_toInt_lt, nu_ti, show (0 : Int32).toInt = 0 from rfl]; exact nu_sg_in
theorem nu_tle {v : Int} : nu_t v ≤ 0 ↔ v ≤ 0 := by
  rw [Int32.le_iff_toInt_le, nu_ti, show (0 : Int32).toInt = 0 from rfl]
  have := nu_sg_ip (x := v)
  omega
theorem nu_tge {v : Int} : 0 ≤ nu_t v ↔ 0 ≤ v := by
  rw [Int32.le_iff_toInt_le, nu_ti, show (0 : Int32).toInt = 0 from rfl]
  have := nu_sg_in (x := v)
  omega
theorem nu_tp {v : Int} : 0 < nu_t v ↔ 0 < v := by
  rw [Int32.lt_iff_toInt_lt, nu_ti, show (0 : Int32).toInt = 0 from rfl]; exact nu_sg_ip
def wd_v (f : Nat → Int32) : Nat → Nat
  | 0 => 0
  | n + 1 => wd_v f n + (f n).toInt.toNat * 10000 ^ n
theorem wd_vs (f : Nat → Int32) (n : Nat) : wd_v f (n + 1) = wd_v f n + (f n).toInt.toNat * 10000 ^ n := rfl
def wd_ok (f : Nat → Int32) (n : Nat) : Prop := ∀ k, k < n → 0 ≤ (f k).toInt ∧ (f k).toInt < 10000
theorem wd_v_ext {f g : Nat → Int32} : ∀ n, (∀ k, k < n → f k = g k) → wd_v f n = wd_v g n := by
  intro n
  induction n with
  | zero => intro _; rfl
  | succ n ih => intro h; unfold wd_v; rw [ih (fun k hk => h k (by omega)), h n (by omega)]
theorem wd_ok_ext {f g : Nat → Int32} {n : Nat} (h : ∀ k, k < n → f k = g k) (hf : wd_ok f n) : wd_ok g n := fun k hk => by rw [← h k hk]; exact hf k hk
theorem wd_v_lt {f : Nat → Int32} : ∀ n, wd_ok f n → wd_v f n < 10000 ^ n := by
  intro n
  induction n with
  | zero => intro _; exact Nat.one_pos
  | succ n ih =>
    intro h
    have h1 := ih (fun k hk => h k (by omega))
    have h2 := h n (by omega)
    have h3 : (f n).toInt.toNat ≤ 9999 := by omega
    have h4 : (f n).toInt.toNat * 10000 ^ n ≤ 9999 * 10000 ^ n := Nat.mul_le_mul_right _ h3
    unfold wd_v
    rw [Nat.pow_succ]
    omega
theorem wd_v_split (f : Nat → Int32) (k : Nat) : ∀ j, ∃ T, wd_v f (k + j) = wd_v f k + 10000 ^ k * T := by
  intro j
  induction j with
  | zero => exact ⟨0, by simp⟩
  | succ j ih =>
    obtain ⟨T, hT⟩ := ih
    refine ⟨T + (f (k + j)).toInt.toNat * 10000 ^ j, ?_⟩
    show wd_v f (k + j) + (f (k + j)).toInt.toNat * 10000 ^ (k + j) = _
    rw [hT, Nat.pow_add]
    grind
theorem wd_u {f : Nat → Nat → Int32} {r k : Nat} {v : Int32} : ∀ i, i < k → tk_u2 f r k v r i = f r i := fun i hi => tk_u2_nk (by omega)
theorem wd_dig (x : Int64) : (Int64.toInt32 (fZ_abs_J (tk_lrem x 10000))).toInt = ((x.toInt.natAbs % 10000 : Nat) : Int) := by
  have h1 := lo_rem x 10000
  rw [show (10000 : Int64).toInt = 10000 from rfl] at h1
  have h2 : (x.toInt.tmod 10000).natAbs = x.toInt.natAbs % 10000 := Int.natAbs_tmod _ _
  have h3 : x.toInt.natAbs % 10000 < 10000 := Nat.mod_lt _ (by decide)
  have h4 : (fZ_abs_J (tk_lrem x 10000)).toInt = ((x.toInt.natAbs % 10000 : Nat) : Int) := by
    unfold fZ_abs_J
    by_cases h : (0 : Int64) ≤ tk_lrem x 10000
    · rw [if_pos h]
      rw [Int64.le_iff_toInt_le, show (0 : Int64).toInt = 0 from rfl] at h
      omega
    · rw [if_neg h]
      rw [Int64.le_iff_toInt_le, show (0 : Int64).toInt = 0 from rfl] at h
      rw [lo_neg (by constructor <;> omega)]
      omega
  rw [Int64.toInt_toInt32, h4]
  exact Int.bmod_eq_of_le (by omega) (by omega)
theorem wd_quo (x : Int64) : (x / 10000).toInt.natAbs = x.toInt.natAbs / 10000 := by
  rw [lo_div (.inr (by decide)), Int.natAbs_tdiv]
  rfl
theorem wd_31 (w : Nat) (hw : w < 40) (A : Nat) (hA : A < 10000 ^ 60) : ∀ (j k n : Nat) (left : Int64) (m : tk_m), k + j = 60 → j < n → wd_ok (m.1 (308 + w)) k → wd_v (m.1 (308 + w)) k + left.toInt.natAbs * 10000 ^ k = A → ∃ m', fM_widens_31 n (Int32.ofNat w) left (Int32.ofNat k) m = some (Int32.ofNat w, m') ∧ m'.2 = m.2 ∧ (∀ r, r ≠ 308 + w → m'.1 r = m.1 r) ∧ wd_ok (m'.1 (308 + w)) 60 ∧ wd_v (m'.1 (308 + w)) 60 = A := by
  intro j
  induction j with
  | zero =>
    intro k n left m h1 h2 h3 h4
    obtain ⟨n, rfl⟩ : ∃ k, n = k + 1 := ⟨n - 1, by omega⟩
    have hk : k = 60 := by omega
    subst hk
    unfold fM_widens_31
    rw [if_pos (by decide)]
    refine ⟨m, rfl, rfl, fun _ _ => rfl, h3, ?_⟩
    have h5 : left.toInt.natAbs = 0 := by
      apply Nat.eq_zero_of_not_pos
      intro q
      have : 1 * 10000 ^ 60 ≤ left.toInt.natAbs * 10000 ^ 60 := Nat.mul_le_mul_right _ q
      omega
    rw [h5, Nat.zero_mul, Nat.add_zero] at h4
    exact h4
  | succ j ih =>
    intro k n left m h1 h2 h3 h4
    obtain ⟨n, rfl⟩ : ∃ k, n = k + 1 := ⟨n - 1, by omega⟩
    unfold fM_widens_31
    rw [if_neg (show ¬ (60 : Int32) ≤ Int32.ofNat k from fun q => absurd ((i_le (a := 60) (b := k) (by omega) (by omega)).mp q) (by omega)), if_pos (i_ok hw (by omega)), if_pos (i_ok (show k < 60 by omega) (by omega)), i_nn (show w < 2147483648 by omega), i_nn (show k < 2147483648 by omega), show Int32.ofNat k + 1 = Int32.ofNat (k + 1) from i_add k 1]
    have hd := wd_dig left
    have hq := wd_quo left
    obtain ⟨m', e1, e2, e3, e4, e5⟩ := ih (k + 1) n (left / 10000) (tk_u2 m.1 (308 + w) k (Int64.toInt32 (fZ_abs_J (tk_lrem left 10000))), m.2.1, m.2.2.1, m.2.2.2) (by omega) (by omega) (by
      intro i hi
      dsimp only
      by_cases e : i = k
      · subst e
        rw [tk_u2_eq, hd]
        have := Nat.mod_lt left.toInt.natAbs (show 10000 > 0 by decide)
        omega
      · rw [tk_u2_nk e]
        exact h3 i (by omega)) (by
      dsimp only
      unfold wd_v
      rw [tk_u2_eq, wd_v_ext k wd_u, hd, hq, Nat.pow_succ]
      have h5 := Nat.div_add_mod left.toInt.natAbs 10000
      have h6 : ((left.toInt.natAbs % 10000 : Nat) : Int).toNat = left.toInt.natAbs % 10000 := rfl
      rw [h6, ← h4]
      generalize left.toInt.natAbs = X at *
      have h7 : X * 10000 ^ k = (10000 * (X / 10000) + X % 10000) * 10000 ^ k := by rw [h5]
      rw [h7]
      grind)
    refine ⟨m', e1, e2, fun r hr => ?_, e4, e5⟩
    rw [e3 r hr]
    exact tk_u2_ne hr
/-! products -/
def wd_cv (f g : Nat → Int32) (k : Nat) : Nat → Nat
  | 0 => 0
  | i + 1 => wd_cv f g k i + (f i).toInt.toNat * (g (k - i)).toInt.toNat
def wd_C (f g : Nat → Int32) : Nat → Nat
  | 0 => 0
  | k + 1 => wd_C f g k + wd_cv f g k (k + 1) * 10000 ^ k
/-- rows of the product, cut off -/
def wd_D (f g : Nat → Int32) (n : Nat) : Nat → Nat
  | 0 => 0
  | i + 1 => wd_D f g n i + (f i).toInt.toNat * 10000 ^ i * wd_v g (n - i)
theorem wd_cvs (f g : Nat → Int32) (k i : Nat) : wd_cv f g k (i + 1) = wd_cv f g k i + (f i).toInt.toNat * (g (k - i)).toInt.toNat := rfl
theorem wd_Ds (f g : Nat → Int32) (n i : Nat) : wd_D f g n (i + 1) = wd_D f g n i + (f i).toInt.toNat * 10000 ^ i * wd_v g (n - i) := rfl
theorem wd_D_next (f g : Nat → Int32) (n : Nat) : ∀ i, i ≤ n → wd_D f g (n + 1) i = wd_D f g n i + wd_cv f g n i * 10000 ^ n := by
  intro i
  induction i with
  | zero => intro _; simp [wd_D, wd_cv]
  | succ i ih =>
    intro hi
    rw [wd_Ds, wd_Ds, wd_cvs, ih (by omega), show n + 1 - i = (n - i) + 1 by omega, wd_vs]
    have : 10000 ^ n = 10000 ^ i * 10000 ^ (n - i) := by rw [← Nat.pow_add]; congr 1; omega
    rw [this]
    generalize 10000 ^ i = X
    generalize 10000 ^ (n - i) = Y
    generalize (f i).toInt.toNat = a
    generalize (g (n - i)).toInt.toNat = b
    generalize wd_cv f g n i = c
    generalize wd_v g (n - i) = d
    grind
theorem wd_C_D (f g : Nat → Int32) : ∀ n, wd_C f g n = wd_D f g n n := by
  intro n
  induction n with
  | zero => rfl
  | succ n ih =>
    unfold wd_C
    rw [ih]
    show _ = wd_D f g (n + 1) n + (f n).toInt.toNat * 10000 ^ n * wd_v g (n + 1 - n)
    rw [wd_D_next f g n n (Nat.le_refl n), wd_cvs, show n + 1 - n = 0 + 1 by omega, wd_vs, show n - n = 0 by omega, show wd_v g 0 = 0 from rfl, Nat.pow_zero]
    generalize 10000 ^ n = X
    generalize (f n).toInt.toNat = a
    generalize (g 0).toInt.toNat = b
    generalize wd_cv f g n n = c
    grind
theorem wd_D_prod (f g : Nat → Int32) (n : Nat) : ∀ i, i ≤ n → ∃ R, wd_v f i * wd_v g n = wd_D f g n i + 10000 ^ n * R := by
  intro i
  induction i with
  | zero => intro _; exact ⟨0, by simp [wd_v, wd_D]⟩
  | succ i ih =>
    intro hi
    obtain ⟨R, hR⟩ := ih (by omega)
    obtain ⟨T, hT⟩ := wd_v_split g (n - i) i
    rw [show n - i + i = n by omega] at hT
    refine ⟨R + (f i).toInt.toNat * T, ?_⟩
    rw [wd_vs, wd_Ds, Nat.add_mul, hR]
    have : 10000 ^ n = 10000 ^ i * 10000 ^ (n - i) := by rw [← Nat.pow_add]; congr 1; omega
    have h2 : (f i).toInt.toNat * 10000 ^ i * wd_v g n = (f i).toInt.toNat * 10000 ^ i * wd_v g (n - i) + 10000 ^ n * ((f i).toInt.toNat * T) := by
      rw [hT, this]
      generalize 10000 ^ i = X
      generalize 10000 ^ (n - i) = Y
      grind
    rw [h2]
    generalize 10000 ^ n = X
    grind
theorem wd_C_prod {f g : Nat → Int32} (h : wd_v f 60 * wd_v g 60 < 10000 ^ 60) : wd_C f g 60 = wd_v f 60 * wd_v g 60 := by
  obtain ⟨R, hR⟩ := wd_D_prod f g 60 60 (Nat.le_refl _)
  rw [wd_C_D]
  have : R = 0 := by
    apply Nat.eq_zero_of_not_pos
    intro q
    have : 10000 ^ 60 * 1 ≤ 10000 ^ 60 * R := Nat.mul_le_mul_left _ q
    omega
  rw [this, Nat.mul_zero, Nat.add_zero] at hR
  exact hR.symm
theorem wd_o {d : Int32} (h : 0 ≤ d.toInt) : Int32.toInt64 d = rt_o d.toInt.toNat := by
  apply lo_ext
  have := d.toInt_lt
  rw [Int32.toInt_toInt64, rt_i (by omega)]
  omega
theorem wd_50 (r : Int32 → Int32 → Int32 → Int64 → Int32 → tk_m → Option (Int32 × tk_m)) (x y k c : Nat) (w : Int32) (m : tk_m) (hx : x < 40) (hy : y < 40) (hk : k < 60) (hf : wd_ok (m.1 (308 + x)) 60) (hg : wd_ok (m.1 (308 + y)) 60) : ∀ (j i n : Nat), i + j = k + 1 → j < n → fM_timesWide_II_50 r n (Int32.ofNat x) (Int32.ofNat y) w (rt_o (c + wd_cv (m.1 (308 + x)) (m.1 (308 + y)) k i)) (Int32.ofNat k) (Int32.ofNat i) m = fM_timesWide_II_92 r (Int32.ofNat x) (Int32.ofNat y) w (rt_o (c + wd_cv (m.1 (308 + x)) (m.1 (308 + y)) k (k + 1))) (Int32.ofNat k) m := by
  intro j
  induction j with
  | zero =>
    intro i n h1 h2
    obtain ⟨n, rfl⟩ : ∃ k, n = k + 1 := ⟨n - 1, by omega⟩
    have hi : i = k + 1 := by omega
    subst hi
    unfold fM_timesWide_II_50
    rw [if_pos ((i_lt (by omega) (by omega)).mpr (by omega))]
  | succ j ih =>
    intro i n h1 h2
    obtain ⟨n, rfl⟩ : ∃ k, n = k + 1 := ⟨n - 1, by omega⟩
    unfold fM_timesWide_II_50
    have hsub : Int32.ofNat k - Int32.ofNat i = Int32.ofNat (k - i) := (Int32.ofNat_sub k i (by omega)).symm
    rw [if_neg (fun q => absurd ((i_lt (by omega) (by omega)).mp q) (by omega)), if_pos (i_ok hx (by omega)), if_pos (i_ok (show i < 60 by omega) (by omega)), if_pos (i_ok hy (by omega)), hsub, if_pos (i_ok (show k - i < 60 by omega) (by omega)), i_nn (show x < 2147483648 by omega), i_nn (show y < 2147483648 by omega), i_nn (show i < 2147483648 by omega), i_nn (show k - i < 2147483648 by omega), wd_o (hf i (by omega)).1, wd_o (hg (k - i) (by omega)).1, rt_mul, rt_add, show Int32.ofNat i + 1 = Int32.ofNat (i + 1) from i_add i 1, Nat.add_assoc]
    exact ih (i + 1) n (by omega) (by omega)
theorem wd_cv_le {f g : Nat → Int32} {k : Nat} (hk : k < 60) (hf : wd_ok f 60) (hg : wd_ok g 60) : ∀ i, i ≤ k + 1 → wd_cv f g k i ≤ i * 100000000 := by
  intro i
  induction i with
  | zero => intro _; simp [wd_cv]
  | succ i ih =>
    intro hi
    unfold wd_cv
    have h1 := ih (by omega)
    have h2 := hf i (by omega)
    have h3 := hg (k - i) (by omega)
    have h4 : (f i).toInt.toNat * (g (k - i)).toInt.toNat ≤ 10000 * 10000 := Nat.mul_le_mul (by omega) (by omega)
    omega
theorem wd_40 (x y w : Nat) (hx : x < 40) (hy : y < 40) (hw : w < 40) (hxw : x ≠ w) (hyw : y ≠ w) (f g : Nat → Int32) (hf : wd_ok f 60) (hg : wd_ok g 60) : ∀ (j k n c : Nat) (m : tk_m), k + j = 60 → j < n → m.1 (308 + x) = f → m.1 (308 + y) = g → c < 10000000000 → wd_ok (m.1 (308 + w)) k → wd_v (m.1 (308 + w)) k + c * 10000 ^ k = wd_C f g k → ∃ m' c', fM_timesWide_II_40 n (Int32.ofNat x) (Int32.ofNat y) (Int32.ofNat w) (rt_o c) (Int32.ofNat k) m = some (Int32.ofNat w, m') ∧ m'.2 = m.2 ∧ (∀ r, r ≠ 308 + w → m'.1 r = m.1 r) ∧ wd_ok (m'.1 (308 + w)) 60 ∧ wd_v (m'.1 (308 + w)) 60 + c' * 10000 ^ 60 = wd_C f g 60 := by
  intro j
  induction j with
  | zero =>
    intro k n c m h1 h2 h3 h4 h5 h6 h7
    obtain ⟨n, rfl⟩ : ∃ k, n = k + 1 := ⟨n - 1, by omega⟩
    have hk : k = 60 := by omega
    subst hk
    unfold fM_timesWide_II_40
    rw [if_pos (by decide)]
    exact ⟨m, c, rfl, rfl, fun _ _ => rfl, h6, h7⟩
  | succ j ih =>
    intro k n c m h1 h2 h3 h4 h5 h6 h7
    obtain ⟨n, rfl⟩ : ∃ k, n = k + 1 := ⟨n - 1, by omega⟩
    unfold fM_timesWide_II_40
    rw [if_neg (show ¬ (60 : Int32) ≤ Int32.ofNat k from fun q => absurd ((i_le (a := 60) (b := k) (by omega) (by omega)).mp q) (by omega))]
    have e50 := wd_50 (fM_timesWide_II_40 n) x y k c (Int32.ofNat w) m hx hy (by omega) (by rw [h3]; exact hf) (by rw [h4]; exact hg) (k + 1) 0 tk_F (by omega) (by unfold tk_F; omega)
    rw [show Int32.ofNat 0 = 0 from rfl, show wd_cv (m.1 (308 + x)) (m.1 (308 + y)) k 0 = 0 from rfl, Nat.add_zero, h3, h4] at e50
    rw [e50]
    have hc := wd_cv_le (show k < 60 by omega) hf hg (k + 1) (Nat.le_refl _)
    unfold fM_timesWide_II_92
    have hb : c + wd_cv f g k (k + 1) < 9223372036854775808 := by omega
    have hqd : rt_o (c + wd_cv f g k (k + 1)) / 10000 = rt_o ((c + wd_cv f g k (k + 1)) / 10000) := rt_div (b := 10000) hb (by omega)
    have hdg : (Int64.toInt32 (tk_lrem (rt_o (c + wd_cv f g k (k + 1))) 10000)).toInt = (((c + wd_cv f g k (k + 1)) % 10000 : Nat) : Int) := by
      have h8 : (c + wd_cv f g k (k + 1)) % 10000 < 10000 := Nat.mod_lt _ (by decide)
      rw [Int64.toInt_toInt32, lo_rem, rt_i hb, show (10000 : Int64).toInt = ((10000 : Nat) : Int) from rfl, ← Int.ofNat_tmod]
      exact Int.bmod_eq_of_le (by omega) (by omega)
    rw [if_pos (i_ok hw (by omega)), if_pos (i_ok (show k < 60 by omega) (by omega)), i_nn (show w < 2147483648 by omega), i_nn (show k < 2147483648 by omega), hqd, show Int32.ofNat k + 1 = Int32.ofNat (k + 1) from i_add k 1]
    generalize Int64.toInt32 (tk_lrem (rt_o (c + wd_cv f g k (k + 1))) 10000) = dg at hdg
    obtain ⟨m', c', e1, e2, e3, e4, e5⟩ := ih (k + 1) n ((c + wd_cv f g k (k + 1)) / 10000) (tk_u2 m.1 (308 + w) k dg, m.2.1, m.2.2.1, m.2.2.2) (by omega) (by omega) (by dsimp only; rw [tk_u2_ne (by omega)]; exact h3) (by dsimp only; rw [tk_u2_ne (by omega)]; exact h4) (by omega) (by
      intro i hi
      dsimp only
      by_cases e : i = k
      · subst e
        rw [tk_u2_eq, hdg]
        have := Nat.mod_lt (c + wd_cv f g i (i + 1)) (show 10000 > 0 by decide)
        omega
      · rw [tk_u2_nk e]
        exact h6 i (by omega)) (by
      dsimp only
      unfold wd_v wd_C
      rw [tk_u2_eq, wd_v_ext k wd_u, hdg, Nat.pow_succ, ← h7]
      have h9 : (((c + wd_cv f g k (k + 1)) % 10000 : Nat) : Int).toNat = (c + wd_cv f g k (k + 1)) % 10000 := rfl
      rw [h9]
      generalize wd_cv f g k (k + 1) = V at *
      have h8 := Nat.div_add_mod (c + V) 10000
      generalize (c + V) / 10000 = Q at *
      generalize (c + V) % 10000 = S at *
      have h10 : (c + V) * 10000 ^ k = (10000 * Q + S) * 10000 ^ k := by rw [h8]
      grind)
    refine ⟨m', c', e1, e2, fun r hr => ?_, e4, e5⟩
    rw [e3 r hr]
    exact tk_u2_ne hr
