/-! ===== roots: a number as a square times what no square divides ===== -/
abbrev rt_o (n : Nat) : Int64 := Int64.ofNat n
theorem rt_i {n : Nat} (h : n < 9223372036854775808) : (rt_o n).toInt = n := Int64.toInt_ofNat_of_lt (by omega)
theorem rt_lt {a b : Nat} (ha : a < 9223372036854775808) (hb : b < 9223372036854775808) : rt_o a < rt_o b ↔ a < b := by rw [Int64.lt_iff_toInt_lt, rt_i ha, rt_i hb]; omega
theorem rt_le {a b : Nat} (ha : a < 9223372036854775808) (hb : b < 9223372036854775808) : rt_o a ≤ rt_o b ↔ a ≤ b := by rw [Int64.le_iff_toInt_le, rt_i ha, rt_i hb]; omega
theorem rt_eq {a b : Nat} (ha : a < 9223372036854775808) (hb : b < 9223372036854775808) : rt_o a = rt_o b ↔ a = b := by
  rw [← Int64.toInt_inj, rt_i ha, rt_i hb]; omega
theorem rt_mul (a b : Nat) : rt_o a * rt_o b = rt_o (a * b) := (Int64.ofNat_mul a b).symm
theorem rt_add (a b : Nat) : rt_o a + rt_o b = rt_o (a + b) := (Int64.ofNat_add a b).symm
theorem rt_div {a b : Nat} (ha : a < 9223372036854775808) (hb : b < 9223372036854775808) : rt_o a / rt_o b = rt_o (a / b) := (Int64.ofNat_div (by omega) (by omega)).symm
theorem rt_rem {a b : Nat} (ha : a < 9223372036854775808) (hb : b < 9223372036854775808) : tk_lrem (rt_o a) (rt_o b) = 0 ↔ b ∣ a := by
  rw [lo_z, lo_rem, rt_i ha, rt_i hb, ← Int.ofNat_tmod]
  rw [Nat.dvd_iff_mod_eq_zero]
  omega
theorem rt_nz {b : Nat} (hb : b < 9223372036854775808) (h : 0 < b) : ¬ rt_o b = 0 := by
  rw [lo_z, rt_i hb]; omega
/-- no number from 2 on below p divides l -/
def rt_nd (p l : Nat) : Prop := ∀ k, 2 ≤ k → k < p → ¬ k ∣ l
theorem rt_nd_dvd {p l l' : Nat} (h : rt_nd p l) (hd : l' ∣ l) : rt_nd p l' := fun k h1 h2 h3 => h k h1 h2 (Nat.dvd_trans h3 hd)
theorem rt_nd_succ {p l : Nat} (h : rt_nd p l) (hp : ¬ p ∣ l) : rt_nd (p + 1) l := fun k h1 h2 h3 => by
  by_cases e : k = p
  · subst e; exact hp h3
  · exact h k h1 (by omega) h3
theorem rt_sf_p {p l : Nat} (h : rt_nd p l) (hp : 2 ≤ p) (hd : p ∣ l) : nu_sf p := by
  intro k hk
  by_cases h0 : k = 0
  · subst h0
    have := Nat.eq_zero_of_zero_dvd hk
    omega
  by_cases h1 : k = 1
  · exact h1
  · exfalso
    have h2 : k ∣ p := Nat.dvd_trans (Nat.dvd_mul_left k k) hk
    have h3 : k * k ≤ p := Nat.le_of_dvd (by omega) hk
    have h4 : k * 2 ≤ k * k := Nat.mul_le_mul_left k (by omega)
    exact h k (by omega) (by omega) (Nat.dvd_trans h2 hd)
theorem rt_co_p {p l : Nat} (h : rt_nd p (p * l)) (hp : 2 ≤ p) (hd : ¬ p * p ∣ p * l) : Nat.Coprime p l := by
  have h1 : Nat.gcd p l ∣ p := Nat.gcd_dvd_left p l
  have h2 : Nat.gcd p l ∣ l := Nat.gcd_dvd_right p l
  have h3 : 0 < Nat.gcd p l := Nat.gcd_pos_of_pos_left l (by omega)
  have h4 : Nat.gcd p l ≤ p := Nat.le_of_dvd (by omega) h1
  by_cases e : Nat.gcd p l = 1
  · exact e
  · exfalso
    by_cases e2 : Nat.gcd p l = p
    · rw [e2] at h2
      exact hd (Nat.mul_dvd_mul_left p h2)
    · exact h _ (by omega) (by omega) (Nat.dvd_trans h1 (Nat.dvd_mul_right p l))
theorem rt_sf_end {p l : Nat} (h : rt_nd p l) (h0 : 0 < l) (hl : l < p * p) : nu_sf l := by
  intro k hk
  by_cases hk0 : k = 0
  · subst hk0
    have := Nat.eq_zero_of_zero_dvd hk
    omega
  by_cases h1 : k = 1
  · exact h1
  · exfalso
    by_cases hp : k < p
    · exact h k (by omega) hp (Nat.dvd_trans (Nat.dvd_mul_left k k) hk)
    · have h3 : k * k ≤ l := Nat.le_of_dvd h0 hk
      have h4 : p * p ≤ k * k := Nat.mul_le_mul (by omega) (by omega)
      omega
/-- the memory in which the reference keeps square and rest -/
def rt_M (m : tk_m) (s d : Nat) : tk_m := (m.1, tk_u2 (tk_u2 m.2.1 295 5 (rt_o s)) 295 6 (rt_o d), m.2.2.1, m.2.2.2)
theorem rt_M5 (m : tk_m) (s d : Nat) : (rt_M m s d).2.1 295 5 = rt_o s := by unfold rt_M; dsimp only; rw [tk_u2_nk (by decide), tk_u2_eq]
theorem rt_M6 (m : tk_m) (s d : Nat) : (rt_M m s d).2.1 295 6 = rt_o d := by unfold rt_M; dsimp only; rw [tk_u2_eq]
theorem rt_Mu5 (m : tk_m) (s d s' : Nat) : ((rt_M m s d).1, tk_u2 (rt_M m s d).2.1 295 5 (rt_o s'), (rt_M m s d).2.2.1, (rt_M m s d).2.2.2) = rt_M m s' d := by
  unfold rt_M
  dsimp only
  congr 2
  funext a b
  unfold tk_u2
  by_cases h1 : a = 295 ∧ b = 5
  · have : ¬ (a = 295 ∧ b = 6) := by omega
    rw [if_pos h1, if_neg this, if_pos h1]
  · rw [if_neg h1]
    by_cases h2 : a = 295 ∧ b = 6
    · rw [if_pos h2, if_pos h2]
    · rw [if_neg h2, if_neg h2, if_neg h1, if_neg h1]
theorem rt_Mu6 (m : tk_m) (s d d' : Nat) : ((rt_M m s d).1, tk_u2 (rt_M m s d).2.1 295 6 (rt_o d'), (rt_M m s d).2.2.1, (rt_M m s d).2.2.2) = rt_M m s d' := by
  unfold rt_M
  dsimp only
  rw [tk_u2_rw]
theorem rt_27 (r : Int64 → Int64 → tk_m → Option tk_m) (m : tk_m) (p d : Nat) (hp : 2 ≤ p) (hpp : p < 1000000) : ∀ (f l s F : Nat), l < 4 ^ f → 0 < l → l < 9223372036854775808 → f < F → ∃ l' s', fM_parts_27 r F (rt_o l) (rt_o p) (rt_M m s d) = fM_parts_61 r (rt_o l') (rt_o p) (rt_M m s' d) ∧ s' * s' * l' = s * s * l ∧ 0 < l' ∧ l' ∣ l ∧ ¬ p * p ∣ l' := by
  have hq1 : 4 ≤ p * p := Nat.mul_le_mul hp hp
  have hq2 : p * p < 1000000 * 1000000 := Nat.mul_lt_mul'' hpp hpp
  intro f
  induction f with
  | zero => intro l s F h1 h2; omega
  | succ f ih =>
    intro l s F h1 h2 h3 h4
    obtain ⟨F, rfl⟩ : ∃ k, F = k + 1 := ⟨F - 1, by omega⟩
    unfold fM_parts_27
    rw [rt_mul, if_neg (rt_nz (by omega) (by omega))]
    by_cases hd : p * p ∣ l
    · rw [if_pos ((rt_rem h3 (by omega)).mpr hd), if_neg (rt_nz (by omega) (by omega)), rt_div h3 (by omega), rt_M5, rt_mul, rt_Mu5]
      obtain ⟨c, hc⟩ := hd
      have hpos : 0 < c := by
        apply Nat.pos_of_ne_zero
        intro e
        rw [e, Nat.mul_zero] at hc
        omega
      have hdiv : l / (p * p) = c := by rw [hc]; exact Nat.mul_div_cancel_left c (by omega)
      have hle : 4 * c ≤ l := by rw [hc]; exact Nat.mul_le_mul_right c hq1
      rw [hdiv]
      rw [Nat.pow_succ] at h1
      obtain ⟨l', s', e1, e2, e3, e4, e5⟩ := ih c (s * p) F (by omega) hpos (by omega) (by omega)
      refine ⟨l', s', e1, ?_, e3, Nat.dvd_trans e4 (by rw [hc]; exact Nat.dvd_mul_left _ _), e5⟩
      rw [e2, hc]
      grind
    · rw [if_neg (fun q => hd ((rt_rem h3 (by omega)).mp q))]
      exact ⟨l, s, rfl, rfl, h2, Nat.dvd_refl l, hd⟩
theorem rt_17 (m : tk_m) (n P : Nat) (hn : n < 4611686018427387904) (hP : P < 1000000) (H : ∀ l, l ∣ n → rt_nd P l → l < P * P) : ∀ (j p l s d F : Nat), p + j = P → 2 ≤ p → j < F → 0 < l → s * s * d * l = n → rt_nd p l → Nat.Coprime d l → nu_sf d → ∃ s' d', fM_parts_17 F (rt_o l) (rt_o p) (rt_M m s d) = some (rt_M m s' d') ∧ s' * s' * d' = n ∧ nu_sf d' := by
  intro j
  induction j with
  | zero =>
    intro p l s d F h1 h2 h3 h4 h5 h6 h7 h8
    obtain ⟨F, rfl⟩ : ∃ k, F = k + 1 := ⟨F - 1, by omega⟩
    have hln : l ∣ n := ⟨s * s * d, by rw [← h5]; exact Nat.mul_comm _ _⟩
    have hpP : p = P := by omega
    subst hpP
    have hlp := H l hln h6
    have hp2 : p * p < 1000000 * 1000000 := Nat.mul_lt_mul'' hP hP
    unfold fM_parts_17
    rw [rt_mul, if_pos ((rt_lt (by omega) (by omega)).mpr hlp)]
    unfold fM_parts_95
    rw [rt_M6, rt_mul, rt_Mu6]
    exact ⟨s, d * l, rfl, by rw [← Nat.mul_assoc]; exact h5, nu_sf_mul h8 (rt_sf_end h6 h4 hlp) h7⟩
  | succ j ih =>
    intro p l s d F h1 h2 h3 h4 h5 h6 h7 h8
    obtain ⟨F, rfl⟩ : ∃ k, F = k + 1 := ⟨F - 1, by omega⟩
    have hd0 := nu_sf_pos h8
    have hs0 : 0 < s * s * d * l ∨ n = 0 := by omega
    have hln : l ∣ n := ⟨s * s * d, by rw [← h5]; exact Nat.mul_comm _ _⟩
    have hp2 : p * p < 1000000 * 1000000 := Nat.mul_lt_mul'' (by omega) (by omega)
    unfold fM_parts_17
    rw [rt_mul]
    by_cases hn0 : n = 0
    · exfalso
      have := H 0 (by rw [hn0]; exact Nat.dvd_zero 0)
      subst hn0
      have hss : s = 0 := by
        have h9 : s * s * d * l = 0 := h5
        rcases Nat.mul_eq_zero.mp h9 with h | h
        · rcases Nat.mul_eq_zero.mp h with h | h
          · rcases Nat.mul_eq_zero.mp h with h | h <;> exact h
          · omega
        · omega
      have h10 := H (P * P * (P * P)) (Nat.dvd_zero _)
      have h11 : ∀ q, 1 ≤ q → rt_nd P (q * 0 + 1) := fun q _ k hk1 hk2 hk3 => by
        have := Nat.le_of_dvd (by omega) hk3
        omega
      have h12 := H (1 : Nat) (Nat.dvd_zero _)
      -- 0 has every divisor: a number beyond P * P that nothing below P divides
      have h13 : ∃ x, P * P ≤ x ∧ rt_nd P x := by
        have hfac : ∀ N : Nat, ∃ x, N ≤ x ∧ 0 < x ∧ ∀ k, 2 ≤ k → k < P → ¬ k ∣ x := by
          intro N
          have hb : ∀ K, ∃ f : Nat, 0 < f ∧ ∀ k, 1 ≤ k → k ≤ K → k ∣ f := by
            intro K
            induction K with
            | zero => exact ⟨1, by decide, fun k a b => by omega⟩
            | succ K ihK =>
              obtain ⟨f, f0, f1⟩ := ihK
              refine ⟨f * (K + 1), Nat.mul_pos f0 (by omega), fun k a b => ?_⟩
              by_cases e : k = K + 1
              · subst e; exact Nat.dvd_mul_left _ _
              · exact Nat.dvd_trans (f1 k a (by omega)) (Nat.dvd_mul_right _ _)
          obtain ⟨f, f0, f1⟩ := hb P
          refine ⟨f * N + 1, ?_, by omega, fun k a b c => ?_⟩
          · have : 1 * N ≤ f * N := Nat.mul_le_mul_right N f0
            omega
          · have hk : k ∣ f * N := Nat.dvd_trans (f1 k (by omega) (by omega)) (Nat.dvd_mul_right _ _)
            have : k ∣ 1 := (Nat.dvd_add_right hk).mp c
            have := Nat.le_of_dvd (by omega) this
            omega
        obtain ⟨x, x1, _, x2⟩ := hfac (P * P)
        exact ⟨x, x1, x2⟩
      obtain ⟨x, x1, x2⟩ := h13
      have := H x (Nat.dvd_zero _) x2
      omega
    have hl9 : l < 9223372036854775808 := by
      have := Nat.le_of_dvd (by omega) hln
      omega
    by_cases hlp : l < p * p
    · rw [if_pos ((rt_lt (by omega) (by omega)).mpr hlp)]
      unfold fM_parts_95
      rw [rt_M6, rt_mul, rt_Mu6]
      exact ⟨s, d * l, rfl, by rw [← Nat.mul_assoc]; exact h5, nu_sf_mul h8 (rt_sf_end h6 h4 hlp) h7⟩
    · rw [if_neg (fun q => hlp ((rt_lt (by omega) (by omega)).mp q))]
      obtain ⟨l', s', e1, e2, e3, e4, e5⟩ := rt_27 (fM_parts_17 F) m p d h2 (by omega) 32 l s tk_F (by omega) h4 hl9 (by unfold tk_F; omega)
      rw [e1]
      have hl' : l' < 9223372036854775808 := by
        have := Nat.le_of_dvd h4 e4
        omega
      have e6 : s' * s' * d * l' = n := by
        rw [← h5]
        have : s' * s' * l' * d = s * s * l * d := by rw [e2]
        grind
      have e7 := rt_nd_dvd h6 e4
      have e8 : Nat.Coprime d l' := Nat.Coprime.coprime_dvd_right e4 h7
      unfold fM_parts_61
      rw [if_neg (rt_nz (by omega) (by omega))]
      by_cases hd : p ∣ l'
      · rw [if_pos ((rt_rem hl' (by omega)).mpr hd), if_neg (rt_nz (by omega) (by omega)), rt_div hl' (by omega), rt_M6, rt_mul, rt_Mu6, show rt_o p + 1 = rt_o (p + 1) from rt_add p 1]
        obtain ⟨c, hc⟩ := hd
        subst hc
        rw [Nat.mul_div_cancel_left c (by omega)]
        have hc0 : 0 < c := by
          apply Nat.pos_of_ne_zero
          intro e
          rw [e, Nat.mul_zero] at e3
          omega
        have hco := rt_co_p e7 h2 e5
        have hdc : Nat.Coprime d c := Nat.Coprime.coprime_dvd_right (Nat.dvd_mul_left c p) e8
        have hdp : Nat.Coprime d p := Nat.Coprime.coprime_dvd_right (Nat.dvd_mul_right p c) e8
        apply ih (p + 1) c s' (d * p) F (by omega) (by omega) (by omega) hc0
        · rw [← e6]; grind
        · exact rt_nd_succ (rt_nd_dvd e7 (Nat.dvd_mul_left c p)) (fun q => e5 (Nat.mul_dvd_mul_left p q))
        · exact Nat.Coprime.mul_left hdc hco
        · exact nu_sf_mul h8 (rt_sf_p e7 h2 (Nat.dvd_mul_right p c)) hdp
      · rw [if_neg (fun q => hd ((rt_rem hl' (by omega)).mp q)), show rt_o p + 1 = rt_o (p + 1) from rt_add p 1]
        exact ih (p + 1) l' s' d F (by omega) (by omega) (by omega) e3 e6 (rt_nd_succ e7 hd) e8 h8
/-- the reference's parts -/
theorem y_parts {m : tk_m} {n s d : Nat} (P : Nat) (hP2 : 2 ≤ P) (hP : P < 1000000) (hn : n < 4611686018427387904) (h0 : 0 < n) (H : ∀ l, l ∣ n → rt_nd P l → l < P * P) (e : n = s * s * d) (hd : nu_sf d) : fM_parts (rt_o n) m = some (rt_M m s d) := by
  obtain ⟨s', d', e1, e2, e3⟩ := rt_17 m n P hn hP H (P - 2) 2 n 1 1 tk_F (by omega) (by omega) (by unfold tk_F; omega) h0 (by omega) (fun k a b => by omega) (Nat.gcd_one_left n) nu_sf_one
  have hs' : 0 < s' := by
    apply Nat.pos_of_ne_zero
    intro q
    rw [q] at e2
    omega
  obtain ⟨q1, q2⟩ := nu_sf_uniq e3 hd hs' (by rw [e2]; exact e)
  subst q1
  subst q2
  exact e1
