/-! ===== roots, the class's way ===== -/
theorem rt_fl : ∀ (k : Nat), k ≤ 31 → ∀ (n f F : Nat), n < 1099511627776 → f * f ≤ n → n < (f + 2 ^ k) * (f + 2 ^ k) → k < F → ∃ r, fN_floorOfRoot_7 F (rt_o n) (rt_o f) (if k = 0 then 0 else rt_o (2 ^ (k - 1))) = some (rt_o r) ∧ r * r ≤ n ∧ n < (r + 1) * (r + 1) := by
  have hs : ∀ k, k < 30 → tk_lshr (rt_o (2 ^ (k + 1))) 1 = rt_o (2 ^ k) := by decide
  have hs0 : tk_lshr (rt_o (2 ^ 0)) 1 = 0 := by decide
  intro k
  induction k with
  | zero =>
    intro _ n f F h1 h2 h3 h4
    obtain ⟨F, rfl⟩ : ∃ k, F = k + 1 := ⟨F - 1, by omega⟩
    rw [if_pos rfl]
    unfold fN_floorOfRoot_7
    rw [if_pos (by decide)]
    exact ⟨f, rfl, h2, h3⟩
  | succ k ih =>
    intro hk n f F h1 h2 h3 h4
    obtain ⟨F, rfl⟩ : ∃ k, F = k + 1 := ⟨F - 1, by omega⟩
    have hf : f ≤ 1048576 := by
      apply Nat.le_of_not_lt
      intro q
      have : 1048576 * 1048576 ≤ f * f := Nat.mul_le_mul (by omega) (by omega)
      omega
    have hp : 2 ^ k ≤ 2 ^ 30 := Nat.pow_le_pow_right (by decide) (by omega)
    have hp0 : 0 < 2 ^ k := Nat.two_pow_pos k
    rw [if_neg (by omega), Nat.add_sub_cancel]
    have hsh : tk_lshr (rt_o (2 ^ k)) 1 = (if k = 0 then 0 else rt_o (2 ^ (k - 1))) := by
      by_cases e : k = 0
      · subst e; exact hs0
      · rw [if_neg e]
        obtain ⟨k', rfl⟩ : ∃ j, k = j + 1 := ⟨k - 1, by omega⟩
        exact hs k' (by omega)
    unfold fN_floorOfRoot_7
    have hne : ¬ rt_o (2 ^ k) ≤ 0 := by
      intro q
      rw [show (0 : Int64) = rt_o 0 from rfl, rt_le (by omega) (by omega)] at q
      omega
    rw [if_neg hne, rt_add, rt_mul, hsh]
    have hb : (f + 2 ^ k) * (f + 2 ^ k) ≤ (1048576 + 2 ^ 30) * (1048576 + 2 ^ 30) := Nat.mul_le_mul (by omega) (by omega)
    by_cases hc : n < (f + 2 ^ k) * (f + 2 ^ k)
    · rw [if_pos ((rt_lt (by omega) (by omega)).mpr hc)]
      exact ih (by omega) n f F h1 h2 hc (by omega)
    · rw [if_neg (fun q => hc ((rt_lt (by omega) (by omega)).mp q))]
      refine ih (by omega) n (f + 2 ^ k) F h1 (by omega) ?_ (by omega)
      rw [show f + 2 ^ k + 2 ^ k = f + 2 ^ (k + 1) by rw [Nat.pow_succ]; omega]
      exact h3
theorem rt_floor {n : Nat} (h : n < 1099511627776) : ∃ r, fN_floorOfRoot (rt_o n) = some (rt_o r) ∧ r * r ≤ n ∧ n < (r + 1) * (r + 1) := by
  obtain ⟨r, e1, e2, e3⟩ := rt_fl 31 (by decide) n 0 tk_F h (by omega) (by omega) (by decide)
  exact ⟨r, e1, e2, e3⟩
theorem rt_53 (r : Nat → Int64 → Int64 → Int64 → Int64 → tk_m → Option tk_m) (t : Nat) (m : tk_m) (p d : Nat) (hp : 2 ≤ p) (hpp : p < 1000000) : ∀ (f l s i F : Nat), l < 4 ^ f → 0 < l → l < 9223372036854775808 → i + f ≤ 64 → f < F → ∃ l' s', fN_holdRoot_53 r F t (rt_o s) (rt_o d) (rt_o l) (rt_o p) (rt_o (p * p)) (Int32.ofNat i) m = fN_holdRoot_88 r t (rt_o s') (rt_o d) (rt_o l') (rt_o p) m ∧ s' * s' * l' = s * s * l ∧ 0 < l' ∧ l' ∣ l ∧ ¬ p * p ∣ l' := by
  have hq1 : 4 ≤ p * p := Nat.mul_le_mul hp hp
  have hq2 : p * p < 1000000 * 1000000 := Nat.mul_lt_mul'' hpp hpp
  intro f
  induction f with
  | zero => intro l s i F h1 h2; omega
  | succ f ih =>
    intro l s i F h1 h2 h3 h4 h5
    obtain ⟨F, rfl⟩ : ∃ k, F = k + 1 := ⟨F - 1, by omega⟩
    unfold fN_holdRoot_53
    rw [if_neg (show ¬ (64 : Int32) ≤ Int32.ofNat i from fun q => absurd ((i_le (a := 64) (b := i) (by omega) (by omega)).mp q) (by omega)), if_neg (rt_nz (by omega) (by omega))]
    by_cases hd : p * p ∣ l
    · rw [if_pos ((rt_rem h3 (by omega)).mpr hd), if_neg (rt_nz (by omega) (by omega)), rt_div h3 (by omega), rt_mul, show Int32.ofNat i + 1 = Int32.ofNat (i + 1) from i_add i 1]
      obtain ⟨c, hc⟩ := hd
      have hpos : 0 < c := by
        apply Nat.pos_of_ne_zero
        intro e
        rw [e, Nat.mul_zero] at hc
        omega
      have hdiv : l / (p * p) = c := by rw [hc]; exact Nat.mul_div_cancel_left c (by omega)
      have hle : 4 * c ≤ l := by rw [hc]; exact Nat.mul_le_mul_right c hq1
      rw [hdiv]
      rw [Nat.pow_succ] at h1
      obtain ⟨l', s', e1, e2, e3, e4, e5⟩ := ih c (s * p) (i + 1) F (by omega) hpos (by omega) (by omega) (by omega)
      refine ⟨l', s', e1, ?_, e3, Nat.dvd_trans e4 (by rw [hc]; exact Nat.dvd_mul_left _ _), e5⟩
      rw [e2, hc]
      grind
    · rw [if_neg (fun q => hd ((rt_rem h3 (by omega)).mp q))]
      exact ⟨l, s, rfl, rfl, h2, Nat.dvd_refl l, hd⟩
def rt_H (t s d : Nat) (m : tk_m) : Option tk_m := (fN_hold t (if d = 1 then rt_o s else 0) (if d = 1 then 0 else rt_o s) (rt_o d) 1 m).bind fun o => some o.2
theorem rt_167 (t s d : Nat) (m : tk_m) (hd : d < 9223372036854775808) : (if rt_o d = 1 then fN_holdRoot_167 (rt_o s) (rt_o d) (rt_o s) t m else fN_holdRoot_167 (rt_o s) (rt_o d) 0 t m) = rt_H t s d m := by
  unfold fN_holdRoot_167 rt_H
  by_cases e : d = 1
  · subst e
    have e1 : rt_o 1 = 1 := rfl
    rw [if_pos e1, if_pos e1, if_pos rfl, if_pos rfl]
  · have e1 : ¬ rt_o d = 1 := fun q => e ((rt_eq (b := 1) hd (by omega)).mp q)
    rw [if_neg e1, if_neg e1, if_neg e, if_neg e]
theorem rt_121 (t : Nat) (m : tk_m) (n p l s d : Nat) (hn : n < 1099511627776) (hn0 : 0 < n) (h0 : 0 < l) (h5 : s * s * d * l = n) (h6 : rt_nd p l) (h7 : Nat.Coprime d l) (h8 : nu_sf d) (hl : l < p * p * p) : ∃ s' d', fN_holdRoot_121 t (rt_o s) (rt_o d) (rt_o l) m = rt_H t s' d' m ∧ s' * s' * d' = n ∧ nu_sf d' := by
  have hd0 := nu_sf_pos h8
  have hln : l ≤ n := Nat.le_of_dvd hn0 ⟨s * s * d, by rw [← h5]; exact Nat.mul_comm _ _⟩
  have hdn : d * l ≤ n := Nat.le_of_dvd hn0 ⟨s * s, by rw [← h5]; grind⟩
  have hdn2 : d ≤ n := Nat.le_of_dvd hn0 ⟨s * s * l, by rw [← h5]; grind⟩
  obtain ⟨r, r1, r2, r3⟩ := rt_floor (n := l) (by omega)
  unfold fN_holdRoot_121
  rw [r1, Option.bind_some, rt_mul, rt_mul, rt_mul]
  by_cases e : r * r = l
  · rw [if_pos ((rt_eq (by omega) (by omega)).mpr e), rt_167 t (s * r) d m (by omega)]
    refine ⟨s * r, d, rfl, ?_, h8⟩
    rw [← h5, ← e]; grind
  · rw [if_neg (fun q => e ((rt_eq (by omega) (by omega)).mp q)), rt_167 t s (d * l) m (by omega)]
    refine ⟨s, d * l, rfl, by rw [← Nat.mul_assoc]; exact h5, nu_sf_mul h8 ?_ h7⟩
    intro k hk
    by_cases hk0 : k = 0
    · subst hk0
      have := Nat.eq_zero_of_zero_dvd hk
      omega
    by_cases h1 : k = 1
    · exact h1
    exfalso
    have hkl : k ∣ l := Nat.dvd_trans (Nat.dvd_mul_left k k) hk
    have hkp : p ≤ k := Nat.le_of_not_lt (fun q => h6 k (by omega) q hkl)
    obtain ⟨c, hc⟩ := hk
    have hcp : c < p := by
      apply Nat.lt_of_not_le
      intro q
      have q1 : p * p ≤ k * k := Nat.mul_le_mul hkp hkp
      have q2 : p * p * p ≤ k * k * c := Nat.mul_le_mul q1 q
      omega
    have hcl : c ∣ l := ⟨k * k, by rw [hc]; exact Nat.mul_comm _ _⟩
    have hc0 : c ≠ 0 := by intro q; rw [q, Nat.mul_zero] at hc; omega
    have hc1 : c = 1 := by
      by_cases q : c = 1
      · exact q
      · exact absurd hcl (h6 c (by omega) hcp)
    rw [hc1, Nat.mul_one] at hc
    have hr : r = k := by
      apply Nat.le_antisymm
      · apply Nat.le_of_not_lt
        intro q
        have : (k + 1) * (k + 1) ≤ r * r := Nat.mul_le_mul q q
        have : (k + 1) * (k + 1) = k * k + 2 * k + 1 := by grind
        omega
      · apply Nat.le_of_not_lt
        intro q
        have : (r + 1) * (r + 1) ≤ k * k := Nat.mul_le_mul q q
        omega
    rw [hr] at e
    exact e hc.symm
theorem rt_29 (t : Nat) (m : tk_m) (n : Nat) (hn : n < 100000000) (hn0 : 0 < n) : ∀ (j p l s d F : Nat), p + j = 500 → 2 ≤ p → j < F → 0 < l → s * s * d * l = n → rt_nd p l → Nat.Coprime d l → nu_sf d → ∃ s' d', fN_holdRoot_29 F t (rt_o s) (rt_o d) (rt_o l) (rt_o p) m = rt_H t s' d' m ∧ s' * s' * d' = n ∧ nu_sf d' := by
  intro j
  induction j with
  | zero =>
    intro p l s d F h1 h2 h3 h4 h5 h6 h7 h8
    obtain ⟨F, rfl⟩ : ∃ k, F = k + 1 := ⟨F - 1, by omega⟩
    have hln : l ≤ n := Nat.le_of_dvd hn0 ⟨s * s * d, by rw [← h5]; exact Nat.mul_comm _ _⟩
    have hp : p = 500 := by omega
    subst hp
    unfold fN_holdRoot_29
    rw [rt_mul, rt_mul, if_pos ((rt_lt (by omega) (by omega)).mpr (by omega))]
    exact rt_121 t m n 500 l s d (by omega) hn0 h4 h5 h6 h7 h8 (by omega)
  | succ j ih =>
    intro p l s d F h1 h2 h3 h4 h5 h6 h7 h8
    obtain ⟨F, rfl⟩ : ∃ k, F = k + 1 := ⟨F - 1, by omega⟩
    have hln : l ≤ n := Nat.le_of_dvd hn0 ⟨s * s * d, by rw [← h5]; exact Nat.mul_comm _ _⟩
    have hp2 : p * p ≤ 500 * 500 := Nat.mul_le_mul (by omega) (by omega)
    have hp3 : p * p * p ≤ 500 * 500 * 500 := Nat.mul_le_mul hp2 (by omega)
    unfold fN_holdRoot_29
    rw [rt_mul, rt_mul]
    by_cases hlp : l < p * p * p
    · rw [if_pos ((rt_lt (by omega) (by omega)).mpr hlp)]
      exact rt_121 t m n p l s d (by omega) hn0 h4 h5 h6 h7 h8 hlp
    · rw [if_neg (fun q => hlp ((rt_lt (by omega) (by omega)).mp q))]
      obtain ⟨l', s', e1, e2, e3, e4, e5⟩ := rt_53 (fN_holdRoot_29 F) t m p d h2 (by omega) 32 l s 0 tk_F (by omega) h4 (by omega) (by omega) (by unfold tk_F; omega)
      rw [show Int32.ofNat 0 = 0 from rfl] at e1
      rw [e1]
      have hl' : l' ≤ l := Nat.le_of_dvd h4 e4
      have e6 : s' * s' * d * l' = n := by
        rw [← h5]
        have : s' * s' * l' * d = s * s * l * d := by rw [e2]
        grind
      have e7 := rt_nd_dvd h6 e4
      have e8 : Nat.Coprime d l' := Nat.Coprime.coprime_dvd_right e4 h7
      unfold fN_holdRoot_88
      rw [if_neg (rt_nz (by omega) (by omega))]
      by_cases hd : p ∣ l'
      · rw [if_pos ((rt_rem (by omega) (by omega)).mpr hd), if_neg (rt_nz (by omega) (by omega)), rt_div (by omega) (by omega), rt_mul, show rt_o p + 1 = rt_o (p + 1) from rt_add p 1]
        obtain ⟨c, hc⟩ := hd
        subst hc
        rw [Nat.mul_div_cancel_left c (by omega)]
        have hc0 : 0 < c := by
          apply Nat.pos_of_ne_zero
          intro e
          rw [e, Nat.mul_zero] at e3
          omega
        have hco := rt_co_p e7 h2 e5
        have hdc : Nat.Coprime d c := Nat.Coprime.coprime_dvd_right (Nat.dvd_mul_left c p) e8
        have hdp : Nat.Coprime d p := Nat.Coprime.coprime_dvd_right (Nat.dvd_mul_right p c) e8
        apply ih (p + 1) c s' (d * p) F (by omega) (by omega) (by omega) hc0
        · rw [← e6]; grind
        · exact rt_nd_succ (rt_nd_dvd e7 (Nat.dvd_mul_left c p)) (fun q => e5 (Nat.mul_dvd_mul_left p q))
        · exact Nat.Coprime.mul_left hdc hco
        · exact nu_sf_mul h8 (rt_sf_p e7 h2 (Nat.dvd_mul_right p c)) hdp
      · rw [if_neg (fun q => hd ((rt_rem (by omega) (by omega)).mp q)), show rt_o p + 1 = rt_o (p + 1) from rt_add p 1]
        exact ih (p + 1) l' s' d F (by omega) (by omega) (by omega) e3 e6 (rt_nd_succ e7 hd) e8 h8
/-- the class's root -/
theorem x_holdRoot {t : Nat} {m : tk_m} {n s d : Nat} (hn : n < 100000000) (h0 : 0 < n) (e : n = s * s * d) (hd : nu_sf d) : fN_holdRoot t (rt_o n) m = rt_H t s d m := by
  obtain ⟨s', d', e1, e2, e3⟩ := rt_29 t m n hn h0 498 2 n 1 1 tk_F (by omega) (by omega) (by unfold tk_F; omega) h0 (by omega) (fun k a b => by omega) (Nat.gcd_one_left n) nu_sf_one
  have hs' : 0 < s' := by
    apply Nat.pos_of_ne_zero
    intro q
    rw [q] at e2
    omega
  obtain ⟨q1, q2⟩ := nu_sf_uniq e3 hd hs' (by rw [e2]; exact e)
  subst q1
  subst q2
  unfold fN_holdRoot
  rw [if_pos (by rw [show (0 : Int64) = rt_o 0 from rfl, rt_lt (by omega) (by omega)]; exact h0)]
  exact e1
/-- every number above nought parts so -/
theorem rt_parts (n : Nat) (h0 : 0 < n) : ∃ s d, n = s * s * d ∧ nu_sf d := by
  have key : ∀ j s, s + j = n + 1 → (∀ k, s ≤ k → ¬ (k * k ∣ n) ∨ k = 1 ∨ k = 0) ∨ ∃ k, s ≤ k ∧ k * k ∣ n ∧ ∀ k', k < k' → ¬ k' * k' ∣ n := by
    intro j
    induction j with
    | zero =>
      intro s h
      left
      intro k hk
      by_cases e : k ≤ 1
      · right; omega
      · left
        intro q
        have q1 := Nat.le_of_dvd h0 q
        have q2 : k * 1 ≤ k * k := Nat.mul_le_mul_left k (by omega)
        omega
    | succ j ih =>
      intro s h
      rcases ih (s + 1) (by omega) with h1 | ⟨k, k1, k2, k3⟩
      · by_cases hs : s * s ∣ n
        · right
          refine ⟨s, Nat.le_refl s, hs, fun k' hk' q => ?_⟩
          rcases h1 k' (by omega) with q1 | q1 | q1
          · exact q1 q
          · subst q1
            have : s = 0 := by omega
            subst this
            rw [Nat.zero_mul] at hs
            have := Nat.eq_zero_of_zero_dvd hs
            omega
          · omega
        · left
          intro k hk
          by_cases e : k = s
          · subst e; exact .inl hs
          · exact h1 k (by omega)
      · exact .inr ⟨k, by omega, k2, k3⟩
  rcases key n 1 (by omega) with h1 | ⟨k, k1, k2, k3⟩
  · refine ⟨1, n, by omega, fun k hk => ?_⟩
    by_cases e : k = 0
    · subst e
      have := Nat.eq_zero_of_zero_dvd hk
      omega
    · rcases h1 k (by omega) with q | q | q
      · exact absurd hk q
      · exact q
      · exact absurd q e
  · obtain ⟨d, hd⟩ := k2
    refine ⟨k, d, hd, fun c hc => ?_⟩
    obtain ⟨e, he⟩ := hc
    have hc0 : c ≠ 0 := by
      intro q
      rw [q] at he
      rw [he] at hd
      omega
    apply Nat.le_antisymm
    · apply Nat.le_of_not_lt
      intro q
      refine k3 (k * c) ?_ ⟨e, by rw [hd, he]; grind⟩
      have : k * 2 ≤ k * c := Nat.mul_le_mul_left k q
      omega
    · omega
