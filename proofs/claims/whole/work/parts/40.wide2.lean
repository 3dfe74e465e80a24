/-! ===== wide numbers: sums, sizes, the registers ===== -/
theorem i_dvo (a b : Int32) : a / b = Int32.ofInt (a.toInt.tdiv b.toInt) := ((Int32.ofInt_eq_iff_bmod_eq_toInt _ _).mpr (Int32.toInt_div a b).symm).symm
theorem i_rng (x : Int32) : -2147483648 ≤ x.toInt ∧ x.toInt < 2147483648 := ⟨by have := x.le_toInt; omega, by have := x.toInt_lt; omega⟩
theorem i_t {x : Int} (h : -2147483648 ≤ x ∧ x < 2147483648) : (Int32.ofInt x).toInt = x := Int32.toInt_ofInt_of_le (by omega) (by omega)
theorem i_ext {a b : Int32} (h : a.toInt = b.toInt) : a = b := Int32.toInt_inj.mp h
theorem i_oft {a : Int32} {x : Int} (h : a.toInt = x) : a = Int32.ofInt x := by rw [← h, Int32.ofInt_toInt]
theorem i_tadd {a b : Int32} (h : -2147483648 ≤ a.toInt + b.toInt ∧ a.toInt + b.toInt < 2147483648) : (a + b).toInt = a.toInt + b.toInt := by rw [Int32.toInt_add]; exact Int.bmod_eq_of_le (by omega) (by omega)
theorem i_tsub {a b : Int32} (h : -2147483648 ≤ a.toInt - b.toInt ∧ a.toInt - b.toInt < 2147483648) : (a - b).toInt = a.toInt - b.toInt := by rw [Int32.toInt_sub]; exact Int.bmod_eq_of_le (by omega) (by omega)
theorem i_tmul {a b : Int32} (h : -2147483648 ≤ a.toInt * b.toInt ∧ a.toInt * b.toInt < 2147483648) : (a * b).toInt = a.toInt * b.toInt := by rw [Int32.toInt_mul]; exact Int.bmod_eq_of_le (by omega) (by omega)
theorem i_tneg {a : Int32} (h : a.toInt ≠ -2147483648) : (-a).toInt = -a.toInt := by
  have := i_rng a
  rw [Int32.toInt_neg]; exact Int.bmod_eq_of_le (by omega) (by omega)
theorem i_tdiv {a b : Int32} (h : a.toInt ≠ -2147483648 ∨ b.toInt ≠ -1) : (a / b).toInt = a.toInt.tdiv b.toInt := by
  rcases h with h | h
  · exact Int32.toInt_div_of_ne_left a b (fun q => h (by rw [q]; rfl))
  · exact Int32.toInt_div_of_ne_right a b (fun q => h (by rw [q]; rfl))
theorem i_rem (a b : Int32) : (tk_irem a b).toInt = a.toInt.tmod b.toInt := by
  have e : tk_irem a b = Int32.ofInt (a.toInt.tmod b.toInt) := by
    unfold tk_irem
    rw [i_dvo]
    have h1 : a.toInt.tmod b.toInt = a.toInt - a.toInt.tdiv b.toInt * b.toInt := by
      have := Int.mul_tdiv_add_tmod a.toInt b.toInt
      rw [Int.mul_comm] at this
      omega
    rw [h1, Int32.ofInt_sub, Int32.ofInt_mul, Int32.ofInt_toInt, Int32.ofInt_toInt]
  have h1 : (a.toInt.tmod b.toInt).natAbs = a.toInt.natAbs % b.toInt.natAbs := Int.natAbs_tmod _ _
  have h2 : a.toInt.natAbs % b.toInt.natAbs ≤ a.toInt.natAbs := Nat.mod_le _ _
  have h3 := i_rng a
  rw [e]
  apply i_t
  rcases Int.le_total 0 a.toInt with q | q
  · have := Int.tmod_nonneg b.toInt q
    omega
  · have h5 := Int.tmod_nonneg b.toInt (show 0 ≤ -a.toInt by omega)
    rw [Int.neg_tmod] at h5
    omega
theorem wd_tm {v : Int} (h : v < 0) : v.tmod 10000 = -((-v) % 10000) := by
  have h1 : (-v).tmod 10000 = (-v) % 10000 := Int.tmod_eq_emod_of_nonneg (by omega)
  rw [Int.neg_tmod] at h1
  omega
theorem wd_td {v : Int} (h : v < 0) : v.tdiv 10000 = -((-v) / 10000) := by
  have h1 : (-v).tdiv 10000 = (-v) / 10000 := Int.tdiv_eq_ediv_of_nonneg (by omega)
  rw [Int.neg_tdiv] at h1
  omega
theorem wd_fm (v : Int32) : fZ_floorMod_I v 10000 = some (Int32.ofInt (v.toInt % 10000)) := by
  have hr := i_rem v 10000
  have ht : (10000 : Int32).toInt = 10000 := rfl
  have h0 : (0 : Int32).toInt = 0 := rfl
  rw [ht] at hr
  unfold fZ_floorMod_I
  rw [if_neg (by decide)]
  by_cases h : 0 ≤ v
  · rw [if_pos ((wd_xor v).mpr h)]
    rw [Int32.le_iff_toInt_le, h0] at h
    refine congrArg some (i_oft ?_)
    rw [hr, Int.tmod_eq_emod_of_nonneg h]
  · rw [if_neg (fun q => h ((wd_xor v).mp q))]
    rw [Int32.le_iff_toInt_le, h0] at h
    rw [wd_tm (by omega)] at hr
    by_cases hz : tk_irem v 10000 = 0
    · rw [if_pos hz]
      rw [hz, h0] at hr
      rw [hz]
      refine congrArg some (i_oft ?_)
      rw [h0]
      omega
    · rw [if_neg hz]
      have hz2 : (tk_irem v 10000).toInt ≠ 0 := fun q => hz (i_ext (by rw [q]; rfl))
      refine congrArg some (i_oft ?_)
      rw [i_tadd (by rw [ht]; omega), ht]
      omega
theorem wd_fd (v : Int32) : fZ_floorDiv_I v 10000 = some (Int32.ofInt (v.toInt / 10000)) := by
  have ht : (10000 : Int32).toInt = 10000 := rfl
  have h0 : (0 : Int32).toInt = 0 := rfl
  have hd : (v / 10000).toInt = v.toInt.tdiv 10000 := i_tdiv (.inr (by decide))
  have hr := i_rng v
  unfold fZ_floorDiv_I
  rw [if_neg (by decide)]
  by_cases h : 0 ≤ v
  · rw [if_pos ((wd_xor v).mpr h)]
    rw [Int32.le_iff_toInt_le, h0] at h
    refine congrArg some (i_oft ?_)
    rw [hd, Int.tdiv_eq_ediv_of_nonneg h]
  · rw [if_neg (fun q => h ((wd_xor v).mp q))]
    rw [Int32.le_iff_toInt_le, h0] at h
    rw [wd_td (by omega)] at hd
    have hm : (v / 10000 * 10000).toInt = (v / 10000).toInt * 10000 := i_tmul (by rw [ht]; omega)
    by_cases hz : v / 10000 * 10000 = v
    · rw [if_pos hz]
      rw [hz] at hm
      refine congrArg some (i_oft ?_)
      omega
    · rw [if_neg hz]
      have hz2 : (v / 10000 * 10000).toInt ≠ v.toInt := fun q => hz (i_ext q)
      refine congrArg some (i_oft ?_)
      rw [i_tsub (by rw [show (1 : Int32).toInt = 1 from rfl]; omega), show (1 : Int32).toInt = 1 from rfl]
      omega
theorem wd_131 (w a b : Nat) (fl : Int32) (σ : Int) (hσ : (fl = 0 ∧ σ = -1) ∨ (¬ fl = 0 ∧ σ = 1)) (hw : w < 40) (ha : a < 40) (hb : b < 40) (haw : a ≠ w) (hbw : b ≠ w) (f g : Nat → Int32) (hf : wd_ok f 60) (hg : wd_ok g 60) : ∀ (j k n : Nat) (c : Int) (m : tk_m), k + j = 60 → j < n → m.1 (308 + a) = f → m.1 (308 + b) = g → -1 ≤ c ∧ c ≤ 1 → wd_ok (m.1 (308 + w)) k → (wd_v (m.1 (308 + w)) k : Int) + c * 10000 ^ k = wd_v f k + σ * wd_v g k → ∃ m' c', fM_plusWide_131 n (Int32.ofNat w) fl (Int32.ofNat a) (Int32.ofNat b) (Int32.ofInt c) (Int32.ofNat k) m = some (Int32.ofNat w, m') ∧ m'.2 = m.2 ∧ (∀ r, r ≠ 308 + w → m'.1 r = m.1 r) ∧ wd_ok (m'.1 (308 + w)) 60 ∧ (wd_v (m'.1 (308 + w)) 60 : Int) + c' * 10000 ^ 60 = wd_v f 60 + σ * wd_v g 60 := by
  intro j
  induction j with
  | zero =>
    intro k n c m h1 h2 h3 h4 h5 h6 h7
    obtain ⟨n, rfl⟩ : ∃ k, n = k + 1 := ⟨n - 1, by omega⟩
    have hk : k = 60 := by omega
    subst hk
    unfold fM_plusWide_131
    rw [if_pos (by decide)]
    exact ⟨m, c, rfl, rfl, fun _ _ => rfl, h6, h7⟩
  | succ j ih =>
    intro k n c m h1 h2 h3 h4 h5 h6 h7
    obtain ⟨n, rfl⟩ : ∃ k, n = k + 1 := ⟨n - 1, by omega⟩
    have hfk := hf k (by omega)
    have hgk := hg k (by omega)
    have hci := i_t (x := c) (by omega)
    have key : ∀ s0 : Int32, s0.toInt = σ * (g k).toInt → ∃ m' c', fM_plusWide_177 (fM_plusWide_131 n) (Int32.ofNat w) fl (Int32.ofNat a) (Int32.ofNat b) (Int32.ofInt c) (Int32.ofNat k) s0 (f k) m = some (Int32.ofNat w, m') ∧ m'.2 = m.2 ∧ (∀ r, r ≠ 308 + w → m'.1 r = m.1 r) ∧ wd_ok (m'.1 (308 + w)) 60 ∧ (wd_v (m'.1 (308 + w)) 60 : Int) + c' * 10000 ^ 60 = wd_v f 60 + σ * wd_v g 60 := by
      intro s0 hs0
      have hsr : -10000 < s0.toInt ∧ s0.toInt < 10000 := by
        rw [hs0]
        rcases hσ with ⟨_, q⟩ | ⟨_, q⟩ <;> rw [q] <;> omega
      have hv : (f k + s0 + Int32.ofInt c).toInt = (f k).toInt + s0.toInt + c := by
        have h8 : (f k + s0).toInt = (f k).toInt + s0.toInt := i_tadd (by omega)
        rw [i_tadd (by rw [h8, hci]; omega), h8, hci]
      unfold fM_plusWide_177
      rw [if_pos (i_ok hw (by omega)), wd_fm, Option.bind_some, if_pos (i_ok (show k < 60 by omega) (by omega)), wd_fd, Option.bind_some, i_nn (show w < 2147483648 by omega), i_nn (show k < 2147483648 by omega), hv, show Int32.ofNat k + 1 = Int32.ofNat (k + 1) from i_add k 1]
      have hdg : (Int32.ofInt (((f k).toInt + s0.toInt + c) % 10000)).toInt = ((f k).toInt + s0.toInt + c) % 10000 := i_t (by omega)
      obtain ⟨m', c', e1, e2, e3, e4, e5⟩ := ih (k + 1) n (((f k).toInt + s0.toInt + c) / 10000) (tk_u2 m.1 (308 + w) k (Int32.ofInt (((f k).toInt + s0.toInt + c) % 10000)), m.2.1, m.2.2.1, m.2.2.2) (by omega) (by omega) (by dsimp only; rw [tk_u2_ne (by omega)]; exact h3) (by dsimp only; rw [tk_u2_ne (by omega)]; exact h4) (by omega) (by
        intro i hi
        dsimp only
        by_cases e : i = k
        · subst e
          rw [tk_u2_eq, hdg]
          omega
        · rw [tk_u2_nk e]
          exact h6 i (by omega)) (by
        dsimp only
        rw [wd_vs, wd_vs, wd_vs, tk_u2_eq, wd_v_ext k wd_u, hdg, Int.pow_succ]
        have h9 : ∀ z : Int, 0 ≤ z → ((z.toNat : Nat) : Int) = z := fun z hz => Int.toNat_of_nonneg hz
        rw [Int.natCast_add, Int.natCast_add, Int.natCast_add, Int.natCast_mul, Int.natCast_mul, Int.natCast_mul, h9 _ (by omega), h9 _ hfk.1, h9 _ hgk.1, Int.natCast_pow]
        have h10 := Int.mul_ediv_add_emod ((f k).toInt + s0.toInt + c) 10000
        generalize ((f k).toInt + s0.toInt + c) / 10000 = Q at *
        generalize ((f k).toInt + s0.toInt + c) % 10000 = S at *
        rw [hs0] at h10
        generalize (f k).toInt = fk at *
        generalize (g k).toInt = gk at *
        rw [show ((10000 : Nat) : Int) = 10000 from rfl]
        generalize (10000 : Int) ^ k = X at *
        have h11 : (10000 * Q + S) * X = (fk + σ * gk + c) * X := by rw [h10]
        grind)
      refine ⟨m', c', e1, e2, fun r hr => ?_, e4, e5⟩
      rw [e3 r hr]
      exact tk_u2_ne hr
    unfold fM_plusWide_131
    rw [if_neg (show ¬ (60 : Int32) ≤ Int32.ofNat k from fun q => absurd ((i_le (a := 60) (b := k) (by omega) (by omega)).mp q) (by omega)), if_pos (i_ok ha (by omega)), if_pos (i_ok (show k < 60 by omega) (by omega)), if_pos (i_ok hb (by omega)), if_pos (i_ok hb (by omega)), i_nn (show a < 2147483648 by omega), i_nn (show b < 2147483648 by omega), i_nn (show k < 2147483648 by omega), h3, h4]
    rcases hσ with ⟨q1, q2⟩ | ⟨q1, q2⟩
    · rw [if_pos q1]
      exact key _ (by rw [i_tneg (by omega), q2]; omega)
    · rw [if_neg q1]
      exact key _ (by rw [q2]; omega)
theorem wd_cmp3 (x y : Nat) (m : tk_m) (hx : x < 40) (hy : y < 40) (hf : wd_ok (m.1 (308 + x)) 60) (hg : wd_ok (m.1 (308 + y)) 60) : ∀ (k n : Nat), k ≤ 60 → k < n → fM_compareSizes_3 n (Int32.ofNat x) (Int32.ofNat y) (Int32.ofInt ((k : Int) - 1)) m = some (nu_t ((wd_v (m.1 (308 + x)) k : Int) - wd_v (m.1 (308 + y)) k)) := by
  intro k
  induction k with
  | zero =>
    intro n h1 h2
    obtain ⟨n, rfl⟩ : ∃ k, n = k + 1 := ⟨n - 1, by omega⟩
    unfold fM_compareSizes_3
    rw [if_pos (by decide)]
    rfl
  | succ k ih =>
    intro n h1 h2
    obtain ⟨n, rfl⟩ : ∃ k, n = k + 1 := ⟨n - 1, by omega⟩
    have e1 : Int32.ofInt (((k + 1 : Nat) : Int) - 1) = Int32.ofNat k := by
      rw [show ((k + 1 : Nat) : Int) - 1 = (k : Int) by omega]; rfl
    have e2 : Int32.ofNat k + -1 = Int32.ofInt ((k : Int) - 1) := by
      rw [Int.sub_eq_add_neg, Int32.ofInt_add]; rfl
    have hfk := hf k (by omega)
    have hgk := hg k (by omega)
    have hfl := wd_v_lt k (fun i hi => hf i (by omega))
    have hgl := wd_v_lt k (fun i hi => hg i (by omega))
    unfold fM_compareSizes_3
    rw [e1, if_neg (i_neg (by omega)), if_pos (i_ok hx (by omega)), if_pos (i_ok (show k < 60 by omega) (by omega)), if_pos (i_ok hy (by omega)), i_nn (show x < 2147483648 by omega), i_nn (show y < 2147483648 by omega), i_nn (show k < 2147483648 by omega), wd_vs, wd_vs]
    by_cases he : m.1 (308 + x) k = m.1 (308 + y) k
    · rw [if_pos he, e2, ih n (by omega) (by omega), he]
      congr 2
      omega
    · rw [if_neg he]
      unfold fM_compareSizes_26
      rw [if_pos (i_ok hx (by omega)), if_pos (i_ok (show k < 60 by omega) (by omega)), if_pos (i_ok hy (by omega)), i_nn (show x < 2147483648 by omega), i_nn (show y < 2147483648 by omega), i_nn (show k < 2147483648 by omega)]
      have hne : (m.1 (308 + x) k).toInt ≠ (m.1 (308 + y) k).toInt := fun q => he (i_ext q)
      generalize wd_v (m.1 (308 + x)) k = F at *
      generalize wd_v (m.1 (308 + y)) k = G at *
      by_cases hc : m.1 (308 + y) k ≤ m.1 (308 + x) k
      · rw [if_pos hc]
        rw [Int32.le_iff_toInt_le] at hc
        obtain ⟨d, hd⟩ : ∃ d, (m.1 (308 + x) k).toInt.toNat = (m.1 (308 + y) k).toInt.toNat + 1 + d := ⟨(m.1 (308 + x) k).toInt.toNat - (m.1 (308 + y) k).toInt.toNat - 1, by omega⟩
        rw [hd, Nat.add_mul, Nat.add_mul]
        unfold nu_t
        rw [nu_sg_pos (by omega)]
        rfl
      · rw [if_neg hc]
        rw [Int32.le_iff_toInt_le] at hc
        obtain ⟨d, hd⟩ : ∃ d, (m.1 (308 + y) k).toInt.toNat = (m.1 (308 + x) k).toInt.toNat + 1 + d := ⟨(m.1 (308 + y) k).toInt.toNat - (m.1 (308 + x) k).toInt.toNat - 1, by omega⟩
        rw [hd, Nat.add_mul, Nat.add_mul]
        unfold nu_t
        rw [nu_sg_neg1 (by omega)]
        rfl
/-! the registers: top, signs, digits -/
def wd_R (m : tk_m) (w : Nat) (v : Int) : Prop := wd_ok (m.1 (308 + w)) 60 ∧ wd_v (m.1 (308 + w)) 60 = v.natAbs ∧ m.1 348 w = nu_t v
def wd_S (m : tk_m) (L : List Int) : Prop := m.1 295 9 = Int32.ofNat L.length ∧ L.length ≤ 40 ∧ ∀ i v, L[i]? = some v → wd_R m i v
def wd_fr (m m' : tk_m) : Prop := m'.2 = m.2 ∧ ∀ r k, (r < 308 ∨ 348 < r) → ¬ (r = 295 ∧ k = 9) → m'.1 r k = m.1 r k
theorem wd_fr_rf (m : tk_m) : wd_fr m m := ⟨rfl, fun _ _ _ _ => rfl⟩
theorem wd_fr_tr {m m1 m2 : tk_m} (h : wd_fr m m1) (h2 : wd_fr m1 m2) : wd_fr m m2 := ⟨h2.1.trans h.1, fun r k a b => (h2.2 r k a b).trans (h.2 r k a b)⟩
theorem wd_lt {L : List Int} {i : Nat} {v : Int} (h : L[i]? = some v) : i < L.length := (List.getElem?_eq_some_iff.mp h).1
theorem wd_push {m m' : tk_m} {L : List Int} {v : Int} (h : wd_S m L) (hl : L.length < 40) (h9 : m'.1 295 9 = Int32.ofNat (L.length + 1)) (hs : m'.1 348 L.length = nu_t v) (hs2 : ∀ i, i < L.length → m'.1 348 i = m.1 348 i) (hr : ∀ i, i < L.length → m'.1 (308 + i) = m.1 (308 + i)) (hok : wd_ok (m'.1 (308 + L.length)) 60) (hv : wd_v (m'.1 (308 + L.length)) 60 = v.natAbs) : wd_S m' (L ++ [v]) := by
  refine ⟨by rw [h9, List.length_append]; rfl, by rw [List.length_append]; simp; omega, fun i u hu => ?_⟩
  by_cases e : i < L.length
  · rw [List.getElem?_append_left e] at hu
    obtain ⟨a, b, c⟩ := h.2.2 i u hu
    exact ⟨by rw [hr i e]; exact a, by rw [hr i e]; exact b, by rw [hs2 i e]; exact c⟩
  · have hi := wd_lt hu
    rw [List.length_append] at hi
    have hi2 : i = L.length := by simp at hi; omega
    subst hi2
    rw [List.getElem?_append_right (Nat.le_refl _), Nat.sub_self] at hu
    have : v = u := Option.some.inj hu
    subst this
    exact ⟨hok, hv, hs⟩
theorem wd_nil (m : tk_m) : wd_S (tk_u2 m.1 295 9 0, m.2.1, m.2.2.1, m.2.2.2) [] := ⟨by dsimp only; rw [tk_u2_eq]; rfl, by decide, fun i v h => by simp at h⟩
theorem wd_nil_fr (m : tk_m) : wd_fr m (tk_u2 m.1 295 9 0, m.2.1, m.2.2.1, m.2.2.2) := ⟨rfl, fun r k a b => by dsimp only; unfold tk_u2; rw [if_neg b]⟩
/-- the frame of an act that makes register w, out of what it changes -/
theorem wd_frm {m m' : tk_m} {w : Nat} (hw : w < 40) {x y : Int32} (h2 : m'.2 = m.2) (h : ∀ r, r ≠ 308 + w → m'.1 r = tk_u2 (tk_u2 m.1 295 9 x) 348 w y r) : wd_fr m m' := by
  refine ⟨h2, fun r k a b => ?_⟩
  rw [h r (by omega), tk_u2_ne (by omega)]
  unfold tk_u2
  rw [if_neg b]
section
variable {m : tk_m} {L : List Int}
theorem wd_top (h : wd_S m L) (hl : L.length < 40) : tk_ok (m.1 295 9) 40 := by rw [h.1]; exact i_ok hl (by omega)
theorem wd_widens (h : wd_S m L) (hl : L.length < 40) (a : Int64) : ∃ m', fM_widens a m = some (Int32.ofNat L.length, m') ∧ wd_S m' (L ++ [a.toInt]) ∧ wd_fr m m' := by
  have hr := lo_rng a
  unfold fM_widens
  rw [if_pos (wd_top h hl), h.1, i_nn (show L.length < 2147483648 by omega), wd_signum, show Int32.ofNat L.length + 1 = Int32.ofNat (L.length + 1) from i_add _ 1]
  have hA : a.toInt.natAbs < 10000 ^ 60 := Nat.lt_of_le_of_lt (show a.toInt.natAbs ≤ 9223372036854775808 by omega) (by decide)
  obtain ⟨m', e1, e2, e3, e4, e5⟩ := wd_31 L.length hl a.toInt.natAbs hA 60 0 tk_F a (tk_u2 (tk_u2 m.1 295 9 (Int32.ofNat (L.length + 1))) 348 L.length (Int32.ofInt (nu_sg a.toInt)), m.2.1, m.2.2.1, m.2.2.2) (by omega) (by unfold tk_F; omega) (fun k hk => by omega) (by rw [Nat.pow_zero, Nat.mul_one]; show 0 + _ = _; omega)
  refine ⟨m', e1, ?_, wd_frm hl e2 e3⟩
  refine wd_push h hl ?_ ?_ ?_ ?_ e4 e5
  · rw [e3 295 (by omega)]; dsimp only; rw [tk_u2_ne (by omega), tk_u2_eq]
  · rw [e3 348 (by omega)]; dsimp only; rw [tk_u2_eq]; rfl
  · intro i hi; rw [e3 348 (by omega)]; dsimp only; rw [tk_u2_nk (by omega), tk_u2_ne (by omega)]
  · intro i hi; rw [e3 (308 + i) (by omega)]; dsimp only; rw [tk_u2_ne (by omega), tk_u2_ne (by omega)]
theorem wd_times (h : wd_S m L) (hl : L.length < 40) {i j : Nat} {u v : Int} (hi : L[i]? = some u) (hj : L[j]? = some v) (hb : (u * v).natAbs < 10000 ^ 60) : ∃ m', fM_timesWide_II (Int32.ofNat i) (Int32.ofNat j) m = some (Int32.ofNat L.length, m') ∧ wd_S m' (L ++ [u * v]) ∧ wd_fr m m' := by
  have hil := wd_lt hi
  have hjl := wd_lt hj
  obtain ⟨u1, u2, u3⟩ := h.2.2 i u hi
  obtain ⟨v1, v2, v3⟩ := h.2.2 j v hj
  unfold fM_timesWide_II
  rw [if_pos (i_ok (show i < 40 by omega) (by omega)), if_pos (i_ok (show j < 40 by omega) (by omega)), if_pos (wd_top h hl), h.1, i_nn (show L.length < 2147483648 by omega), i_nn (show i < 2147483648 by omega), i_nn (show j < 2147483648 by omega), tk_u2_ne (show (348 : Nat) ≠ 295 by decide), u3, v3, nu_tm, show Int32.ofNat L.length + 1 = Int32.ofNat (L.length + 1) from i_add _ 1]
  obtain ⟨m', c', e1, e2, e3, e4, e5⟩ := wd_40 i j L.length (by omega) (by omega) hl (by omega) (by omega) (m.1 (308 + i)) (m.1 (308 + j)) u1 v1 60 0 tk_F 0 (tk_u2 (tk_u2 m.1 295 9 (Int32.ofNat (L.length + 1))) 348 L.length (nu_t (u * v)), m.2.1, m.2.2.1, m.2.2.2) (by omega) (by unfold tk_F; omega) (by dsimp only; rw [tk_u2_ne (by omega), tk_u2_ne (by omega)]) (by dsimp only; rw [tk_u2_ne (by omega), tk_u2_ne (by omega)]) (by omega) (fun k hk => by omega) rfl
  have hp : wd_v (m.1 (308 + i)) 60 * wd_v (m.1 (308 + j)) 60 = (u * v).natAbs := by rw [u2, v2, Int.natAbs_mul]
  rw [wd_C_prod (by rw [hp]; exact hb), hp] at e5
  have hc : c' = 0 := by
    apply Nat.eq_zero_of_not_pos
    intro q
    have : 1 * 10000 ^ 60 ≤ c' * 10000 ^ 60 := Nat.mul_le_mul_right _ q
    omega
  rw [hc, Nat.zero_mul, Nat.add_zero] at e5
  refine ⟨m', e1, ?_, wd_frm hl e2 e3⟩
  refine wd_push h hl ?_ ?_ ?_ ?_ e4 e5
  · rw [e3 295 (by omega)]; dsimp only; rw [tk_u2_ne (by omega), tk_u2_eq]
  · rw [e3 348 (by omega)]; dsimp only; rw [tk_u2_eq]
  · intro i hi; rw [e3 348 (by omega)]; dsimp only; rw [tk_u2_nk (by omega), tk_u2_ne (by omega)]
  · intro i hi; rw [e3 (308 + i) (by omega)]; dsimp only; rw [tk_u2_ne (by omega), tk_u2_ne (by omega)]
theorem wd_cmp (h : wd_S m L) {i j : Nat} {u v : Int} (hi : L[i]? = some u) (hj : L[j]? = some v) : fM_compareSizes (Int32.ofNat i) (Int32.ofNat j) m = some (nu_t ((u.natAbs : Int) - v.natAbs)) := by
  have hil := wd_lt hi
  have hjl := wd_lt hj
  have hl := h.2.1
  obtain ⟨u1, u2, u3⟩ := h.2.2 i u hi
  obtain ⟨v1, v2, v3⟩ := h.2.2 j v hj
  have e := wd_cmp3 i j m (by omega) (by omega) u1 v1 60 tk_F (by omega) (by unfold tk_F; omega)
  rw [u2, v2] at e
  exact e
theorem wd_turned (h : wd_S m L) {i : Nat} {u : Int} (hi : L[i]? = some u) : ∃ m', fM_turned (Int32.ofNat i) m = some (Int32.ofNat i, m') ∧ wd_S m' (L.set i (-u)) ∧ wd_fr m m' := by
  have hil := wd_lt hi
  have hl := h.2.1
  obtain ⟨u1, u2, u3⟩ := h.2.2 i u hi
  unfold fM_turned
  rw [if_pos (i_ok (show i < 40 by omega) (by omega)), i_nn (show i < 2147483648 by omega), u3, nu_tn]
  refine ⟨_, rfl, ⟨by dsimp only; rw [tk_u2_ne (by omega), List.length_set]; exact h.1, by rw [List.length_set]; exact hl, fun k v hk => ?_⟩, rfl, fun r k a b => by dsimp only; rw [tk_u2_ne (by omega)]⟩
  by_cases e : k = i
  · subst e
    rw [List.getElem?_set_self hil] at hk
    have : -u = v := Option.some.inj hk
    subst this
    exact ⟨by dsimp only; rw [tk_u2_ne (by omega)]; exact u1, by dsimp only; rw [tk_u2_ne (by omega), Int.natAbs_neg]; exact u2, by dsimp only; rw [tk_u2_eq]⟩
  · rw [List.getElem?_set_ne (fun q => e q.symm)] at hk
    have hkl := wd_lt hk
    obtain ⟨a, b, c⟩ := h.2.2 k v hk
    exact ⟨by dsimp only; rw [tk_u2_ne (by omega)]; exact a, by dsimp only; rw [tk_u2_ne (by omega)]; exact b, by dsimp only; rw [tk_u2_nk e]; exact c⟩
theorem wd_fin (h : wd_S m L) (hl : L.length < 40) {a b : Nat} {u v s : Int} (ha : L[a]? = some u) (hb : L[b]? = some v) (fl : Int32) (σ : Int) (hσ : (fl = 0 ∧ σ = -1) ∨ (¬ fl = 0 ∧ σ = 1)) (hs : (u.natAbs : Int) + σ * v.natAbs = s.natAbs) (hB : s.natAbs < 10000 ^ 60) : ∃ m', fM_plusWide_131 tk_F (Int32.ofNat L.length) fl (Int32.ofNat a) (Int32.ofNat b) 0 0 (tk_u2 (tk_u2 m.1 295 9 (Int32.ofNat (L.length + 1))) 348 L.length (nu_t s), m.2.1, m.2.2.1, m.2.2.2) = some (Int32.ofNat L.length, m') ∧ wd_S m' (L ++ [s]) ∧ wd_fr m m' := by
  have hal := wd_lt ha
  have hbl := wd_lt hb
  obtain ⟨u1, u2, u3⟩ := h.2.2 a u ha
  obtain ⟨v1, v2, v3⟩ := h.2.2 b v hb
  obtain ⟨m', c', e1, e2, e3, e4, e5⟩ := wd_131 L.length a b fl σ hσ hl (by omega) (by omega) (by omega) (by omega) (m.1 (308 + a)) (m.1 (308 + b)) u1 v1 60 0 tk_F 0 (tk_u2 (tk_u2 m.1 295 9 (Int32.ofNat (L.length + 1))) 348 L.length (nu_t s), m.2.1, m.2.2.1, m.2.2.2) (by omega) (by unfold tk_F; omega) (by dsimp only; rw [tk_u2_ne (by omega), tk_u2_ne (by omega)]) (by dsimp only; rw [tk_u2_ne (by omega), tk_u2_ne (by omega)]) (by omega) (fun k hk => by omega) (by show ((0 : Nat) : Int) + 0 * 10000 ^ 0 = ((0 : Nat) : Int) + σ * ((0 : Nat) : Int); rcases hσ with ⟨_, q⟩ | ⟨_, q⟩ <;> rw [q] <;> rfl)
  rw [u2, v2, hs] at e5
  have hlt := wd_v_lt 60 e4
  have hv : wd_v (m'.1 (308 + L.length)) 60 = s.natAbs := by
    have hP : (10000 : Int) ^ 60 = ((10000 ^ 60 : Nat) : Int) := by rw [Int.natCast_pow]; rfl
    rw [hP] at e5
    generalize 10000 ^ 60 = P at *
    generalize wd_v (m'.1 (308 + L.length)) 60 = W at *
    have hc : c' = 0 := by
      rcases Int.lt_trichotomy c' 0 with q | q | q
      · have : c' * (P : Int) ≤ -1 * (P : Int) := Int.mul_le_mul_of_nonneg_right (by omega) (by omega)
        omega
      · exact q
      · have : 1 * (P : Int) ≤ c' * (P : Int) := Int.mul_le_mul_of_nonneg_right (by omega) (by omega)
        omega
    rw [hc] at e5
    omega
  refine ⟨m', e1, ?_, wd_frm hl e2 e3⟩
  refine wd_push h hl ?_ ?_ ?_ ?_ e4 hv
  · rw [e3 295 (by omega)]; dsimp only; rw [tk_u2_ne (by omega), tk_u2_eq]
  · rw [e3 348 (by omega)]; dsimp only; rw [tk_u2_eq]
  · intro i hi; rw [e3 348 (by omega)]; dsimp only; rw [tk_u2_nk (by omega), tk_u2_ne (by omega)]
  · intro i hi; rw [e3 (308 + i) (by omega)]; dsimp only; rw [tk_u2_ne (by omega), tk_u2_ne (by omega)]
theorem wd_S_top {x : Int32} (h : wd_S m L) {i : Nat} {u : Int} (hi : L[i]? = some u) : wd_R (tk_u2 m.1 295 9 x, m.2.1, m.2.2.1, m.2.2.2) i u := by
  have hil := wd_lt hi
  have hl := h.2.1
  obtain ⟨a, b, c⟩ := h.2.2 i u hi
  exact ⟨by dsimp only; rw [tk_u2_ne (by omega)]; exact a, by dsimp only; rw [tk_u2_ne (by omega)]; exact b, by dsimp only; rw [tk_u2_ne (by omega)]; exact c⟩
theorem wd_cmpT {x : Int32} (h : wd_S m L) {i j : Nat} {u v : Int} (hi : L[i]? = some u) (hj : L[j]? = some v) : fM_compareSizes (Int32.ofNat i) (Int32.ofNat j) (tk_u2 m.1 295 9 x, m.2.1, m.2.2.1, m.2.2.2) = some (nu_t ((u.natAbs : Int) - v.natAbs)) := by
  have hil := wd_lt hi
  have hjl := wd_lt hj
  have hl := h.2.1
  obtain ⟨u1, u2, u3⟩ := wd_S_top (x := x) h hi
  obtain ⟨v1, v2, v3⟩ := wd_S_top (x := x) h hj
  have e := wd_cmp3 i j _ (by omega) (by omega) u1 v1 60 tk_F (by omega) (by unfold tk_F; omega)
  rw [u2, v2] at e
  exact e
theorem wd_plus (h : wd_S m L) (hl : L.length < 40) {i j : Nat} {u v : Int} (hi : L[i]? = some u) (hj : L[j]? = some v) (hB : (u + v).natAbs < 10000 ^ 60) : ∃ m', fM_plusWide (Int32.ofNat i) (Int32.ofNat j) m = some (Int32.ofNat L.length, m') ∧ wd_S m' (L ++ [u + v]) ∧ wd_fr m m' := by
  have hil := wd_lt hi
  have hjl := wd_lt hj
  obtain ⟨u1, u2, u3⟩ := h.2.2 i u hi
  obtain ⟨v1, v2, v3⟩ := h.2.2 j v hj
  have hcij := wd_cmpT (x := Int32.ofNat (L.length + 1)) h hi hj
  have g1 : tk_ok (Int32.ofNat i) 40 := i_ok (by omega) (by omega)
  have g2 : tk_ok (Int32.ofNat j) 40 := i_ok (by omega) (by omega)
  have g3 : tk_ok (Int32.ofNat L.length) 40 := i_ok hl (by omega)
  have n1 := i_nn (show i < 2147483648 by omega)
  have n2 := i_nn (show j < 2147483648 by omega)
  have n3 := i_nn (show L.length < 2147483648 by omega)
  unfold fM_plusWide
  rw [if_pos g1, if_pos g2, h.1, n1, n2, tk_u2_ne (show (348 : Nat) ≠ 295 by decide), u3, v3, nu_tm, show Int32.ofNat L.length + 1 = Int32.ofNat (L.length + 1) from i_add _ 1]
  have hs3 : tk_u2 m.1 295 9 (Int32.ofNat (L.length + 1)) 348 i = nu_t u := by rw [tk_u2_ne (by decide)]; exact u3
  have hs4 : tk_u2 m.1 295 9 (Int32.ofNat (L.length + 1)) 348 j = nu_t v := by rw [tk_u2_ne (by decide)]; exact v3
  by_cases hlike : u * v < 0
  · rw [if_pos (nu_tl.mpr hlike)]
    unfold fM_plusWide_36
    rw [hcij, Option.bind_some]
    have huv : (0 < u ∧ v < 0) ∨ (u < 0 ∧ 0 < v) := by
      rcases Int.lt_trichotomy u 0 with a | a | a
      · rcases Int.lt_trichotomy v 0 with b | b | b
        · have := Int.mul_pos_of_neg_of_neg a b; omega
        · rw [b] at hlike; omega
        · exact .inr ⟨a, b⟩
      · rw [a] at hlike; omega
      · rcases Int.lt_trichotomy v 0 with b | b | b
        · exact .inl ⟨a, b⟩
        · rw [b] at hlike; omega
        · have := Int.mul_pos a b; omega
    by_cases hge : 0 ≤ (u.natAbs : Int) - v.natAbs
    · rw [if_pos (nu_tge.mpr hge), if_pos rfl]
      unfold fM_plusWide_65
      rw [if_pos rfl, hcij, Option.bind_some]
      by_cases hz : (u.natAbs : Int) - v.natAbs = 0
      · rw [if_pos (nu_tz.mpr hz), if_pos g3, n3]
        have hs : u + v = 0 := by omega
        have := wd_fin h hl hi hj 0 (-1) (.inl ⟨rfl, rfl⟩) (s := u + v) (by omega) hB
        rw [hs] at this ⊢
        exact this
      · rw [if_neg (fun q => hz (nu_tz.mp q)), if_pos g1, if_pos g3, n3, n1]
        dsimp only
        rw [hs3]
        have hs : nu_t u = nu_t (u + v) := by
          rw [nu_tq]
          rcases huv with ⟨a, b⟩ | ⟨a, b⟩
          · rw [nu_sg_pos a, nu_sg_pos (by omega)]
          · rw [nu_sg_neg1 a, nu_sg_neg1 (by omega)]
        rw [hs]
        exact wd_fin h hl hi hj 0 (-1) (.inl ⟨rfl, rfl⟩) (by omega) hB
    · rw [if_neg (fun q => hge (nu_tge.mp q))]
      have hij : i ≠ j := by
        intro q
        subst q
        rw [hi] at hj
        have := Option.some.inj hj
        subst this
        omega
      rw [if_neg (fun q => hij ((i_eq (by omega) (by omega)).mp q).symm)]
      unfold fM_plusWide_65
      rw [if_pos rfl, hcij, Option.bind_some, if_neg (fun q => by have := nu_tz.mp q; omega), if_pos g2, if_pos g3, n3, n2]
      dsimp only
      rw [hs4]
      have hs : nu_t v = nu_t (u + v) := by
        rw [nu_tq]
        rcases huv with ⟨a, b⟩ | ⟨a, b⟩
        · rw [nu_sg_neg1 b, nu_sg_neg1 (by omega)]
        · rw [nu_sg_pos b, nu_sg_pos (by omega)]
      rw [hs]
      exact wd_fin h hl hj hi 0 (-1) (.inl ⟨rfl, rfl⟩) (by omega) hB
  · rw [if_neg (fun q => hlike (nu_tl.mp q))]
    unfold fM_plusWide_36
    rw [hcij, Option.bind_some]
    have huv : (u.natAbs : Int) + v.natAbs = (u + v).natAbs := by
      rcases Int.lt_trichotomy u 0 with a | a | a
      · rcases Int.lt_trichotomy v 0 with b | b | b
        · omega
        · omega
        · have := Int.mul_neg_of_neg_of_pos a b; omega
      · omega
      · rcases Int.lt_trichotomy v 0 with b | b | b
        · have := Int.mul_neg_of_pos_of_neg a b; omega
        · omega
        · omega
    have hs : (if u = 0 then nu_t v else nu_t u) = nu_t (u + v) := by
      by_cases hu : u = 0
      · rw [if_pos hu, hu, Int.zero_add]
      · rw [if_neg hu, nu_tq]
        rcases Int.lt_trichotomy u 0 with a | a | a
        · rw [nu_sg_neg1 a, nu_sg_neg1 (by omega)]
        · exact absurd a hu
        · rw [nu_sg_pos a, nu_sg_pos (by omega)]
    have key : ∀ (a b : Nat) (p q : Int), L[a]? = some p → L[b]? = some q → (p.natAbs : Int) + 1 * q.natAbs = (u + v).natAbs → ∃ m', fM_plusWide_65 (Int32.ofNat i) (Int32.ofNat j) (Int32.ofNat L.length) 1 (Int32.ofNat a) (Int32.ofNat b) (tk_u2 m.1 295 9 (Int32.ofNat (L.length + 1)), m.2.1, m.2.2.1, m.2.2.2) = some (Int32.ofNat L.length, m') ∧ wd_S m' (L ++ [u + v]) ∧ wd_fr m m' := by
      intro a b p q hap hbq hpq
      have hfin := wd_fin h hl hap hbq 1 1 (.inr ⟨by decide, rfl⟩) hpq hB
      unfold fM_plusWide_65
      rw [if_neg (by decide), if_pos g1, n1]
      dsimp only
      by_cases hu : u = 0
      · rw [if_pos (by rw [hs3]; exact nu_tz.mpr hu), if_pos g2, if_pos g3, n3, n2, hs4]
        rw [if_pos hu] at hs
        rw [hs]
        exact hfin
      · rw [if_neg (by rw [hs3]; exact fun q => hu (nu_tz.mp q)), if_pos g3, n3, hs3]
        rw [if_neg hu] at hs
        rw [hs]
        exact hfin
    by_cases hge : 0 ≤ (u.natAbs : Int) - v.natAbs
    · rw [if_pos (nu_tge.mpr hge), if_pos rfl]
      exact key i j u v hi hj (by omega)
    · rw [if_neg (fun q => hge (nu_tge.mp q))]
      have hij : i ≠ j := by
        intro q
        subst q
        rw [hi] at hj
        have := Option.some.inj hj
        subst this
        omega
      rw [if_neg (fun q => hij ((i_eq (by omega) (by omega)).mp q).symm)]
      exact key j i v u hj hi (by omega)
end
