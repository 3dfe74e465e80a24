/-! ===== two of one SIGNS in order ===== -/
theorem lo_val_D {p q m : Int} {d : Int64} (bp : an_bd p 1000000000000000000) (bq : an_bd q 1000000000000000000) (bm : an_bd m 1000000000000000000) (hm : m ≠ 0) : ∃ D, p = D * (lo_val p q d m).1.toInt ∧ q = D * (lo_val p q d m).2.1.toInt ∧ m = D * (lo_val p q d m).2.2.2.toInt ∧ 0 < (lo_val p q d m).2.2.2.toInt ∧ (lo_val p q d m).2.2.1 = if q = 0 then 0 else d := by
  have rp := bd_r bp (by decide)
  have rq := bd_r bq (by decide)
  have rm := bd_r bm (by decide)
  unfold an_bd at bp bq bm
  have nb : ¬ lo_bad p q m := lo_small (by omega) (by omega) (by omega)
  obtain ⟨n1, n2, n3⟩ := lo_nbad nb
  have e1 : (lo_val p q d m).1.toInt = p / lo_D3 p q m := lo_i (lo_qr (lo_D3p p q m) rp n1)
  have e2 : (lo_val p q d m).2.1.toInt = q / lo_D3 p q m := lo_i (lo_qr (lo_D3q p q m) rq n2)
  have e3 : (lo_val p q d m).2.2.2.toInt = m / lo_D3 p q m := lo_i (lo_qr (lo_D3m p q m) rm n3)
  rw [e1, e2, e3]
  exact ⟨lo_D3 p q m, (Int.mul_ediv_cancel' (lo_D3p p q m)).symm, (Int.mul_ediv_cancel' (lo_D3q p q m)).symm, (Int.mul_ediv_cancel' (lo_D3m p q m)).symm, lo_mD hm, rfl⟩
theorem nu_sgp {c x : Int} (hc : 0 < c) : nu_sg (c * x) = nu_sg x := by rw [nu_sg_mul, nu_sg_pos hc, Int.one_mul]
theorem nu_sDD {D1 D2 u v M : Int} (h1 : M = D1 * u) (h2 : M = D2 * v) (hu : 0 < u) (hv : 0 < v) (hM : M ≠ 0) : 0 < D1 * D2 := by
  have e : 0 < (D1 * D2) * (u * v) := by
    have : (D1 * D2) * (u * v) = M * M := by rw [show (D1 * D2) * (u * v) = (D1 * u) * (D2 * v) by grind, ← h1, ← h2]
    rw [this]
    rcases Int.lt_or_gt_of_ne hM with z | z
    · exact Int.mul_pos_of_neg_of_neg z z
    · exact Int.mul_pos z z
  have huv : 0 < u * v := Int.mul_pos hu hv
  rcases Int.lt_trichotomy (D1 * D2) 0 with z | z | z
  · have := Int.mul_neg_of_neg_of_pos z huv
    omega
  · rw [z, Int.zero_mul] at e; omega
  · exact z
/-- the two sides of a line, weighed -/
theorem an_cmp {P X M : Int} {d : Int64} (bP : an_bd P 1000000000000) (bX : an_bd X 1000000000000) (bM : an_bd M 1000000000000) (hM : M ≠ 0) : s_cmp (lo_val (P - X) 0 0 M) (lo_val (P + X) 0 0 M) = Int32.ofInt (nu_sg (-(X * M))) ∧ s_cmp (lo_val P (-X) d M) (lo_val P X d M) = Int32.ofInt (nu_sg (-(X * M))) := by
  have b0 : an_bd 0 1000000000000000000 := by unfold an_bd; decide
  have bM' := bd_le bM (show 1000000000000 ≤ 1000000000000000000 by decide)
  constructor
  · obtain ⟨D1, p1, q1, m1, u1, _⟩ := lo_val_D (d := 0) (bd_sub bP bX (by decide)) b0 bM' hM
    obtain ⟨D2, p2, q2, m2, u2, _⟩ := lo_val_D (d := 0) (bd_add bP bX (by decide)) b0 bM' hM
    have hD := nu_sDD m1 m2 u1 u2 hM
    have z1 : (lo_val (P - X) 0 0 M).2.1.toInt = 0 := by
      rcases Int.mul_eq_zero.mp q1.symm with z | z
      · rw [z, Int.zero_mul] at hD; omega
      · exact z
    have z2 : (lo_val (P + X) 0 0 M).2.1.toInt = 0 := by
      rcases Int.mul_eq_zero.mp q2.symm with z | z
      · rw [z, Int.mul_zero] at hD; omega
      · exact z
    unfold s_cmp nu_cmpM nu_s1
    rw [z1, z2, Int.zero_mul, if_pos rfl, Int.zero_mul, if_pos (by decide)]
    refine congrArg Int32.ofInt ?_
    generalize (lo_val (P - X) 0 0 M).1.toInt = a1 at *
    generalize (lo_val (P + X) 0 0 M).1.toInt = a2 at *
    generalize (lo_val (P - X) 0 0 M).2.2.2.toInt = c1 at *
    generalize (lo_val (P + X) 0 0 M).2.2.2.toInt = c2 at *
    rw [← nu_sgp hD, ← nu_sgp (show (0 : Int) < 2 by decide) (x := -(X * M))]
    refine congrArg nu_sg ?_
    have e : D1 * D2 * (a1 * c2 + -(a2 * c1)) = (D1 * a1) * (D2 * c2) - (D2 * a2) * (D1 * c1) := by grind
    rw [e, ← p1, ← p2, ← m1, ← m2]
    grind
  · obtain ⟨D1, p1, q1, m1, u1, w1⟩ := lo_val_D (d := d) (bd_le bP (by decide)) (bd_le (bd_neg bX) (by decide)) bM' hM
    obtain ⟨D2, p2, q2, m2, u2, w2⟩ := lo_val_D (d := d) (bd_le bP (by decide)) (bd_le bX (by decide)) bM' hM
    have hD := nu_sDD m1 m2 u1 u2 hM
    have hD0 : D1 * D2 ≠ 0 := by omega
    unfold s_cmp
    refine congrArg Int32.ofInt ?_
    have hd : (lo_val P (-X) d M).2.2.1 = (lo_val P X d M).2.2.1 := by
      rw [w1, w2]
      by_cases c : X = 0
      · rw [if_pos c, if_pos (by omega)]
      · rw [if_neg c, if_neg (by omega)]
    rw [hd]
    generalize (lo_val P X d M).2.2.1.toInt = e at *
    generalize (lo_val P (-X) d M).1.toInt = a1 at *
    generalize (lo_val P X d M).1.toInt = a2 at *
    generalize (lo_val P (-X) d M).2.1.toInt = b1 at *
    generalize (lo_val P X d M).2.1.toInt = b2 at *
    generalize (lo_val P (-X) d M).2.2.2.toInt = c1 at *
    generalize (lo_val P X d M).2.2.2.toInt = c2 at *
    have ha : a1 * c2 + -(a2 * c1) = 0 := by
      have e2 : D1 * D2 * (a1 * c2 + -(a2 * c1)) = 0 := by
        have : D1 * D2 * (a1 * c2 + -(a2 * c1)) = (D1 * a1) * (D2 * c2) - (D2 * a2) * (D1 * c1) := by grind
        rw [this, ← p1, ← p2, ← m1, ← m2]
        omega
      exact (Int.mul_eq_zero.mp e2).resolve_left hD0
    have hb : D1 * D2 * (b1 * c2) = -(X * M) := by
      have : D1 * D2 * (b1 * c2) = (D1 * b1) * (D2 * c2) := by grind
      rw [this, ← q1, ← m2, Int.neg_mul]
    have hc : D1 * D2 * (-(b2 * c1)) = -(X * M) := by
      have : D1 * D2 * (-(b2 * c1)) = -((D2 * b2) * (D1 * c1)) := by grind
      rw [this, ← q2, ← m1]
    rw [ha]
    generalize b1 * c2 = β at *
    generalize -(b2 * c1) = γ at *
    have sb : nu_sg β = nu_sg (-(X * M)) := by rw [← hb, nu_sgp hD]
    have sc : nu_sg γ = nu_sg (-(X * M)) := by rw [← hc, nu_sgp hD]
    unfold nu_cmpM nu_s1
    by_cases z : β = 0
    · have z' : γ = 0 := by
        have : nu_sg γ = 0 := by rw [sc, ← sb, z]; exact nu_sg_zero
        exact nu_sg_iz.mp this
      rw [if_pos z, if_pos z', ← sb, z]
    · have z' : γ ≠ 0 := fun y => by
        have : nu_sg β = 0 := by rw [sb, ← sc, y]; exact nu_sg_zero
        exact z (nu_sg_iz.mp this)
      have ebc : β = γ := by
        have : D1 * D2 * β = D1 * D2 * γ := by rw [hb, hc]
        exact Int.eq_of_mul_eq_mul_left hD0 this
      rw [if_neg z, if_neg z', if_pos rfl, if_neg (by omega)]
      have e3 : nu_sg (β + γ) = nu_sg (-(X * M)) := by
        rw [← sb, ← ebc, show β + β = 2 * β by omega, nu_sgp (by decide)]
      rw [e3, nu_sg_zero]
      by_cases y : 0 = nu_sg (-(X * M))
      · rw [if_pos y]; exact y
      · rw [if_neg y, if_pos rfl]
/-! rows exchanged -/
def sw_L (L : Nat → Nat → Int64) (a b j : Nat) : Nat → Nat → Int64 := fun r q => if r = a ∧ q < j then L b q else if r = b ∧ q < j then L a q else L r q
theorem sw_0 (L : Nat → Nat → Int64) (a b : Nat) : sw_L L a b 0 = L := by
  funext r q
  unfold sw_L
  rw [if_neg (by omega), if_neg (by omega)]
theorem sw_s (L : Nat → Nat → Int64) {a b : Nat} (h : a ≠ b) (j : Nat) : tk_u2 (tk_u2 (sw_L L a b j) a j (sw_L L a b j b j)) b j (sw_L L a b j a j) = sw_L L a b (j + 1) := by
  funext r q
  have e1 : sw_L L a b j b j = L b j := by unfold sw_L; rw [if_neg (by omega), if_neg (by omega)]
  have e2 : sw_L L a b j a j = L a j := by unfold sw_L; rw [if_neg (by omega), if_neg (by omega)]
  rw [e1, e2]
  unfold tk_u2 sw_L
  by_cases c1 : r = b ∧ q = j
  · obtain ⟨rfl, rfl⟩ := c1
    rw [if_pos ⟨rfl, rfl⟩, if_neg (by omega), if_pos ⟨rfl, by omega⟩]
  · rw [if_neg c1]
    by_cases c2 : r = a ∧ q = j
    · obtain ⟨rfl, rfl⟩ := c2
      rw [if_pos ⟨rfl, rfl⟩, if_pos ⟨rfl, by omega⟩]
    · rw [if_neg c2]
      by_cases d1 : r = a ∧ q < j
      · rw [if_pos d1, if_pos ⟨d1.1, by omega⟩]
      · have n1 : ¬ (r = a ∧ q < j + 1) := by omega
        rw [if_neg d1, if_neg n1]
        by_cases d2 : r = b ∧ q < j
        · have n2 : r = b ∧ q < j + 1 := ⟨d2.1, by omega⟩
          rw [if_pos d2, if_pos n2]
        · have n2 : ¬ (r = b ∧ q < j + 1) := by omega
          rw [if_neg d2, if_neg n2]
theorem sw_at (L : Nat → Nat → Int64) {a b j : Nat} (h : a ≠ b) : (∀ q, q < j → sw_L L a b j a q = L b q) ∧ (∀ q, q < j → sw_L L a b j b q = L a q) ∧ ∀ r, r ≠ a → r ≠ b → sw_L L a b j r = L r := by
  refine ⟨fun q hq => ?_, fun q hq => ?_, fun r h1 h2 => ?_⟩
  · unfold sw_L; rw [if_pos ⟨rfl, hq⟩]
  · unfold sw_L; rw [if_neg (by omega), if_pos ⟨rfl, hq⟩]
  · funext q; unfold sw_L; rw [if_neg (by omega), if_neg (by omega)]
section
variable {m : tk_m} {K : Nat}
theorem i_n4 {i : Nat} (h : i < 8) : ¬ (8 : Int32) ≤ Int32.ofNat i := by
  show ¬ Int32.ofNat 8 ≤ Int32.ofNat i
  rw [i_le (by omega) (by omega)]
  omega
theorem y_183 (hK : K + 1 < 16) (L : Nat → Nat → Int64) : ∀ (c j n : Nat), j + c = 8 → c < n → fM_laysInOrder_183 n (Int32.ofNat K) (Int32.ofNat j) (m.1, sw_L L (416 + K) (416 + (K + 1)) j, m.2.2.1, m.2.2.2) = some (m.1, sw_L L (416 + K) (416 + (K + 1)) 8, m.2.2.1, m.2.2.2) := by
  intro c
  induction c with
  | zero =>
    intro j n h1 h2
    obtain ⟨n, rfl⟩ : ∃ k, n = k + 1 := ⟨n - 1, by omega⟩
    have : j = 8 := by omega
    subst this
    unfold fM_laysInOrder_183
    rw [if_pos (by decide)]
  | succ c ih =>
    intro j n h1 h2
    obtain ⟨n, rfl⟩ : ∃ k, n = k + 1 := ⟨n - 1, by omega⟩
    unfold fM_laysInOrder_183
    rw [if_neg (i_n4 (by omega)), if_pos (i_ok (by omega) (by omega)), if_pos (i_ok (show j < 8 by omega) (by omega)), show Int32.ofNat K + 1 = Int32.ofNat (K + 1) from i_add K 1, if_pos (i_ok hK (by omega)), i_nn (show K < 2147483648 by omega), i_nn (show K + 1 < 2147483648 by omega), i_nn (show j < 2147483648 by omega), show Int32.ofNat j + 1 = Int32.ofNat (j + 1) from i_add j 1]
    dsimp only
    rw [sw_s L (by omega)]
    exact ih (j + 1) n (by omega) (by omega)
theorem y_111 (hK : K + 1 < 16) {i : Nat} (hi : i < 3) (r : Int32 → Int32 → tk_m → Option tk_m) (L : Nat → Nat → Int64) : ∀ (c j n : Nat), j + c = 4 → c < n → fM_laysInOrder_111 r n (Int32.ofNat K) (Int32.ofNat i) (Int32.ofNat j) (m.1, sw_L L (351 + 4 * K + 1 + i) (351 + 4 * (K + 1) + 1 + i) j, m.2.2.1, m.2.2.2) = r (Int32.ofNat K) (Int32.ofNat (i + 1)) (m.1, sw_L L (351 + 4 * K + 1 + i) (351 + 4 * (K + 1) + 1 + i) 4, m.2.2.1, m.2.2.2) := by
  intro c
  induction c with
  | zero =>
    intro j n h1 h2
    obtain ⟨n, rfl⟩ : ∃ k, n = k + 1 := ⟨n - 1, by omega⟩
    have : j = 4 := by omega
    subst this
    unfold fM_laysInOrder_111
    rw [if_pos (by decide), show Int32.ofNat i + 1 = Int32.ofNat (i + 1) from i_add i 1]
  | succ c ih =>
    intro j n h1 h2
    obtain ⟨n, rfl⟩ : ∃ k, n = k + 1 := ⟨n - 1, by omega⟩
    unfold fM_laysInOrder_111
    rw [if_neg (iv_n4 (by omega)), if_pos (i_ok (by omega) (by omega)), if_pos (i_ok hi (by omega)), if_pos (i_ok (show j < 4 by omega) (by omega)), show Int32.ofNat K + 1 = Int32.ofNat (K + 1) from i_add K 1, if_pos (i_ok hK (by omega)), i_nn (show K < 2147483648 by omega), i_nn (show K + 1 < 2147483648 by omega), i_nn (show j < 2147483648 by omega), i_nn (show i < 2147483648 by omega), show Int32.ofNat j + 1 = Int32.ofNat (j + 1) from i_add j 1]
    dsimp only
    rw [sw_s L (by omega)]
    exact ih (j + 1) n (by omega) (by omega)
theorem y_103 (hK : K + 1 < 16) (n i : Nat) (hi : i < 3) (L : Nat → Nat → Int64) : fM_laysInOrder_103 (n + 1) (Int32.ofNat K) (Int32.ofNat i) (m.1, L, m.2.2.1, m.2.2.2) = fM_laysInOrder_103 n (Int32.ofNat K) (Int32.ofNat (i + 1)) (m.1, sw_L L (351 + 4 * K + 1 + i) (351 + 4 * (K + 1) + 1 + i) 4, m.2.2.1, m.2.2.2) := by
  conv => lhs; unfold fM_laysInOrder_103
  rw [if_neg (an_n3 hi)]
  have := y_111 (m := m) hK hi (fM_laysInOrder_103 n) L 4 0 tk_F (by omega) (by unfold tk_F; omega)
  rw [sw_0] at this
  exact this
theorem y_swp (hK : K + 1 < 16) {c1 c2 : an_c} (h1 : y_W c1 K m) (h2 : y_W c2 (K + 1) m) : ∃ m1, fM_laysInOrder_103 tk_F (Int32.ofNat K) 0 m = some m1 ∧ y_W c2 K m1 ∧ y_W c1 (K + 1) m1 ∧ m1.1 = m.1 ∧ m1.2.2 = m.2.2 ∧ ∀ r, ¬ (351 + 4 * K + 1 ≤ r ∧ r ≤ 351 + 4 * K + 3) → ¬ (351 + 4 * (K + 1) + 1 ≤ r ∧ r ≤ 351 + 4 * (K + 1) + 3) → r ≠ 416 + K → r ≠ 416 + (K + 1) → m1.2.1 r = m.2.1 r := by
  have s0 := sw_at m.2.1 (a := 351 + 4 * K + 1 + 0) (b := 351 + 4 * (K + 1) + 1 + 0) (j := 4) (by omega)
  have e1 := y_103 (m := m) hK (999995 + 1 + 1 + 1 + 1) 0 (by decide) m.2.1
  generalize sw_L m.2.1 (351 + 4 * K + 1 + 0) (351 + 4 * (K + 1) + 1 + 0) 4 = L1 at *
  have s1 := sw_at L1 (a := 351 + 4 * K + 1 + (0 + 1)) (b := 351 + 4 * (K + 1) + 1 + (0 + 1)) (j := 4) (by omega)
  have e2 := y_103 (m := m) hK (999995 + 1 + 1 + 1) (0 + 1) (by decide) L1
  generalize sw_L L1 (351 + 4 * K + 1 + (0 + 1)) (351 + 4 * (K + 1) + 1 + (0 + 1)) 4 = L2 at *
  have s2 := sw_at L2 (a := 351 + 4 * K + 1 + (0 + 1 + 1)) (b := 351 + 4 * (K + 1) + 1 + (0 + 1 + 1)) (j := 4) (by omega)
  have e3 := y_103 (m := m) hK (999995 + 1 + 1) (0 + 1 + 1) (by decide) L2
  generalize sw_L L2 (351 + 4 * K + 1 + (0 + 1 + 1)) (351 + 4 * (K + 1) + 1 + (0 + 1 + 1)) 4 = L3 at *
  have s3 := sw_at L3 (a := 416 + K) (b := 416 + (K + 1)) (j := 8) (by omega)
  have e4 := y_183 (m := m) hK L3 8 0 tk_F (by omega) (by unfold tk_F; omega)
  rw [sw_0] at e4
  generalize sw_L L3 (416 + K) (416 + (K + 1)) 8 = L4 at *
  have hal : fM_laysInOrder_103 tk_F (Int32.ofNat K) 0 m = some (m.1, L4, m.2.2.1, m.2.2.2) := by
    rw [show (0 : Int32) = Int32.ofNat 0 from rfl, iv_F, show m = (m.1, m.2.1, m.2.2.1, m.2.2.2) from rfl]
    rw [e1, e2, e3]
    unfold fM_laysInOrder_103
    rw [if_pos (by decide)]
    exact e4
  have hA : ∀ r, 351 ≤ r → r ≤ 415 → L4 r = L3 r := fun r r1 r2 => s3.2.2 r (by omega) (by omega)
  have n0 : ∀ i, i < 3 → (∀ q, q < 4 → L4 (351 + 4 * K + 1 + i) q = m.2.1 (351 + 4 * (K + 1) + 1 + i) q) ∧ (∀ q, q < 4 → L4 (351 + 4 * (K + 1) + 1 + i) q = m.2.1 (351 + 4 * K + 1 + i) q) := by
    refine an_3 ⟨fun q hq => ?_, fun q hq => ?_⟩ ⟨fun q hq => ?_, fun q hq => ?_⟩ ⟨fun q hq => ?_, fun q hq => ?_⟩
    · rw [hA _ (by omega) (by omega), s2.2.2 _ (by omega) (by omega), s1.2.2 _ (by omega) (by omega)]; exact s0.1 q hq
    · rw [hA _ (by omega) (by omega), s2.2.2 _ (by omega) (by omega), s1.2.2 _ (by omega) (by omega)]; exact s0.2.1 q hq
    · rw [hA _ (by omega) (by omega), s2.2.2 _ (by omega) (by omega)]
      exact (s1.1 q hq).trans (by rw [s0.2.2 _ (by omega) (by omega)])
    · rw [hA _ (by omega) (by omega), s2.2.2 _ (by omega) (by omega)]
      exact (s1.2.1 q hq).trans (by rw [s0.2.2 _ (by omega) (by omega)])
    · rw [hA _ (by omega) (by omega)]
      exact (s2.1 q hq).trans (by rw [s1.2.2 _ (by omega) (by omega), s0.2.2 _ (by omega) (by omega)])
    · rw [hA _ (by omega) (by omega)]
      exact (s2.2.1 q hq).trans (by rw [s1.2.2 _ (by omega) (by omega), s0.2.2 _ (by omega) (by omega)])
  have hB : ∀ r, 416 ≤ r → L3 r = m.2.1 r := fun r hr => by rw [s2.2.2 _ (by omega) (by omega), s1.2.2 _ (by omega) (by omega), s0.2.2 _ (by omega) (by omega)]
  have hC : ∀ q, q < 8 → L4 (416 + K) q = m.2.1 (416 + (K + 1)) q := fun q hq => (s3.1 q hq).trans (by rw [hB _ (by omega)])
  have hD : ∀ q, q < 8 → L4 (416 + (K + 1)) q = m.2.1 (416 + K) q := fun q hq => (s3.2.1 q hq).trans (by rw [hB _ (by omega)])
  refine ⟨_, hal, ⟨fun j hj => ?_, ?_, ?_, fun i hi => ?_⟩, ⟨fun j hj => ?_, ?_, ?_, fun i hi => ?_⟩, rfl, rfl, fun r r1 r2 r3 r4 => ?_⟩
  · exact (hC j (by omega)).trans (h2.1 j hj)
  · exact (hC 6 (by decide)).trans h2.2.1
  · exact (hC 7 (by decide)).trans h2.2.2.1
  · obtain ⟨z0, z1, z2, z3⟩ := h2.2.2.2 i hi
    exact ⟨((n0 i hi).1 0 (by decide)).trans z0, ((n0 i hi).1 1 (by decide)).trans z1, ((n0 i hi).1 2 (by decide)).trans z2, ((n0 i hi).1 3 (by decide)).trans z3⟩
  · exact (hD j (by omega)).trans (h1.1 j hj)
  · exact (hD 6 (by decide)).trans h1.2.1
  · exact (hD 7 (by decide)).trans h1.2.2.1
  · obtain ⟨z0, z1, z2, z3⟩ := h1.2.2.2 i hi
    exact ⟨((n0 i hi).2 0 (by decide)).trans z0, ((n0 i hi).2 1 (by decide)).trans z1, ((n0 i hi).2 2 (by decide)).trans z2, ((n0 i hi).2 3 (by decide)).trans z3⟩
  · dsimp only
    rw [s3.2.2 _ r3 r4, s2.2.2 _ (by omega) (by omega), s1.2.2 _ (by omega) (by omega), s0.2.2 _ (by omega) (by omega)]
end
