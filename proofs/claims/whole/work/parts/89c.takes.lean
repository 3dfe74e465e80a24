/-! ===== the reference: a circle taken ===== -/
def y_num (n : s_nm) (r : Nat) (m : tk_m) : Prop := m.2.1 r 0 = n.1 ∧ m.2.1 r 1 = n.2.1 ∧ m.2.1 r 2 = n.2.2.1 ∧ m.2.1 r 3 = n.2.2.2
def y_W (c : an_c) (k : Nat) (m : tk_m) : Prop := (∀ j, j < 6 → m.2.1 (416 + k) j = c.2.1 j) ∧ m.2.1 (416 + k) 6 = c.2.2 ∧ m.2.1 (416 + k) 7 = c.2.1 6 ∧ ∀ i, i < 3 → y_num (an_num c i) (351 + 4 * k + 1 + i) m
def y_C (c : an_c) (k : Nat) (m : tk_m) : Prop := m.1 349 k = c.1 ∧ y_W c k m
def y_Fd (f : an_F) (m : tk_m) : Prop := m.1 295 10 = Int32.ofNat f.2.length ∧ m.1 295 11 = f.1 ∧ ∀ k c, f.2[k]? = some c → y_C c k m
theorem y_W_k {c : an_c} {k : Nat} {m m' : tk_m} (h : y_W c k m) (e1 : m'.2.1 (416 + k) = m.2.1 (416 + k)) (e2 : ∀ i, i < 3 → m'.2.1 (351 + 4 * k + 1 + i) = m.2.1 (351 + 4 * k + 1 + i)) : y_W c k m' := by
  obtain ⟨h1, h2, h3, h4⟩ := h
  refine ⟨fun j hj => by rw [e1]; exact h1 j hj, by rw [e1]; exact h2, by rw [e1]; exact h3, fun i hi => ?_⟩
  have := h4 i hi
  unfold y_num at *
  rw [e2 i hi]
  exact this
/-- what taking a circle leaves alone -/
def z_F (m m' : tk_m) : Prop := (∀ r, (r < 351 ∨ 431 < r) → m'.2.1 r = m.2.1 r) ∧ (∀ r k, (r < 308 ∨ 349 < r) → ¬ (r = 295 ∧ (k = 9 ∨ k = 10)) → m'.1 r k = m.1 r k) ∧ (∀ r, r ≠ 295 → m'.2.2.1 r = m.2.2.1 r) ∧ m'.2.2.2 = m.2.2.2
theorem z_F_rf (m : tk_m) : z_F m m := ⟨fun _ _ => rfl, fun _ _ _ _ => rfl, fun _ _ => rfl, rfl⟩
theorem z_F_tr {m m1 m2 : tk_m} (h : z_F m m1) (h2 : z_F m1 m2) : z_F m m2 := ⟨fun r hr => (h2.1 r hr).trans (h.1 r hr), fun r k a b => (h2.2.1 r k a b).trans (h.2.1 r k a b), fun r hr => (h2.2.2.1 r hr).trans (h.2.2.1 r hr), h2.2.2.2.trans h.2.2.2⟩
theorem tk_al331 : ∀ k, k < 16 → ∀ i, i < 3 → tk_al (351 + 4 * k + 1 + i) = 4 := by decide +kernel
theorem an_gcd7 (f : Nat → Int) : Nat.gcd (Nat.gcd (Nat.gcd (Nat.gcd (Nat.gcd (Nat.gcd (f 6).natAbs (f 0).natAbs) (f 3).natAbs) (f 1).natAbs) (f 4).natAbs) (f 2).natAbs) (f 5).natAbs = lo_g f 7 := by
  apply Nat.dvd_antisymm
  · refine lo_g_max f _ 7 (fun k hk => ?_)
    have d5 := Nat.gcd_dvd_right (Nat.gcd (Nat.gcd (Nat.gcd (Nat.gcd (Nat.gcd (f 6).natAbs (f 0).natAbs) (f 3).natAbs) (f 1).natAbs) (f 4).natAbs) (f 2).natAbs) (f 5).natAbs
    have d4 := Nat.gcd_dvd_left (Nat.gcd (Nat.gcd (Nat.gcd (Nat.gcd (Nat.gcd (f 6).natAbs (f 0).natAbs) (f 3).natAbs) (f 1).natAbs) (f 4).natAbs) (f 2).natAbs) (f 5).natAbs
    have c2 := Nat.gcd_dvd_right (Nat.gcd (Nat.gcd (Nat.gcd (Nat.gcd (f 6).natAbs (f 0).natAbs) (f 3).natAbs) (f 1).natAbs) (f 4).natAbs) (f 2).natAbs
    have c1 := Nat.gcd_dvd_left (Nat.gcd (Nat.gcd (Nat.gcd (Nat.gcd (f 6).natAbs (f 0).natAbs) (f 3).natAbs) (f 1).natAbs) (f 4).natAbs) (f 2).natAbs
    have b2 := Nat.gcd_dvd_right (Nat.gcd (Nat.gcd (Nat.gcd (f 6).natAbs (f 0).natAbs) (f 3).natAbs) (f 1).natAbs) (f 4).natAbs
    have b1 := Nat.gcd_dvd_left (Nat.gcd (Nat.gcd (Nat.gcd (f 6).natAbs (f 0).natAbs) (f 3).natAbs) (f 1).natAbs) (f 4).natAbs
    have a2 := Nat.gcd_dvd_right (Nat.gcd (Nat.gcd (f 6).natAbs (f 0).natAbs) (f 3).natAbs) (f 1).natAbs
    have a1 := Nat.gcd_dvd_left (Nat.gcd (Nat.gcd (f 6).natAbs (f 0).natAbs) (f 3).natAbs) (f 1).natAbs
    have e2 := Nat.gcd_dvd_right (Nat.gcd (f 6).natAbs (f 0).natAbs) (f 3).natAbs
    have e1 := Nat.gcd_dvd_left (Nat.gcd (f 6).natAbs (f 0).natAbs) (f 3).natAbs
    have g2 := Nat.gcd_dvd_right (f 6).natAbs (f 0).natAbs
    have g1 := Nat.gcd_dvd_left (f 6).natAbs (f 0).natAbs
    have t1 := Nat.dvd_trans d4 c1
    have t2 := Nat.dvd_trans t1 b1
    have t3 := Nat.dvd_trans t2 a1
    have t4 := Nat.dvd_trans t3 e1
    rcases (show k = 0 ∨ k = 1 ∨ k = 2 ∨ k = 3 ∨ k = 4 ∨ k = 5 ∨ k = 6 by omega) with rfl | rfl | rfl | rfl | rfl | rfl | rfl
    · exact Nat.dvd_trans t4 g2
    · exact Nat.dvd_trans t2 a2
    · exact Nat.dvd_trans d4 c2
    · exact Nat.dvd_trans t3 e2
    · exact Nat.dvd_trans t1 b2
    · exact d5
    · exact Nat.dvd_trans t4 g1
  · have q := lo_g_dvd f 7
    exact Nat.dvd_gcd (Nat.dvd_gcd (Nat.dvd_gcd (Nat.dvd_gcd (Nat.dvd_gcd (Nat.dvd_gcd (q 6 (by decide)) (q 0 (by decide))) (q 3 (by decide))) (q 1 (by decide))) (q 4 (by decide))) (q 2 (by decide))) (q 5 (by decide))
theorem y_bel {G : Nat} {x : Int} (hG : G ≤ 1000000000000000000) (hx : an_bd x 1000000000000000000) : fM_below (Int64.ofInt (-(G : Int))) (Int64.ofInt x) = some (Int64.ofInt (-((Nat.gcd G x.natAbs : Nat) : Int))) := by
  rw [lo_below, lo_i (by constructor <;> omega), lo_i (bd_r hx (by decide))]
  unfold Int.gcd
  rw [Int.natAbs_neg, Int.natAbs_natCast]
section
variable {m : tk_m} {f : Nat → Int} {K : Nat} {g : Int32} {d : Int64}
theorem y_22 (hn : ∀ i, i < 3 → m.2.1 440 i = Int64.ofInt (f i) ∧ m.2.1 441 i = Int64.ofInt (f (3 + i))) (hb : ∀ k, k < 7 → an_bd (f k) 1000000000000000000) {M : Int64} {W : Nat} (n i G : Nat) (hi : i < 3) (hG : 0 < G) (hG2 : G ≤ 1000000000000000000) : fM_takes_22 (n + 1) g d M W (Int64.ofInt (-(G : Int))) (Int32.ofNat i) m = fM_takes_22 n g d M W (Int64.ofInt (-((Nat.gcd (Nat.gcd G (f i).natAbs) (f (3 + i)).natAbs : Nat) : Int))) (Int32.ofNat (i + 1)) m := by
  have h1 : Nat.gcd G (f i).natAbs ≤ G := Nat.gcd_le_left _ hG
  conv => lhs; unfold fM_takes_22
  rw [if_neg (an_n3 hi), if_pos (i_ok hi (by omega)), i_nn (show i < 2147483648 by omega), (hn i hi).1, (hn i hi).2, y_bel hG2 (hb i (by omega)), Option.bind_some, y_bel (by omega) (hb (3 + i) (by omega)), Option.bind_some, show Int32.ofNat i + 1 = Int32.ofNat (i + 1) from i_add i 1]
theorem y_tk1 (hn : ∀ i, i < 3 → m.2.1 440 i = Int64.ofInt (f i) ∧ m.2.1 441 i = Int64.ofInt (f (3 + i))) (hs : an_small f) (hK : m.1 295 10 = Int32.ofNat K) (hk : K < 16) : fM_takes g d (Int64.ofInt (f 6)) m = fM_takes_73 tk_F g d (Int64.ofInt (f 6)) (416 + K) (Int64.ofInt (lo_D (lo_g f 7) (f 6))) 0 m := by
  have hb := hs.1.2
  have h6 := hs.1.1
  have b6 := hb 6 (by decide)
  have e0 : fM_below (Int64.ofInt (f 6)) 0 = some (Int64.ofInt (-((f 6).natAbs : Int))) := by
    rw [lo_below, lo_i (bd_r b6 (by decide)), show (0 : Int64).toInt = 0 from rfl, Int.gcd_zero_right]
  unfold fM_takes
  rw [hK, if_pos (i_ok hk (by omega)), i_nn (show K < 2147483648 by omega), e0, Option.bind_some, show (0 : Int32) = Int32.ofNat 0 from rfl, iv_F]
  have g0 : 0 < (f 6).natAbs := by omega
  have l0 : (f 6).natAbs ≤ 1000000000000000000 := b6
  have g1 : ∀ G x, 0 < G → 0 < Nat.gcd G x := fun G x h => Nat.gcd_pos_of_pos_left _ h
  have l1 : ∀ G x, 0 < G → G ≤ 1000000000000000000 → Nat.gcd G x ≤ 1000000000000000000 := fun G x h h2 => Nat.le_trans (Nat.gcd_le_left _ h) h2
  rw [y_22 hn hb _ 0 _ (by decide) g0 l0, y_22 hn hb _ (0 + 1) _ (by decide) (g1 _ _ (g1 _ _ g0)) (l1 _ _ (g1 _ _ g0) (l1 _ _ g0 l0)), y_22 hn hb _ (0 + 1 + 1) _ (by decide) (g1 _ _ (g1 _ _ (g1 _ _ (g1 _ _ g0)))) (l1 _ _ (g1 _ _ (g1 _ _ (g1 _ _ g0))) (l1 _ _ (g1 _ _ (g1 _ _ g0)) (l1 _ _ (g1 _ _ g0) (l1 _ _ g0 l0))))]
  rw [show Nat.gcd (Nat.gcd (Nat.gcd (Nat.gcd (Nat.gcd (Nat.gcd (f 6).natAbs (f 0).natAbs) (f (3 + 0)).natAbs) (f (0 + 1)).natAbs) (f (3 + (0 + 1))).natAbs) (f (0 + 1 + 1)).natAbs) (f (3 + (0 + 1 + 1))).natAbs = lo_g f 7 from an_gcd7 f]
  unfold fM_takes_22
  rw [if_pos (by decide)]
  unfold fM_takes_58 lo_D
  have hle : (Int64.ofInt (f 6) ≤ 0) ↔ f 6 ≤ 0 := by rw [Int64.le_iff_toInt_le, lo_i (bd_r b6 (by decide))]; rfl
  by_cases c : f 6 < 0
  · rw [if_pos (hle.mpr (by omega)), if_pos c]
    rfl
  · rw [if_neg (fun z => by have := hle.mp z; omega), if_neg c, o_neg, Int.neg_neg]
    rfl
/-- exact division in longs -/
theorem o_div {x D : Int} (hx : an_bd x 1000000000000000000) (hD : lo_r D) (hd : D ∣ x) : Int64.ofInt x / Int64.ofInt D = Int64.ofInt (x / D) := by
  rw [lo_dvo, lo_i (bd_r hx (by decide)), lo_i hD, Int.tdiv_eq_ediv_of_dvd hd]
/-- one number of three laid -/
theorem y_73 {m0 : tk_m} (hn : ∀ i, i < 3 → m0.2.1 440 i = Int64.ofInt (f i) ∧ m0.2.1 441 i = Int64.ofInt (f (3 + i))) (hs : an_small f) (hK : m0.1 295 10 = Int32.ofNat K) (hk : K < 16) (n i : Nat) (hi : i < 3) (e1 : m.1 = m0.1) (e2 : ∀ r, (r < 351 ∨ 431 < r) → m.2.1 r = m0.2.1 r) : ∃ L B, fM_takes_73 (n + 1) g d (Int64.ofInt (f 6)) (416 + K) (Int64.ofInt (lo_D (lo_g f 7) (f 6))) (Int32.ofNat i) m = fM_takes_73 n g d (Int64.ofInt (f 6)) (416 + K) (Int64.ofInt (lo_D (lo_g f 7) (f 6))) (Int32.ofNat (i + 1)) (m.1, L, B, m.2.2.2) ∧ (∀ r, r ≠ 416 + K → r ≠ 351 + 4 * K + 1 + i → L r = m.2.1 r) ∧ (∀ r, r ≠ 295 → B r = m.2.2.1 r) ∧ (∀ j, j ≠ i → j ≠ 3 + i → L (416 + K) j = m.2.1 (416 + K) j) ∧ L (416 + K) i = an_lw f i ∧ L (416 + K) (3 + i) = an_lw f (3 + i) ∧ ∀ mm : tk_m, mm.2.1 (351 + 4 * K + 1 + i) = L (351 + 4 * K + 1 + i) → y_num (lo_val (f i) (f (3 + i)) d (f 6)) (351 + 4 * K + 1 + i) mm := by
  obtain ⟨D, d0, d1, d2, d3, d4, d5⟩ := an_lw_D hs.1
  have hb := hs.1.2
  have n1 : m.2.1 440 i = Int64.ofInt (f i) := by rw [e2 440 (by decide)]; exact (hn i hi).1
  have n2 : m.2.1 441 i = Int64.ofInt (f (3 + i)) := by rw [e2 441 (by decide)]; exact (hn i hi).2
  have hK' : m.1 295 10 = Int32.ofNat K := by rw [e1]; exact hK
  have hD0 : ¬ Int64.ofInt (lo_D (lo_g f 7) (f 6)) = 0 := by
    rw [d3, lo_z, lo_i d4]; exact d0
  have h3 : (3 : Int32) + Int32.ofNat i = Int32.ofNat (3 + i) := i_add 3 i
  have q1 : ∀ v : Int64, tk_u2 m.2.1 (416 + K) i v 441 i = Int64.ofInt (f (3 + i)) := fun v => by rw [tk_u2_ne (by omega)]; exact n2
  have q2 : ∀ v w : Int64, tk_u2 (tk_u2 m.2.1 (416 + K) i v) (416 + K) (3 + i) w 440 i = Int64.ofInt (f i) := fun v w => by rw [tk_u2_ne (by omega), tk_u2_ne (by omega)]; exact n1
  have q3 : ∀ v w : Int64, tk_u2 (tk_u2 m.2.1 (416 + K) i v) (416 + K) (3 + i) w 441 i = Int64.ofInt (f (3 + i)) := fun v w => by rw [tk_u2_ne (by omega), tk_u2_ne (by omega)]; exact n2
  have dv : ∀ k, k < 7 → lo_D (lo_g f 7) (f 6) ∣ f k := fun k hk => lo_D_dvd (lo_g_dvd f 7 k hk)
  have lw : ∀ k, k < 7 → Int64.ofInt (f k) / Int64.ofInt (lo_D (lo_g f 7) (f 6)) = an_lw f k := fun k hk => by
    rw [o_div (hb k hk) (by rw [d3]; exact d4) (dv k hk)]
    unfold an_lw
    rw [if_pos hk]
  obtain ⟨b, L, y1, y2, y3, y4⟩ := y_lowest (tk_al331 K hk i hi) (Int64.ofInt (f i)) (Int64.ofInt (f (3 + i))) d (Int64.ofInt (f 6)) (m.1, tk_u2 (tk_u2 m.2.1 (416 + K) i (an_lw f i)) (416 + K) (3 + i) (an_lw f (3 + i)), m.2.2.1, m.2.2.2) (by rw [ne_eq, lo_z, lo_i (bd_r (hb 6 (by decide)) (by decide))]; exact hs.1.1)
  rw [lo_i (bd_r (hb i (by omega)) (by decide)), lo_i (bd_r (hb (3 + i) (by omega)) (by decide)), lo_i (bd_r (hb 6 (by decide)) (by decide))] at y4
  refine ⟨L, tk_u2 m.2.2.1 295 4 (m.2.2.1 295 4 || b), ?_, fun r r1 r2 => ?_, fun r hr => tk_u2_ne hr, fun j j1 j2 => ?_, ?_, ?_, fun mm hmm => ?_⟩
  · conv => lhs; unfold fM_takes_73
    rw [if_neg (an_n3 hi), if_pos (i_ok hi (by omega)), if_neg hD0, if_pos (i_ok (show i < 8 by omega) (by omega)), if_neg hD0, h3, if_pos (i_ok (show 3 + i < 8 by omega) (by omega)), hK', if_pos (i_ok hk (by omega)), i_nn (show i < 2147483648 by omega), i_nn (show 3 + i < 2147483648 by omega), i_nn (show K < 2147483648 by omega), q1, q2, q3, n1, lw i (by omega), lw (3 + i) (by omega), y1, Option.bind_some, show Int32.ofNat i + 1 = Int32.ofNat (i + 1) from i_add i 1]
  · rw [y3 r r2]
    dsimp only
    rw [tk_u2_ne r1, tk_u2_ne r1]
  · rw [y3 (416 + K) (by omega)]
    dsimp only
    rw [tk_u2_nk j2, tk_u2_nk j1]
  · rw [y3 (416 + K) (by omega)]
    dsimp only
    rw [tk_u2_nk (by omega), tk_u2_eq]
  · rw [y3 (416 + K) (by omega)]
    dsimp only
    rw [tk_u2_eq]
  · unfold y_num
    rw [hmm]
    exact y4
theorem y_takes {F : an_F} (hn : ∀ i, i < 3 → m.2.1 440 i = Int64.ofInt (f i) ∧ m.2.1 441 i = Int64.ofInt (f (3 + i))) (hs : an_small f) (hF : y_Fd F m) (hl : F.2.length < 16) (hc : an_cok (g, an_lw f, d)) : ∃ m1, fM_takes g d (Int64.ofInt (f 6)) m = some m1 ∧ y_Fd (F.1, F.2 ++ [((g, an_lw f, d) : an_c)].filter an_rad) m1 ∧ z_F m m1 := by
  obtain ⟨F1, F2, F3⟩ := hF
  obtain ⟨D, d0, d1, d2, d3, d4, d5⟩ := an_lw_D hs.1
  have hb := hs.1.2
  rw [y_tk1 hn hs F1 hl, show (0 : Int32) = Int32.ofNat 0 from rfl, iv_F]
  generalize hKK : F.2.length = K at *
  obtain ⟨L1, B1, a1, a2, a3, a4, a5, a6, a7⟩ := y_73 (m := m) (m0 := m) (g := g) (d := d) hn hs F1 hl (999995 + 1 + 1 + 1 + 1) 0 (by decide) rfl (fun _ _ => rfl)
  obtain ⟨L2, B2, b1, b2, b3, b4, b5, b6, b7⟩ := y_73 (m := (m.1, L1, B1, m.2.2.2)) (m0 := m) (g := g) (d := d) hn hs F1 hl (999995 + 1 + 1 + 1) (0 + 1) (by decide) rfl (fun r hr => a2 r (by omega) (by omega))
  obtain ⟨L3, B3, c1, c2, c3, c4, c5, c6, c7⟩ := y_73 (m := (m.1, L2, B2, m.2.2.2)) (m0 := m) (g := g) (d := d) hn hs F1 hl (999995 + 1 + 1) (0 + 1 + 1) (by decide) rfl (fun r hr => (b2 r (by omega) (by omega)).trans (a2 r (by omega) (by omega)))
  dsimp only at b1 b2 b3 b4 b5 b6 c1 c2 c3 c4 c5 c6
  rw [a1, b1, c1]
  have hD0 : ¬ Int64.ofInt (lo_D (lo_g f 7) (f 6)) = 0 := by
    rw [d3, lo_z, lo_i d4]; exact d0
  have lw6 : Int64.ofInt (f 6) / Int64.ofInt (lo_D (lo_g f 7) (f 6)) = an_lw f 6 := by
    rw [o_div (hb 6 (by decide)) (by rw [d3]; exact d4) (lo_D_dvd (lo_g_dvd f 7 6 (by decide)))]
    unfold an_lw
    rw [if_pos (by decide)]
  have hlow : ∀ r, r ≠ 416 + K → r ≠ 351 + 4 * K + 1 → r ≠ 351 + 4 * K + 2 → r ≠ 351 + 4 * K + 3 → L3 r = m.2.1 r := fun r r1 r2 r3 r4 => (c2 r r1 (by omega)).trans ((b2 r r1 (by omega)).trans (a2 r r1 (by omega)))
  have hrow : ∀ j, j < 6 → L3 (416 + K) j = an_lw f j := by
    intro j hj
    rcases (show j = 0 ∨ j = 1 ∨ j = 2 ∨ j = 3 ∨ j = 4 ∨ j = 5 by omega) with rfl | rfl | rfl | rfl | rfl | rfl
    · rw [c4 0 (by decide) (by decide), b4 0 (by decide) (by decide)]; exact a5
    · rw [c4 1 (by decide) (by decide)]; exact b5
    · exact c5
    · rw [c4 3 (by decide) (by decide), b4 3 (by decide) (by decide)]; exact a6
    · rw [c4 4 (by decide) (by decide)]; exact b6
    · exact c6
  have hnum : ∀ (mm : tk_m), (∀ r, 351 + 4 * K + 1 ≤ r → r ≤ 351 + 4 * K + 3 → mm.2.1 r = L3 r) → ∀ i, i < 3 → y_num (an_num (g, an_lw f, d) i) (351 + 4 * K + 1 + i) mm := by
    intro mm hmm
    have hv : ∀ i, i < 3 → an_num (g, an_lw f, d) i = lo_val (f i) (f (3 + i)) d (f 6) := fun i hi => an_val hs.1 hi d
    refine an_3 ?_ ?_ ?_
    · rw [hv 0 (by decide)]
      exact a7 mm (by rw [hmm _ (by omega) (by omega), c2 _ (by omega) (by omega), b2 _ (by omega) (by omega)])
    · rw [hv 1 (by decide)]
      exact b7 mm (by rw [hmm _ (by omega) (by omega), c2 _ (by omega) (by omega)])
    · rw [hv 2 (by decide)]
      exact c7 mm (hmm _ (by omega) (by omega))
  unfold fM_takes_73
  rw [if_pos (by decide)]
  unfold fM_takes_150
  rw [if_neg hD0, lw6]
  dsimp only
  have hL4 : ∀ r, r ≠ 416 + K → tk_u2 (tk_u2 L3 (416 + K) 6 d) (416 + K) 7 (an_lw f 6) r = L3 r := fun r hr => by rw [tk_u2_ne hr, tk_u2_ne hr]
  have hL4j : ∀ j, j < 6 → tk_u2 (tk_u2 L3 (416 + K) 6 d) (416 + K) 7 (an_lw f 6) (416 + K) j = an_lw f j := fun j hj => by rw [tk_u2_nk (by omega), tk_u2_nk (by omega)]; exact hrow j hj
  have hL46 : tk_u2 (tk_u2 L3 (416 + K) 6 d) (416 + K) 7 (an_lw f 6) (416 + K) 6 = d := by rw [tk_u2_nk (by decide), tk_u2_eq]
  have hL47 : tk_u2 (tk_u2 L3 (416 + K) 6 d) (416 + K) 7 (an_lw f 6) (416 + K) 7 = an_lw f 6 := by rw [tk_u2_eq]
  generalize tk_u2 (tk_u2 L3 (416 + K) 6 d) (416 + K) 7 (an_lw f 6) = L4 at *
  have w0 := wd_nil (m.1, L4, B3, m.2.2.2)
  have w0f := wd_nil_fr (m.1, L4, B3, m.2.2.2)
  dsimp only at w0 w0f
  obtain ⟨M1, x1, x2, x3⟩ := wd_widens w0 (by decide) (L4 (416 + K) 2)
  rw [x1, Option.bind_some]
  dsimp only
  have h12 : M1.2 = (L4, B3, m.2.2.2) := x3.1
  have hM15 : M1.2.1 (416 + K) 5 = an_lw f 5 := by rw [h12]; exact hL4j 5 (by decide)
  obtain ⟨M2, y1, y2, y3⟩ := wd_widens x2 (show ([] ++ [(L4 (416 + K) 2).toInt]).length < 40 by simp) (M1.2.1 (416 + K) 5)
  rw [y1, Option.bind_some]
  dsimp only
  have o1 := hc.2.1 2 (by decide)
  have o2 := hc.2.1 5 (by decide)
  have o4 := hc.2.2.2.1 2 (by decide)
  dsimp only at o1 o2 o4
  have s1 : ((an_lw f 2).toInt * (an_lw f 2).toInt).natAbs < 10000 ^ 60 := Nat.lt_of_le_of_lt (bd_mul o1 o1 (Nat.le_refl _)) (by decide)
  have s2 : ((an_lw f 5).toInt * (an_lw f 5).toInt).natAbs < 10000 ^ 60 := Nat.lt_of_le_of_lt (bd_mul o2 o2 (Nat.le_refl _)) (by decide)
  have s3 : ((an_lw f 5).toInt * (an_lw f 5).toInt * d.toInt).natAbs < 10000 ^ 60 := Nat.lt_of_le_of_lt o4 (by decide)
  rw [hM15] at y2
  rw [hL4j 2 (by decide)] at y2
  obtain ⟨M3, X, z1, z2, z3⟩ := wd_signOf (i := 0) (j := 1) y2 (by simp) d (by simp) (by simp) hc.2.2.1.1 s1 s2 s3
  have z1' : fM_signOf (Int32.ofNat ([] : List Int).length) (Int32.ofNat ([] ++ [(L4 (416 + K) 2).toInt]).length) d M2 = some (Int32.ofInt (nu_s1 (an_lw f 2).toInt (an_lw f 5).toInt d.toInt), M3) := z1
  rw [z1', Option.bind_some]
  dsimp only
  have hfr : wd_fr (m.1, L4, B3, m.2.2.2) M3 := wd_fr_tr w0f (wd_fr_tr x3 (wd_fr_tr y3 z3))
  have hM3 : M3.2 = (L4, B3, m.2.2.2) := hfr.1
  have hM3i : ∀ r k, (r < 308 ∨ 348 < r) → ¬ (r = 295 ∧ k = 9) → M3.1 r k = m.1 r k := hfr.2
  have hMK : M3.1 295 10 = Int32.ofNat K := by rw [hM3i 295 10 (by decide) (by decide)]; exact F1
  have hrad : 0 < Int32.ofInt (nu_s1 (an_lw f 2).toInt (an_lw f 5).toInt d.toInt) ↔ an_rad (g, an_lw f, d) = true := by
    unfold an_rad
    dsimp only
    rw [decide_eq_true_iff]
    rcases nu_s1_cs (an_lw f 2).toInt (an_lw f 5).toInt d.toInt with q | q | q <;> rw [q] <;> decide
  have hold : ∀ (I : Nat → Nat → Int32), (∀ k, k ≠ K → I 349 k = m.1 349 k) → ∀ k c, F.2[k]? = some c → y_C c k ((I, M3.2.1, M3.2.2.1, M3.2.2.2) : tk_m) := by
    intro I hI k c hk
    have hkl := (List.getElem?_eq_some_iff.mp hk).1
    obtain ⟨q1, q2⟩ := F3 k c hk
    refine ⟨(hI k (by omega)).trans q1, y_W_k q2 ?_ (fun i hi => ?_)⟩
    · dsimp only; rw [hM3]; dsimp only; rw [hL4 _ (by omega)]; exact hlow _ (by omega) (by omega) (by omega) (by omega)
    · dsimp only; rw [hM3]; dsimp only; rw [hL4 _ (by omega)]; exact hlow _ (by omega) (by omega) (by omega) (by omega)
  have hz : ∀ (I : Nat → Nat → Int32), (∀ r k, (r < 308 ∨ 349 < r) → ¬ (r = 295 ∧ (k = 9 ∨ k = 10)) → I r k = m.1 r k) → z_F m ((I, M3.2.1, M3.2.2.1, M3.2.2.2) : tk_m) := by
    intro I hI
    refine ⟨fun r hr => ?_, hI, fun r hr => ?_, ?_⟩
    · dsimp only; rw [hM3]; dsimp only; rw [hL4 _ (by omega)]; exact hlow _ (by omega) (by omega) (by omega) (by omega)
    · dsimp only; rw [hM3]; dsimp only; rw [c3 r hr, b3 r hr]; exact a3 r hr
    · dsimp only; rw [hM3]
  by_cases q : an_rad (g, an_lw f, d) = true
  · rw [if_pos (hrad.mpr q), hMK, if_pos (i_ok hl (by omega)), i_nn (show K < 2147483648 by omega), List.filter_cons_of_pos q]
    refine ⟨_, rfl, ⟨?_, ?_, ?_⟩, hz _ (fun r k r1 r2 => ?_)⟩
    · dsimp only
      rw [tk_u2_eq, tk_u2_ne (by decide), hMK, List.length_append, hKK]
      exact i_add _ 1
    · dsimp only
      rw [tk_u2_nk (by decide), tk_u2_ne (by decide), hM3i 295 11 (by decide) (by decide)]; exact F2
    · intro k c' hk
      dsimp only at hk
      by_cases hkl : k < F.2.length
      · rw [List.getElem?_append_left hkl] at hk
        exact hold _ (fun k' hk' => by rw [tk_u2_ne (by decide), tk_u2_nk hk']; exact hM3i 349 k' (by decide) (by omega)) k c' hk
      · rw [List.getElem?_append_right (by omega)] at hk
        have : k = K := by
          have := (List.getElem?_eq_some_iff.mp hk).1
          simp at this
          omega
        subst this
        rw [hKK, Nat.sub_self] at hk
        have : c' = (g, an_lw f, d) := (Option.some.inj hk).symm
        subst this
        refine ⟨?_, fun j hj => ?_, ?_, ?_, hnum _ (fun r r1 r2 => ?_)⟩
        · dsimp only; rw [tk_u2_ne (by decide), tk_u2_eq]
        · dsimp only; rw [hM3]; exact hL4j j hj
        · dsimp only; rw [hM3]; exact hL46
        · dsimp only; rw [hM3]; exact hL47
        · dsimp only; rw [hM3]; exact hL4 r (by omega)
    · by_cases r3 : r = 295
      · subst r3
        rw [tk_u2_nk (by omega), tk_u2_ne (by decide)]
        exact hM3i 295 k (by decide) (by omega)
      · rw [tk_u2_ne r3, tk_u2_ne (by omega)]
        exact hM3i r k (by omega) (by omega)
  · rw [if_neg (fun y => q (hrad.mp y)), List.filter_cons_of_neg q, List.filter_nil, List.append_nil]
    refine ⟨M3, rfl, ⟨by rw [hMK, hKK], ?_, ?_⟩, hz M3.1 (fun r k r1 r2 => hM3i r k (by omega) (by omega))⟩
    · rw [hM3i 295 11 (by decide) (by decide)]; exact F2
    · exact hold M3.1 (fun k' hk' => hM3i 349 k' (by decide) (by omega))
end
