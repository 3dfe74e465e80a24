/-! ===== the finder's Judge weighs numbers ===== -/
def bg_Jq (m m' : tk_m) : Prop := m'.2 = m.2 ∧ ∀ q, (q < 43 ∨ 61 ≤ q) → m'.1 q = m.1 q
theorem bg_Jq_rf (m : tk_m) : bg_Jq m m := ⟨rfl, fun _ _ => rfl⟩
theorem bg_Jq_tr {m m1 m2 : tk_m} (h : bg_Jq m m1) (h2 : bg_Jq m1 m2) : bg_Jq m m2 := ⟨h2.1.trans h.1, fun q hq => (h2.2 q hq).trans (h.2 q hq)⟩
theorem bg_Jq_of {r : Nat} {m m' : tk_m} (h : bg_fr r m m') (h1 : 43 ≤ r) (h2 : r < 60) : bg_Jq m m' := ⟨h.1, fun q hq => h.2 q (by omega) (by omega)⟩
/-- rows 55 to 58 and r alone are changed; r holds the product -/
theorem bg_jpq (r : Nat) (hr : r < 54 ∨ r = 59) (a b : Int64) (m : tk_m) : ∃ m', fJ_takeProductq r a b m = some m' ∧ bg_B m' r (a.toInt * b.toInt) ∧ m'.2 = m.2 ∧ ∀ q, q ≠ r → q ≠ r + 1 → (q < 55 ∨ 58 < q) → m'.1 q = m.1 q := by
  obtain ⟨m1, e1, b1, f1⟩ := bg_take 55 a m
  obtain ⟨m2, e2, b2, f2⟩ := bg_take 57 b m1
  have b1' := bg_keep f2 b1 (by omega) (by omega) (by omega)
  obtain ⟨m3, e3, b3, f3⟩ := bg_prod (t := r) b1' b2 (bg_b6 a) (bg_b6 b) (by decide) (by omega) (by omega) (by omega) (by omega) (by omega) (by omega)
  refine ⟨m3, ?_, b3, by rw [f3.1, f2.1, f1.1], fun q h1 h2 h3 => ?_⟩
  · unfold fJ_takeProductq
    rw [e1, Option.bind_some, e2, Option.bind_some, e3]
    rfl
  · rw [f3.2 q h1 h2, f2.2 q (by omega) (by omega), f1.2 q (by omega) (by omega)]
theorem bg_jsq (r s : Nat) (hr : r = 49 ∨ r = 51) (hs : s = 45 ∨ s = 47) (d : Int64) (m : tk_m) {b : Int} (hb : bg_B m s b) (hbb : b.natAbs < 4294967296 ^ 4) : ∃ m', fJ_takeSquareq r s d m = some m' ∧ bg_B m' r (b * b * d.toInt) ∧ m'.2 = m.2 ∧ ∀ q, q ≠ r → q ≠ r + 1 → (q < 55 ∨ 58 < q) → m'.1 q = m.1 q := by
  obtain ⟨m1, e1, b1, f1⟩ := bg_prod (t := 55) hb hb hbb hbb (by decide) (by omega) (by omega) (by omega) (by omega) (by omega) (by omega)
  obtain ⟨m2, e2, b2, f2⟩ := bg_take 57 d m1
  have b1' := bg_keep f2 b1 (by omega) (by omega) (by omega)
  have hb2 : (b * b).natAbs < 4294967296 ^ 8 := by
    rw [Int.natAbs_mul]
    exact Nat.lt_of_lt_of_le (Nat.mul_lt_mul'' hbb hbb) (by decide)
  obtain ⟨m3, e3, b3, f3⟩ := bg_prod (t := r) b1' b2 hb2 (bg_b6 d) (by decide) (by omega) (by omega) (by omega) (by omega) (by omega) (by omega)
  refine ⟨m3, ?_, b3, by rw [f3.1, f2.1, f1.1], fun q h1 h2 h3 => ?_⟩
  · unfold fJ_takeSquareq
    rw [e1, Option.bind_some, e2, Option.bind_some, e3]
    rfl
  · rw [f3.2 q h1 h2, f2.2 q (by omega) (by omega), f1.2 q (by omega) (by omega)]
/-- what stands against the roots -/
theorem bg_warq {m : tk_m} {a b c F S : Int} (h16 : bg_B m 43 a) (h18 : m.1 45 0 = nu_t b) (h20 : m.1 47 0 = nu_t c) (h22 : bg_B m 49 F) (h24 : bg_B m 51 S) (ba : a.natAbs < 4294967296 ^ 4) (bF : F.natAbs < 2 ^ 280) (bS : S.natAbs < 2 ^ 280) (F0 : 0 ≤ F) (S0 : 0 ≤ S) : ∃ m', fJ_wholeAgainstRootsq m = some (Int32.ofInt (nu_war (a * a - F - S) (nu_sg b * nu_sg c) (4 * (F * S))), m') ∧ bg_Jq m m' := by
  have baa : (a * a).natAbs < 2 ^ 256 := by
    rw [Int.natAbs_mul]
    exact Nat.lt_of_lt_of_le (Nat.mul_lt_mul'' ba ba) (by decide)
  have hF9 : F.natAbs < 4294967296 ^ 9 := Nat.lt_of_lt_of_le bF (by decide)
  have hS9 : S.natAbs < 4294967296 ^ 9 := Nat.lt_of_lt_of_le bS (by decide)
  have haa9 : (a * a).natAbs < 4294967296 ^ 9 := Nat.lt_of_lt_of_le baa (by decide)
  obtain ⟨m1, e1, b1, f1⟩ := bg_prod (t := 55) h16 h16 ba ba (by decide) (by decide) (by decide) (by decide) (by decide) (by decide) (by decide)
  have k22 := bg_keep f1 h22 (by decide) (by decide) (by decide)
  obtain ⟨m2, e2, b2, f2⟩ := bg_sum (t := 53) (s := -1) (.inr rfl) b1 k22 (k := 9) (by decide) haa9 hF9 (by decide) (by decide) (by decide) (by decide)
  have k24 := bg_keep f2 (bg_keep f1 h24 (by decide) (by decide) (by decide)) (by decide) (by decide) (by decide)
  have hg1 : (a * a + -1 * F).natAbs < 4294967296 ^ 9 := by
    have h1 : (a * a + -1 * F).natAbs ≤ (a * a).natAbs + F.natAbs := by omega
    have h2 : (2 : Nat) ^ 256 + 2 ^ 280 ≤ 4294967296 ^ 9 := by decide
    omega
  obtain ⟨m3, e3, b3, f3⟩ := bg_sum (t := 53) (s := -1) (.inr rfl) b2 k24 (k := 9) (by decide) hg1 hS9 (by decide) (by decide) (by decide) (by decide)
  have hg : a * a + -1 * F + -1 * S = a * a - F - S := by omega
  rw [hg] at b3
  have bg : (a * a - F - S).natAbs < 4294967296 ^ 9 := by
    have h1 : (a * a - F - S).natAbs ≤ (a * a).natAbs + F.natAbs + S.natAbs := by omega
    have h2 : (2 : Nat) ^ 256 + 2 ^ 280 + 2 ^ 280 ≤ 4294967296 ^ 9 := by decide
    omega
  have J3 : bg_Jq m m3 := bg_Jq_tr (bg_Jq_tr (bg_Jq_of f1 (by decide) (by decide)) (bg_Jq_of f2 (by decide) (by decide))) (bg_Jq_of f3 (by decide) (by decide))
  have s18 : m3.1 45 0 = nu_t b := by rw [f3.2 45 (by decide) (by decide), f2.2 45 (by decide) (by decide), f1.2 45 (by decide) (by decide)]; exact h18
  have s20 : m3.1 47 0 = nu_t c := by rw [f3.2 47 (by decide) (by decide), f2.2 47 (by decide) (by decide), f1.2 47 (by decide) (by decide)]; exact h20
  have s26 := bg_sg b3
  unfold fJ_wholeAgainstRootsq nu_war
  rw [e1, Option.bind_some, show (-1 : Int32) = Int32.ofInt (-1) from rfl, e2, Option.bind_some, e3, Option.bind_some, s18, s20, s26, nu_tm]
  generalize a * a - F - S = g at *
  by_cases hq : nu_sg g = nu_sg b * nu_sg c
  · rw [if_pos (nu_tq.mpr (by rw [nu_sg_mul]; exact hq)), if_pos hq]
    obtain ⟨m5, e5, b5, f5⟩ := bg_prod (t := 55) b3 b3 bg bg (by decide) (by decide) (by decide) (by decide) (by decide) (by decide) (by decide)
    have j22 := bg_keep f5 (bg_keep f3 (bg_keep f2 k22 (by decide) (by decide) (by decide)) (by decide) (by decide) (by decide)) (by decide) (by decide) (by decide)
    have j24 := bg_keep f5 (bg_keep f3 k24 (by decide) (by decide) (by decide)) (by decide) (by decide) (by decide)
    obtain ⟨m6, e6, b6, f6⟩ := bg_prod (t := 57) j22 j24 hF9 hS9 (by decide) (by decide) (by decide) (by decide) (by decide) (by decide) (by decide)
    have hFS : (F * S).natAbs < 2 ^ 560 := by
      rw [Int.natAbs_mul]
      exact Nat.lt_of_lt_of_le (Nat.mul_lt_mul'' bF bS) (by decide +kernel)
    have hFS1 : (F * S).natAbs < 4294967296 ^ 18 := Nat.lt_of_lt_of_le hFS (by decide +kernel)
    obtain ⟨m7, e7, b7, f7⟩ := bg_sum (t := 57) (s := 1) (.inl rfl) b6 b6 (k := 18) (by decide) hFS1 hFS1 (by decide) (by decide) (by decide) (by decide)
    have hFS2 : (F * S + 1 * (F * S)).natAbs < 4294967296 ^ 18 := by
      have h2 : (2 : Nat) ^ 560 + 2 ^ 560 ≤ 4294967296 ^ 18 := by decide +kernel
      omega
    obtain ⟨m8, e8, b8, f8⟩ := bg_sum (t := 57) (s := 1) (.inl rfl) b7 b7 (k := 18) (by decide) hFS2 hFS2 (by decide) (by decide) (by decide) (by decide)
    have h4 : F * S + 1 * (F * S) + 1 * (F * S + 1 * (F * S)) = 4 * (F * S) := by omega
    rw [h4] at b8
    have k28 := bg_keep f8 (bg_keep f7 (bg_keep f6 b5 (by decide) (by decide) (by decide)) (by decide) (by decide) (by decide)) (by decide) (by decide) (by decide)
    have e9 := bg_size k28 b8
    have w1 : ((g * g).natAbs : Int) = g * g := by have := nu_nn g; omega
    have w2 : ((4 * (F * S)).natAbs : Int) = 4 * (F * S) := by have := Int.mul_nonneg F0 S0; omega
    rw [w1, w2] at e9
    rw [e5, Option.bind_some, e6, Option.bind_some, show (1 : Int32) = Int32.ofInt 1 from rfl, e7, Option.bind_some, e8, Option.bind_some, e9, Option.bind_some]
    refine ⟨m8, ?_, bg_Jq_tr J3 (bg_Jq_tr (bg_Jq_tr (bg_Jq_tr (bg_Jq_of f5 (by decide) (by decide)) (bg_Jq_of f6 (by decide) (by decide))) (bg_Jq_of f7 (by decide) (by decide))) (bg_Jq_of f8 (by decide) (by decide)))⟩
    unfold nu_t
    rw [Int32.ofInt_mul, nu_sg_mul]
  · rw [if_neg (fun q => hq (by rw [← nu_sg_mul]; exact nu_tq.mp q)), if_neg hq, bg_cI, nu_sg_mul]
    exact ⟨m3, rfl, J3⟩
set_option maxHeartbeats 4000000 in
theorem x_orderq {r1 r2 : Nat} (m : tk_m) {p1 q1 d1 m1 p2 q2 d2 m2 : Int64} (k1 : m.2.1 (r1 + 1) 0 = p1) (k2 : m.2.1 (r1 + 1) 1 = q1) (k3 : m.2.1 r1 2 = d1) (k4 : m.2.1 (r1 + 1) 2 = m1) (k5 : m.2.1 (r2 + 1) 0 = p2) (k6 : m.2.1 (r2 + 1) 1 = q2) (k7 : m.2.1 r2 2 = d2) (k8 : m.2.1 (r2 + 1) 2 = m2) (hd1 : 0 ≤ d1.toInt ∧ d1.toInt ≤ 100000000) (hd2 : 0 ≤ d2.toInt ∧ d2.toInt ≤ 100000000) : ∃ m', fJ_orderq r1 r2 m = some (Int32.ofInt (nu_ordX (p1.toInt * m2.toInt + -1 * (p2.toInt * m1.toInt)) (q1.toInt * m2.toInt) (-(q2.toInt * m1.toInt)) d1.toInt d2.toInt), m') ∧ bg_Jq m m' := by
  have b4 : ∀ x y : Int64, (x.toInt * y.toInt).natAbs < 2 ^ 127 := fun x y => by
    rw [Int.natAbs_mul]
    exact Nat.lt_of_le_of_lt (Nat.mul_le_mul (wd_b6 x) (wd_b6 y)) (by decide)
  have b44 : ∀ x y : Int64, (x.toInt * y.toInt).natAbs < 4294967296 ^ 4 := fun x y => Nat.lt_of_lt_of_le (b4 x y) (by decide)
  obtain ⟨o1, e1, B1, F1, G1⟩ := bg_jpq 45 (by decide) p1 m2 m
  obtain ⟨o2, e2, B2, F2, G2⟩ := bg_jpq 47 (by decide) p2 m1 o1
  have B1' : bg_B o2 45 (p1.toInt * m2.toInt) := bg_B_k B1 (G2 45 (by decide) (by decide) (by decide)) (G2 46 (by decide) (by decide) (by decide))
  obtain ⟨o3, e3, B3, f3⟩ := bg_sum (t := 43) (s := -1) (.inr rfl) B1' B2 (k := 4) (by decide) (b44 _ _) (b44 _ _) (by decide) (by decide) (by decide) (by decide)
  obtain ⟨o4, e4, B4, F4, G4⟩ := bg_jpq 45 (by decide) q1 m2 o3
  obtain ⟨o5, e5, B5, F5, G5⟩ := bg_jpq 47 (by decide) q2 m1 o4
  have B4' : bg_B o5 45 (q1.toInt * m2.toInt) := bg_B_k B4 (G5 45 (by decide) (by decide) (by decide)) (G5 46 (by decide) (by decide) (by decide))
  have B3' : bg_B o5 43 (p1.toInt * m2.toInt + -1 * (p2.toInt * m1.toInt)) := bg_B_k (bg_B_k B3 (G4 43 (by decide) (by decide) (by decide)) (G4 44 (by decide) (by decide) (by decide))) (G5 43 (by decide) (by decide) (by decide)) (G5 44 (by decide) (by decide) (by decide))
  have N5 := bg_neg B5
  have C16 : bg_B (tk_u2 o5.1 47 0 (-(o5.1 47 0)), o5.2.1, o5.2.2.1, o5.2.2.2) 43 (p1.toInt * m2.toInt + -1 * (p2.toInt * m1.toInt)) := bg_B_k B3' (by dsimp only; exact tk_u2_ne (by decide)) (by dsimp only; exact tk_u2_ne (by decide))
  have C18 : bg_B (tk_u2 o5.1 47 0 (-(o5.1 47 0)), o5.2.1, o5.2.2.1, o5.2.2.2) 45 (q1.toInt * m2.toInt) := bg_B_k B4' (by dsimp only; exact tk_u2_ne (by decide)) (by dsimp only; exact tk_u2_ne (by decide))
  obtain ⟨o6, e6, B6, F6, G6⟩ := bg_jsq 49 45 (.inl rfl) (.inl rfl) d1 _ C18 (b44 _ _)
  have N5' : bg_B o6 47 (-(q2.toInt * m1.toInt)) := bg_B_k N5 (G6 47 (by decide) (by decide) (by decide)) (G6 48 (by decide) (by decide) (by decide))
  obtain ⟨o7, e7, B7, F7, G7⟩ := bg_jsq 51 47 (.inr rfl) (.inr rfl) d2 o6 N5' (by rw [Int.natAbs_neg]; exact b44 _ _)
  have D22 : bg_B o7 49 _ := bg_B_k B6 (G7 49 (by decide) (by decide) (by decide)) (G7 50 (by decide) (by decide) (by decide))
  have D20 : bg_B o7 47 _ := bg_B_k N5' (G7 47 (by decide) (by decide) (by decide)) (G7 48 (by decide) (by decide) (by decide))
  have D18 : bg_B o7 45 _ := bg_B_k (bg_B_k C18 (G6 45 (by decide) (by decide) (by decide)) (G6 46 (by decide) (by decide) (by decide))) (G7 45 (by decide) (by decide) (by decide)) (G7 46 (by decide) (by decide) (by decide))
  have D16 : bg_B o7 43 _ := bg_B_k (bg_B_k C16 (G6 43 (by decide) (by decide) (by decide)) (G6 44 (by decide) (by decide) (by decide))) (G7 43 (by decide) (by decide) (by decide)) (G7 44 (by decide) (by decide) (by decide))
  have M1 : o1.2.1 = m.2.1 := by rw [F1]
  have M3 : o3.2.1 = m.2.1 := by rw [f3.1, F2]; exact M1
  have M4 : o4.2.1 = m.2.1 := by rw [F4]; exact M3
  have M5 : o5.2.1 = m.2.1 := by rw [F5]; exact M4
  have M6 : o6.2.1 = m.2.1 := by rw [F6]; exact M5
  have J7 : bg_Jq m o7 := by
    refine ⟨?_, fun q hq => ?_⟩
    · rw [F7, F6]
      show o5.2 = _
      rw [F5, F4, f3.1, F2, F1]
    · rw [G7 q (by omega) (by omega) (by omega), G6 q (by omega) (by omega) (by omega)]
      dsimp only
      rw [tk_u2_ne (by omega), G5 q (by omega) (by omega) (by omega), G4 q (by omega) (by omega) (by omega), f3.2 q (by omega) (by omega), G2 q (by omega) (by omega) (by omega), G1 q (by omega) (by omega) (by omega)]
  have e8 := bg_size D22 B7
  have s16 := bg_sg D16
  have s18 := bg_sg D18
  have s20 := bg_sg D20
  have ba : (p1.toInt * m2.toInt + -1 * (p2.toInt * m1.toInt)).natAbs < 4294967296 ^ 4 := by
    have h1 := b4 p1 m2
    have h2 := b4 p2 m1
    have h3 : (2 : Nat) ^ 127 + 2 ^ 127 ≤ 4294967296 ^ 4 := by decide
    omega
  have bb := b4 q1 m2
  have bc : (-(q2.toInt * m1.toInt)).natAbs < 2 ^ 127 := by rw [Int.natAbs_neg]; exact b4 q2 m1
  have sq : ∀ (z : Int) (d : Int64), z.natAbs < 2 ^ 127 → 0 ≤ d.toInt ∧ d.toInt ≤ 100000000 → z.natAbs ≤ 2 ^ 126 → (z * z * d.toInt).natAbs < 2 ^ 280 := by
    intro z d _ hd hz
    rw [Int.natAbs_mul, Int.natAbs_mul]
    exact Nat.lt_of_le_of_lt (Nat.mul_le_mul (Nat.mul_le_mul hz hz) (show d.toInt.natAbs ≤ 100000000 by omega)) (by decide)
  have bb6 : (q1.toInt * m2.toInt).natAbs ≤ 2 ^ 126 := Nat.le_trans (wd_b2 (wd_b6 q1) (wd_b6 m2)) (by decide)
  have bc6 : (-(q2.toInt * m1.toInt)).natAbs ≤ 2 ^ 126 := by rw [Int.natAbs_neg]; exact Nat.le_trans (wd_b2 (wd_b6 q2) (wd_b6 m1)) (by decide)
  have F0 : 0 ≤ q1.toInt * m2.toInt * (q1.toInt * m2.toInt) * d1.toInt := Int.mul_nonneg (nu_nn _) hd1.1
  have S0 : 0 ≤ -(q2.toInt * m1.toInt) * -(q2.toInt * m1.toInt) * d2.toInt := Int.mul_nonneg (nu_nn _) hd2.1
  obtain ⟨o12, e12, J12⟩ := bg_warq D16 s18 s20 D22 B7 ba (sq _ d1 bb hd1 bb6) (sq _ d2 bc hd2 bc6) F0 S0
  rw [M5] at e6
  unfold fJ_orderq fN_p fN_m fN_q
  simp only [k1, k8, e1, Option.bind_some, M1, k5, k4, e2, show (-1 : Int32) = Int32.ofInt (-1) from rfl, e3, M3, k2, e4, M4, k6, e5, M5, k3, e6, M6, k7, e7, s16]
  generalize p1.toInt * m2.toInt + -1 * (p2.toInt * m1.toInt) = a at *
  generalize -(q2.toInt * m1.toInt) = c at *
  generalize q1.toInt * m2.toInt = b at *
  have w1 : ((b * b * d1.toInt).natAbs : Int) = b * b * d1.toInt := by omega
  have w2 : ((c * c * d2.toInt).natAbs : Int) = c * c * d2.toInt := by omega
  rw [w1, w2] at e8
  have hroots : fJ_signOfRootsq o7 = some (Int32.ofInt (nu_rts b c (b * b * d1.toInt) (c * c * d2.toInt))) := by
    unfold fJ_signOfRootsq nu_rts
    rw [s18, s20, nu_tm]
    by_cases h : nu_sg b * nu_sg c < 0
    · rw [if_pos (nu_tl.mpr (by rw [← nu_sg_in, nu_sg_mul]; exact h)), e8, Option.bind_some, if_pos h]
      unfold nu_t
      rw [Int32.ofInt_mul]
    · rw [if_neg (fun q => h (by rw [← nu_sg_mul, nu_sg_in]; exact nu_tl.mp q)), if_neg h]
      by_cases hb0 : b = 0
      · rw [if_pos (nu_tz.mpr hb0), if_pos hb0]; rfl
      · rw [if_neg (fun q => hb0 (nu_tz.mp q)), if_neg hb0]; rfl
  rw [hroots, Option.bind_some]
  have hcs : nu_rts b c (b * b * d1.toInt) (c * c * d2.toInt) = 1 ∨ nu_rts b c (b * b * d1.toInt) (c * c * d2.toInt) = 0 ∨ nu_rts b c (b * b * d1.toInt) (c * c * d2.toInt) = -1 := by
    unfold nu_rts
    split
    · rw [← nu_sg_mul]; exact nu_sg_cs _
    · split
      · exact nu_sg_cs c
      · exact nu_sg_cs b
  have hti := nu_t1 hcs
  unfold nu_ordX
  generalize nu_rts b c (b * b * d1.toInt) (c * c * d2.toInt) = R at *
  by_cases ha : a = 0
  · rw [if_pos (nu_tz.mpr ha), if_pos ha]
    exact ⟨o7, rfl, J7⟩
  rw [if_neg (fun q => ha (nu_tz.mp q)), if_neg ha]
  by_cases hR : R = 0
  · rw [if_pos (by rw [hR]; rfl), if_pos hR]
    exact ⟨o7, rfl, J7⟩
  rw [if_neg (fun q => hR (by rw [← hti, q]; rfl)), if_neg hR]
  have hq : (nu_t a = Int32.ofInt R) ↔ nu_sg a = R := by rw [← Int32.toInt_inj, nu_ti, hti]
  by_cases hs : nu_sg a = R
  · rw [if_pos (hq.mpr hs), if_pos hs]
    exact ⟨o7, rfl, J7⟩
  · rw [if_neg (fun q => hs (hq.mp q)), if_neg hs, e12, Option.bind_some]
    refine ⟨o12, ?_, bg_Jq_tr J7 J12⟩
    unfold nu_t
    rw [Int32.ofInt_mul]
