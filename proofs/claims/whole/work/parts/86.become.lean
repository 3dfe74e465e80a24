/-! ===== the class: a circle ===== -/
theorem an_radI {a b d : Int} (hd : 0 ≤ d) (hb : b ≠ 0 → 0 < d) : 0 < a * (a.natAbs : Int) + b * (b.natAbs : Int) * d ↔ 0 < nu_s1 a b d := by
  have sa := an_sqn a
  have sb : 0 ≤ b * b * d := Int.mul_nonneg (an_sqn b) hd
  have na : a ≠ 0 → 0 < a * a := fun z => by
    rcases Int.lt_or_gt_of_ne z with y | y
    · exact Int.mul_pos_of_neg_of_neg y y
    · exact Int.mul_pos y y
  have nb : b ≠ 0 → 0 < b * b * d := fun z => by
    refine Int.mul_pos ?_ (hb z)
    rcases Int.lt_or_gt_of_ne z with y | y
    · exact Int.mul_pos_of_neg_of_neg y y
    · exact Int.mul_pos y y
  have ea : a * (a.natAbs : Int) = if a < 0 then -(a * a) else a * a := by
    by_cases c : a < 0
    · rw [if_pos c, show (a.natAbs : Int) = -a by omega, Int.mul_neg]
    · rw [if_neg c, show (a.natAbs : Int) = a by omega]
  have eb : b * (b.natAbs : Int) * d = if b < 0 then -(b * b * d) else b * b * d := by
    by_cases c : b < 0
    · rw [if_pos c, show (b.natAbs : Int) = -b by omega, Int.mul_neg, Int.neg_mul]
    · rw [if_neg c, show (b.natAbs : Int) = b by omega]
  rw [ea, eb]
  have pa : a = 0 → a * a = 0 := fun z => by rw [z]; rfl
  have pb : b = 0 → b * b * d = 0 := fun z => by rw [z, Int.zero_mul, Int.zero_mul]
  unfold nu_s1
  generalize b * b * d = Q at *
  generalize a * a = P at *
  clear ea eb hb hd
  have g : ∀ A B : Int, (A = 1 ∧ 0 < a ∨ A = 0 ∧ a = 0 ∨ A = -1 ∧ a < 0) → (B = 1 ∧ 0 < b ∨ B = 0 ∧ b = 0 ∨ B = -1 ∧ b < 0) → (0 < (if a < 0 then -P else P) + (if b < 0 then -Q else Q) ↔ 0 < (if b = 0 then A else if A = B then A else if a = 0 then B else if P = Q then 0 else if Q < P then A else B)) := by
    intro A B hA hB
    repeat' split
    all_goals omega
  have sg : ∀ x : Int, (nu_sg x = 1 ∧ 0 < x ∨ nu_sg x = 0 ∧ x = 0 ∨ nu_sg x = -1 ∧ x < 0) := fun x => by
    rcases Int.lt_trichotomy x 0 with z | z | z
    · exact .inr (.inr ⟨nu_sg_neg1 z, z⟩)
    · exact .inr (.inl ⟨by rw [z]; exact nu_sg_zero, z⟩)
    · exact .inl ⟨nu_sg_pos z, z⟩
  exact g _ _ (sg a) (sg b)
theorem z_abs {x : Int64} {n : Nat} (h : an_bd x.toInt n) (hn : n < 9223372036854775808) : (fZ_abs_J x).toInt = (x.toInt.natAbs : Int) := by
  unfold fZ_abs_J
  unfold an_bd at h
  by_cases c : (0 : Int64) ≤ x
  · rw [if_pos c]
    rw [Int64.le_iff_toInt_le, show (0 : Int64).toInt = 0 from rfl] at c
    omega
  · rw [if_neg c]
    rw [Int64.le_iff_toInt_le, show (0 : Int64).toInt = 0 from rfl] at c
    rw [lo_neg (by constructor <;> omega)]
    omega
def x_C (c : an_c) (r : Nat) (m : tk_m) : Prop := m.1 r 0 = c.1 ∧ (∀ k, k < 7 → m.2.1 (r + 1) k = c.2.1 k) ∧ m.2.1 r 2 = c.2.2 ∧ ∀ i, i < 3 → x_num (an_num c i) (r + 2 + 2 * i) m ∧ m.2.2.1 (r + 2 + 2 * i) 0 = true
theorem x_rad {c : an_c} {r : Nat} {m : tk_m} (h1 : ∀ k, k < 7 → m.2.1 (r + 1) k = c.2.1 k) (h2 : m.2.1 r 2 = c.2.2) (ho : an_cok c) : fC_hasRadius r m = an_rad c := by
  obtain ⟨o1, o2, o3, o4, o5⟩ := ho
  have b2 := o2 2 (by decide)
  have b5 := o2 5 (by decide)
  have b4 := o4 2 (by decide)
  have hd : (c.2.1 5).toInt ≠ 0 → 0 < c.2.2.toInt := fun z => by have := (o5 2 (by decide) z).1; omega
  unfold fC_hasRadius an_rad
  rw [h1 2 (by decide), h1 5 (by decide), h2]
  have e1 : (c.2.1 2 * fZ_abs_J (c.2.1 2)).toInt = (c.2.1 2).toInt * ((c.2.1 2).toInt.natAbs : Int) := by
    have hb : an_bd ((c.2.1 2).toInt * (fZ_abs_J (c.2.1 2)).toInt) 90000000000000000 := bd_mul b2 (b := 300000000) (by rw [z_abs b2 (by decide)]; unfold an_bd at *; omega) (by decide)
    rw [lo_mul (bd_r hb (by decide)), z_abs b2 (by decide)]
  have e2 : (c.2.1 5 * fZ_abs_J (c.2.1 5)).toInt = (c.2.1 5).toInt * ((c.2.1 5).toInt.natAbs : Int) := by
    have hb : an_bd ((c.2.1 5).toInt * (fZ_abs_J (c.2.1 5)).toInt) 90000000000000000 := bd_mul b5 (b := 300000000) (by rw [z_abs b5 (by decide)]; unfold an_bd at *; omega) (by decide)
    rw [lo_mul (bd_r hb (by decide)), z_abs b5 (by decide)]
  have b6 : an_bd ((c.2.1 5).toInt * ((c.2.1 5).toInt.natAbs : Int) * c.2.2.toInt) 2000000000000 := by
    unfold an_bd at b4 ⊢
    rw [Int.natAbs_mul, Int.natAbs_mul, Int.natAbs_natCast, ← Int.natAbs_mul, ← Int.natAbs_mul]
    exact b4
  have e3 : (c.2.1 5 * fZ_abs_J (c.2.1 5) * c.2.2).toInt = (c.2.1 5).toInt * ((c.2.1 5).toInt.natAbs : Int) * c.2.2.toInt := by
    rw [lo_mul (by rw [e2]; exact bd_r b6 (by decide)), e2]
  have b7 : an_bd ((c.2.1 2).toInt * ((c.2.1 2).toInt.natAbs : Int)) 90000000000000000 := bd_mul b2 (b := 300000000) (by unfold an_bd at *; omega) (by decide)
  have e4 : (c.2.1 2 * fZ_abs_J (c.2.1 2) + c.2.1 5 * fZ_abs_J (c.2.1 5) * c.2.2).toInt = (c.2.1 2).toInt * ((c.2.1 2).toInt.natAbs : Int) + (c.2.1 5).toInt * ((c.2.1 5).toInt.natAbs : Int) * c.2.2.toInt := by
    rw [lo_add (by rw [e1, e3]; exact bd_r (bd_add b7 b6 (Nat.le_refl _)) (by decide)), e1, e3]
  have hI := an_radI (a := (c.2.1 2).toInt) o3.1 hd
  by_cases q : 0 < nu_s1 (c.2.1 2).toInt (c.2.1 5).toInt c.2.2.toInt
  · rw [decide_eq_true q, if_neg]
    rw [Int64.le_iff_toInt_le, e4, show (0 : Int64).toInt = 0 from rfl]
    have := hI.mpr q
    omega
  · rw [decide_eq_false q, if_pos]
    rw [Int64.le_iff_toInt_le, e4, show (0 : Int64).toInt = 0 from rfl]
    rcases Int.lt_or_le 0 ((c.2.1 2).toInt * ((c.2.1 2).toInt.natAbs : Int) + (c.2.1 5).toInt * ((c.2.1 5).toInt.natAbs : Int) * c.2.2.toInt) with z | z
    · exact absurd (hI.mp z) q
    · exact z
theorem tk_al51 : ∀ k, k < 16 → tk_al (71 + 8 * k + 1) = 7 ∧ tk_al (71 + 8 * k + 2 + 1) = 3 ∧ tk_al (71 + 8 * k + 4 + 1) = 3 ∧ tk_al (71 + 8 * k + 6 + 1) = 3 := by decide +kernel
/-- the row that a circle begins with -/
def cb_L (L : Nat → Nat → Int64) (t : Nat) (f : Nat → Int64) (d : Int64) : Nat → Nat → Int64 := tk_u2 (tk_u2 (tk_u2 (tk_u2 (tk_u2 (tk_u2 (tk_u2 (tk_u2 L (t + 1) 0 (f 0)) (t + 1) 1 (f 1)) (t + 1) 2 (f 2)) (t + 1) 3 (f 3)) (t + 1) 4 (f 4)) (t + 1) 5 (f 5)) (t + 1) 6 (f 6)) t 2 d
theorem cb_at (L : Nat → Nat → Int64) (t : Nat) (f : Nat → Int64) (d : Int64) : (∀ k, k < 7 → cb_L L t f d (t + 1) k = f k) ∧ cb_L L t f d t 2 = d ∧ ∀ r, r ≠ t → r ≠ t + 1 → cb_L L t f d r = L r := by
  unfold cb_L
  refine ⟨fun k hk => ?_, tk_u2_eq, fun r h1 h2 => ?_⟩
  · rw [tk_u2_ne (show t + 1 ≠ t by omega)]
    rcases (show k = 0 ∨ k = 1 ∨ k = 2 ∨ k = 3 ∨ k = 4 ∨ k = 5 ∨ k = 6 by omega) with rfl | rfl | rfl | rfl | rfl | rfl | rfl
    · rw [tk_u2_nk (by decide), tk_u2_nk (by decide), tk_u2_nk (by decide), tk_u2_nk (by decide), tk_u2_nk (by decide), tk_u2_nk (by decide), tk_u2_eq]
    · rw [tk_u2_nk (by decide), tk_u2_nk (by decide), tk_u2_nk (by decide), tk_u2_nk (by decide), tk_u2_nk (by decide), tk_u2_eq]
    · rw [tk_u2_nk (by decide), tk_u2_nk (by decide), tk_u2_nk (by decide), tk_u2_nk (by decide), tk_u2_eq]
    · rw [tk_u2_nk (by decide), tk_u2_nk (by decide), tk_u2_nk (by decide), tk_u2_eq]
    · rw [tk_u2_nk (by decide), tk_u2_nk (by decide), tk_u2_eq]
    · rw [tk_u2_nk (by decide), tk_u2_eq]
    · rw [tk_u2_eq]
  · rw [tk_u2_ne h1, tk_u2_ne h2, tk_u2_ne h2, tk_u2_ne h2, tk_u2_ne h2, tk_u2_ne h2, tk_u2_ne h2, tk_u2_ne h2]
def cb_f (m : tk_m) (M : Int64) : Nat → Int64
  | 0 => m.2.1 67 0 + m.2.1 62 0 * M
  | 1 => m.2.1 67 1 + m.2.1 62 1 * M
  | 2 => m.2.1 67 2 + m.2.1 62 2 * M
  | 3 => m.2.1 68 0
  | 4 => m.2.1 68 1
  | 5 => m.2.1 68 2
  | _ => M
theorem cb_eq {t : Nat} {m : tk_m} (d M : Int64) (ht : 68 ≤ t) : fC_become t 67 68 d M 62 m = (fK_lower (t + 1) (6 : Int32) (m.1, cb_L m.2.1 t (cb_f m M) d, m.2.2.1, m.2.2.2)).bind fun o1 =>
  (fN_hold (t + 2) (o1.2.2.1 (t + 1) 0) (o1.2.2.1 (t + 1) 3) (o1.2.2.1 t 2) (o1.2.2.1 (t + 1) 6) o1.2).bind fun o2 =>
  (fN_hold (t + 4) (o2.2.2.1 (t + 1) 1) (o2.2.2.1 (t + 1) 4) (o2.2.2.1 t 2) (o2.2.2.1 (t + 1) 6) o2.2).bind fun o3 =>
  (fN_hold (t + 6) (o3.2.2.1 (t + 1) 2) (o3.2.2.1 (t + 1) 5) (o3.2.2.1 t 2) (o3.2.2.1 (t + 1) 6) o3.2).bind fun o4 =>
  some o4.2 := by
  have e1 : ∀ (f : Nat → Nat → Int64) k v b, tk_u2 f (t + 1) k v 67 b = f 67 b := fun f k v b => congrFun (tk_u2_ne (by omega)) b
  have e2 : ∀ (f : Nat → Nat → Int64) k v b, tk_u2 f (t + 1) k v 68 b = f 68 b := fun f k v b => congrFun (tk_u2_ne (by omega)) b
  have e3 : ∀ (f : Nat → Nat → Int64) k v b, tk_u2 f (t + 1) k v 62 b = f 62 b := fun f k v b => congrFun (tk_u2_ne (by omega)) b
  unfold fC_become
  simp only [e1, e2, e3]
  rfl
theorem x_become {k : Nat} (hk : k < 16) {m : tk_m} {v w B : an_V} {M : Int} (g : Int32) (d : Int64) (h46 : an_at m 67 v) (h47 : an_at m 68 w) (h41 : an_at m 62 B) {f : Nat → Int} (f1 : ∀ j, j < 3 → f j = v j + B j * M) (f2 : ∀ j, j < 3 → f (3 + j) = w j) (f6 : f 6 = M) (hs : an_small f) : ∃ m1, fC_become (71 + 8 * k) 67 68 d (Int64.ofInt M) 62 m = some m1 ∧ m1.1 = m.1 ∧ (∀ r, (r < 71 + 8 * k ∨ 71 + 8 * k + 8 ≤ r) → tk_row m m1 r) ∧ (∀ j, j < 7 → m1.2.1 (71 + 8 * k + 1) j = an_lw f j) ∧ m1.2.1 (71 + 8 * k) 2 = d ∧ ∀ i, i < 3 → x_num (an_num (g, an_lw f, d) i) (71 + 8 * k + 2 + 2 * i) m1 ∧ m1.2.2.1 (71 + 8 * k + 2 + 2 * i) 0 = true := by
  obtain ⟨a7, a3, a5, a9⟩ := tk_al51 k hk
  have ht : 68 ≤ 71 + 8 * k := by omega
  rw [cb_eq d _ ht]
  generalize 71 + 8 * k = t at *
  obtain ⟨q1, q2, q3⟩ := cb_at m.2.1 t (cb_f m (Int64.ofInt M)) d
  have hrow : ∀ j, j < 7 → cb_f m (Int64.ofInt M) j = Int64.ofInt (f j) := by
    refine an_7 (an_3 ?_ ?_ ?_) (an_3 ?_ ?_ ?_) ?_
    · show m.2.1 67 0 + m.2.1 62 0 * Int64.ofInt M = _
      rw [h46 0 (by decide), h41 0 (by decide), o_mul, o_add, f1 0 (by decide)]
    · show m.2.1 67 1 + m.2.1 62 1 * Int64.ofInt M = _
      rw [h46 1 (by decide), h41 1 (by decide), o_mul, o_add, f1 1 (by decide)]
    · show m.2.1 67 2 + m.2.1 62 2 * Int64.ofInt M = _
      rw [h46 2 (by decide), h41 2 (by decide), o_mul, o_add, f1 2 (by decide)]
    · show m.2.1 68 0 = _
      rw [h47 0 (by decide), f2 0 (by decide)]
    · show m.2.1 68 1 = _
      rw [h47 1 (by decide), f2 1 (by decide)]
    · show m.2.1 68 2 = _
      rw [h47 2 (by decide), f2 2 (by decide)]
    · show Int64.ofInt M = _
      rw [f6]
  generalize cb_L m.2.1 t (cb_f m (Int64.ofInt M)) d = L at *
  have hf : ∀ j, j < 7 → ((m.1, L, m.2.2.1, m.2.2.2) : tk_m).2.1 (t + 1) j = Int64.ofInt (f j) := fun j hj => (q1 j hj).trans (hrow j hj)
  have hfi : ∀ j, j < 7 → (((m.1, L, m.2.2.1, m.2.2.2) : tk_m).2.1 (t + 1) j).toInt = f j := fun j hj => by rw [hf j hj, lo_i (bd_r (hs.1.2 j hj) (by decide))]
  have hlow := lo_low (ld := 6) (m := (m.1, L, m.2.2.1, m.2.2.2)) a7 (by decide) (by decide) hfi hs.1.1
  rw [show (6 : Int32) = Int32.ofNat 6 from rfl, hlow, if_neg, Option.bind_some]
  case hnc =>
    rintro ⟨_, j, hj, hz⟩
    have := hs.1.2 j hj
    unfold an_bd at this
    omega
  have hup : ∀ j, j < 7 → (lo_up (m.1, L, m.2.2.1, m.2.2.2) (t + 1) 7 (fun k => Int64.ofInt (f k / lo_D (lo_g f 7) (f 6)))).2.1 (t + 1) j = an_lw f j := fun j hj => by
    unfold lo_up an_lw
    dsimp only
    rw [if_pos ⟨rfl, hj⟩, if_pos hj]
  have hup2 : ∀ r, r ≠ t + 1 → (lo_up (m.1, L, m.2.2.1, m.2.2.2) (t + 1) 7 (fun k => Int64.ofInt (f k / lo_D (lo_g f 7) (f 6)))).2.1 r = L r := fun r hr => by
    funext b
    unfold lo_up
    dsimp only
    rw [if_neg (fun z => hr z.1)]
  have hu1 : (lo_up (m.1, L, m.2.2.1, m.2.2.2) (t + 1) 7 (fun k => Int64.ofInt (f k / lo_D (lo_g f 7) (f 6)))).1 = m.1 := rfl
  have hu3 : (lo_up (m.1, L, m.2.2.1, m.2.2.2) (t + 1) 7 (fun k => Int64.ofInt (f k / lo_D (lo_g f 7) (f 6)))).2.2 = m.2.2 := rfl
  generalize lo_up (m.1, L, m.2.2.1, m.2.2.2) (t + 1) 7 (fun k => Int64.ofInt (f k / lo_D (lo_g f 7) (f 6))) = m0 at *
  obtain ⟨D, d0, d1, d2, d3, d4, d5⟩ := an_lw_D hs.1
  have h6 : an_lw f 6 ≠ 0 := fun z => by rw [z] at d2; exact absurd d2 (by decide)
  have nb : ∀ i, i < 3 → ¬ lo_bad (an_lw f i).toInt (an_lw f (3 + i)).toInt (an_lw f 6).toInt := fun i hi => by
    have y1 := hs.2 i (by omega)
    have y2 := hs.2 (3 + i) (by omega)
    have y3 := hs.2 6 (by omega)
    unfold an_bd at y1 y2 y3
    exact lo_small (by omega) (by omega) (by omega)
  have rD : m0.2.1 t 2 = d := by rw [hup2 t (by omega)]; exact q2
  have r0 : ∀ r, (r < t ∨ t + 8 ≤ r) → tk_row m m0 r := fun r hr => ⟨by rw [hu1], by rw [hup2 r (by omega), q3 r (by omega) (by omega)], by rw [hu3], by rw [hu3]⟩
  dsimp only
  rw [hup 0 (by decide), hup 3 (by decide), hup 6 (by decide), rD]
  obtain ⟨b1, M1, x1, x2, x3, x4, x5, x6, x7⟩ := x_hold a3 (an_lw f 0) (an_lw f 3) d (an_lw f 6) m0 h6
  have n1 := x7 (x2.mpr (nb 0 (by decide)))
  rw [x1, Option.bind_some]
  dsimp only
  rw [(x3 (t + 1) (by omega) (by omega)).2.1, (x3 t (by omega) (by omega)).2.1, hup 1 (by decide), hup 4 (by decide), hup 6 (by decide), rD]
  obtain ⟨b2, M2, y1, y2, y3, y4, y5, y6, y7⟩ := x_hold a5 (an_lw f 1) (an_lw f 4) d (an_lw f 6) M1 h6
  have n2 := y7 (y2.mpr (nb 1 (by decide)))
  rw [y1, Option.bind_some]
  dsimp only
  rw [(y3 (t + 1) (by omega) (by omega)).2.1, (y3 t (by omega) (by omega)).2.1, (x3 (t + 1) (by omega) (by omega)).2.1, (x3 t (by omega) (by omega)).2.1, hup 2 (by decide), hup 5 (by decide), hup 6 (by decide), rD]
  obtain ⟨b3, M3, z1, z2, z3, z4, z5, z6, z7⟩ := x_hold a9 (an_lw f 2) (an_lw f 5) d (an_lw f 6) M2 h6
  have n3 := z7 (z2.mpr (nb 2 (by decide)))
  rw [z1, Option.bind_some]
  refine ⟨M3, rfl, z4.trans (y4.trans (x4.trans hu1)), fun r hr => tk_row_tr (r0 r hr) (tk_row_tr (x3 r (by omega) (by omega)) (tk_row_tr (y3 r (by omega) (by omega)) (z3 r (by omega) (by omega)))), fun j hj => ?_, ?_, an_3 ?_ ?_ ?_⟩
  · rw [(z3 (t + 1) (by omega) (by omega)).2.1, (y3 (t + 1) (by omega) (by omega)).2.1, (x3 (t + 1) (by omega) (by omega)).2.1]
    exact hup j hj
  · rw [(z3 t (by omega) (by omega)).2.1, (y3 t (by omega) (by omega)).2.1, (x3 t (by omega) (by omega)).2.1]
    exact rD
  · refine ⟨x_num_k (x_num_k n1 (y3 _ (by omega) (by omega)) (y3 _ (by omega) (by omega))) (z3 _ (by omega) (by omega)) (z3 _ (by omega) (by omega)), ?_⟩
    rw [(z3 (t + 2 + 2 * 0) (by omega) (by omega)).2.2.1, (y3 (t + 2 + 2 * 0) (by omega) (by omega)).2.2.1]
    exact x6.trans (x2.mpr (nb 0 (by decide)))
  · refine ⟨x_num_k n2 (z3 _ (by omega) (by omega)) (z3 _ (by omega) (by omega)), ?_⟩
    rw [(z3 (t + 2 + 2 * 1) (by omega) (by omega)).2.2.1]
    exact y6.trans (y2.mpr (nb 1 (by decide)))
  · exact ⟨n3, z6.trans (z2.mpr (nb 2 (by decide)))⟩
