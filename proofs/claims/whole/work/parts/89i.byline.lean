/-! ===== the reference: by a line ===== -/
def g_F (m m' : tk_m) : Prop := (∀ r, (r < 295 ∨ (295 < r ∧ r < 351) ∨ 441 < r) → m'.2.1 r = m.2.1 r) ∧ (∀ r k, (r < 308 ∨ 349 < r) → ¬ (r = 295 ∧ (k = 9 ∨ k = 10 ∨ k = 11 ∨ k = 16)) → m'.1 r k = m.1 r k) ∧ (∀ r, r ≠ 295 → m'.2.2.1 r = m.2.2.1 r) ∧ m'.2.2.2 = m.2.2.2
theorem g_rf (m : tk_m) : g_F m m := ⟨fun _ _ => rfl, fun _ _ _ _ => rfl, fun _ _ => rfl, rfl⟩
theorem g_tr {m m1 m2 : tk_m} (h : g_F m m1) (h2 : g_F m1 m2) : g_F m m2 := ⟨fun r hr => (h2.1 r hr).trans (h.1 r hr), fun r k a b => (h2.2.1 r k a b).trans (h.2.1 r k a b), fun r hr => (h2.2.2.1 r hr).trans (h.2.2.1 r hr), h2.2.2.2.trans h.2.2.2⟩
theorem g_w {m m' : tk_m} (h : w_F m m') : g_F m m' := ⟨fun r hr => h.1 r (by omega), fun r k a b => h.2.1 r k a (by omega), h.2.2.1, h.2.2.2⟩
theorem g_q {m m' : tk_m} (h : q_fr m m') : g_F m m' := ⟨fun r hr => h.1 r (by omega), fun r k a b => h.2.1 r k (by omega), fun r _ => by rw [h.2.2], by rw [h.2.2]⟩
theorem i_ndvd {G : Nat} {x : Int} (h : G ∣ x.natAbs) : (G : Int) ∣ x := Int.natAbs_dvd_natAbs.mp (by rw [Int.natAbs_natCast]; exact h)
theorem tk_al412 : ∀ k, k < 3 → 3 ≤ tk_al (433 + k) ∧ tk_al (433 + k) ≤ 40 := by decide +kernel
theorem tk_al415 : ∀ k, k < 4 → tk_al (436 + k) = 3 := by decide +kernel
theorem y_Fd_q {F : an_F} {m m' : tk_m} (hl : F.2.length ≤ 16) (h : y_Fd F m) (q : q_fr m m') : y_Fd F m' := by
  obtain ⟨h1, h2, h3⟩ := h
  refine ⟨by rw [q.2.1 295 10 (by decide)]; exact h1, by rw [q.2.1 295 11 (by decide)]; exact h2, fun k c hk => ?_⟩
  have := (List.getElem?_eq_some_iff.mp hk).1
  exact ⟨by rw [q.2.1 349 k (by omega)]; exact (h3 k c hk).1, y_W_k (h3 k c hk).2 (q.1 _ (by omega)) (fun i hi => q.1 _ (by omega))⟩
theorem y_loose {F : an_F} {m : tk_m} (hl : F.2.length ≤ 16) (h : y_Fd F m) (v : Int32) : y_Fd (F.1 ||| v, F.2) (tk_u2 m.1 295 11 (m.1 295 11 ||| v), m.2.1, m.2.2.1, m.2.2.2) ∧ g_F m (tk_u2 m.1 295 11 (m.1 295 11 ||| v), m.2.1, m.2.2.1, m.2.2.2) := by
  obtain ⟨h1, h2, h3⟩ := h
  refine ⟨⟨?_, ?_, fun k c hk => ⟨?_, (h3 k c hk).2⟩⟩, fun _ _ => rfl, fun r k _ b => ?_, fun _ _ => rfl, rfl⟩
  · dsimp only; rw [tk_u2_nk (by decide)]; exact h1
  · dsimp only; rw [tk_u2_eq, h2]
  · dsimp only; rw [tk_u2_ne (by decide)]; exact (h3 k c hk).1
  · dsimp only
    unfold tk_u2
    rw [if_neg (fun z => b ⟨z.1, .inr (.inr (.inl z.2))⟩)]
theorem y_quad {m : tk_m} {a b : Nat} {v w : an_V} (la : tk_al a = 3) (lb : tk_al b = 3) (ha : an_at m a v) (hb : an_at m b w) : fM_quadric a b m = some (Int64.ofInt (an_B v w)) := by
  unfold fM_quadric
  rw [la, lb, if_pos (by decide), if_pos (by decide), if_pos (by decide), if_pos (by decide), if_pos (by decide), if_pos (by decide)]
  show some ((m.2.1 a 0 * m.2.1 b 0 + m.2.1 a 1 * m.2.1 b 1) - m.2.1 a 2 * m.2.1 b 2) = _
  rw [ha 0 (by decide), ha 1 (by decide), ha 2 (by decide), hb 0 (by decide), hb 1 (by decide), hb 2 (by decide), o_mul, o_mul, o_mul, o_add, o_sub]
  rfl
section
variable {m : tk_m} {g : Int32}
theorem y_117s (v2 : Int32) (v3 : Int64) (n k : Nat) (hk : k < 3) : fM_byLine_117 (n + 1) g v2 v3 (Int32.ofNat k) m = fM_byLine_117 n g v2 v3 (Int32.ofNat (k + 1)) (m.1, tk_u2 m.2.1 437 k (m.2.1 433 3 * m.2.1 438 k + m.2.1 434 3 * m.2.1 439 k), m.2.2.1, m.2.2.2) := by
  conv => lhs; unfold fM_byLine_117
  rw [if_neg (an_n3 hk), if_pos (i_ok hk (by omega)), i_nn (show k < 2147483648 by omega), show Int32.ofNat k + 1 = Int32.ofNat (k + 1) from i_add k 1]
theorem y_117 {v w : an_V} {p q : Int} (v2 : Int32) (v3 : Int64) (hp : m.2.1 433 3 = Int64.ofInt p) (hq : m.2.1 434 3 = Int64.ofInt q) (h7 : an_at m 438 v) (h8 : an_at m 439 w) : ∃ m1, fM_byLine_117 tk_F g v2 v3 0 m = fM_byLine_169 g v2 v3 m1 ∧ v_fr 437 m m1 ∧ an_at m1 437 (an_L p v q w) := by
  have e4 : ∀ (n : Nat) (M : tk_m), fM_byLine_117 (n + 1) g v2 v3 (Int32.ofNat (0 + 1 + 1 + 1)) M = fM_byLine_169 g v2 v3 M := fun n M => by
    conv => lhs; unfold fM_byLine_117
    rw [if_pos (by decide)]
  rw [show (0 : Int32) = Int32.ofNat 0 from rfl, iv_F, y_117s _ _ _ 0 (by decide), y_117s _ _ _ (0 + 1) (by decide), y_117s _ _ _ (0 + 1 + 1) (by decide), e4]
  refine ⟨_, rfl, ⟨rfl, rfl, fun r hr => ?_, fun k hk => ?_⟩, an_3 ?_ ?_ ?_⟩
  · dsimp only; rw [tk_u2_ne hr, tk_u2_ne hr, tk_u2_ne hr]
  · dsimp only; rw [tk_u2_nk (by omega), tk_u2_nk (by omega), tk_u2_nk (by omega)]
  · dsimp only
    rw [tk_u2_nk (by decide), tk_u2_nk (by decide), tk_u2_eq, hp, hq, h7 0 (by decide), h8 0 (by decide), o_mul, o_mul, o_add]; rfl
  · dsimp only
    rw [tk_u2_nk (by decide), tk_u2_eq, tk_u2_ne (by decide), tk_u2_ne (by decide), tk_u2_ne (by decide), tk_u2_ne (by decide), hp, hq, h7 1 (by decide), h8 1 (by decide), o_mul, o_mul, o_add]; rfl
  · dsimp only
    rw [tk_u2_eq]
    have e : ∀ (L : Nat → Nat → Int64) (x y : Int64) (r : Nat), r ≠ 437 → tk_u2 (tk_u2 L 437 0 x) 437 (0 + 1) y r = L r := fun L x y r hr => by rw [tk_u2_ne hr, tk_u2_ne hr]
    rw [e _ _ _ 433 (by decide), e _ _ _ 434 (by decide), e _ _ _ 438 (by decide), e _ _ _ 439 (by decide), hp, hq, h7 2 (by decide), h8 2 (by decide), o_mul, o_mul, o_add]; rfl
theorem o_m2 : (-2 : Int64) = Int64.ofInt (-2) := by decide
/-- the equation's three numbers, lowered, go on -/
theorem y_431 {A B C U : Int} (bA : an_bd A 1000000000000000) (bB : an_bd B 1000000000000000) (bC : an_bd C 1000000000000000) (h : ¬ (A = 0 ∧ B = 0)) : ∃ gg A' B' C' : Int, 0 < gg ∧ A = gg * A' ∧ B = gg * B' ∧ C = gg * C' ∧ fM_byLine_431 g (Int64.ofInt U) (Int64.ofInt A) (Int64.ofInt B) (Int64.ofInt C) m = fM_solves g (Int64.ofInt A') (Int64.ofInt B') (Int64.ofInt C') (Int64.ofInt U) m := by
  have hG1 : 0 < Nat.gcd A.natAbs B.natAbs := by
    rcases Nat.eq_zero_or_pos (Nat.gcd A.natAbs B.natAbs) with z | z
    · have := Nat.gcd_eq_zero_iff.mp z
      exact absurd ⟨by omega, by omega⟩ h
    · exact z
  have hG1b : Nat.gcd A.natAbs B.natAbs ≤ 1000000000000000 := by
    rcases Nat.eq_zero_or_pos A.natAbs with z | z
    · rw [z, Nat.gcd_zero_left]; exact bB
    · exact Nat.le_trans (Nat.gcd_le_left _ z) bA
  have e1 : fM_below (Int64.ofInt A) (Int64.ofInt B) = some (Int64.ofInt (-((Nat.gcd A.natAbs B.natAbs : Nat) : Int))) := by
    rw [lo_below, lo_i (bd_r bA (by decide)), lo_i (bd_r bB (by decide))]
    rfl
  have e2 := y_bel (G := Nat.gcd A.natAbs B.natAbs) (x := C) (by omega) (bd_le bC (by decide))
  have hG : 0 < Nat.gcd (Nat.gcd A.natAbs B.natAbs) C.natAbs := Nat.gcd_pos_of_pos_left _ hG1
  have hGb : Nat.gcd (Nat.gcd A.natAbs B.natAbs) C.natAbs ≤ 1000000000000000 := Nat.le_trans (Nat.gcd_le_left _ hG1) hG1b
  have dA : ((Nat.gcd (Nat.gcd A.natAbs B.natAbs) C.natAbs : Nat) : Int) ∣ A := i_ndvd (Nat.dvd_trans (Nat.gcd_dvd_left _ _) (Nat.gcd_dvd_left _ _))
  have dB : ((Nat.gcd (Nat.gcd A.natAbs B.natAbs) C.natAbs : Nat) : Int) ∣ B := i_ndvd (Nat.dvd_trans (Nat.gcd_dvd_left _ _) (Nat.gcd_dvd_right _ _))
  have dC : ((Nat.gcd (Nat.gcd A.natAbs B.natAbs) C.natAbs : Nat) : Int) ∣ C := i_ndvd (Nat.gcd_dvd_right _ _)
  unfold fM_byLine_431
  rw [e1, Option.bind_some, e2, Option.bind_some, o_neg, Int.neg_neg]
  generalize Nat.gcd (Nat.gcd A.natAbs B.natAbs) C.natAbs = G at *
  have hr : lo_r (G : Int) := by constructor <;> omega
  have hn : ¬ Int64.ofInt (G : Int) = 0 := by rw [lo_z, lo_i hr]; omega
  refine ⟨G, A / G, B / G, C / G, by omega, (Int.mul_ediv_cancel' dA).symm, (Int.mul_ediv_cancel' dB).symm, (Int.mul_ediv_cancel' dC).symm, ?_⟩
  rw [if_neg hn, if_neg hn, if_neg hn, o_div (bd_le bA (by decide)) hr dA, o_div (bd_le bB (by decide)) hr dB, o_div (bd_le bC (by decide)) hr dC]
  cases fM_solves g (Int64.ofInt (A / ↑G)) (Int64.ofInt (B / ↑G)) (Int64.ofInt (C / ↑G)) (Int64.ofInt U) m <;> rfl
end
noncomputable def an_add (g : Int32) (x : an_V) (o : Option an_R) (F : an_F) : an_F := match o with
  | none => (F.1 ||| tk_ishl 1 g, F.2)
  | some r => (F.1, F.2 ++ an_cs g x r)
theorem i_or0 (x : Int32) : x ||| 0 = x := by
  apply Int32.toBitVec_inj.mp
  rw [Int32.toBitVec_or]
  exact BitVec.or_zero
theorem y_byLine {c : s_sn} {t : Nat → s_sh} {g f : Nat} {m : tk_m} {F : an_F} {a b : an_V} {s u : Int} (hg : g < 8) (hf : f < 3) (h : y_G c t m) (ef : (t f).1 = false) (va : an_vb a 10) (vb : an_vb b 10) (vs : an_bd s 200) (vu : an_bd u 200) (ha : an_at m 433 a) (hb : an_at m 434 b) (hT0 : m.2.1 433 3 = Int64.ofInt (s + 2 * an_S a (an_base (t f) (an_bit g f)))) (hT1 : m.2.1 434 3 = Int64.ofInt (u + 2 * an_S b (an_base (t f) (an_bit g f)))) (hY : y_Fd F m) (hl : F.2.length ≤ 14) : ∃ m1, fM_byLine (Int32.ofNat g) (Int32.ofNat f) m = some m1 ∧ g_F m m1 ∧ y_Fd (an_add (Int32.ofNat g) (an_base (t f) (an_bit g f)) (an_m2 a b s u) F) m1 := by
  have hof := y_G_ok h hf
  have vx := an_base_b (b := an_bit g f) hof ef
  obtain ⟨z1, z2, z3, z4, z5, z6⟩ := an_sz va vb vs vu
  have l0 := tk_al412 0 (by decide)
  have l1 := tk_al412 1 (by decide)
  have l5 : 3 ≤ tk_al 436 ∧ tk_al 436 ≤ 40 := by rw [tk_al415 0 (by decide)]; decide
  have l7 : 3 ≤ tk_al 438 ∧ tk_al 438 ≤ 40 := by rw [tk_al415 2 (by decide)]; decide
  have l8 : 3 ≤ tk_al 439 ∧ tk_al 439 ≤ 40 := by rw [tk_al415 3 (by decide)]; decide
  unfold fM_byLine
  obtain ⟨m1, e1, f1, k1⟩ := y_cross l0 l1 l5 ha hb (by decide) (by decide)
  rw [e1, Option.bind_some]
  have eS : ((m1.2.1 436 0 * m1.2.1 436 0) + (m1.2.1 436 1 * m1.2.1 436 1)) + (m1.2.1 436 2 * m1.2.1 436 2) = Int64.ofInt (an_S (an_X a b) (an_X a b)) := v_S k1 k1
  rw [eS]
  have q1 := q_v f1 (by decide)
  have hY1 := y_Fd_q (by omega) hY q1
  by_cases c1 : an_S (an_X a b) (an_X a b) = 0
  · rw [if_pos ((o_z z2 (by decide)).mpr c1)]
    obtain ⟨w1, w2⟩ := y_loose (by omega) hY1 (tk_ishl 1 (Int32.ofNat g))
    refine ⟨_, rfl, g_tr (g_q q1) w2, ?_⟩
    unfold an_m2
    rw [if_pos (an_SS.mp c1)]
    exact w1
  rw [if_neg (fun y => c1 ((o_z z2 (by decide)).mp y))]
  have cw : ¬ (an_X a b 0 = 0 ∧ an_X a b 1 = 0 ∧ an_X a b 2 = 0) := fun y => c1 (an_SS.mpr y)
  obtain ⟨m2, e2, f2, k2⟩ := y_cross (m := m1) l1 l5 l7 (at_fr hb (by decide) f1) k1 (by decide) (by decide)
  rw [e2, Option.bind_some]
  obtain ⟨m3, e3, f3, k3⟩ := y_cross (m := m2) l5 l0 l8 (at_fr k1 (by decide) f2) (at_fr (at_fr ha (by decide) f1) (by decide) f2) (by decide) (by decide)
  rw [e3, Option.bind_some]
  have r3 : ∀ r, r ≠ 436 → r ≠ 438 → r ≠ 439 → m3.2.1 r = m.2.1 r := fun r a1 a2 a3 => (f3.2.2.1 r a3).trans ((f2.2.2.1 r a2).trans (f1.2.2.1 r a1))
  obtain ⟨m4, e4, f4, k4⟩ := y_117 (m := m3) (g := Int32.ofNat g) (Int32.ofNat f) (Int64.ofInt (an_S (an_X a b) (an_X a b))) (by rw [r3 433 (by decide) (by decide) (by decide)]; exact hT0) (by rw [r3 434 (by decide) (by decide) (by decide)]; exact hT1) (at_fr k2 (by decide) f3) k3
  rw [e4]
  have k415 : an_at m4 436 (an_X a b) := at_fr (at_fr (at_fr k1 (by decide) f2) (by decide) f3) (by decide) f4
  have q4 : q_fr m m4 := q_tr q1 (q_tr (q_v f2 (by decide)) (q_tr (q_v f3 (by decide)) (q_v f4 (by decide))))
  have hG4 : y_G c t m4 := y_G_k h (funext fun k => q4.2.1 296 k (by omega))
  have hY4 := y_Fd_q (by omega) hY q4
  generalize hFv : an_L (s + 2 * an_S a (an_base (t f) (an_bit g f))) (an_X b (an_X a b)) (u + 2 * an_S b (an_base (t f) (an_bit g f))) (an_X (an_X a b) a) = Fv at *
  have hF' : ∀ k, k < 3 → Fv k = an_W a b (s + 2 * an_S a (an_base (t f) (an_bit g f))) (u + 2 * an_S b (an_base (t f) (an_bit g f))) k := fun k _ => by rw [← hFv]; rfl
  -- sizes
  have bT0 : an_bd (s + 2 * an_S a (an_base (t f) (an_bit g f))) 500 := bd_add vs (bd_mul (a := 2) (by unfold an_bd; decide) (vb_S va vx (Nat.le_refl _)) (Nat.le_refl _)) (by decide)
  have bT1 : an_bd (u + 2 * an_S b (an_base (t f) (an_bit g f))) 500 := bd_add vu (bd_mul (a := 2) (by unfold an_bd; decide) (vb_S vb vx (Nat.le_refl _)) (Nat.le_refl _)) (by decide)
  have vF : an_vb Fv 4000000 := by rw [← hFv]; exact vb_L bT0 (vb_X vb z1 (Nat.le_refl _)) bT1 (vb_X z1 va (Nat.le_refl _)) (by decide)
  clear hFv e1 e2 e3 e4 k2 k3
  -- the shape that stays
  obtain ⟨i, a1, a2⟩ := hG4.2.2 f hf
  have hy : ∀ L : Nat → Nat → Int64, y_S c 296 (m4.1, L, m4.2.2.1, m4.2.2.2) := fun L => hG4.1
  have oi := fun L : Nat → Nat → Int64 => y_at (hy L) h.2.1.1 a2
  have fi := fun L : Nat → Nat → Int64 => y_form (k := 3) (hy L) h.2.1 a2
  obtain ⟨p1, p2⟩ := y_fm hof ef (an_bit g f)
  have p1' : (s_form (t f) 3).toInt = an_B (an_base (t f) (an_bit g f)) (an_base (t f) (an_bit g f)) := p1
  unfold fM_byLine_169
  rw [a1, Option.bind_some, show fM_of0 i 1 m4 = some (t f).2.1 from (oi m4.2.1).2.1, Option.bind_some, (oi _).2.2.1, Option.bind_some, (oi _).2.2.2, Option.bind_some]
  have ez : Int32.toInt64 (fM_bit (Int32.ofNat g) (Int32.ofNat f)) = Int64.ofInt (if an_bit g f = true then -1 else 1) := by
    rw [an_yb g hg f hf]
    cases an_bit g f <;> decide
  have hz2 : ((2 : Int64) * Int32.toInt64 (fM_bit (Int32.ofNat g) (Int32.ofNat f))) * Int32.toInt64 (t f).2.2.2 = Int64.ofInt (2 * an_base (t f) (an_bit g f) 2) := by
    rw [ez, o_32, o_two, o_mul, o_mul]
    refine congrArg Int64.ofInt ?_
    show 2 * (if an_bit g f = true then (-1 : Int) else 1) * (t f).2.2.2.toInt = 2 * an_z (t f) (an_bit g f)
    unfold an_z
    cases an_bit g f
    · rw [if_neg (by decide), if_neg (by decide)]; omega
    · rw [if_pos rfl, if_pos rfl]; omega
  rw [hz2, o_32, o_32, o_m2, o_mul, o_mul]
  have hP0 : tk_u2 (tk_u2 (tk_u2 m4.2.1 438 0 (Int64.ofInt (-2 * (t f).2.1.toInt))) 438 1 (Int64.ofInt (-2 * (t f).2.2.1.toInt))) 438 2 (Int64.ofInt (2 * an_base (t f) (an_bit g f) 2)) 438 0 = Int64.ofInt (-2 * an_base (t f) (an_bit g f) 0) := by rw [tk_u2_nk (by decide), tk_u2_nk (by decide), tk_u2_eq]; rfl
  have hP1 : tk_u2 (tk_u2 (tk_u2 m4.2.1 438 0 (Int64.ofInt (-2 * (t f).2.1.toInt))) 438 1 (Int64.ofInt (-2 * (t f).2.2.1.toInt))) 438 2 (Int64.ofInt (2 * an_base (t f) (an_bit g f) 2)) 438 1 = Int64.ofInt (-2 * an_base (t f) (an_bit g f) 1) := by rw [tk_u2_nk (by decide), tk_u2_eq]; rfl
  have hP2 : tk_u2 (tk_u2 (tk_u2 m4.2.1 438 0 (Int64.ofInt (-2 * (t f).2.1.toInt))) 438 1 (Int64.ofInt (-2 * (t f).2.2.1.toInt))) 438 2 (Int64.ofInt (2 * an_base (t f) (an_bit g f) 2)) 438 2 = Int64.ofInt (2 * an_base (t f) (an_bit g f) 2) := tk_u2_eq
  have hPr : ∀ r, r ≠ 438 → tk_u2 (tk_u2 (tk_u2 m4.2.1 438 0 (Int64.ofInt (-2 * (t f).2.1.toInt))) 438 1 (Int64.ofInt (-2 * (t f).2.2.1.toInt))) 438 2 (Int64.ofInt (2 * an_base (t f) (an_bit g f) 2)) r = m4.2.1 r := fun r hr => by rw [tk_u2_ne hr, tk_u2_ne hr, tk_u2_ne hr]
  generalize tk_u2 (tk_u2 (tk_u2 m4.2.1 438 0 (Int64.ofInt (-2 * (t f).2.1.toInt))) 438 1 (Int64.ofInt (-2 * (t f).2.2.1.toInt))) 438 2 (Int64.ofInt (2 * an_base (t f) (an_bit g f) 2)) = P at *
  have P5 : an_at (m4.1, P, m4.2.2.1, m4.2.2.2) 436 (an_X a b) := fun k hk => by show P 436 k = _; rw [hPr 436 (by decide)]; exact k415 k hk
  have P6 : an_at (m4.1, P, m4.2.2.1, m4.2.2.2) 437 Fv := fun k hk => by show P 437 k = _; rw [hPr 437 (by decide)]; exact k4 k hk
  have l5' := tk_al415 0 (by decide)
  have l6' := tk_al415 1 (by decide)
  rw [y_quad l5' l5' P5 P5, Option.bind_some, y_quad l6' l5' P6 P5, Option.bind_some, y_quad l6' l6' P6 P6, Option.bind_some, fi, Option.bind_some]
  have x5 : ∀ k, k < 3 → P 436 k = Int64.ofInt (an_X a b k) := P5
  have x6 : ∀ k, k < 3 → P 437 k = Int64.ofInt (Fv k) := P6
  rw [hP0, hP1, hP2, x5 0 (by decide), x5 1 (by decide), x5 2 (by decide), x6 0 (by decide), x6 1 (by decide), x6 2 (by decide), o_32, p1', o_two]
  have eB : Int64.ofInt 2 * Int64.ofInt (an_B Fv (an_X a b)) + Int64.ofInt 2 * Int64.ofInt (an_S (an_X a b) (an_X a b)) * (Int64.ofInt (-2 * an_base (t f) (an_bit g f) 0) * Int64.ofInt (an_X a b 0) + Int64.ofInt (-2 * an_base (t f) (an_bit g f) 1) * Int64.ofInt (an_X a b 1) + Int64.ofInt (2 * an_base (t f) (an_bit g f) 2) * Int64.ofInt (an_X a b 2)) = Int64.ofInt (an_rb Fv (an_X a b) (an_base (t f) (an_bit g f)) (2 * an_S (an_X a b) (an_X a b))) := by
    rw [o_mul, o_mul, o_mul, o_mul, o_mul, o_add, o_add, o_mul, o_add]; rfl
  have eC : Int64.ofInt (an_B Fv Fv) + Int64.ofInt 2 * Int64.ofInt (an_S (an_X a b) (an_X a b)) * (Int64.ofInt (-2 * an_base (t f) (an_bit g f) 0) * Int64.ofInt (Fv 0) + Int64.ofInt (-2 * an_base (t f) (an_bit g f) 1) * Int64.ofInt (Fv 1) + Int64.ofInt (2 * an_base (t f) (an_bit g f) 2) * Int64.ofInt (Fv 2)) + Int64.ofInt 2 * Int64.ofInt (an_S (an_X a b) (an_X a b)) * (Int64.ofInt 2 * Int64.ofInt (an_S (an_X a b) (an_X a b))) * Int64.ofInt (an_B (an_base (t f) (an_bit g f)) (an_base (t f) (an_bit g f))) = Int64.ofInt (an_rc Fv (an_base (t f) (an_bit g f)) (2 * an_S (an_X a b) (an_X a b))) := by
    rw [o_mul, o_mul, o_mul, o_mul, o_add, o_add, o_mul, o_add, o_mul, o_mul, o_add]; rfl
  rw [eB, eC, o_mul]
  generalize an_base (t f) (an_bit g f) = x at *
  have b2 : an_bd (2 : Int) 2 := by unfold an_bd; decide
  have bm2 : an_bd (-2 : Int) 2 := by unfold an_bd; decide
  have bU : an_bd (2 * an_S (an_X a b) (an_X a b)) 240000 := bd_mul b2 z2 (by decide)
  have bB : an_bd (an_rb Fv (an_X a b) x (2 * an_S (an_X a b) (an_X a b))) 1000000000000000 := by
    unfold an_rb
    exact bd_add (bd_mul b2 (vb_B vF z1 (Nat.le_refl _)) (Nat.le_refl _)) (bd_mul bU (bd_add (bd_add (bd_mul (bd_mul bm2 (vx 0 (by decide)) (Nat.le_refl _)) (z1 0 (by decide)) (Nat.le_refl _)) (bd_mul (bd_mul bm2 (vx 1 (by decide)) (Nat.le_refl _)) (z1 1 (by decide)) (Nat.le_refl _)) (Nat.le_refl _)) (bd_mul (bd_mul b2 (vx 2 (by decide)) (Nat.le_refl _)) (z1 2 (by decide)) (Nat.le_refl _)) (Nat.le_refl _)) (Nat.le_refl _)) (by decide)
  have bC : an_bd (an_rc Fv x (2 * an_S (an_X a b) (an_X a b))) 1000000000000000 := by
    unfold an_rc
    exact bd_add (bd_add (vb_B vF vF (Nat.le_refl _)) (bd_mul bU (bd_add (bd_add (bd_mul (bd_mul bm2 (vx 0 (by decide)) (Nat.le_refl _)) (vF 0 (by decide)) (Nat.le_refl _)) (bd_mul (bd_mul bm2 (vx 1 (by decide)) (Nat.le_refl _)) (vF 1 (by decide)) (Nat.le_refl _)) (Nat.le_refl _)) (bd_mul (bd_mul b2 (vx 2 (by decide)) (Nat.le_refl _)) (vF 2 (by decide)) (Nat.le_refl _)) (Nat.le_refl _)) (Nat.le_refl _)) (Nat.le_refl _)) (bd_mul (bd_mul bU bU (Nat.le_refl _)) (vb_B vx vx (Nat.le_refl _)) (Nat.le_refl _)) (by decide)
  have qP : q_fr m (m4.1, P, m4.2.2.1, m4.2.2.2) := q_tr q4 ⟨fun r hr => hPr r (by omega), fun _ _ _ => rfl, rfl⟩
  have hYP := y_Fd_q (by omega) hY qP
  have go : ¬ (an_B (an_X a b) (an_X a b) = 0 ∧ an_rb Fv (an_X a b) x (2 * an_S (an_X a b) (an_X a b)) = 0) → ∃ m1, fM_byLine_431 (Int32.ofNat g) (Int64.ofInt (2 * an_S (an_X a b) (an_X a b))) (Int64.ofInt (an_B (an_X a b) (an_X a b))) (Int64.ofInt (an_rb Fv (an_X a b) x (2 * an_S (an_X a b) (an_X a b)))) (Int64.ofInt (an_rc Fv x (2 * an_S (an_X a b) (an_X a b)))) (m4.1, P, m4.2.2.1, m4.2.2.2) = some m1 ∧ g_F m m1 ∧ y_Fd (an_add (Int32.ofNat g) x (an_m2 a b s u) F) m1 := by
    intro hab
    obtain ⟨gg, A', B', C', s1, s2, s3, s4, s5⟩ := y_431 (m := (m4.1, P, m4.2.2.1, m4.2.2.2)) (g := Int32.ofNat g) (U := 2 * an_S (an_X a b) (an_X a b)) (bd_le z3 (by decide)) bB bC hab
    rw [s5]
    cases er : an_m2 a b s u with
    | none =>
      exfalso
      unfold an_m2 at er
      rw [if_neg cw] at er
      by_cases d1 : an_B (an_X a b) (an_X a b) = 0
      · rw [if_pos d1] at er
        obtain ⟨t1, _, _, _⟩ := an_steep a b x s u d1 hF' rfl rfl rfl
        by_cases d2 : an_B (an_W a b s u) (an_X a b) = 0
        · exact hab ⟨d1, by rw [t1, d2]; rfl⟩
        · rw [if_neg d2] at er; cases er
      · rw [if_neg d1] at er; cases er
    | some r =>
      obtain ⟨m5, v1, v2, v3⟩ := y_solve (g := Int32.ofNat g) (F := F) (m := (m4.1, P, m4.2.2.1, m4.2.2.2)) va vb vs vu vx rfl hF' rfl rfl rfl rfl s2 s3 s4 s1 er hab P5 P6 hYP hl
      exact ⟨m5, v1, g_tr (g_q qP) (g_w v2), v3⟩
  by_cases d1 : an_B (an_X a b) (an_X a b) = 0
  · rw [if_pos ((o_z z3 (by decide)).mpr d1)]
    by_cases d2 : an_rb Fv (an_X a b) x (2 * an_S (an_X a b) (an_X a b)) = 0
    · rw [if_pos ((o_z bB (by decide)).mpr d2)]
      obtain ⟨t1, t2, _, _⟩ := an_steep a b x s u d1 hF' rfl rfl rfl
      have hlean : an_B (an_W a b s u) (an_X a b) = 0 := by omega
      have hC2 : an_rc Fv x (2 * an_S (an_X a b) (an_X a b)) = an_B (an_W a b s u) (an_W a b s u) := by rw [t2, hlean, Int.mul_zero, Int.sub_zero]
      have hm2 : an_m2 a b s u = if an_B (an_W a b s u) (an_W a b s u) = 0 then none else some (-1, (fun _ => 0), (fun _ => 0), 1) := by
        unfold an_m2
        rw [if_neg cw, if_pos d1, if_pos hlean]
      rw [hm2, ← hC2]
      by_cases d3 : an_rc Fv x (2 * an_S (an_X a b) (an_X a b)) = 0
      · rw [if_pos ((o_z bC (by decide)).mpr d3), if_pos d3]
        obtain ⟨w1, w2⟩ := y_loose (by omega) hYP (tk_ishl 1 (Int32.ofNat g))
        exact ⟨_, rfl, g_tr (g_q qP) w2, w1⟩
      · rw [if_neg (fun y => d3 ((o_z bC (by decide)).mp y)), if_neg d3]
        obtain ⟨w1, w2⟩ := y_loose (by omega) hYP 0
        refine ⟨_, rfl, g_tr (g_q qP) w2, ?_⟩
        unfold an_add an_cs
        dsimp only
        rw [if_pos (by decide), List.append_nil]
        rw [i_or0] at w1
        exact w1
    · rw [if_neg (fun y => d2 ((o_z bB (by decide)).mp y))]
      exact go (fun y => d2 y.2)
  · rw [if_neg (fun y => d1 ((o_z z3 (by decide)).mp y))]
    exact go (fun y => d1 y.1)
