/-! ===== the reference: three straights; all SIGNS ===== -/
section
variable {m : tk_m} {g : Int32}
theorem y_89s (V : Int64) (n k : Nat) (hk : k < 3) : fM_byFirst_89 (n + 1) g V (Int32.ofNat k) m = fM_byFirst_89 n g V (Int32.ofNat (k + 1)) (m.1, tk_u2 (tk_u2 m.2.1 440 k 0) 441 k 0, m.2.2.1, m.2.2.2) := by
  conv => lhs; unfold fM_byFirst_89
  rw [if_neg (an_n3 hk), if_pos (i_ok hk (by omega)), i_nn (show k < 2147483648 by omega), show Int32.ofNat k + 1 = Int32.ofNat (k + 1) from i_add k 1]
theorem y_89 (V : Int64) : ∃ m1, fM_byFirst_89 tk_F g V 0 m = fM_byFirst_120 tk_F g V 0 m1 ∧ m1.1 = m.1 ∧ m1.2.2 = m.2.2 ∧ (∀ r, r ≠ 440 → r ≠ 441 → m1.2.1 r = m.2.1 r) ∧ an_at m1 440 (fun _ => 0) ∧ an_at m1 441 (fun _ => 0) := by
  have e4 : ∀ (n : Nat) (M : tk_m), fM_byFirst_89 (n + 1) g V (Int32.ofNat (0 + 1 + 1 + 1)) M = fM_byFirst_120 tk_F g V 0 M := fun n M => by
    conv => lhs; unfold fM_byFirst_89
    rw [if_pos (by decide)]
  have e5 : fM_byFirst_89 tk_F g V 0 m = fM_byFirst_89 (999995 + 1 + 1 + 1 + 1 + 1) g V (Int32.ofNat 0) m := by rw [← iv_F]; rfl
  rw [e5, y_89s _ _ 0 (by decide), y_89s _ _ (0 + 1) (by decide), y_89s _ _ (0 + 1 + 1) (by decide), e4]
  refine ⟨_, rfl, rfl, rfl, fun r r1 r2 => ?_, an_3 ?_ ?_ ?_, an_3 ?_ ?_ ?_⟩
  · dsimp only; rw [tk_u2_ne r2, tk_u2_ne r1, tk_u2_ne r2, tk_u2_ne r1, tk_u2_ne r2, tk_u2_ne r1]
  · dsimp only; rw [tk_u2_ne (by decide), tk_u2_nk (by decide), tk_u2_ne (by decide), tk_u2_nk (by decide), tk_u2_ne (by decide), tk_u2_eq]; rfl
  · dsimp only; rw [tk_u2_ne (by decide), tk_u2_nk (by decide), tk_u2_ne (by decide)]; exact tk_u2_eq
  · dsimp only; rw [tk_u2_ne (by decide)]; exact tk_u2_eq
  · dsimp only; rw [tk_u2_nk (by decide), tk_u2_ne (by decide), tk_u2_nk (by decide), tk_u2_ne (by decide), tk_u2_eq]; rfl
  · dsimp only; rw [tk_u2_nk (by decide), tk_u2_ne (by decide)]; exact tk_u2_eq
  · dsimp only; exact tk_u2_eq
theorem y_158s (r : Int32 → Int64 → Int32 → tk_m → Option tk_m) (V : Int64) (n i k : Nat) (hi : i < 3) (hk : k < 3) : fM_byFirst_158 r (n + 1) g V (Int32.ofNat i) (Int32.ofNat k) m = fM_byFirst_158 r n g V (Int32.ofNat i) (Int32.ofNat (k + 1)) (m.1, tk_u2 m.2.1 440 k (m.2.1 440 k + m.2.1 (433 + i) 3 * m.2.1 438 k), m.2.2.1, m.2.2.2) := by
  conv => lhs; unfold fM_byFirst_158
  rw [if_neg (an_n3 hk), if_pos (i_ok hk (by omega)), if_pos (i_ok hi (by omega)), i_nn (show k < 2147483648 by omega), i_nn (show i < 2147483648 by omega), show Int32.ofNat k + 1 = Int32.ofNat (k + 1) from i_add k 1]
theorem y_158 (r : Int32 → Int64 → Int32 → tk_m → Option tk_m) (V : Int64) {i : Nat} (hi : i < 3) {v w : an_V} {T : Int} (h9 : an_at m 440 v) (h7 : an_at m 438 w) (hT : m.2.1 (433 + i) 3 = Int64.ofInt T) : ∃ m1, fM_byFirst_158 r tk_F g V (Int32.ofNat i) 0 m = r g V (Int32.ofNat (i + 1)) m1 ∧ v_fr 440 m m1 ∧ an_at m1 440 (fun k => v k + T * w k) := by
  have e4 : ∀ (n : Nat) (M : tk_m), fM_byFirst_158 r (n + 1) g V (Int32.ofNat i) (Int32.ofNat (0 + 1 + 1 + 1)) M = r g V (Int32.ofNat (i + 1)) M := fun n M => by
    conv => lhs; unfold fM_byFirst_158
    rw [if_pos (by decide), show Int32.ofNat i + 1 = Int32.ofNat (i + 1) from i_add i 1]
  have n1 : (433 + i) ≠ 440 := by omega
  rw [show (0 : Int32) = Int32.ofNat 0 from rfl, iv_F, y_158s r V _ i 0 hi (by decide), y_158s r V _ i (0 + 1) hi (by decide), y_158s r V _ i (0 + 1 + 1) hi (by decide), e4]
  refine ⟨_, rfl, ⟨rfl, rfl, fun r hr => ?_, fun k hk => ?_⟩, an_3 ?_ ?_ ?_⟩
  · dsimp only; rw [tk_u2_ne hr, tk_u2_ne hr, tk_u2_ne hr]
  · dsimp only; rw [tk_u2_nk (by omega), tk_u2_nk (by omega), tk_u2_nk (by omega)]
  · dsimp only
    rw [tk_u2_nk (by decide), tk_u2_nk (by decide), tk_u2_eq, h9 0 (by decide), h7 0 (by decide), hT, o_mul, o_add]
  · dsimp only
    rw [tk_u2_nk (by decide), tk_u2_eq, tk_u2_nk (by decide), tk_u2_ne n1, tk_u2_ne (by decide), hT]
    have a1 : m.2.1 440 (0 + 1) = _ := h9 1 (by decide)
    have a2 : m.2.1 438 (0 + 1) = _ := h7 1 (by decide)
    rw [a1, a2, o_mul, o_add]
  · dsimp only
    rw [tk_u2_eq, tk_u2_nk (by decide), tk_u2_nk (by decide), tk_u2_ne n1, tk_u2_ne n1, tk_u2_ne (show 438 ≠ 440 by decide), tk_u2_ne (show 438 ≠ 440 by decide), hT]
    have a1 : m.2.1 440 (0 + 1 + 1) = _ := h9 2 (by decide)
    have a2 : m.2.1 438 (0 + 1 + 1) = _ := h7 2 (by decide)
    rw [a1, a2, o_mul, o_add]
theorem y_120 (V : Int64) (n i : Nat) (hi : i < 3) {v u1 u2 : an_V} {T : Int} (h9 : an_at m 440 v) (h1 : an_at m (433 + (i + 1) % 3) u1) (h2 : an_at m (433 + (i + 2) % 3) u2) (hT : m.2.1 (433 + i) 3 = Int64.ofInt T) : ∃ m1, fM_byFirst_120 (n + 1) g V (Int32.ofNat i) m = fM_byFirst_120 n g V (Int32.ofNat (i + 1)) m1 ∧ m1.1 = m.1 ∧ m1.2.2 = m.2.2 ∧ (∀ r, r ≠ 438 → r ≠ 440 → m1.2.1 r = m.2.1 r) ∧ an_at m1 440 (fun k => v k + T * an_X u1 u2 k) := by
  obtain ⟨e1, e2⟩ := an_irem i hi
  have b1 : (i + 1) % 3 < 3 := Nat.mod_lt _ (by decide)
  have b2 : (i + 2) % 3 < 3 := Nat.mod_lt _ (by decide)
  have l7 : 3 ≤ tk_al 438 ∧ tk_al 438 ≤ 40 := by rw [tk_al415 2 (by decide)]; decide
  obtain ⟨m1, q1, q2, q3⟩ := y_cross (m := m) (tk_al412 _ b1) (tk_al412 _ b2) l7 h1 h2 (by omega) (by omega)
  obtain ⟨m2, p1, p2, p3⟩ := y_158 (m := m1) (g := g) (fM_byFirst_120 n) V hi (at_fr h9 (by decide) q2) q3 (T := T) (by rw [q2.2.2.1 _ (by omega)]; exact hT)
  refine ⟨m2, ?_, p2.1.trans q2.1, p2.2.1.trans q2.2.1, fun r r1 r2 => (p2.2.2.1 r r2).trans (q2.2.2.1 r r1), p3⟩
  conv => lhs; unfold fM_byFirst_120
  rw [if_neg (an_n3 hi), e1, e2, if_pos (i_ok b1 (by omega)), if_pos (i_ok b2 (by omega)), i_nn (show (i + 1) % 3 < 2147483648 by omega), i_nn (show (i + 2) % 3 < 2147483648 by omega), q1, Option.bind_some]
  exact p1
end
theorem y_byFirst {g : Nat} {m : tk_m} {F : an_F} {a b c : an_V} {p q r : Int} (va : an_vb a 5) (vb : an_vb b 5) (vc : an_vb c 5) (vp : an_bd p 60) (vq : an_bd q 60) (vr : an_bd r 60) (ha : an_at m 433 a) (hb : an_at m 434 b) (hc : an_at m 435 c) (hp : m.2.1 433 3 = Int64.ofInt p) (hq : m.2.1 434 3 = Int64.ofInt q) (hr : m.2.1 435 3 = Int64.ofInt r) (hY : y_Fd F m) (hl : F.2.length ≤ 14) : ∃ m1, fM_byFirst (Int32.ofNat g) m = some m1 ∧ g_F m m1 ∧ y_Fd (an_add (Int32.ofNat g) (fun _ => 0) (an_m3 a b c p q r) F) m1 := by
  have bV : an_bd (an_S a (an_X b c)) 1000000 := vb_S va (vb_X vb vc (Nat.le_refl _)) (by decide)
  have l1 := tk_al412 1 (by decide)
  have l2 := tk_al412 2 (by decide)
  have l7 : 3 ≤ tk_al 438 ∧ tk_al 438 ≤ 40 := by rw [tk_al415 2 (by decide)]; decide
  unfold fM_byFirst
  obtain ⟨m1, e1, f1, k1⟩ := y_cross l1 l2 l7 hb hc (by decide) (by decide)
  rw [e1, Option.bind_some]
  have eV : ((m1.2.1 433 0 * m1.2.1 438 0) + (m1.2.1 433 1 * m1.2.1 438 1)) + (m1.2.1 433 2 * m1.2.1 438 2) = Int64.ofInt (an_S a (an_X b c)) := v_S (at_fr ha (by decide) f1) k1
  rw [eV]
  have q1 := q_v f1 (by decide)
  have hY1 := y_Fd_q (by omega) hY q1
  by_cases c1 : an_S a (an_X b c) = 0
  · rw [if_pos ((o_z bV (by decide)).mpr c1)]
    obtain ⟨w1, w2⟩ := y_loose (by omega) hY1 (tk_ishl 1 (Int32.ofNat g))
    refine ⟨_, rfl, g_tr (g_q q1) w2, ?_⟩
    unfold an_m3
    rw [if_pos c1]
    exact w1
  rw [if_neg (fun y => c1 ((o_z bV (by decide)).mp y))]
  obtain ⟨m2, e2, f2, f3, f4, k2, k3⟩ := y_89 (m := m1) (g := Int32.ofNat g) (Int64.ofInt (an_S a (an_X b c)))
  rw [e2]
  have r2 : ∀ r, r ≠ 438 → r ≠ 440 → r ≠ 441 → m2.2.1 r = m.2.1 r := fun r a1 a2 a3 => (f4 r a2 a3).trans (f1.2.2.1 r a1)
  obtain ⟨m3, e3, g1, g2, g3, k4⟩ := y_120 (m := m2) (g := Int32.ofNat g) (Int64.ofInt (an_S a (an_X b c))) (999995 + 1 + 1 + 1 + 1) 0 (by decide) (u1 := b) (u2 := c) (T := p) k2 (fun k hk => by show m2.2.1 434 k = _; rw [r2 434 (by decide) (by decide) (by decide)]; exact hb k hk) (fun k hk => by show m2.2.1 435 k = _; rw [r2 435 (by decide) (by decide) (by decide)]; exact hc k hk) (by show m2.2.1 433 3 = _; rw [r2 433 (by decide) (by decide) (by decide)]; exact hp)
  have r3 : ∀ r, r ≠ 438 → r ≠ 440 → r ≠ 441 → m3.2.1 r = m.2.1 r := fun r a1 a2 a3 => (g3 r a1 a2).trans (r2 r a1 a2 a3)
  obtain ⟨m4, e4, h1, h2, h3, k5⟩ := y_120 (m := m3) (g := Int32.ofNat g) (Int64.ofInt (an_S a (an_X b c))) (999995 + 1 + 1 + 1) (0 + 1) (by decide) (u1 := c) (u2 := a) (T := q) k4 (fun k hk => by show m3.2.1 435 k = _; rw [r3 435 (by decide) (by decide) (by decide)]; exact hc k hk) (fun k hk => by show m3.2.1 433 k = _; rw [r3 433 (by decide) (by decide) (by decide)]; exact ha k hk) (by show m3.2.1 434 3 = _; rw [r3 434 (by decide) (by decide) (by decide)]; exact hq)
  have r4 : ∀ r, r ≠ 438 → r ≠ 440 → r ≠ 441 → m4.2.1 r = m.2.1 r := fun r a1 a2 a3 => (h3 r a1 a2).trans (r3 r a1 a2 a3)
  obtain ⟨m5, e5, i1, i2, i3, k6⟩ := y_120 (m := m4) (g := Int32.ofNat g) (Int64.ofInt (an_S a (an_X b c))) (999995 + 1 + 1) (0 + 1 + 1) (by decide) (u1 := a) (u2 := b) (T := r) k5 (fun k hk => by show m4.2.1 433 k = _; rw [r4 433 (by decide) (by decide) (by decide)]; exact ha k hk) (fun k hk => by show m4.2.1 434 k = _; rw [r4 434 (by decide) (by decide) (by decide)]; exact hb k hk) (by show m4.2.1 435 3 = _; rw [r4 435 (by decide) (by decide) (by decide)]; exact hr)
  have r5 : ∀ r, r ≠ 438 → r ≠ 440 → r ≠ 441 → m5.2.1 r = m.2.1 r := fun r a1 a2 a3 => (i3 r a1 a2).trans (r4 r a1 a2 a3)
  rw [show (0 : Int32) = Int32.ofNat 0 from rfl, iv_F, e3, e4, e5]
  have q5 : q_fr m m5 := ⟨fun r hr => r5 r (by omega) (by omega) (by omega), fun r k _ => by rw [i1, h1, g1, f2, f1.1], i2.trans (h2.trans (g2.trans (f3.trans f1.2.1)))⟩
  have hY5 := y_Fd_q (by omega) hY q5
  have em3 : an_m3 a b c p q r = some (0, (fun k => p * an_X b c k + q * an_X c a k + r * an_X a b k), (fun _ => 0), 2 * an_S a (an_X b c)) := by unfold an_m3; rw [if_neg c1]
  have hok := an_m3_ok va vb vc vp vq vr em3
  have hsm := an_rok_row hok (p := 0) (q := 0) (by unfold an_bd; decide) (by unfold an_bd; decide) (.inr ⟨rfl, rfl⟩)
  dsimp only at hsm
  have hext : ∀ k, k < 7 → an_r2 (fun k => 0 + p * an_X b c k + q * an_X c a k + r * an_X a b k) (fun _ => 0) (2 * an_S a (an_X b c)) k = an_row (fun k => p * an_X b c k + q * an_X c a k + r * an_X a b k) (fun _ => 0) (fun _ => 0) (2 * an_S a (an_X b c)) 0 0 k := by
    refine an_7 (fun k hk => ?_) (fun k hk => ?_) ?_
    · rw [r2_lo hk, an_row_lo hk]; omega
    · rw [r2_hi hk, an_row_hi hk, Int.mul_zero]
    · rw [r2_6, an_row_6]
  have hce : ((Int32.ofNat g, an_lw (an_r2 (fun k => 0 + p * an_X b c k + q * an_X c a k + r * an_X a b k) (fun _ => 0) (2 * an_S a (an_X b c))), 0) : an_c) = an_mk (Int32.ofNat g) (fun _ => 0) (0, (fun k => p * an_X b c k + q * an_X c a k + r * an_X a b k), (fun _ => 0), 2 * an_S a (an_X b c)) 0 0 0 := by
    unfold an_mk
    rw [an_lw_ext hext]
  have hcok := an_mk_ok (Int32.ofNat g) hok (p := 0) (by unfold an_bd; decide) (.inr rfl)
  have k420 : ∀ k, k < 3 → m5.2.1 441 k = Int64.ofInt 0 := fun k hk => by rw [i3 441 (by decide) (by decide), h3 441 (by decide) (by decide), g3 441 (by decide) (by decide)]; exact k3 k hk
  obtain ⟨m6, p1, p2, p3⟩ := y_takes (m := m5) (F := F) (g := Int32.ofNat g) (d := 0) (f := an_r2 (fun k => 0 + p * an_X b c k + q * an_X c a k + r * an_X a b k) (fun _ => 0) (2 * an_S a (an_X b c))) (fun i hi => ⟨by rw [r2_lo hi]; exact k6 i hi, by rw [r2_hi hi]; exact k420 i hi⟩) (an_small_ext hext hsm) hY5 (by omega) (by rw [hce]; exact hcok)
  refine ⟨m6, ?_, g_tr (g_q q5) (g_w (w_z p3)), ?_⟩
  · unfold fM_byFirst_120 fM_byFirst_203
    rw [if_pos (by decide), o_two, o_mul]
    rw [r2_6] at p1
    rw [p1, Option.bind_some]
  · rw [em3]
    unfold an_add an_cs
    dsimp only
    rw [if_neg (show ¬ (0 : Int) < 0 by decide), if_pos rfl, ← hce]
    exact p2
/-! the shapes taken, one after the other -/
theorem y_tk {c : s_sn} {t : Nat → s_sh} {g : Nat} {m : tk_m} (hg : g < 8) (h : y_G c t m) (r17 : Int32 → Int32 → tk_m → Option tk_m) {v1 : Int32} {B : an_V} (n : Nat) {j N : Nat} (hj : j < 3) (hN : N < 3) (hm : m.1 295 16 = Int32.ofNat N) (hB : (t j).1 = false → ∃ f, f < 3 ∧ v1 = Int32.ofNat f ∧ (t f).1 = false ∧ B = an_base (t f) (an_bit g f) ∧ j ≠ f) : ∃ m1, fM_answers_v_41 r17 (n + 1) v1 (Int32.ofNat g) (Int32.ofNat j) m = fM_answers_v_41 r17 n v1 (Int32.ofNat g) (Int32.ofNat (j + 1)) m1 ∧ q_fr m m1 ∧ m1.1 295 16 = Int32.ofNat (N + 1) ∧ (∀ r, r ≠ 433 + N → m1.2.1 r = m.2.1 r) ∧ an_at m1 (433 + N) (an_n B (t j) (an_bit g j)) ∧ m1.2.1 (433 + N) 3 = Int64.ofInt (an_T B (t j) (an_bit g j)) := by
  obtain ⟨i, a1, a2⟩ := h.2.2 j hj
  have hr := y_round (y_at h.1 h.2.1.1 a2).1
  have en : ∀ M, fM_answers_v_41 r17 (n + 1) v1 (Int32.ofNat g) (Int32.ofNat j) m = M → True := fun _ _ => trivial
  cases e : (t j).1 with
  | true =>
    obtain ⟨m1, b1, b2, b3, b4, b5, b6⟩ := y_tkS hg h hj hN hm e B
    refine ⟨m1, ?_, b2, b3, b4, b5, b6⟩
    conv => lhs; unfold fM_answers_v_41
    rw [if_neg (an_n3 hj), a1, Option.bind_some, hr, Option.bind_some, e, if_neg (by decide), b1, Option.bind_some, show Int32.ofNat j + 1 = Int32.ofNat (j + 1) from i_add j 1]
  | false =>
    obtain ⟨f, hf, rfl, ef, rfl, hjf⟩ := hB e
    obtain ⟨m1, b1, b2, b3, b4, b5, b6⟩ := y_tkR hg h hj hf hN hm e ef
    refine ⟨m1, ?_, b2, b3, b4, b5, b6⟩
    conv => lhs; unfold fM_answers_v_41
    rw [if_neg (an_n3 hj), a1, Option.bind_some, hr, Option.bind_some, e, if_pos (by decide), if_neg (fun y => hjf ((i_eq (by omega) (by omega)).mp y)), b1, Option.bind_some, show Int32.ofNat j + 1 = Int32.ofNat (j + 1) from i_add j 1]
theorem y_tk0 {c : s_sn} {t : Nat → s_sh} {g : Nat} {m : tk_m} (h : y_G c t m) (r17 : Int32 → Int32 → tk_m → Option tk_m) (n : Nat) {j : Nat} (hj : j < 3) (e : (t j).1 = false) : fM_answers_v_41 r17 (n + 1) (Int32.ofNat j) (Int32.ofNat g) (Int32.ofNat j) m = fM_answers_v_41 r17 n (Int32.ofNat j) (Int32.ofNat g) (Int32.ofNat (j + 1)) m := by
  obtain ⟨i, a1, a2⟩ := h.2.2 j hj
  have hr := y_round (y_at h.1 h.2.1.1 a2).1
  conv => lhs; unfold fM_answers_v_41
  rw [if_neg (an_n3 hj), a1, Option.bind_some, hr, Option.bind_some, e, if_pos (by decide), if_pos rfl, show Int32.ofNat j + 1 = Int32.ofNat (j + 1) from i_add j 1]
theorem y_tk3 {g : Nat} {m : tk_m} (r17 : Int32 → Int32 → tk_m → Option tk_m) (n : Nat) (v1 : Int32) : fM_answers_v_41 r17 (n + 1) v1 (Int32.ofNat g) (Int32.ofNat (0 + 1 + 1 + 1)) m = fM_answers_v_85 r17 v1 (Int32.ofNat g) m := by
  conv => lhs; unfold fM_answers_v_41
  rw [if_pos (by decide)]
