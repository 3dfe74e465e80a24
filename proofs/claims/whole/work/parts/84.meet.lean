/-! ===== the class: planes, and where they meet ===== -/
/-- only the finder's vectors and its two longs have changed -/
def c_fr (m m' : tk_m) : Prop := m'.1 = m.1 ∧ m'.2.2 = m.2.2 ∧ ∀ r, (r < 39 ∨ (70 < r ∧ r < 199) ∨ 201 < r) → m'.2.1 r = m.2.1 r
theorem c_rf (m : tk_m) : c_fr m m := ⟨rfl, rfl, fun _ _ => rfl⟩
theorem c_tr {m m1 m2 : tk_m} (h : c_fr m m1) (h2 : c_fr m1 m2) : c_fr m m2 := ⟨h2.1.trans h.1, h2.2.1.trans h.2.1, fun r hr => (h2.2.2 r hr).trans (h.2.2 r hr)⟩
theorem c_v {t : Nat} {m m' : tk_m} (h : v_fr t m m') (ht : (39 ≤ t ∧ t ≤ 70) ∨ (199 ≤ t ∧ t ≤ 201)) : c_fr m m' := ⟨h.1, h.2.1, fun r hr => h.2.2.1 r (by omega)⟩
theorem at_eq {m : tk_m} {r : Nat} {v w : an_V} (h : an_at m r v) (e : ∀ k, k < 3 → v k = w k) : an_at m r w := fun k hk => by rw [← e k hk]; exact h k hk
theorem at_any (m : tk_m) (r : Nat) : an_at m r (fun k => (m.2.1 r k).toInt) := fun k _ => (Int64.ofInt_toInt _).symm
theorem i_ng {x : Int32} {n : Nat} (h : an_bd x.toInt n) (hn : n < 2147483648) : (-x).toInt = -x.toInt := by
  unfold an_bd at h
  rw [Int32.toInt_neg]
  exact Int.bmod_eq_of_le (by omega) (by omega)
theorem tk_b1 (b : Bool) : (tk_b b = 0 ↔ b = false) := by cases b <;> decide
theorem tk_letE {α β : Type} (x : α) (f : α → β) : tk_let x f = f x := rfl
theorem o_two : (2 : Int64) = Int64.ofInt 2 := rfl
theorem o_four : (4 : Int64) = Int64.ofInt 4 := rfl
section
variable {m : tk_m}
theorem x_layPlane {P h : Nat} {B : an_V} {s : s_sh} {b : Bool} (hP : 199 ≤ P) (hh : x_H s h m) (ho : s_shOk s) (hB : an_at m 62 B) : (fF_layPlane P h (tk_b b) m).1 = m.1 ∧ (fF_layPlane P h (tk_b b) m).2.2 = m.2.2 ∧ (∀ r, r ≠ P → (fF_layPlane P h (tk_b b) m).2.1 r = m.2.1 r) ∧ an_at (fF_layPlane P h (tk_b b) m) P (an_n B s b) ∧ (fF_layPlane P h (tk_b b) m).2.1 P 3 = Int64.ofInt (an_t B s b) := by
  have hP2 : (62 : Nat) ≠ P := by omega
  obtain ⟨h1, h2, h3⟩ := hh
  have ho' := ho
  unfold fF_layPlane s_shOk at *
  rw [h1]
  have hn := an_n B s b
  cases e : s.1 with
  | true =>
    rw [e, if_pos rfl] at ho
    rw [if_pos rfl]
    obtain ⟨a1, a2, a3, a4, a5⟩ := h3 e
    obtain ⟨A, C, L, q1, q2, q3, q4⟩ := an_slv ho.1
    have hsl : (fH_slope h (tk_b b) m).toInt = if b = true then (s_L s.2.1).toInt else -(s_L s.2.1).toInt := by
      unfold fH_slope
      rw [a5]
      cases b
      · rw [if_pos (by decide), if_neg (by decide)]
        exact i_ng (n := 10) (by unfold an_bd; omega) (by decide)
      · rw [if_neg (by decide), if_pos rfl]
    have en : an_n B s b = an_v (s_A s.2.1).toInt (s_B s.2.1).toInt (if b = true then (s_L s.2.1).toInt else -(s_L s.2.1).toInt) := by unfold an_n; rw [e, if_pos rfl]
    obtain ⟨g1, g2⟩ := v_set (m := m) (t := P) (v := an_n B s b) (x := Int32.toInt64 (m.1 h 6)) (y := Int32.toInt64 (m.1 h 7)) (z := Int32.toInt64 (fH_slope h (tk_b b) m)) (by rw [o_32, a3, en]; rfl) (by rw [o_32, a4, en]; rfl) (by rw [o_32, hsl, en]; rfl)
    generalize fV_set P (Int32.toInt64 (m.1 h 6)) (Int32.toInt64 (m.1 h 7)) (Int32.toInt64 (fH_slope h (tk_b b) m)) m = m1 at *
    rw [tk_letE]; (try dsimp only)
    refine ⟨g1.1, g1.2.1, fun r hr => ?_, fun k hk => ?_, ?_⟩
    · (try dsimp only); rw [tk_u2_ne hr]; exact g1.2.2.1 r hr
    · (try dsimp only); rw [tk_u2_nk (by omega)]; exact g2 k hk
    · (try dsimp only)
      rw [tk_u2_eq, v_S g2 (at_fr hB hP2 g1), g1.1, a2, o_32, o_sub]
      rw [o_two, o_mul]
      unfold an_t
      rw [e, if_pos rfl]
  | false =>
    rw [e, if_neg (by decide)] at ho
    rw [if_neg (by decide)]
    obtain ⟨a1, a2, a3⟩ := h2 e
    have hsh : (fH_shift h (tk_b b) m).toInt = -an_z s b := by
      unfold fH_shift an_z
      rw [a3]
      cases b
      · rw [if_pos (by decide), if_neg (by decide)]
        exact i_ng (an_in (n := 5) ho.2.2 (by decide) (by decide)) (by decide)
      · rw [if_neg (by decide), if_pos rfl, Int.neg_neg]
    have en : an_n B s b = an_v (s.2.1.toInt - B 0) (s.2.2.1.toInt - B 1) (B 2 - an_z s b) := by unfold an_n; rw [e, if_neg (by decide)]
    obtain ⟨g1, g2⟩ := v_set (m := m) (t := P) (v := an_n B s b) (x := Int32.toInt64 (m.1 h 1) - m.2.1 62 0) (y := Int32.toInt64 (m.1 h 2) - m.2.1 62 1) (z := Int32.toInt64 (fH_shift h (tk_b b) m) + m.2.1 62 2) (by rw [o_32, a1, hB 0 (by decide), o_sub, en]; rfl) (by rw [o_32, a2, hB 1 (by decide), o_sub, en]; rfl) (by rw [o_32, hsh, hB 2 (by decide), o_add, en, an_v2, Int.add_comm]; rfl)
    generalize fV_set P (Int32.toInt64 (m.1 h 1) - m.2.1 62 0) (Int32.toInt64 (m.1 h 2) - m.2.1 62 1) (Int32.toInt64 (fH_shift h (tk_b b) m) + m.2.1 62 2) m = m1 at *
    rw [tk_letE]; (try dsimp only)
    refine ⟨g1.1, g1.2.1, fun r hr => ?_, fun k hk => ?_, ?_⟩
    · (try dsimp only); rw [tk_u2_ne hr]; exact g1.2.2.1 r hr
    · (try dsimp only); rw [tk_u2_nk (by omega)]; exact g2 k hk
    · (try dsimp only)
      rw [tk_u2_eq, v_B g2 g2]
      unfold an_t
      rw [e, if_neg (by decide)]
/-- what a line comes to, as the finder holds it -/
def c_R (r : an_R) (m : tk_m) : Prop := m.2.1 39 12 = Int64.ofInt r.1 ∧ (0 ≤ r.1 → an_at m 66 r.2.1 ∧ m.2.1 39 13 = Int64.ofInt r.2.2.2) ∧ (0 < r.1 → an_at m 64 r.2.2.1)
def c_O (o : Option an_R) (b : Bool) (m : tk_m) : Prop := (o = none → b = true) ∧ ∀ r, o = some r → b = false ∧ c_R r m
theorem x_pierce {a b : an_V} {s t : Int} (ha : an_at m 199 a) (hb : an_at m 200 b) (hs : m.2.1 199 3 = Int64.ofInt s) (ht : m.2.1 200 3 = Int64.ofInt t) (hw : an_at m 64 (an_X a b)) {B : an_V} (hB : an_at m 62 B) : c_fr m (fF_pierceCone 199 200 m) ∧ an_at (fF_pierceCone 199 200 m) 62 B ∧ c_R (an_sq a b s t, an_st a b s t, an_X a b, 2 * an_B (an_X a b) (an_X a b)) (fF_pierceCone 199 200 m) := by
  have e00 := v_B ha ha
  have e01 := v_B ha hb
  have e11 := v_B hb hb
  have e0 : fV_bentProduct 199 200 m * m.2.1 200 3 - fV_bentProduct 200 200 m * m.2.1 199 3 = Int64.ofInt (an_b0 a b s t) := by rw [e01, e11, hs, ht, o_mul, o_mul, o_sub]; rfl
  have e1 : fV_bentProduct 199 200 m * m.2.1 199 3 - fV_bentProduct 199 199 m * m.2.1 200 3 = Int64.ofInt (an_b1 a b s t) := by rw [e01, e00, hs, ht, o_mul, o_mul, o_sub]; rfl
  unfold fF_pierceCone
  rw [e0, e1]
  obtain ⟨g1, k1⟩ := v_set (m := m) (t := 66) (v := fun _ => 0) (x := 0) (y := 0) (z := 0) rfl rfl rfl
  generalize fV_set 66 0 0 0 m = m1 at *
  rw [tk_letE]; (try dsimp only)
  obtain ⟨g2, k2⟩ := v_addB (t := 66) (a := 199) (f := Int64.ofInt (an_b0 a b s t)) (c := an_b0 a b s t) (by decide) rfl k1 (at_fr ha (by decide) g1)
  generalize fV_addBent 66 (Int64.ofInt (an_b0 a b s t)) 199 m1 = m2 at *
  rw [tk_letE]; (try dsimp only)
  obtain ⟨g3, k3⟩ := v_addB (t := 66) (a := 200) (f := Int64.ofInt (an_b1 a b s t)) (c := an_b1 a b s t) (by decide) rfl k2 (at_fr (at_fr hb (by decide) g1) (by decide) g2)
  generalize fV_addBent 66 (Int64.ofInt (an_b1 a b s t)) 200 m2 = m3 at *
  rw [tk_letE]; (try dsimp only)
  have hc : c_fr m m3 := c_tr (c_v g1 (by decide)) (c_tr (c_v g2 (by decide)) (c_v g3 (by decide)))
  have h3 : ∀ r, r ≠ 66 → m3.2.1 r = m.2.1 r := fun r hr => (g3.2.2.1 r hr).trans ((g2.2.2.1 r hr).trans (g1.2.2.1 r hr))
  have hw3 : an_at (m3.1, tk_u2 m3.2.1 39 12 (Int64.ofInt (an_sq a b s t)), m3.2.2.1, m3.2.2.2) 64 (an_X a b) := fun k hk => by dsimp only; rw [tk_u2_ne (by decide), h3 64 (by decide)]; exact hw k hk
  have eq : (-(Int64.ofInt (an_b0 a b s t))) * (m3.2.1 199 3) - (Int64.ofInt (an_b1 a b s t)) * (m3.2.1 200 3) = Int64.ofInt (an_sq a b s t) := by
    rw [h3 199 (by decide), h3 200 (by decide), hs, ht, o_neg, o_mul, o_mul, o_sub]; rfl
  rw [eq, v_B hw3 hw3, o_two, o_mul]
  refine ⟨⟨hc.1, hc.2.1, fun r hr => ?_⟩, fun k hk => ?_, ?_, fun _ => ⟨fun k hk => ?_, ?_⟩, fun _ k hk => ?_⟩
  · (try dsimp only); rw [tk_u2_ne (by omega), tk_u2_ne (by omega)]; exact hc.2.2 r hr
  · (try dsimp only); rw [tk_u2_ne (by decide), tk_u2_ne (by decide), h3 62 (by decide)]; exact hB k hk
  · (try dsimp only); rw [tk_u2_nk (by decide), tk_u2_eq]
  · (try dsimp only); rw [tk_u2_ne (by decide), tk_u2_ne (by decide), k3 k hk]; refine congrArg Int64.ofInt ?_; dsimp only; rw [Int.zero_add]; rfl
  · (try dsimp only); rw [tk_u2_eq]
  · (try dsimp only); rw [tk_u2_ne (by decide), tk_u2_ne (by decide), h3 64 (by decide)]; exact hw k hk
theorem x_follow {a b : an_V} {s t : Int} (va : an_vb a 10) (vb : an_vb b 10) (vs : an_bd s 200) (vt : an_bd t 200) (ha : an_at m 199 a) (hb : an_at m 200 b) (hs : m.2.1 199 3 = Int64.ofInt s) (ht : m.2.1 200 3 = Int64.ofInt t) (hw : an_at m 64 (an_X a b)) {B : an_V} (hB : an_at m 62 B) : c_fr m (fF_followEdge m).2 ∧ an_at (fF_followEdge m).2 62 B ∧ c_O (if an_B (an_W a b s t) (an_X a b) = 0 then (if an_B (an_W a b s t) (an_W a b s t) = 0 then none else some (-1, (fun _ => 0), (fun _ => 0), 1)) else some (0, an_L (2 * an_B (an_W a b s t) (an_X a b)) (an_W a b s t) (- an_B (an_W a b s t) (an_W a b s t)) (an_X a b), (fun _ => 0), 4 * an_B (an_W a b s t) (an_X a b) * an_S (an_X a b) (an_X a b))) (fF_followEdge m).1 (fF_followEdge m).2 := by
  obtain ⟨z1, z2, z3, z4, z5, z6⟩ := an_sz va vb vs vt
  have bl : an_bd (an_B (an_W a b s t) (an_X a b)) 960000000 := vb_B z6 z1 (by decide)
  have bo : an_bd (an_B (an_W a b s t) (an_W a b s t)) 7680000000000 := vb_B z6 z6 (by decide)
  unfold fF_followEdge
  obtain ⟨g1, k1⟩ := v_set (m := m) (t := 67) (v := fun _ => 0) (x := 0) (y := 0) (z := 0) rfl rfl rfl
  generalize fV_set 67 0 0 0 m = m1 at *
  rw [tk_letE]; (try dsimp only)
  obtain ⟨g2, k2⟩ := v_cross (m := m1) (t := 65) (at_fr hb (by decide) g1) (at_fr hw (by decide) g1)
  generalize fV_takeCross 65 200 64 m1 = m2 at *
  rw [tk_letE]; (try dsimp only)
  have h2 : ∀ r, r ≠ 67 → r ≠ 65 → m2.2.1 r = m.2.1 r := fun r q1 q2 => (g2.2.2.1 r q2).trans (g1.2.2.1 r q1)
  obtain ⟨g3, k3⟩ := v_add (m := m2) (t := 67) (a := 65) (f := m2.2.1 199 3) (c := s) (by decide) (by rw [h2 199 (by decide) (by decide)]; exact hs) (at_fr k1 (by decide) g2) k2
  generalize fV_add 67 (m2.2.1 199 3) 65 m2 = m3 at *
  rw [tk_letE]; (try dsimp only)
  have h3 : ∀ r, r ≠ 67 → r ≠ 65 → m3.2.1 r = m.2.1 r := fun r q1 q2 => (g3.2.2.1 r q1).trans (h2 r q1 q2)
  obtain ⟨g4, k4⟩ := v_cross (m := m3) (t := 65) (a := 64) (b := 199) (v := an_X a b) (w := a) (fun k hk => by rw [h3 64 (by decide) (by decide)]; exact hw k hk) (fun k hk => by rw [h3 199 (by decide) (by decide)]; exact ha k hk)
  generalize fV_takeCross 65 64 199 m3 = m4 at *
  rw [tk_letE]; (try dsimp only)
  have h4 : ∀ r, r ≠ 67 → r ≠ 65 → m4.2.1 r = m.2.1 r := fun r q1 q2 => (g4.2.2.1 r q2).trans (h3 r q1 q2)
  obtain ⟨g5, k5⟩ := v_add (m := m4) (t := 67) (a := 65) (f := m4.2.1 200 3) (c := t) (by decide) (by rw [h4 200 (by decide) (by decide)]; exact ht) (at_fr k3 (by decide) g4) k4
  generalize fV_add 67 (m4.2.1 200 3) 65 m4 = m5 at *
  rw [tk_letE]; (try dsimp only)
  have h5 : ∀ r, r ≠ 67 → r ≠ 65 → m5.2.1 r = m.2.1 r := fun r q1 q2 => (g5.2.2.1 r q1).trans (h4 r q1 q2)
  have hc5 : c_fr m m5 := c_tr (c_v g1 (by decide)) (c_tr (c_v g2 (by decide)) (c_tr (c_v g3 (by decide)) (c_tr (c_v g4 (by decide)) (c_v g5 (by decide)))))
  have hW : an_at m5 67 (an_W a b s t) := at_eq k5 (fun k hk => by rw [Int.zero_add]; rfl)
  have hw5 : an_at m5 64 (an_X a b) := fun k hk => by rw [h5 64 (by decide) (by decide)]; exact hw k hk
  have hB5 : an_at m5 62 B := fun k hk => by rw [h5 62 (by decide) (by decide)]; exact hB k hk
  rw [v_B hW hw5, v_B hW hW]
  by_cases c1 : an_B (an_W a b s t) (an_X a b) = 0
  · rw [if_pos ((o_z bl (by decide)).mpr c1), if_pos c1]
    have e39 : ∀ r, r ≠ 39 → tk_u2 m5.2.1 39 12 (-1 : Int64) r = m5.2.1 r := fun r hr => tk_u2_ne hr
    by_cases c2 : an_B (an_W a b s t) (an_W a b s t) = 0
    · rw [if_pos ((o_z bo (by decide)).mpr c2), if_pos c2]
      refine ⟨⟨hc5.1, hc5.2.1, fun r hr => ?_⟩, fun k hk => ?_, fun _ => rfl, fun r hr => by cases hr⟩
      · (try dsimp only); rw [e39 r (by omega)]; exact hc5.2.2 r hr
      · (try dsimp only); rw [e39 62 (by decide)]; exact hB5 k hk
    · rw [if_neg (fun z => c2 ((o_z bo (by decide)).mp z)), if_neg c2]
      refine ⟨⟨hc5.1, hc5.2.1, fun r hr => ?_⟩, fun k hk => ?_, fun z => (by cases z), fun r hr => ?_⟩
      · (try dsimp only); rw [e39 r (by omega)]; exact hc5.2.2 r hr
      · (try dsimp only); rw [e39 62 (by decide)]; exact hB5 k hk
      · cases hr
        refine ⟨rfl, ?_, fun z => absurd z (by decide), fun z => absurd z (by decide)⟩
        dsimp only; rw [tk_u2_eq]; rfl
  · rw [if_neg (fun z => c1 ((o_z bl (by decide)).mp z)), if_neg c1]
    obtain ⟨g8, k8⟩ := v_set (m := m5) (t := 66) (v := fun _ => 0) (x := 0) (y := 0) (z := 0) rfl rfl rfl
    generalize fV_set 66 0 0 0 m5 = m8 at *
    rw [tk_letE]; (try dsimp only)
    rw [o_two, o_mul]
    obtain ⟨g9, k9⟩ := v_add (m := m8) (t := 66) (a := 67) (f := Int64.ofInt (2 * an_B (an_W a b s t) (an_X a b))) (by decide) rfl k8 (at_fr hW (by decide) g8)
    generalize fV_add 66 (Int64.ofInt (2 * an_B (an_W a b s t) (an_X a b))) 67 m8 = m9 at *
    rw [tk_letE]; (try dsimp only)
    rw [o_neg]
    obtain ⟨g10, k10⟩ := v_add (m := m9) (t := 66) (a := 64) (f := Int64.ofInt (-an_B (an_W a b s t) (an_W a b s t))) (by decide) rfl k9 (at_fr (at_fr hw5 (by decide) g8) (by decide) g9)
    generalize fV_add 66 (Int64.ofInt (-an_B (an_W a b s t) (an_W a b s t))) 64 m9 = m10 at *
    rw [tk_letE]; (try dsimp only)
    have h10 : ∀ r, r ≠ 66 → m10.2.1 r = m5.2.1 r := fun r q => (g10.2.2.1 r q).trans ((g9.2.2.1 r q).trans (g8.2.2.1 r q))
    have hc10 : c_fr m m10 := c_tr hc5 (c_tr (c_v g8 (by decide)) (c_tr (c_v g9 (by decide)) (c_v g10 (by decide))))
    have hw10 : an_at (m10.1, tk_u2 m10.2.1 39 12 (0 : Int64), m10.2.2.1, m10.2.2.2) 64 (an_X a b) := fun k hk => by dsimp only; rw [tk_u2_ne (by decide), h10 64 (by decide)]; exact hw5 k hk
    rw [v_S hw10 hw10, o_four, o_mul, o_mul]
    refine ⟨⟨hc10.1, hc10.2.1, fun r hr => ?_⟩, fun k hk => ?_, fun z => (by cases z), fun r hr => ?_⟩
    · (try dsimp only); rw [tk_u2_ne (by omega), tk_u2_ne (by omega)]; exact hc10.2.2 r hr
    · (try dsimp only); rw [tk_u2_ne (by decide), tk_u2_ne (by decide), h10 62 (by decide)]; exact hB5 k hk
    · cases hr
      refine ⟨rfl, ?_, fun _ => ⟨fun k hk => ?_, ?_⟩, fun z => absurd z (show ¬ (0 : Int) < 0 by decide)⟩
      · (try dsimp only); rw [tk_u2_nk (by decide), tk_u2_eq]; rfl
      · (try dsimp only); rw [tk_u2_ne (by decide), tk_u2_ne (by decide), k10 k hk]; refine congrArg Int64.ofInt ?_; dsimp only; rw [Int.zero_add]; rfl
      · (try dsimp only); rw [tk_u2_eq]
theorem x_meetCone {a b : an_V} {s t : Int} (va : an_vb a 10) (vb : an_vb b 10) (vs : an_bd s 200) (vt : an_bd t 200) (ha : an_at m 199 a) (hb : an_at m 200 b) (hs : m.2.1 199 3 = Int64.ofInt s) (ht : m.2.1 200 3 = Int64.ofInt t) {B : an_V} (hB : an_at m 62 B) : c_fr m (fF_meetCone m).2 ∧ an_at (fF_meetCone m).2 62 B ∧ c_O (an_m2 a b s t) (fF_meetCone m).1 (fF_meetCone m).2 := by
  obtain ⟨z1, z2, z3, z4, z5, z6⟩ := an_sz va vb vs vt
  unfold fF_meetCone an_m2
  obtain ⟨g1, k1⟩ := v_cross (m := m) (t := 64) ha hb
  generalize fV_takeCross 64 199 200 m = m1 at *
  rw [tk_letE]; (try dsimp only)
  have ha1 := at_fr ha (by decide) g1
  have hb1 := at_fr hb (by decide) g1
  have hB1 := at_fr hB (by decide) g1
  have hz := v_zero k1 (fun k hk => bd_le (z1 k hk) (by decide))
  by_cases c1 : an_X a b 0 = 0 ∧ an_X a b 1 = 0 ∧ an_X a b 2 = 0
  · rw [if_pos (hz.mpr c1), if_pos c1]
    exact ⟨c_v g1 (by decide), hB1, fun _ => rfl, fun r hr => by cases hr⟩
  · rw [if_neg (fun z => c1 (hz.mp z)), if_neg c1, v_B k1 k1]
    have hs1 : m1.2.1 199 3 = Int64.ofInt s := by rw [g1.2.2.1 199 (by decide)]; exact hs
    have ht1 : m1.2.1 200 3 = Int64.ofInt t := by rw [g1.2.2.1 200 (by decide)]; exact ht
    by_cases c2 : an_B (an_X a b) (an_X a b) = 0
    · rw [if_pos ((o_z z3 (by decide)).mpr c2), if_pos c2, tk_letE]
      obtain ⟨q1, q2, q3⟩ := x_follow va vb vs vt ha1 hb1 hs1 ht1 k1 hB1
      exact ⟨c_tr (c_v g1 (by decide)) q1, q2, q3⟩
    · rw [if_neg (fun z => c2 ((o_z z3 (by decide)).mp z)), if_neg c2, tk_letE]
      obtain ⟨q1, q2, q3⟩ := x_pierce ha1 hb1 hs1 ht1 k1 hB1
      exact ⟨c_tr (c_v g1 (by decide)) q1, q2, fun z => (by cases z), fun r hr => by cases hr; exact ⟨rfl, q3⟩⟩
theorem x_meetPlanes {a b c : an_V} {p q r : Int} (va : an_vb a 5) (vb : an_vb b 5) (vc : an_vb c 5) (ha : an_at m 199 a) (hb : an_at m 200 b) (hc : an_at m 201 c) (hp : m.2.1 199 3 = Int64.ofInt p) (hq : m.2.1 200 3 = Int64.ofInt q) (hr : m.2.1 201 3 = Int64.ofInt r) {B : an_V} (hB : an_at m 62 B) : c_fr m (fF_meetPlanes m).2 ∧ an_at (fF_meetPlanes m).2 62 B ∧ c_O (an_m3 a b c p q r) (fF_meetPlanes m).1 (fF_meetPlanes m).2 := by
  have bV : an_bd (an_S a (an_X b c)) 1000000 := vb_S va (vb_X vb vc (Nat.le_refl _)) (by decide)
  unfold fF_meetPlanes an_m3
  obtain ⟨g1, k1⟩ := v_cross (m := m) (t := 65) hb hc
  generalize fV_takeCross 65 200 201 m = m1 at *
  rw [tk_letE]; (try dsimp only)
  rw [v_S (at_fr ha (by decide) g1) k1]
  by_cases c1 : an_S a (an_X b c) = 0
  · rw [if_pos ((o_z bV (by decide)).mpr c1), if_pos c1]
    exact ⟨c_v g1 (by decide), at_fr hB (by decide) g1, fun _ => rfl, fun r hr => by cases hr⟩
  · rw [if_neg (fun z => c1 ((o_z bV (by decide)).mp z)), if_neg c1]
    obtain ⟨g3, k3⟩ := v_set (m := m1) (t := 66) (v := fun _ => 0) (x := 0) (y := 0) (z := 0) rfl rfl rfl
    generalize fV_set 66 0 0 0 m1 = m3 at *
    rw [tk_letE]; (try dsimp only)
    have h3 : ∀ r, r ≠ 66 → r ≠ 65 → m3.2.1 r = m.2.1 r := fun r q1 q2 => (g3.2.2.1 r q1).trans (g1.2.2.1 r q2)
    obtain ⟨g4, k4⟩ := v_add (m := m3) (t := 66) (a := 65) (f := m3.2.1 199 3) (c := p) (by decide) (by rw [h3 199 (by decide) (by decide)]; exact hp) k3 (at_fr k1 (by decide) g3)
    generalize fV_add 66 (m3.2.1 199 3) 65 m3 = m4 at *
    rw [tk_letE]; (try dsimp only)
    have h4 : ∀ r, r ≠ 66 → r ≠ 65 → m4.2.1 r = m.2.1 r := fun r q1 q2 => (g4.2.2.1 r q1).trans (h3 r q1 q2)
    obtain ⟨g5, k5⟩ := v_cross (m := m4) (t := 65) (a := 201) (b := 199) (v := c) (w := a) (fun k hk => by rw [h4 201 (by decide) (by decide)]; exact hc k hk) (fun k hk => by rw [h4 199 (by decide) (by decide)]; exact ha k hk)
    generalize fV_takeCross 65 201 199 m4 = m5 at *
    rw [tk_letE]; (try dsimp only)
    have h5 : ∀ r, r ≠ 66 → r ≠ 65 → m5.2.1 r = m.2.1 r := fun r q1 q2 => (g5.2.2.1 r q2).trans (h4 r q1 q2)
    obtain ⟨g6, k6⟩ := v_add (m := m5) (t := 66) (a := 65) (f := m5.2.1 200 3) (c := q) (by decide) (by rw [h5 200 (by decide) (by decide)]; exact hq) (at_fr k4 (by decide) g5) k5
    generalize fV_add 66 (m5.2.1 200 3) 65 m5 = m6 at *
    rw [tk_letE]; (try dsimp only)
    have h6 : ∀ r, r ≠ 66 → r ≠ 65 → m6.2.1 r = m.2.1 r := fun r q1 q2 => (g6.2.2.1 r q1).trans (h5 r q1 q2)
    obtain ⟨g7, k7⟩ := v_cross (m := m6) (t := 65) (a := 199) (b := 200) (v := a) (w := b) (fun k hk => by rw [h6 199 (by decide) (by decide)]; exact ha k hk) (fun k hk => by rw [h6 200 (by decide) (by decide)]; exact hb k hk)
    generalize fV_takeCross 65 199 200 m6 = m7 at *
    rw [tk_letE]; (try dsimp only)
    have h7 : ∀ r, r ≠ 66 → r ≠ 65 → m7.2.1 r = m.2.1 r := fun r q1 q2 => (g7.2.2.1 r q2).trans (h6 r q1 q2)
    obtain ⟨g8, k8⟩ := v_add (m := m7) (t := 66) (a := 65) (f := m7.2.1 201 3) (c := r) (by decide) (by rw [h7 201 (by decide) (by decide)]; exact hr) (at_fr k6 (by decide) g7) k7
    generalize fV_add 66 (m7.2.1 201 3) 65 m7 = m8 at *
    rw [tk_letE]; (try dsimp only)
    have h8 : ∀ r, r ≠ 66 → r ≠ 65 → m8.2.1 r = m.2.1 r := fun r q1 q2 => (g8.2.2.1 r q1).trans (h7 r q1 q2)
    have hc8 : c_fr m m8 := c_tr (c_v g1 (by decide)) (c_tr (c_v g3 (by decide)) (c_tr (c_v g4 (by decide)) (c_tr (c_v g5 (by decide)) (c_tr (c_v g6 (by decide)) (c_tr (c_v g7 (by decide)) (c_v g8 (by decide)))))))
    rw [o_two, o_mul]
    refine ⟨⟨hc8.1, hc8.2.1, fun r hr => ?_⟩, fun k hk => ?_, fun z => (by cases z), fun R hR => ?_⟩
    · (try dsimp only); rw [tk_u2_ne (by omega), tk_u2_ne (by omega)]; exact hc8.2.2 r hr
    · (try dsimp only); rw [tk_u2_ne (by decide), tk_u2_ne (by decide), h8 62 (by decide) (by decide)]; exact hB k hk
    · cases hR
      refine ⟨rfl, ?_, fun _ => ⟨fun k hk => ?_, ?_⟩, fun z => absurd z (show ¬ (0 : Int) < 0 by decide)⟩
      · (try dsimp only); rw [tk_u2_nk (by decide), tk_u2_eq]; rfl
      · (try dsimp only); rw [tk_u2_ne (by decide), tk_u2_ne (by decide), k8 k hk]; refine congrArg Int64.ofInt ?_; dsimp only; rw [Int.zero_add]
      · (try dsimp only); rw [tk_u2_eq]
end
