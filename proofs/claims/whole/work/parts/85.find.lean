/-! ===== the class: SIGNS to a line ===== -/
def x_G (t : Nat → s_sh) (m : tk_m) : Prop := ∀ n, n < 3 → s_shOk (t n) ∧ ∃ h, 4 ≤ h ∧ h ≤ 9 ∧ fS_given 1 (Int32.ofNat n) m = some h ∧ x_H (t n) h m
theorem x_G_k {t : Nat → s_sh} {m m' : tk_m} (h : x_G t m) (q : ∀ r, r < 10 → tk_row m m' r) : x_G t m' := fun n hn => by
  obtain ⟨h0, a, h1, h2, h3, h4⟩ := h n hn
  refine ⟨h0, a, h1, h2, ?_, x_H_k h4 (q a (by omega))⟩
  unfold fS_given at h3 ⊢
  rw [(q (1 + 2) (by decide)).1, (q (1 + 1) (by decide)).2.2.2]
  exact h3
theorem c_row {m m' : tk_m} (h : c_fr m m') : ∀ r, (r < 39 ∨ (70 < r ∧ r < 199) ∨ 201 < r) → tk_row m m' r := fun r hr => ⟨by rw [h.1], h.2.2 r hr, by rw [h.2.1], by rw [h.2.1]⟩
theorem x_G_c {t : Nat → s_sh} {m m' : tk_m} (h : x_G t m) (q : c_fr m m') : x_G t m' := x_G_k h (fun r hr => c_row q r (by omega))
theorem x_G_of {c : s_sn} {t : Nat → s_sh} {m : tk_m} (h : x_S c 1 m) (hc : s_snOk c) (h0 : s_at c.1 c.2.1.1 = some (t 0)) (h1 : s_at c.1 c.2.1.2.1 = some (t 1)) (h2 : s_at c.1 c.2.1.2.2 = some (t 2)) : x_G t m := by
  have go : ∀ n, n < 3 → ∀ i, s_at c.1 i = some (t n) → m.1 (1 + 2) n = i → s_shOk (t n) ∧ ∃ a, 4 ≤ a ∧ a ≤ 9 ∧ fS_given 1 (Int32.ofNat n) m = some a ∧ x_H (t n) a m := by
    intro n hn i hi hm
    obtain ⟨q1, q2⟩ := x_at h hc.1 hi
    refine ⟨s_at_ok hc hi, 1 + 1 + 2 + (m.2.2.2 (1 + 1) (tk_n i)).val, by omega, by have := (m.2.2.2 (1 + 1) (tk_n i)).isLt; omega, ?_, q2⟩
    unfold fS_given
    rw [if_pos (i_ok hn (by omega)), i_nn (by omega), hm, if_pos q1]
  refine fun n hn => an_3 (P := fun n => s_shOk (t n) ∧ ∃ a, 4 ≤ a ∧ a ≤ 9 ∧ fS_given 1 (Int32.ofNat n) m = some a ∧ x_H (t n) a m) ?_ ?_ ?_ n hn
  · exact go 0 (by decide) _ h0 h.2.2.1.1
  · exact go 1 (by decide) _ h1 h.2.2.1.2.1
  · exact go 2 (by decide) _ h2 h.2.2.1.2.2
theorem an_n3 {i : Nat} (h : i < 3) : ¬ (3 : Int32) ≤ Int32.ofNat i := by
  show ¬ Int32.ofNat 3 ≤ Int32.ofNat i
  rw [i_le (by omega) (by omega)]
  omega
theorem an_hb : ∀ g, g < 8 → ∀ n, n < 3 → fF_hasBit (Int32.ofNat g) (Int32.ofNat n) = an_bit g n := by decide +kernel
section
variable {m : tk_m} {t : Nat → s_sh} {g : Nat}
theorem x_cnt1 (hg : g < 8) (h : x_G t m) (n i : Nat) (hi : i < 3) : fF_doCount_2 (n + 1) 1 (Int32.ofNat g) (Int32.ofNat i) m = if (an_bit g i && decide (s_kind (t i) = 3)) = true then some false else fF_doCount_2 n 1 (Int32.ofNat g) (Int32.ofNat (i + 1)) m := by
  obtain ⟨_, a, _, _, e1, e2⟩ := h i hi
  conv => lhs; unfold fF_doCount_2
  rw [if_neg (an_n3 hi), an_hb g hg i hi, e1, Option.bind_some, x_kind e2, show Int32.ofNat i + 1 = Int32.ofNat (i + 1) from i_add i 1]
  cases an_bit g i with
  | true =>
    rw [if_pos rfl, Bool.true_and]
    by_cases c : s_kind (t i) = 3
    · rw [if_pos c, if_pos (decide_eq_true c)]
    · rw [if_neg c, if_neg (by rw [decide_eq_false c]; exact fun z => Bool.noConfusion z)]
  | false =>
    rw [if_neg (fun z => Bool.noConfusion z), Bool.false_and, if_neg (fun z => Bool.noConfusion z)]
theorem x_cnt (hg : g < 8) (h : x_G t m) : fF_doCount 1 (Int32.ofNat g) m = some (an_cnt (t 0) (t 1) (t 2) g) := by
  have e4 : ∀ n, fF_doCount_2 (n + 1) 1 (Int32.ofNat g) (Int32.ofNat (0 + 1 + 1 + 1)) m = some true := fun n => by
    unfold fF_doCount_2
    rw [if_pos (by decide)]
  unfold fF_doCount an_cnt
  rw [show (0 : Int32) = Int32.ofNat 0 from rfl, iv_F, x_cnt1 hg h _ 0 (by decide), x_cnt1 hg h _ (0 + 1) (by decide), x_cnt1 hg h _ (0 + 1 + 1) (by decide), e4]
  cases an_bit g 0 && decide (s_kind (t 0) = 3)
  · rw [if_neg (fun z => Bool.noConfusion z), Bool.false_or]
    cases an_bit g 1 && decide (s_kind (t 1) = 3)
    · rw [if_neg (fun z => Bool.noConfusion z), Bool.false_or]
      cases an_bit g 2 && decide (s_kind (t 2) = 3)
      · rfl
      · rfl
    · rfl
  · rfl
theorem x_fr1 (h : x_G t m) (n i : Nat) (hi : i < 3) : fF_firstRound_2 (n + 1) 1 (Int32.ofNat i) m = if (t i).1 = true then fF_firstRound_2 n 1 (Int32.ofNat (i + 1)) m else some (Int32.ofNat i) := by
  obtain ⟨_, a, _, _, e1, e2⟩ := h i hi
  conv => lhs; unfold fF_firstRound_2
  rw [if_neg (an_n3 hi), e1, Option.bind_some, e2.1, show Int32.ofNat i + 1 = Int32.ofNat (i + 1) from i_add i 1]
theorem x_fr (h : x_G t m) : fF_firstRound 1 m = some (if (t 0).1 = true then (if (t 1).1 = true then (if (t 2).1 = true then -1 else 2) else 1) else 0) := by
  have e4 : ∀ n, fF_firstRound_2 (n + 1) 1 (Int32.ofNat (0 + 1 + 1 + 1)) m = some (-1) := fun n => by
    unfold fF_firstRound_2
    rw [if_pos (by decide)]
  unfold fF_firstRound
  rw [show (0 : Int32) = Int32.ofNat 0 from rfl, iv_F, x_fr1 h _ 0 (by decide), x_fr1 h _ (0 + 1) (by decide), x_fr1 h _ (0 + 1 + 1) (by decide), e4]
  by_cases c0 : (t 0).1 = true
  · rw [if_pos c0, if_pos c0]
    by_cases c1 : (t (0 + 1)).1 = true
    · rw [if_pos c1, if_pos c1]
      by_cases c2 : (t (0 + 1 + 1)).1 = true
      · rw [if_pos c2, if_pos c2]
      · rw [if_neg c2, if_neg c2]; rfl
    · rw [if_neg c1, if_neg c1]; rfl
  · rw [if_neg c0, if_neg c0]
/-- one plane laid -/
theorem x_lay1 (hg : g < 8) (h : x_G t m) {B : an_V} (hB : an_at m 62 B) (n l i : Nat) (hi : i < 3) (hl : l < 3) {v : Int32} (hv : Int32.ofNat i ≠ v) : ∃ m1, fF_layPlanes_63 (n + 1) 1 (Int32.ofNat g) v (Int32.ofNat l) (Int32.ofNat i) m = fF_layPlanes_63 n 1 (Int32.ofNat g) v (Int32.ofNat (l + 1)) (Int32.ofNat (i + 1)) m1 ∧ c_fr m m1 ∧ (∀ r, r ≠ 199 + l → m1.2.1 r = m.2.1 r) ∧ an_at m1 (199 + l) (an_n B (t i) (an_bit g i)) ∧ m1.2.1 (199 + l) 3 = Int64.ofInt (an_t B (t i) (an_bit g i)) := by
  obtain ⟨e0, a, _, _, e1, e2⟩ := h i hi
  obtain ⟨q1, q2, q3, q4, q5⟩ := x_layPlane (P := 199 + l) (b := an_bit g i) (by omega) e2 e0 hB
  refine ⟨fF_layPlane (199 + l) a (tk_b (an_bit g i)) m, ?_, ⟨q1, q2, fun r hr => q3 r (by omega)⟩, q3, q4, q5⟩
  conv => lhs; unfold fF_layPlanes_63
  rw [if_neg (an_n3 hi), if_neg hv, if_pos (i_ok hl (by omega)), i_nn (show l < 2147483648 by omega), e1, Option.bind_some, an_hb g hg i hi, tk_letE, show Int32.ofNat i + 1 = Int32.ofNat (i + 1) from i_add i 1, show Int32.ofNat l + 1 = Int32.ofNat (l + 1) from i_add l 1]
theorem x_lay0 (n l i : Nat) (hi : i < 3) : fF_layPlanes_63 (n + 1) 1 (Int32.ofNat g) (Int32.ofNat i) (Int32.ofNat l) (Int32.ofNat i) m = fF_layPlanes_63 n 1 (Int32.ofNat g) (Int32.ofNat i) (Int32.ofNat l) (Int32.ofNat (i + 1)) m := by
  conv => lhs; unfold fF_layPlanes_63
  rw [if_neg (an_n3 hi), if_pos rfl, show Int32.ofNat i + 1 = Int32.ofNat (i + 1) from i_add i 1]
theorem x_lay3 (n l : Nat) (v : Int32) : fF_layPlanes_63 (n + 1) 1 (Int32.ofNat g) v (Int32.ofNat l) (Int32.ofNat (0 + 1 + 1 + 1)) m = fF_layPlanes_107 v m := by
  unfold fF_layPlanes_63
  rw [if_pos (by decide)]
theorem x_baseZ {s : s_sh} {a : Nat} {b : Bool} (hh : x_H s a m) (ho : s_shOk s) (e : s.1 = false) : v_fr 62 m (fV_set 62 (Int32.toInt64 (m.1 a 1)) (Int32.toInt64 (m.1 a 2)) (Int32.toInt64 (-(fH_shift a (tk_b b) m))) m) ∧ an_at (fV_set 62 (Int32.toInt64 (m.1 a 1)) (Int32.toInt64 (m.1 a 2)) (Int32.toInt64 (-(fH_shift a (tk_b b) m))) m) 62 (an_base s b) := by
  obtain ⟨a1, a2, a3⟩ := hh.2.1 e
  unfold s_shOk at ho
  rw [e, if_neg (by decide)] at ho
  have b3 : an_bd s.2.2.2.toInt 5 := an_in ho.2.2 (by decide) (by decide)
  have hsh : (-(fH_shift a (tk_b b) m)).toInt = an_z s b := by
    unfold fH_shift an_z
    rw [a3]
    cases b
    · rw [if_pos (by decide), if_neg (by decide), Int32.neg_neg]
    · rw [if_neg (by decide), if_pos rfl]
      exact i_ng b3 (by decide)
  exact v_set (by rw [o_32, a1]; rfl) (by rw [o_32, a2]; rfl) (by rw [o_32, hsh]; rfl)
/-- SIGNS taken to a line -/
def c_sol (t : Nat → s_sh) (g : Nat) : an_V × Option an_R := an_sol (t 0) (t 1) (t 2) (an_bit g 0) (an_bit g 1) (an_bit g 2)
theorem c_solE (t : Nat → s_sh) (g : Nat) : c_sol t g = an_sol (t 0) (t 1) (t 2) (an_bit g 0) (an_bit g 1) (an_bit g 2) := rfl
theorem x_find1 (hg : g < 8) (h : x_G t m) (hc : an_cnt (t 0) (t 1) (t 2) g = true) : ∃ b m1, fF_findBy 1 (Int32.ofNat g) m = fF_findBy_29 (Int32.ofNat g) b m1 ∧ c_fr m m1 ∧ an_at m1 62 (c_sol t g).1 ∧ c_O (c_sol t g).2 b m1 := by
  unfold fF_findBy fF_layPlanes
  rw [x_cnt hg h, Option.bind_some, hc, if_pos rfl, x_fr h, Option.bind_some, tk_letE]
  obtain ⟨g0, k0⟩ := v_set (m := m) (t := 62) (v := fun _ => 0) (x := 0) (y := 0) (z := 0) rfl rfl rfl
  generalize fV_set 62 0 0 0 m = m0 at *
  have f0 : c_fr m m0 := c_v g0 (by decide)
  have h0 := x_G_c h f0
  have ok0 := (h 0 (by decide)).1
  have ok1 := (h 1 (by decide)).1
  have ok2 := (h 2 (by decide)).1
  rw [c_solE]
  unfold an_sol
  -- the cone's end
  have cone : ∀ (v : Int32) (B : an_V) (p q : s_sh) (bp bq : Bool) (M : tk_m), ¬ v < 0 → s_shOk p → s_shOk q → an_vb B 5 → c_fr m M → an_at M 62 B → an_at M 199 (an_n B p bp) → an_at M 200 (an_n B q bq) → M.2.1 199 3 = Int64.ofInt (an_t B p bp) → M.2.1 200 3 = Int64.ofInt (an_t B q bq) → ∃ b m1, ((fF_layPlanes_107 v M).bind fun o3 => if o3.1 = true then tk_let (fF_meetCone o3.2) fun o5 => fF_findBy_29 (Int32.ofNat g) o5.1 o5.2 else tk_let (fF_meetPlanes o3.2) fun o6 => fF_findBy_29 (Int32.ofNat g) o6.1 o6.2) = fF_findBy_29 (Int32.ofNat g) b m1 ∧ c_fr m m1 ∧ an_at m1 62 B ∧ c_O (an_m2 (an_n B p bp) (an_n B q bq) (an_t B p bp) (an_t B q bq)) b m1 := by
    intro v B p q bp bq M hv op oq vB fM a41 a178 a179 a3 a4
    unfold fF_layPlanes_107
    rw [if_neg hv, Option.bind_some, if_pos rfl, tk_letE]
    obtain ⟨y1, y2, y3⟩ := x_meetCone (an_pl_b op vB).1 (an_pl_b oq vB).1 (an_pl_b op vB).2.1 (an_pl_b oq vB).2.1 a178 a179 a3 a4 a41
    exact ⟨_, _, rfl, c_tr fM y1, y2, y3⟩
  -- the base
  have base : ∀ i, i < 3 → (t i).1 = false → ∃ M, ((fS_given 1 (Int32.ofNat i) m0).bind fun o4 => tk_let (fV_set 62 (Int32.toInt64 (m0.1 o4 1)) (Int32.toInt64 (m0.1 o4 2)) (Int32.toInt64 (-(fH_shift o4 (tk_b (fF_hasBit (Int32.ofNat g) (Int32.ofNat i))) m0))) m0) fun o5 => fF_layPlanes_63 tk_F 1 (Int32.ofNat g) (Int32.ofNat i) 0 0 o5) = fF_layPlanes_63 tk_F 1 (Int32.ofNat g) (Int32.ofNat i) 0 0 M ∧ c_fr m M ∧ an_at M 62 (an_base (t i) (an_bit g i)) := by
    intro i hi e
    obtain ⟨e0, a, _, _, e1, e2⟩ := h0 i hi
    rw [e1, Option.bind_some, an_hb g hg i hi, tk_letE]
    obtain ⟨y1, y2⟩ := x_baseZ (b := an_bit g i) e2 e0 e
    exact ⟨_, rfl, c_tr f0 (c_v y1 (by decide)), y2⟩
  have bt : ∀ i, (t i).1 = true → ¬ (t i).1 = false := fun i e z => by rw [e] at z; cases z
  by_cases c0 : (t 0).1 = true
  · rw [if_pos c0, if_neg (bt 0 c0)]
    by_cases c1 : (t 1).1 = true
    · rw [if_pos c1, if_neg (bt 1 c1)]
      by_cases c2 : (t 2).1 = true
      · rw [if_pos c2, if_neg (bt 2 c2), if_pos (by decide), show (0 : Int32) = Int32.ofNat 0 from rfl, iv_F]
        obtain ⟨M1, l1, l2, l3, l4, l5⟩ := x_lay1 hg h0 k0 (999995 + 1 + 1 + 1 + 1) 0 0 (by decide) (by decide) (v := -1) (by decide)
        have k1 : an_at M1 62 (fun _ => 0) := fun k hk => by rw [l3 62 (by decide)]; exact k0 k hk
        obtain ⟨M2, n1, n2, n3, n4, n5⟩ := x_lay1 hg (x_G_c h0 l2) k1 (999995 + 1 + 1 + 1) (0 + 1) (0 + 1) (by decide) (by decide) (v := -1) (by decide)
        have k2 : an_at M2 62 (fun _ => 0) := fun k hk => by rw [n3 62 (by decide)]; exact k1 k hk
        obtain ⟨M3, p1, p2, p3, p4, p5⟩ := x_lay1 hg (x_G_c (x_G_c h0 l2) n2) k2 (999995 + 1 + 1) (0 + 1 + 1) (0 + 1 + 1) (by decide) (by decide) (v := -1) (by decide)
        rw [l1, n1, p1, x_lay3]
        unfold fF_layPlanes_107
        rw [if_pos (by decide), Option.bind_some, if_neg (fun z => Bool.noConfusion z), tk_letE]
        have w0 := (an_pl_b (B := fun _ => 0) (b := an_bit g 0) ok0 (an_vb0 5)).2.2 c0
        have w1 := (an_pl_b (B := fun _ => 0) (b := an_bit g 1) ok1 (an_vb0 5)).2.2 c1
        have w2 := (an_pl_b (B := fun _ => 0) (b := an_bit g 2) ok2 (an_vb0 5)).2.2 c2
        have r178 : M3.2.1 199 = M1.2.1 199 := (p3 199 (by decide)).trans (n3 199 (by decide))
        have r179 : M3.2.1 200 = M2.2.1 200 := p3 200 (by decide)
        obtain ⟨y1, y2, y3⟩ := x_meetPlanes (m := M3) w0.1 w1.1 w2.1 (fun k hk => by rw [r178]; exact l4 k hk) (fun k hk => by rw [r179]; exact n4 k hk) p4 (by rw [r178]; exact l5) (by rw [r179]; exact n5) p5 (B := fun _ => 0) (fun k hk => by rw [p3 62 (by decide)]; exact k2 k hk)
        exact ⟨_, _, rfl, c_tr f0 (c_tr l2 (c_tr n2 (c_tr p2 y1))), y2, y3⟩
      · have f2 : (t 2).1 = false := by cases e : (t 2).1 with | false => rfl | true => exact absurd e c2
        rw [if_neg c2, if_pos f2, if_neg (by decide)]
        obtain ⟨M, b1, b2, b3⟩ := base 2 (by decide) f2
        rw [show (2 : Int32) = Int32.ofNat 2 from rfl, b1, show (0 : Int32) = Int32.ofNat 0 from rfl, iv_F]
        have hM := x_G_c h b2
        obtain ⟨M1, l1, l2, l3, l4, l5⟩ := x_lay1 hg hM b3 (999995 + 1 + 1 + 1 + 1) 0 0 (by decide) (by decide) (v := Int32.ofNat 2) (by decide)
        have k1 : an_at M1 62 (an_base (t 2) (an_bit g 2)) := fun k hk => by rw [l3 62 (by decide)]; exact b3 k hk
        obtain ⟨M2, n1, n2, n3, n4, n5⟩ := x_lay1 hg (x_G_c hM l2) k1 (999995 + 1 + 1 + 1) (0 + 1) (0 + 1) (by decide) (by decide) (v := Int32.ofNat 2) (by decide)
        rw [l1, n1, show (0 + 1 + 1 : Nat) = 2 from rfl, x_lay0 _ 2 2 (by decide), show (2 + 1 : Nat) = 0 + 1 + 1 + 1 from rfl, x_lay3]
        have r178 : M2.2.1 199 = M1.2.1 199 := n3 199 (by decide)
        exact cone _ _ _ _ _ _ M2 (by decide) ok0 ok1 (an_base_b ok2 f2) (c_tr b2 (c_tr l2 n2)) (fun k hk => by rw [n3 62 (by decide)]; exact k1 k hk) (fun k hk => by rw [r178]; exact l4 k hk) n4 (by rw [r178]; exact l5) n5
    · have f1 : (t 1).1 = false := by cases e : (t 1).1 with | false => rfl | true => exact absurd e c1
      rw [if_neg c1, if_pos f1, if_neg (by decide)]
      obtain ⟨M, b1, b2, b3⟩ := base 1 (by decide) f1
      rw [show (1 : Int32) = Int32.ofNat 1 from rfl, b1, show (0 : Int32) = Int32.ofNat 0 from rfl, iv_F]
      have hM := x_G_c h b2
      obtain ⟨M1, l1, l2, l3, l4, l5⟩ := x_lay1 hg hM b3 (999995 + 1 + 1 + 1 + 1) 0 0 (by decide) (by decide) (v := Int32.ofNat 1) (by decide)
      have k1 : an_at M1 62 (an_base (t 1) (an_bit g 1)) := fun k hk => by rw [l3 62 (by decide)]; exact b3 k hk
      obtain ⟨M2, n1, n2, n3, n4, n5⟩ := x_lay1 hg (x_G_c hM l2) k1 (999995 + 1 + 1) 1 2 (by decide) (by decide) (v := Int32.ofNat 1) (by decide)
      rw [l1, show (0 + 1 : Nat) = 1 from rfl, x_lay0 _ 1 1 (by decide), n1, show (2 + 1 : Nat) = 0 + 1 + 1 + 1 from rfl, x_lay3]
      have r178 : M2.2.1 199 = M1.2.1 199 := n3 199 (by decide)
      exact cone _ _ _ _ _ _ M2 (by decide) ok0 ok2 (an_base_b ok1 f1) (c_tr b2 (c_tr l2 n2)) (fun k hk => by rw [n3 62 (by decide)]; exact k1 k hk) (fun k hk => by rw [r178]; exact l4 k hk) n4 (by rw [r178]; exact l5) n5
  · have f00 : (t 0).1 = false := by cases e : (t 0).1 with | false => rfl | true => exact absurd e c0
    rw [if_neg c0, if_pos f00, if_neg (by decide)]
    obtain ⟨M, b1, b2, b3⟩ := base 0 (by decide) f00
    rw [show (0 : Int32) = Int32.ofNat 0 from rfl]
    rw [show (0 : Int32) = Int32.ofNat 0 from rfl] at b1
    rw [b1, iv_F]
    have hM := x_G_c h b2
    obtain ⟨M1, l1, l2, l3, l4, l5⟩ := x_lay1 hg hM b3 (999995 + 1 + 1 + 1) 0 1 (by decide) (by decide) (v := Int32.ofNat 0) (by decide)
    have k1 : an_at M1 62 (an_base (t 0) (an_bit g 0)) := fun k hk => by rw [l3 62 (by decide)]; exact b3 k hk
    obtain ⟨M2, n1, n2, n3, n4, n5⟩ := x_lay1 hg (x_G_c hM l2) k1 (999995 + 1 + 1) (0 + 1) 2 (by decide) (by decide) (v := Int32.ofNat 0) (by decide)
    rw [x_lay0 _ 0 0 (by decide), show (0 + 1 : Nat) = 1 from rfl, l1, show (0 + 1 : Nat) = 1 from rfl, show (1 + 1 : Nat) = 2 from rfl, n1, show (2 + 1 : Nat) = 0 + 1 + 1 + 1 from rfl, x_lay3]
    have r178 : M2.2.1 199 = M1.2.1 199 := n3 199 (by decide)
    exact cone _ _ _ _ _ _ M2 (by decide) ok1 ok2 (an_base_b ok0 f00) (c_tr b2 (c_tr l2 n2)) (fun k hk => by rw [n3 62 (by decide)]; exact k1 k hk) (fun k hk => by rw [r178]; exact l4 k hk) n4 (by rw [r178]; exact l5) n5
theorem x_find0 (hg : g < 8) (h : x_G t m) (hc : an_cnt (t 0) (t 1) (t 2) g = false) : fF_findBy 1 (Int32.ofNat g) m = some m := by
  unfold fF_findBy
  rw [x_cnt hg h, Option.bind_some, hc, if_neg (fun z => Bool.noConfusion z)]
end
