/-! ===== the reference: all SIGNS ===== -/
section
variable {c : s_sn} {t : Nat → s_sh} {g : Nat} {m : tk_m}
theorem y_cnt1 (hg : g < 8) (h : y_G c t m) (n i : Nat) (hi : i < 3) : fM_doCount_2 (n + 1) (Int32.ofNat g) (Int32.ofNat i) m = if (an_bit g i && decide (s_kind (t i) = 3)) = true then some false else fM_doCount_2 n (Int32.ofNat g) (Int32.ofNat (i + 1)) m := by
  obtain ⟨k, e1, e2⟩ := h.2.2 i hi
  conv => lhs; unfold fM_doCount_2
  rw [if_neg (an_n3 hi), an_yb g hg i hi, e1, Option.bind_some, y_kind h.1 h.2.1.1 e2, Option.bind_some, show Int32.ofNat i + 1 = Int32.ofNat (i + 1) from i_add i 1]
  cases an_bit g i with
  | true =>
    rw [if_pos rfl, if_neg (by decide), Bool.true_and]
    by_cases d : s_kind (t i) = 3
    · rw [if_pos d, if_pos (decide_eq_true d)]
    · rw [if_neg d, if_neg (by rw [decide_eq_false d]; exact fun z => Bool.noConfusion z)]
  | false =>
    rw [if_neg (fun z => Bool.noConfusion z), if_pos (by decide), Bool.false_and, if_neg (fun z => Bool.noConfusion z)]
theorem y_cnt (hg : g < 8) (h : y_G c t m) : fM_doCount (Int32.ofNat g) m = some (an_cnt (t 0) (t 1) (t 2) g) := by
  have e4 : ∀ n, fM_doCount_2 (n + 1) (Int32.ofNat g) (Int32.ofNat (0 + 1 + 1 + 1)) m = some true := fun n => by
    unfold fM_doCount_2
    rw [if_pos (by decide)]
  unfold fM_doCount an_cnt
  rw [show (0 : Int32) = Int32.ofNat 0 from rfl, iv_F, y_cnt1 hg h _ 0 (by decide), y_cnt1 hg h _ (0 + 1) (by decide), y_cnt1 hg h _ (0 + 1 + 1) (by decide), e4]
  cases an_bit g 0 && decide (s_kind (t 0) = 3)
  · rw [if_neg (fun z => Bool.noConfusion z), Bool.false_or]
    cases an_bit g 1 && decide (s_kind (t 1) = 3)
    · rw [if_neg (fun z => Bool.noConfusion z), Bool.false_or]
      cases an_bit g 2 && decide (s_kind (t 2) = 3)
      · rfl
      · rfl
    · rfl
  · rfl
theorem y_fr1 (h : y_G c t m) (n i : Nat) (hi : i < 3) : fM_stays_2 (n + 1) (Int32.ofNat i) m = if (t i).1 = true then fM_stays_2 n (Int32.ofNat (i + 1)) m else some (Int32.ofNat i) := by
  obtain ⟨k, e1, e2⟩ := h.2.2 i hi
  have hr := y_round (y_at h.1 h.2.1.1 e2).1
  conv => lhs; unfold fM_stays_2
  rw [if_neg (an_n3 hi), e1, Option.bind_some, hr, Option.bind_some, show Int32.ofNat i + 1 = Int32.ofNat (i + 1) from i_add i 1]
  cases (t i).1
  · rw [if_pos (by decide), if_neg (by decide)]
  · rw [if_neg (by decide), if_pos rfl]
def y_st (t : Nat → s_sh) : Int32 := if (t 0).1 = true then (if (t 1).1 = true then (if (t 2).1 = true then -1 else 2) else 1) else 0
theorem y_fr (h : y_G c t m) : fM_stays m = some (y_st t) := by
  have e4 : ∀ n, fM_stays_2 (n + 1) (Int32.ofNat (0 + 1 + 1 + 1)) m = some (-1) := fun n => by
    unfold fM_stays_2
    rw [if_pos (by decide)]
  unfold fM_stays y_st
  rw [show (0 : Int32) = Int32.ofNat 0 from rfl, iv_F, y_fr1 h _ 0 (by decide), y_fr1 h _ (0 + 1) (by decide), y_fr1 h _ (0 + 1 + 1) (by decide), e4]
  by_cases c0 : (t 0).1 = true
  · rw [if_pos c0, if_pos c0]
    by_cases c1 : (t (0 + 1)).1 = true
    · rw [if_pos c1, if_pos c1]
      by_cases c2 : (t (0 + 1 + 1)).1 = true
      · rw [if_pos c2, if_pos c2]
      · rw [if_neg c2, if_neg c2]; rfl
    · rw [if_neg c1, if_neg c1]; rfl
  · rw [if_neg c0, if_neg c0]
theorem an_one_add (x y z : s_sh) (g : Nat) (F : an_F) (hc : an_cnt x y z g = true) : an_one x y z g F = an_add (Int32.ofNat g) (an_sol x y z (an_bit g 0) (an_bit g 1) (an_bit g 2)).1 (an_sol x y z (an_bit g 0) (an_bit g 1) (an_bit g 2)).2 F := by
  rw [an_one_eq, if_pos hc]
  unfold an_add
  cases (an_sol x y z (an_bit g 0) (an_bit g 1) (an_bit g 2)).2 <;> rfl
theorem y_one {F : an_F} (hg : g < 8) (h : y_G c t m) (hY : y_Fd F m) (hl : F.2.length ≤ 14) (n : Nat) : ∃ m1, fM_answers_v_17 (n + 1) (y_st t) (Int32.ofNat g) m = fM_answers_v_17 n (y_st t) (Int32.ofNat (g + 1)) m1 ∧ g_F m m1 ∧ y_Fd (an_one (t 0) (t 1) (t 2) g F) m1 := by
  have h8 : ¬ (8 : Int32) ≤ Int32.ofNat g := i_n4 hg
  have eg : Int32.ofNat g + 1 = Int32.ofNat (g + 1) := i_add g 1
  have ok0 := y_G_ok h (n := 0) (by decide)
  have ok1 := y_G_ok h (n := 1) (by decide)
  have ok2 := y_G_ok h (n := 2) (by decide)
  conv => enter [1, m1, 1, 1]; unfold fM_answers_v_17
  rw [if_neg h8, y_cnt hg h, Option.bind_some]
  cases hc : an_cnt (t 0) (t 1) (t 2) g with
  | false =>
    rw [if_neg (fun z => Bool.noConfusion z), eg]
    refine ⟨m, rfl, g_rf m, ?_⟩
    rw [an_one_eq, hc, if_neg (fun z => Bool.noConfusion z)]
    exact hY
  | true =>
    rw [if_pos rfl, an_one_add _ _ _ _ _ hc]
    have qz : q_fr m (tk_u2 m.1 295 16 0, m.2.1, m.2.2.1, m.2.2.2) := ⟨fun _ _ => rfl, fun r k hk => by dsimp only; unfold tk_u2; rw [if_neg hk], rfl⟩
    have z16 : ((tk_u2 m.1 295 16 (0 : Int32), m.2.1, m.2.2.1, m.2.2.2) : tk_m).1 295 16 = Int32.ofNat 0 := by dsimp only; rw [tk_u2_eq]; rfl
    generalize ((tk_u2 m.1 295 16 (0 : Int32), m.2.1, m.2.2.1, m.2.2.2) : tk_m) = mz at *
    have hGq : ∀ M, q_fr m M → y_G c t M := fun M q => y_G_k h (funext fun k => q.2.1 296 k (by omega))
    have hz := hGq mz qz
    have bt : ∀ i, (t i).1 = true → ¬ (t i).1 = false := fun i e z => by rw [e] at z; cases z
    -- the end, with a line
    have cone : ∀ (f : Nat) (p q : s_sh) (bp bq : Bool) (M : tk_m), f < 3 → (t f).1 = false → s_shOk p → s_shOk q → q_fr m M → an_at M 433 (an_n (an_base (t f) (an_bit g f)) p bp) → an_at M 434 (an_n (an_base (t f) (an_bit g f)) q bq) → M.2.1 433 3 = Int64.ofInt (an_T (an_base (t f) (an_bit g f)) p bp) → M.2.1 434 3 = Int64.ofInt (an_T (an_base (t f) (an_bit g f)) q bq) → ∃ m1, fM_answers_v_85 (fM_answers_v_17 n) (Int32.ofNat f) (Int32.ofNat g) M = fM_answers_v_17 n (Int32.ofNat f) (Int32.ofNat (g + 1)) m1 ∧ g_F m m1 ∧ y_Fd (an_add (Int32.ofNat g) (an_base (t f) (an_bit g f)) (an_m2 (an_n (an_base (t f) (an_bit g f)) p bp) (an_n (an_base (t f) (an_bit g f)) q bq) (an_t (an_base (t f) (an_bit g f)) p bp) (an_t (an_base (t f) (an_bit g f)) q bq)) F) m1 := by
      intro f p q bp bq M hf ef op oq qM a0 a1 b0 b1
      have vx := an_base_b (b := an_bit g f) (y_G_ok h hf) ef
      obtain ⟨m1, e1, e2, e3⟩ := y_byLine hg hf (hGq M qM) ef (an_pl_b op vx).1 (an_pl_b oq vx).1 (an_pl_b op vx).2.1 (an_pl_b oq vx).2.1 a0 a1 b0 b1 (y_Fd_q (by omega) hY qM) hl
      refine ⟨m1, ?_, g_tr (g_q qM) e2, e3⟩
      unfold fM_answers_v_85
      rw [if_pos (by rw [Int32.le_iff_toInt_le, i_to (by omega), show (0 : Int32).toInt = 0 from rfl]; omega), e1, Option.bind_some, eg]
    unfold y_st an_sol
    by_cases c0 : (t 0).1 = true
    · rw [if_pos c0, if_neg (bt 0 c0)]
      by_cases c1 : (t 1).1 = true
      · rw [if_pos c1, if_neg (bt 1 c1)]
        by_cases c2 : (t 2).1 = true
        · rw [if_pos c2, if_neg (bt 2 c2), show (0 : Int32) = Int32.ofNat 0 from rfl, iv_F]
          obtain ⟨M1, l1, l2, l3, l4, l5, l6⟩ := y_tk hg hz (fM_answers_v_17 n) (v1 := -1) (B := fun _ => 0) (999995 + 1 + 1 + 1 + 1) (j := 0) (N := 0) (by decide) (by decide) z16 (fun z => absurd z (bt 0 c0))
          obtain ⟨M2, n1, n2, n3, n4, n5, n6⟩ := y_tk hg (hGq M1 (q_tr qz l2)) (fM_answers_v_17 n) (v1 := -1) (B := fun _ => 0) (999995 + 1 + 1 + 1) (j := 0 + 1) (N := 0 + 1) (by decide) (by decide) l3 (fun z => absurd z (bt 1 c1))
          obtain ⟨M3, p1, p2, p3, p4, p5, p6⟩ := y_tk hg (hGq M2 (q_tr (q_tr qz l2) n2)) (fM_answers_v_17 n) (v1 := -1) (B := fun _ => 0) (999995 + 1 + 1) (j := 0 + 1 + 1) (N := 0 + 1 + 1) (by decide) (by decide) n3 (fun z => absurd z (bt 2 c2))
          have q3 := q_tr (q_tr (q_tr qz l2) n2) p2
          rw [l1, n1, p1, y_tk3]
          have w0 := (an_pl_b (B := fun _ => 0) (b := an_bit g 0) ok0 (an_vb0 5)).2.2 c0
          have w1 := (an_pl_b (B := fun _ => 0) (b := an_bit g 1) ok1 (an_vb0 5)).2.2 c1
          have w2 := (an_pl_b (B := fun _ => 0) (b := an_bit g 2) ok2 (an_vb0 5)).2.2 c2
          have eT : ∀ s b, an_T (fun _ => 0) s b = an_t (fun _ => 0) s b := fun s b => by
            unfold an_T
            rw [show an_S (an_n (fun _ => 0) s b) (fun _ => 0) = 0 by unfold an_S; rw [Int.mul_zero, Int.mul_zero, Int.mul_zero]; rfl, Int.mul_zero, Int.add_zero]
          rw [eT] at l6 n6 p6
          have r12 : M3.2.1 433 = M1.2.1 433 := (p4 433 (by decide)).trans (n4 433 (by decide))
          have r13 : M3.2.1 434 = M2.2.1 434 := p4 434 (by decide)
          obtain ⟨m1, e1, e2, e3⟩ := y_byFirst (g := g) (m := M3) (F := F) w0.1 w1.1 w2.1 (w0.2 (fun _ => rfl)) (w1.2 (fun _ => rfl)) (w2.2 (fun _ => rfl)) (fun k hk => by rw [r12]; exact l5 k hk) (fun k hk => by rw [r13]; exact n5 k hk) p5 (by rw [r12]; exact l6) (by rw [r13]; exact n6) p6 (y_Fd_q (by omega) hY q3) hl
          refine ⟨m1, ?_, g_tr (g_q q3) e2, e3⟩
          unfold fM_answers_v_85
          rw [if_neg (by decide), e1, Option.bind_some, eg]
        · have f2 : (t 2).1 = false := by cases e : (t 2).1 with | false => rfl | true => exact absurd e c2
          rw [if_neg c2, if_pos f2, show (2 : Int32) = Int32.ofNat 2 from rfl, show (0 : Int32) = Int32.ofNat 0 from rfl, iv_F]
          obtain ⟨M1, l1, l2, l3, l4, l5, l6⟩ := y_tk hg hz (fM_answers_v_17 n) (v1 := Int32.ofNat 2) (B := an_base (t 2) (an_bit g 2)) (999995 + 1 + 1 + 1 + 1) (j := 0) (N := 0) (by decide) (by decide) z16 (fun z => absurd z (bt 0 c0))
          obtain ⟨M2, n1, n2, n3, n4, n5, n6⟩ := y_tk hg (hGq M1 (q_tr qz l2)) (fM_answers_v_17 n) (v1 := Int32.ofNat 2) (B := an_base (t 2) (an_bit g 2)) (999995 + 1 + 1 + 1) (j := 0 + 1) (N := 0 + 1) (by decide) (by decide) l3 (fun z => absurd z (bt 1 c1))
          have q2 := q_tr (q_tr qz l2) n2
          rw [l1, n1, show (0 + 1 + 1 : Nat) = 2 from rfl, y_tk0 (hGq M2 q2) _ _ (by decide) f2, show (2 + 1 : Nat) = 0 + 1 + 1 + 1 from rfl, y_tk3]
          exact cone 2 _ _ _ _ M2 (by decide) f2 ok0 ok1 q2 (fun k hk => by rw [n4 433 (by decide)]; exact l5 k hk) n5 (by rw [n4 433 (by decide)]; exact l6) n6
      · have f1 : (t 1).1 = false := by cases e : (t 1).1 with | false => rfl | true => exact absurd e c1
        rw [if_neg c1, if_pos f1, show (1 : Int32) = Int32.ofNat 1 from rfl, show (0 : Int32) = Int32.ofNat 0 from rfl, iv_F]
        obtain ⟨M1, l1, l2, l3, l4, l5, l6⟩ := y_tk hg hz (fM_answers_v_17 n) (v1 := Int32.ofNat 1) (B := an_base (t 1) (an_bit g 1)) (999995 + 1 + 1 + 1 + 1) (j := 0) (N := 0) (by decide) (by decide) z16 (fun z => absurd z (bt 0 c0))
        obtain ⟨M2, n1, n2, n3, n4, n5, n6⟩ := y_tk hg (hGq M1 (q_tr qz l2)) (fM_answers_v_17 n) (v1 := Int32.ofNat 1) (B := an_base (t 1) (an_bit g 1)) (999995 + 1 + 1) (j := 2) (N := 0 + 1) (by decide) (by decide) l3 (fun _ => ⟨1, by decide, rfl, f1, rfl, by decide⟩)
        have q2 := q_tr (q_tr qz l2) n2
        rw [l1, show (0 + 1 : Nat) = 1 from rfl, y_tk0 (hGq M1 (q_tr qz l2)) _ _ (by decide) f1, show (1 + 1 : Nat) = 2 from rfl, n1, show (2 + 1 : Nat) = 0 + 1 + 1 + 1 from rfl, y_tk3]
        exact cone 1 _ _ _ _ M2 (by decide) f1 ok0 ok2 q2 (fun k hk => by rw [n4 433 (by decide)]; exact l5 k hk) n5 (by rw [n4 433 (by decide)]; exact l6) n6
    · have f00 : (t 0).1 = false := by cases e : (t 0).1 with | false => rfl | true => exact absurd e c0
      rw [if_neg c0, if_pos f00, show (0 : Int32) = Int32.ofNat 0 from rfl, iv_F]
      obtain ⟨M1, l1, l2, l3, l4, l5, l6⟩ := y_tk hg hz (fM_answers_v_17 n) (v1 := Int32.ofNat 0) (B := an_base (t 0) (an_bit g 0)) (999995 + 1 + 1 + 1) (j := 1) (N := 0) (by decide) (by decide) z16 (fun _ => ⟨0, by decide, rfl, f00, rfl, by decide⟩)
      obtain ⟨M2, n1, n2, n3, n4, n5, n6⟩ := y_tk hg (hGq M1 (q_tr qz l2)) (fM_answers_v_17 n) (v1 := Int32.ofNat 0) (B := an_base (t 0) (an_bit g 0)) (999995 + 1 + 1) (j := 2) (N := 0 + 1) (by decide) (by decide) l3 (fun _ => ⟨0, by decide, rfl, f00, rfl, by decide⟩)
      have q2 := q_tr (q_tr qz l2) n2
      rw [y_tk0 hz _ _ (by decide) f00, show (0 + 1 : Nat) = 1 from rfl, l1, show (1 + 1 : Nat) = 2 from rfl, n1, show (2 + 1 : Nat) = 0 + 1 + 1 + 1 from rfl, y_tk3]
      exact cone 0 _ _ _ _ M2 (by decide) f00 ok1 ok2 q2 (fun k hk => by rw [n4 433 (by decide)]; exact l5 k hk) n5 (by rw [n4 433 (by decide)]; exact l6) n6
theorem y_17 {x y z : s_sh} (e0 : t 0 = x) (e1 : t 1 = y) (e2 : t 2 = z) : ∀ (j g n : Nat) (m : tk_m), g + j = 8 → j < n → y_G c t m → y_Fd (an_upto x y z g) m → ∃ m1, fM_answers_v_17 n (y_st t) (Int32.ofNat g) m = some m1 ∧ y_Fd (an_upto x y z 8) m1 ∧ g_F m m1 := by
  intro j
  induction j with
  | zero =>
    intro g n m h1 h2 h3 h4
    obtain ⟨n, rfl⟩ : ∃ k, n = k + 1 := ⟨n - 1, by omega⟩
    have : g = 8 := by omega
    subst this
    unfold fM_answers_v_17
    rw [if_pos (by decide)]
    exact ⟨m, rfl, h4, g_rf m⟩
  | succ j ih =>
    intro g n m h1 h2 h3 h4
    obtain ⟨n, rfl⟩ : ∃ k, n = k + 1 := ⟨n - 1, by omega⟩
    have hlen := an_upto_len x y z g
    obtain ⟨m1, a1, a2, a3⟩ := y_one (g := g) (by omega) h3 h4 (by omega) n
    have a3' : y_Fd (an_upto x y z (g + 1)) m1 := by
      unfold an_upto
      rw [← e0, ← e1, ← e2]
      rw [← e0, ← e1, ← e2] at a3
      exact a3
    obtain ⟨m2, b1, b2, b3⟩ := ih (g + 1) n m1 (by omega) (by omega) (y_G_k h3 (funext fun k => a2.2.1 296 k (by decide) (by omega))) a3'
    rw [a1]
    exact ⟨m2, b1, b2, g_tr a2 b3⟩
theorem y_ans {x y z : s_sh} (h : y_S c 296 m) (hc : s_snOk c) (h0 : s_at c.1 c.2.1.1 = some x) (h1 : s_at c.1 c.2.1.2.1 = some y) (h2 : s_at c.1 c.2.1.2.2 = some z) : ∃ m1, fM_answers_v m = some m1 ∧ y_Fd (an_upto x y z 8) m1 ∧ g_F m m1 := by
  unfold fM_answers_v
  have gz : g_F m (tk_u2 (tk_u2 m.1 295 10 0) 295 11 0, m.2.1, m.2.2.1, m.2.2.2) := ⟨fun _ _ => rfl, fun r k _ b => by dsimp only; unfold tk_u2; rw [if_neg (by omega), if_neg (by omega)], fun _ _ => rfl, rfl⟩
  have hF0 : y_Fd (an_upto x y z 0) (tk_u2 (tk_u2 m.1 295 10 0) 295 11 0, m.2.1, m.2.2.1, m.2.2.2) := ⟨by dsimp only; rw [tk_u2_nk (by decide), tk_u2_eq]; rfl, by dsimp only; rw [tk_u2_eq]; rfl, fun k c hk => by cases hk⟩
  generalize ((tk_u2 (tk_u2 m.1 295 10 (0 : Int32)) 295 11 (0 : Int32), m.2.1, m.2.2.1, m.2.2.2) : tk_m) = m0 at *
  have hG : y_G c (fun n => if n = 0 then x else if n = 1 then y else z) m0 := y_G_k (y_G_of (t := fun n => if n = 0 then x else if n = 1 then y else z) h hc h0 h1 h2) (funext fun k => gz.2.1 296 k (by decide) (by omega))
  rw [y_fr hG, Option.bind_some, show (0 : Int32) = Int32.ofNat 0 from rfl]
  obtain ⟨m1, a1, a2, a3⟩ := y_17 (x := x) (y := y) (z := z) rfl rfl rfl 8 0 tk_F m0 (by omega) (by unfold tk_F; omega) hG hF0
  exact ⟨m1, a1, a2, g_tr gz a3⟩
end
