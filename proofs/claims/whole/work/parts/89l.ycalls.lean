/-! ===== the reference's calls on ANSWERS ===== -/
section
variable {a : s_as} {m : tk_m} {α : Type}
theorem y_gF (ha : s_Ok a) (h : y_Y a m) {m1 : tk_m} (q : g_F m m1) : y_Y a m1 ∧ tk_lo m m1 := by
  have hrow : ∀ r, r ≠ 295 → (r < 308 ∨ 441 < r) → tk_row m m1 r := fun r h1 h2 => ⟨funext fun k => q.2.1 r k (by omega) (by omega), q.1 r (by omega), q.2.2.1 r h1, by rw [q.2.2.2]⟩
  obtain ⟨h1, h2, h3, h4, h5⟩ := h
  exact ⟨⟨y_F_k h1 (hrow 306 (by omega) (by omega)), y_S_k h2 (hrow 296 (by omega) (by omega)), y_P_k ha.2.1 h3 (q.2.1 295 2 (by omega) (by omega)) (fun r a b => hrow r (by omega) (by omega)), y_N_k h4 (fun r a b => hrow r (by omega) (by omega)), y_T_k h5 (fun r a b => hrow r (by omega) (by omega))⟩, fun r hr => hrow r (by omega) (by omega)⟩
theorem y_there (ha : s_Ok a) (h : y_Y a m) : fM_areThere m = true ↔ ((s_at a.1.1 a.1.2.1.1).isSome = true ∧ (s_at a.1.1 a.1.2.1.2.1).isSome = true ∧ (s_at a.1.1 a.1.2.1.2.2).isSome = true) := by
  have hT := h.2.1.2.2.1
  unfold fM_areThere
  rw [hT.1, hT.2.1, hT.2.2, y_has h.2.1 (s_len ha), y_has h.2.1 (s_len ha), y_has h.2.1 (s_len ha)]
  cases (s_at a.1.1 a.1.2.1.1).isSome <;> cases (s_at a.1.1 a.1.2.1.2.1).isSome <;> cases (s_at a.1.1 a.1.2.1.2.2).isSome <;> decide
theorem y_whyA (ha : s_Ok a) (h : y_Y a m) (k : Int32) : (s_3 a = none → fM_whyNot k m = some (4, m)) ∧ ∀ f, s_3 a = some f → ∃ m1, fM_whyNot k m = some (an_why k f, m1) ∧ y_Y a m1 ∧ tk_lo m m1 ∧ y_Fd f m1 := by
  unfold fM_whyNot
  refine ⟨fun hn => ?_, fun f hf => ?_⟩
  · rw [if_neg (fun z => s_3n hn ((y_there ha h).mp z))]
  · have hok := s_3ok ha hf
    obtain ⟨x, y, z, h0, h1, h2, rfl⟩ := s_3s hf
    rw [if_pos ((y_there ha h).mpr (by rw [h0, h1, h2]; exact ⟨rfl, rfl, rfl⟩))]
    obtain ⟨m1, e1, e2, e3⟩ := y_ans h.2.1 ha.1 h0 h1 h2
    obtain ⟨g1, g2⟩ := y_gF ha h e3
    rw [e1, Option.bind_some, e2.1]
    refine ⟨m1, ?_, g1, g2, e2⟩
    generalize (an_upto x y z 8) = f at *
    have hl := hok.1
    have e4 : (Int32.ofNat f.2.length - 1).toInt = (f.2.length : Int) - 1 := by rw [i_tsub (by rw [i_to (by omega), show (1 : Int32).toInt = 1 from rfl]; omega), i_to (by omega)]; rfl
    have hin : (fM_in k.toInt64 0 (Int32.ofNat f.2.length - 1).toInt64 = true) ↔ (¬ k < 0 ∧ ¬ Int32.ofNat f.2.length ≤ k) := by
      rw [w_inM, Int64.lt_iff_toInt_lt, Int64.lt_iff_toInt_lt, Int32.toInt_toInt64, Int32.toInt_toInt64, e4, show (0 : Int64).toInt = 0 from rfl, Int32.lt_iff_toInt_lt, Int32.le_iff_toInt_le, i_to (by omega), show (0 : Int32).toInt = 0 from rfl]
      omega
    unfold an_why
    by_cases c1 : k < 0
    · rw [if_pos c1, if_neg (fun q => (hin.mp q).1 c1)]
    · rw [if_neg c1]
      by_cases c2 : Int32.ofNat f.2.length ≤ k
      · rw [if_pos c2, if_neg (fun q => (hin.mp q).2 c2)]
      · rw [if_neg c2, if_pos (hin.mpr ⟨c1, c2⟩)]
theorem y_39 {f : an_F} (hl : f.2.length ≤ 16) (hY : y_Fd f m) (w : Int32) : ∀ (j k n : Nat) (v : Int32), k + j = f.2.length → j < n → fM_answers_I_39 n w v (Int32.ofNat k) m = fM_answers_I_64 w ((f.2.drop k).foldl (fun v c => v ||| tk_ishl 1 c.1) v) m := by
  intro j
  induction j with
  | zero =>
    intro k n v h1 h2
    obtain ⟨n, rfl⟩ : ∃ k, n = k + 1 := ⟨n - 1, by omega⟩
    unfold fM_answers_I_39
    rw [hY.1, if_pos (by rw [i_le (by omega) (by omega)]; omega), List.drop_eq_nil_of_le (by omega)]
    rfl
  | succ j ih =>
    intro k n v h1 h2
    obtain ⟨n, rfl⟩ : ∃ k, n = k + 1 := ⟨n - 1, by omega⟩
    have hk : k < f.2.length := by omega
    unfold fM_answers_I_39
    rw [hY.1, if_neg (i_nle hk (by omega)), if_pos (i_ok (show k < 16 by omega) (by omega)), i_nn (show k < 2147483648 by omega), show Int32.ofNat k + 1 = Int32.ofNat (k + 1) from i_add k 1, ih (k + 1) n _ (by omega) (by omega), List.drop_eq_getElem_cons hk, List.foldl_cons, (hY.2.2 k _ (List.getElem?_eq_getElem hk)).1]
theorem y_answers (ha : s_Ok a) (h : y_Y a m) (w : Int32) : y_does m (fM_answers_I w m) (o_answers w a) := by
  unfold fM_answers_I o_answers
  refine y_ite (by rw [← w_eq (v := w) (a := 0) (b := 2)]; rfl) (fun _ => ?_) (fun _ => y_bt (y_find ha h 0 (by decide)))
  cases e : s_3 a with
  | none =>
    rw [if_neg (fun z => s_3n e ((y_there ha h).mp z))]
    exact y_bt (y_find ha h 4 (by decide))
  | some f =>
    have hok := s_3ok ha e
    obtain ⟨x, y, z, h0, h1, h2, rfl⟩ := s_3s e
    rw [if_pos ((y_there ha h).mpr (by rw [h0, h1, h2]; exact ⟨rfl, rfl, rfl⟩))]
    obtain ⟨m1, e1, e2, e3⟩ := y_ans h.2.1 ha.1 h0 h1 h2
    obtain ⟨g1, g2⟩ := y_gF ha h e3
    rw [e1, Option.bind_some]
    refine y_chain g2 ?_
    have e4 := y_39 hok.1 e2 w (an_upto x y z 8).2.length 0 tk_F 0 (by omega) (by have := hok.1; unfold tk_F; omega)
    rw [show fM_answers_I_39 tk_F w 0 0 m1 = _ from e4, List.drop_zero]
    unfold fM_answers_I_64
    rw [e2.1, e2.2.1]
    dsimp only
    by_cases c0 : w = 0
    · rw [if_pos c0, if_pos c0]; exact y_same g1 _
    · rw [if_neg c0, if_neg c0]
      by_cases c1 : w = 1
      · rw [if_pos c1, if_pos c1]; exact y_same g1 _
      · rw [if_neg c1, if_neg c1]; exact y_same g1 _
theorem an_why_s {k : Int32} {f : an_F} : (an_why k f < 0 ↔ ¬ 0 ≤ an_why k f) := by
  unfold an_why
  split
  · decide
  · split <;> decide
theorem y_signs (ha : s_Ok a) (h : y_Y a m) (k : Int32) : y_does m (fM_signs k m) (o_signs k a) := by
  unfold fM_signs o_signs
  obtain ⟨q1, q2⟩ := y_whyA ha h k
  cases e : s_3 a with
  | none =>
    rw [q1 e, Option.bind_some, if_pos (show (0 : Int32) ≤ 4 by decide)]
    exact y_bt (y_find ha h 4 (by decide))
  | some f =>
    obtain ⟨m1, e1, e2, e3, e4⟩ := q2 f e
    rw [e1, Option.bind_some]
    dsimp only
    refine y_chain e3 ?_
    by_cases c : an_why k f < 0
    · rw [if_neg (an_why_s.mp c), if_pos c]
      obtain ⟨i, c', rfl, hi, hi2, hc, hg, _⟩ := an_why_n c (s_3ok ha e).1
      rw [hg]
      refine y_grd (i_ok hi2 (by omega)) ?_
      rw [i_nn (by omega), (e4.2.2 i c' hc).1]
      exact y_same e2 _
    · rw [if_pos (by by_cases z : 0 ≤ an_why k f; exact z; exact absurd (an_why_s.mpr z) c), if_neg c, an_why_p c]
      exact y_bt (y_find ha e2 3 (by decide))
theorem y_answer (ha : s_Ok a) (h : y_Y a m) (k p w : Int32) : y_does m (fM_answer k p w m) (o_answer k p w a) := by
  unfold fM_answer o_answer
  refine y_ite (by rw [← w_eq (v := p) (a := 0) (b := 2)]; rfl) (fun g1 => y_ite (by rw [← w_eq (v := w) (a := 0) (b := 3)]; rfl) (fun g2 => ?_) (fun _ => y_bt (y_findl ha h 0 (by decide)))) (fun _ => y_bt (y_findl ha h 0 (by decide)))
  obtain ⟨q1, q2⟩ := y_whyA ha h k
  cases e : s_3 a with
  | none =>
    rw [q1 e, Option.bind_some, if_pos (show (0 : Int32) ≤ 4 by decide)]
    exact y_bt (y_findl ha h 4 (by decide))
  | some f =>
    obtain ⟨m1, e1, e2, e3, e4⟩ := q2 f e
    rw [e1, Option.bind_some]
    dsimp only
    refine y_chain e3 ?_
    by_cases c : an_why k f < 0
    · rw [if_neg (an_why_s.mp c), if_pos c]
      obtain ⟨i, c', rfl, hi, hi2, hc, hg, _⟩ := an_why_n c (s_3ok ha e).1
      obtain ⟨j, hj, hj1, hj2, hj3⟩ := s_w3p g1
      rw [hg]
      refine y_grd (i_ok hi2 (by omega)) (y_grd (by rw [hj1]; exact i_ok hj (by omega)) ?_)
      obtain ⟨n0, n1, n2, n3⟩ := (e4.2.2 i c' hc).2.2.2.2 j hj
      rw [hj2, i_nn (show i < 2147483648 by omega)]
      unfold s_part
      rcases s_w4 g2 with rfl | rfl | rfl | rfl
      · rw [if_pos (by decide), if_pos rfl]
        show y_does m1 (some (m1.2.1 (351 + 4 * i + 1 + j) 0, m1)) _
        rw [n0]; exact y_same e2 _
      · rw [if_pos (by decide), if_neg (by decide), if_pos rfl]
        show y_does m1 (some (m1.2.1 (351 + 4 * i + 1 + j) 1, m1)) _
        rw [n1]; exact y_same e2 _
      · rw [if_pos (by decide), if_neg (by decide), if_neg (by decide), if_pos rfl]
        show y_does m1 (some (m1.2.1 (351 + 4 * i + 1 + j) 2, m1)) _
        rw [n2]; exact y_same e2 _
      · rw [if_pos (by decide), if_neg (by decide), if_neg (by decide), if_neg (by decide)]
        show y_does m1 (some (m1.2.1 (351 + 4 * i + 1 + j) 3, m1)) _
        rw [n3]; exact y_same e2 _
    · rw [if_pos (by by_cases z : 0 ≤ an_why k f; exact z; exact absurd (an_why_s.mpr z) c), if_neg c, an_why_p c]
      exact y_bt (y_findl ha e2 3 (by decide))
theorem y_ut {f : an_F} (hf : an_fok f) (w : Int32) : ∀ (j k fd n : Nat) (m : tk_m), k + j = f.2.length → j < n → fd < f.2.length → y_Fd f m → ∃ m1, fM_best_37 n w (Int32.ofNat fd) (Int32.ofNat k) m = some (Int32.ofNat (an_ut w f.2 j fd k), m1) ∧ wd_fr m m1 := by
  intro j
  induction j with
  | zero =>
    intro k fd n m h1 h2 h3 h4
    obtain ⟨n, rfl⟩ : ∃ k, n = k + 1 := ⟨n - 1, by omega⟩
    unfold fM_best_37
    rw [h4.1, if_pos (by rw [i_le (by have := hf.1; omega) (by have := hf.1; omega)]; omega)]
    exact ⟨m, rfl, wd_fr_rf m⟩
  | succ j ih =>
    intro k fd n m h1 h2 h3 h4
    obtain ⟨n, rfl⟩ : ∃ k, n = k + 1 := ⟨n - 1, by omega⟩
    have hl := hf.1
    obtain ⟨k1, k2⟩ := an_nth_of (l := f.2) (k := k) (by omega)
    obtain ⟨f1, f2⟩ := an_nth_of (l := f.2) (k := fd) (by omega)
    obtain ⟨m1, e1, e2⟩ := y_cmp (tk_al331 k (by omega) 2 (by decide)) (tk_al331 fd (by omega) 2 (by decide)) (y_num_h (h4.2.2 k _ k1).2 (by decide)) (y_num_h (h4.2.2 fd _ f1).2 (by decide)) (an_num_ok (hf.2 _ k2) (by decide)) (an_num_ok (hf.2 _ f2) (by decide))
    have h4' : y_Fd f m1 := y_Fd_wd h4 e2
    unfold fM_best_37
    rw [h4.1, if_neg (i_nle (by omega) (by omega)), if_pos (i_ok (show k < 16 by omega) (by omega)), if_pos (i_ok (show fd < 16 by omega) (by omega)), i_nn (show k < 2147483648 by omega), i_nn (show fd < 2147483648 by omega), e1, Option.bind_some, show Int32.ofNat k + 1 = Int32.ofNat (k + 1) from i_add k 1]
    unfold an_ut an_kp
    dsimp only
    obtain ⟨m2, a1, a2⟩ := ih (k + 1) fd n m1 (by omega) (by omega) h3 h4'
    obtain ⟨m3, b1, b2⟩ := ih (k + 1) k n m1 (by omega) (by omega) (by omega) h4'
    by_cases w0 : w = 0
    · rw [if_pos w0, if_pos w0]
      by_cases c : s_cmp (an_num (an_nth f.2 k) 2) (an_num (an_nth f.2 fd) 2) ≤ 0
      · rw [if_pos c, if_pos (decide_eq_true c)]
        exact ⟨m2, a1, wd_fr_tr e2 a2⟩
      · rw [if_neg c, if_neg (by rw [decide_eq_false c]; exact fun z => Bool.noConfusion z)]
        exact ⟨m3, b1, wd_fr_tr e2 b2⟩
    · rw [if_neg w0, if_neg w0]
      by_cases c : 0 ≤ s_cmp (an_num (an_nth f.2 k) 2) (an_num (an_nth f.2 fd) 2)
      · rw [if_pos c, if_pos (decide_eq_true c)]
        exact ⟨m2, a1, wd_fr_tr e2 a2⟩
      · rw [if_neg c, if_neg (by rw [decide_eq_false c]; exact fun z => Bool.noConfusion z)]
        exact ⟨m3, b1, wd_fr_tr e2 b2⟩
theorem y_best (ha : s_Ok a) (h : y_Y a m) (w : Int32) : y_does m (fM_best w m) (o_best w a) := by
  unfold fM_best o_best
  refine y_ite (by rw [← w_eq (v := w) (a := 0) (b := 1)]; rfl) (fun g1 => ?_) (fun _ => y_bt (y_find ha h 0 (by decide)))
  obtain ⟨q1, q2⟩ := y_whyA ha h 0
  cases e : s_3 a with
  | none =>
    rw [q1 e, Option.bind_some, if_neg (show ¬ (4 : Int32) < 0 by decide)]
    exact y_bt (y_find ha h 4 (by decide))
  | some f =>
    obtain ⟨m1, e1, e2, e3, e4⟩ := q2 f e
    rw [e1, Option.bind_some]
    dsimp only
    refine y_chain e3 (y_ite Iff.rfl (fun c => ?_) (fun c => ?_))
    · obtain ⟨i, c', _, hi, hi2, hc, hg, _⟩ := an_why_n c (s_3ok ha e).1
      obtain ⟨m2, a1, a2⟩ := y_ut (s_3ok ha e) w (f.2.length - 1) 1 0 tk_F m1 (by omega) (by have := (s_3ok ha e).1; unfold tk_F; omega) (by omega) e4
      rw [show fM_best_37 tk_F w 0 1 m1 = _ from a1]
      exact y_scrd ha e2 a2 _
    · rw [an_why_p c]
      exact y_bt (y_find ha e2 3 (by decide))
theorem y_rk {f : an_F} (hf : an_fok f) {i : Nat} (hi : i < f.2.length) : ∀ (j k c n : Nat) (m : tk_m), k + j = f.2.length → j < n → y_Fd f m → ∃ m1, fM_rank_21 n (Int32.ofNat i) (Int32.ofNat c) (Int32.ofNat k) m = some (Int32.ofNat (an_rk f.2 (an_num (an_nth f.2 i) 2) j c k), m1) ∧ wd_fr m m1 := by
  intro j
  induction j with
  | zero =>
    intro k c n m h1 h2 h4
    obtain ⟨n, rfl⟩ : ∃ k, n = k + 1 := ⟨n - 1, by omega⟩
    unfold fM_rank_21
    rw [h4.1, if_pos (by rw [i_le (by have := hf.1; omega) (by have := hf.1; omega)]; omega)]
    exact ⟨m, rfl, wd_fr_rf m⟩
  | succ j ih =>
    intro k c n m h1 h2 h4
    obtain ⟨n, rfl⟩ : ∃ k, n = k + 1 := ⟨n - 1, by omega⟩
    have hl := hf.1
    obtain ⟨k1, k2⟩ := an_nth_of (l := f.2) (k := k) (by omega)
    obtain ⟨f1, f2⟩ := an_nth_of (l := f.2) (k := i) hi
    obtain ⟨m1, e1, e2⟩ := y_cmp (tk_al331 k (by omega) 2 (by decide)) (tk_al331 i (by omega) 2 (by decide)) (y_num_h (h4.2.2 k _ k1).2 (by decide)) (y_num_h (h4.2.2 i _ f1).2 (by decide)) (an_num_ok (hf.2 _ k2) (by decide)) (an_num_ok (hf.2 _ f2) (by decide))
    have h4' : y_Fd f m1 := y_Fd_wd h4 e2
    have e0 : Int32.ofNat c + 0 = Int32.ofNat c := i_add c 0
    unfold fM_rank_21
    rw [h4.1, if_neg (i_nle (by omega) (by omega)), if_pos (i_ok (show k < 16 by omega) (by omega)), if_pos (i_ok (show i < 16 by omega) (by omega)), i_nn (show k < 2147483648 by omega), i_nn (show i < 2147483648 by omega), e1, Option.bind_some, show Int32.ofNat k + 1 = Int32.ofNat (k + 1) from i_add k 1, show Int32.ofNat c + 1 = Int32.ofNat (c + 1) from i_add c 1, e0]
    have hc := s_cmp_cs (an_num (an_nth f.2 k) 2) (an_num (an_nth f.2 i) 2)
    have hk : (0 ≤ s_cmp (an_num (an_nth f.2 k) 2) (an_num (an_nth f.2 i) 2)) ↔ ¬ s_cmp (an_num (an_nth f.2 k) 2) (an_num (an_nth f.2 i) 2) < 0 := by
      rcases hc with c | c | c <;> rw [c] <;> decide
    unfold an_rk
    dsimp only
    by_cases d : s_cmp (an_num (an_nth f.2 k) 2) (an_num (an_nth f.2 i) 2) < 0
    · rw [if_neg (fun z => (hk.mp z) d), if_pos d]
      obtain ⟨m2, a1, a2⟩ := ih (k + 1) (c + 1) n m1 (by omega) (by omega) h4'
      exact ⟨m2, a1, wd_fr_tr e2 a2⟩
    · rw [if_pos (hk.mpr d), if_neg d]
      obtain ⟨m2, a1, a2⟩ := ih (k + 1) c n m1 (by omega) (by omega) h4'
      exact ⟨m2, a1, wd_fr_tr e2 a2⟩
theorem y_rank (ha : s_Ok a) (h : y_Y a m) (k : Int32) : y_does m (fM_rank k m) (o_rank k a) := by
  unfold fM_rank o_rank
  obtain ⟨q1, q2⟩ := y_whyA ha h k
  cases e : s_3 a with
  | none =>
    rw [q1 e, Option.bind_some, if_neg (show ¬ (4 : Int32) < 0 by decide)]
    exact y_bt (y_find ha h 4 (by decide))
  | some f =>
    obtain ⟨m1, e1, e2, e3, e4⟩ := q2 f e
    rw [e1, Option.bind_some]
    dsimp only
    refine y_chain e3 (y_ite Iff.rfl (fun c => ?_) (fun c => ?_))
    · obtain ⟨i, c', rfl, hi, hi2, hc, hg, hm⟩ := an_why_n c (s_3ok ha e).1
      have hn : an_nth f.2 i = c' := by unfold an_nth; rw [hc]; rfl
      rw [hg, ← hn]
      obtain ⟨m2, a1, a2⟩ := y_rk (s_3ok ha e) hi f.2.length 0 0 tk_F m1 (by omega) (by have := (s_3ok ha e).1; unfold tk_F; omega) e4
      rw [show fM_rank_21 tk_F (Int32.ofNat i) 0 0 m1 = _ from a1]
      exact y_scrd ha e2 a2 _
    · rw [an_why_p c]
      exact y_bt (y_find ha e2 3 (by decide))
theorem y_put (ha : s_Ok a) (h : y_Y a m) (s k p : Int32) : y_does m (fM_put s k p m) (o_put s k p a) := by
  unfold fM_put o_put
  refine y_ite (by rw [y_isSpot]) (fun g1 => y_ite (by rw [← w_eq (v := p) (a := 0) (b := 2)]; rfl) (fun g2 => ?_) (fun _ => y_bt (y_find ha h 0 (by decide)))) (fun _ => y_bt (y_find ha h 0 (by decide)))
  obtain ⟨q1, q2⟩ := y_whyA ha h k
  cases e : s_3 a with
  | none =>
    rw [q1 e, Option.bind_some, if_neg (show ¬ (4 : Int32) < 0 by decide)]
    exact y_bt (y_find ha h 4 (by decide))
  | some f =>
    obtain ⟨m1, e1, e2, e3, e4⟩ := q2 f e
    rw [e1, Option.bind_some]
    dsimp only
    refine y_chain e3 (y_ite Iff.rfl (fun c => ?_) (fun c => ?_))
    · obtain ⟨i, c', rfl, hi, hi2, hc, hg, hm⟩ := an_why_n c (s_3ok ha e).1
      obtain ⟨j, hj, hj1, hj2, hj3⟩ := s_w3p g2
      obtain ⟨q, hq, rfl⟩ := s_spotI g1
      rw [hg]
      refine y_grd (i_ok hi2 (by omega)) (y_grd (by rw [hj1]; exact i_ok hj (by omega)) ?_)
      rw [hj2, i_nn (show i < 2147483648 by omega), i_nn (show q < 2147483648 by omega)]
      obtain ⟨n0, n1, n2, n3⟩ := (e4.2.2 i c' hc).2.2.2.2 j hj
      exact y_keep ha e2 hq (tk_al331 i hi2 j hj) (by omega) (fun _ _ => rfl) rfl (fun q _ => ⟨fun _ => rfl, fun _ => tk_row_rf m1 q⟩) n0 n1 n2 n3 _
    · rw [an_why_p c]
      exact y_bt (y_find ha e2 3 (by decide))
end
