/-! ===== the class: whether there is such an ANSWER; calls ===== -/
theorem x_31 {x y z : s_sh} {t : Nat → s_sh} (e0 : t 0 = x) (e1 : t 1 = y) (e2 : t 2 = z) (k : Int32) : ∀ (j g n : Nat) (m : tk_m), g + j = 8 → j < n → x_G t m → x_Fd (an_upto x y z g) m → ∃ m1, fX_missesAnswer_31 n k (Int32.ofNat g) m = fX_missesAnswer_55 k m1 ∧ x_Fd (an_upto x y z 8) m1 ∧ ∀ q, (q < 39 ∨ 201 < q) → tk_row m m1 q := by
  intro j
  induction j with
  | zero =>
    intro g n m h1 h2 h3 h4
    obtain ⟨n, rfl⟩ : ∃ k, n = k + 1 := ⟨n - 1, by omega⟩
    have : g = 8 := by omega
    subst this
    unfold fX_missesAnswer_31
    rw [if_pos (by decide)]
    exact ⟨m, rfl, h4, fun q _ => tk_row_rf m q⟩
  | succ j ih =>
    intro g n m h1 h2 h3 h4
    obtain ⟨n, rfl⟩ : ∃ k, n = k + 1 := ⟨n - 1, by omega⟩
    have hlen := an_upto_len x y z g
    obtain ⟨m1, a1, a2, a3⟩ := x_findBy (g := g) (by omega) h3 (by omega) h4
    have h8 : ¬ (8 : Int32) ≤ Int32.ofNat g := by
      show ¬ Int32.ofNat 8 ≤ Int32.ofNat g
      rw [i_le (by omega) (by omega)]
      omega
    unfold fX_missesAnswer_31
    rw [if_neg h8, a1, Option.bind_some, show Int32.ofNat g + 1 = Int32.ofNat (g + 1) from i_add g 1]
    have a2' : x_Fd (an_upto x y z (g + 1)) m1 := by
      unfold an_upto
      rw [← e0, ← e1, ← e2]
      rw [← e0, ← e1, ← e2] at a2
      exact a2
    obtain ⟨m2, b1, b2, b3⟩ := ih (g + 1) n m1 (by omega) (by omega) (x_G_k h3 (fun r hr => a3 r (by omega))) a2'
    exact ⟨m2, b1, b2, fun q hq => tk_row_tr (a3 q hq) (b3 q hq)⟩
/-- what the finder's rows hold while nothing has changed -/
def an_K (l : List s_sh) (T : Int32 × Int32 × Int32) (m : tk_m) : Prop := ∀ x y z, s_at l T.1 = some x → s_at l T.2.1 = some y → s_at l T.2.2 = some z → x_Fd (an_upto x y z 8) m
theorem an_HK : x_K an_K := fun _ _ _ _ q h x y z h0 h1 h2 => x_Fd_k (an_upto_len x y z 8) (h x y z h0 h1 h2) q
/-- the ANSWERS of the scene; none: the three aren't there -/
noncomputable def s_3 (a : s_as) : Option an_F := match s_at a.1.1 a.1.2.1.1, s_at a.1.1 a.1.2.1.2.1, s_at a.1.1 a.1.2.1.2.2 with
  | some x, some y, some z => some (an_upto x y z 8)
  | _, _, _ => none
theorem s_3s {a : s_as} {f : an_F} (h : s_3 a = some f) : ∃ x y z, s_at a.1.1 a.1.2.1.1 = some x ∧ s_at a.1.1 a.1.2.1.2.1 = some y ∧ s_at a.1.1 a.1.2.1.2.2 = some z ∧ f = an_upto x y z 8 := by
  unfold s_3 at h
  split at h
  · rename_i x y z h0 h1 h2
    exact ⟨x, y, z, h0, h1, h2, (Option.some.inj h).symm⟩
  · cases h
theorem s_3n {a : s_as} (h : s_3 a = none) : ¬ ((s_at a.1.1 a.1.2.1.1).isSome = true ∧ (s_at a.1.1 a.1.2.1.2.1).isSome = true ∧ (s_at a.1.1 a.1.2.1.2.2).isSome = true) := by
  rintro ⟨h0, h1, h2⟩
  obtain ⟨x, e0⟩ := s_isS h0
  obtain ⟨y, e1⟩ := s_isS h1
  obtain ⟨z, e2⟩ := s_isS h2
  unfold s_3 at h
  rw [e0, e1, e2] at h
  cases h
def an_fok (f : an_F) : Prop := f.2.length ≤ 16 ∧ ∀ c ∈ f.2, an_cok c
theorem s_3ok {a : s_as} {f : an_F} (ha : s_Ok a) (h : s_3 a = some f) : an_fok f := by
  obtain ⟨x, y, z, h0, h1, h2, rfl⟩ := s_3s h
  exact ⟨an_upto_len x y z 8, (an_upto_ok (s_at_ok ha.1 h0) (s_at_ok ha.1 h1) (s_at_ok ha.1 h2) 8).1⟩
def an_why (k : Int32) (f : an_F) : Int32 := if k < 0 then 3 else if Int32.ofNat f.2.length ≤ k then 3 else -1
section
variable {a : s_as} {m : tk_m} {α : Type}
theorem x_S_fl {c : s_sn} {m' : tk_m} (h : x_S c 1 m) (e1 : ∀ r, 1 ≤ r → r < 10 → m'.1 r = m.1 r) (e2 : ∀ r, 4 ≤ r → r < 10 → m'.2.2.1 r = m.2.2.1 r) (e3 : m'.2.2.2 2 = m.2.2.2 2) : x_S c 1 m' := by
  obtain ⟨h1, h2, h3, h4, h5⟩ := h
  have q1 := e1 1 (by decide) (by decide)
  have q3 := e1 (1 + 2) (by decide) (by decide)
  have e3' : m'.2.2.2 (1 + 1) = m.2.2.2 (1 + 1) := e3
  refine ⟨by rw [q1]; exact h1, by rw [q1]; exact h2, by rw [q3]; exact h3, fun i s hs => ?_, by rw [e3']; exact h5⟩
  have hh := h4 i s hs
  have hl := (m.2.2.2 (1 + 1) i).isLt
  rw [e3']
  unfold x_H at *
  rw [e1 _ (by omega) (by omega), e2 _ (by omega) (by omega)]
  exact hh
theorem x_misses (ha : s_Ok a) (h : x_X an_K a m) (k : Int32) : (s_3 a = none → fX_missesAnswer k m = some (4, m)) ∧ ∀ f, s_3 a = some f → ∃ m1, fX_missesAnswer k m = some (an_why k f, m1) ∧ x_X an_K a m1 ∧ tk_hi m m1 ∧ x_Fd f m1 := by
  have hT := h.2.1.2.2.1
  have h3 : fS_hasThree 1 m = true ↔ ((s_at a.1.1 a.1.2.1.1).isSome = true ∧ (s_at a.1.1 a.1.2.1.2.1).isSome = true ∧ (s_at a.1.1 a.1.2.1.2.2).isSome = true) := by
    unfold fS_hasThree
    rw [hT.1, hT.2.1, hT.2.2, x_has h.2.1 (s_len ha), x_has h.2.1 (s_len ha), x_has h.2.1 (s_len ha)]
    cases (s_at a.1.1 a.1.2.1.1).isSome <;> cases (s_at a.1.1 a.1.2.1.2.1).isSome <;> cases (s_at a.1.1 a.1.2.1.2.2).isSome <;> decide
  unfold fX_missesAnswer
  refine ⟨fun hn => ?_, fun f hf => ?_⟩
  · rw [if_neg (fun z => s_3n hn (h3.mp z))]
  · obtain ⟨x, y, z, h0, h1, h2, rfl⟩ := s_3s hf
    rw [if_pos (h3.mpr (by rw [h0, h1, h2]; exact ⟨rfl, rfl, rfl⟩))]
    cases hc : m.2.2.1 1 4 with
    | false =>
      have hF : x_Fd (an_upto x y z 8) m := h.2.2.2.2.2.2 hc x y z h0 h1 h2
      rw [if_neg (fun z => Bool.noConfusion z), hF.1]
      refine ⟨m, ?_, h, fun r _ => tk_row_rf m r, hF⟩
      unfold an_why
      by_cases c1 : k < 0
      · rw [if_pos c1, if_pos c1]
      · rw [if_neg c1, if_neg c1]
        by_cases c2 : Int32.ofNat (an_upto x y z 8).2.length ≤ k
        · rw [if_pos c2, if_pos c2]
        · rw [if_neg c2, if_neg c2]
    | true =>
      rw [if_pos rfl, tk_letE]
      have fr : ∀ r, r ≠ 39 → tk_row m (fF_forget m) r := fun r hr => by
        unfold fF_forget
        exact ⟨by dsimp only; rw [tk_u2_ne hr, tk_u2_ne hr, tk_u2_ne hr], rfl, rfl, rfl⟩
      have hF0 : x_Fd (an_upto x y z 0) (fF_forget m) := by
        unfold fF_forget
        refine ⟨?_, ?_, ?_, fun k c hk => by cases hk⟩
        · dsimp only; rw [tk_u2_nk (by decide), tk_u2_nk (by decide), tk_u2_eq]; rfl
        · dsimp only; rw [tk_u2_nk (by decide), tk_u2_eq]; rfl
        · dsimp only; rw [tk_u2_eq]; rfl
      generalize fF_forget m = m0 at *
      have hG : x_G (fun n => if n = 0 then x else if n = 1 then y else z) m0 := x_G_k (x_G_of (t := fun n => if n = 0 then x else if n = 1 then y else z) h.2.1 ha.1 h0 h1 h2) (fun r hr => fr r (by omega))
      obtain ⟨m1, a1, a2, a3⟩ := x_31 (x := x) (y := y) (z := z) rfl rfl rfl k 8 0 tk_F m0 (by omega) (by unfold tk_F; omega) hG hF0
      rw [show (0 : Int32) = Int32.ofNat 0 from rfl, a1]
      have e : fX_missesAnswer_55 k m1 = some (an_why k (an_upto x y z 8), (m1.1, m1.2.1, tk_u2 m1.2.2.1 1 4 false, m1.2.2.2)) := by
        unfold fX_missesAnswer_55 an_why
        rw [a2.1]
        by_cases c1 : k < 0
        · rw [if_pos c1, if_pos c1]
        · rw [if_neg c1, if_neg c1]
          by_cases c2 : Int32.ofNat (an_upto x y z 8).2.length ≤ k
          · rw [if_pos c2, if_pos c2]
          · rw [if_neg c2, if_neg c2]
      have r1 : ∀ r, (r < 39 ∨ 201 < r) → tk_row m m1 r := fun r hr => tk_row_tr (fr r (by omega)) (a3 r hr)
      have r2 : ∀ r, (r < 39 ∨ 201 < r) → r ≠ 1 → tk_row m ((m1.1, m1.2.1, tk_u2 m1.2.2.1 1 4 false, m1.2.2.2) : tk_m) r := fun r hr h1 => by
        have := r1 r hr
        exact ⟨this.1, this.2.1, by dsimp only; rw [tk_u2_ne h1]; exact this.2.2.1, this.2.2.2⟩
      have hF1 : x_Fd (an_upto x y z 8) ((m1.1, m1.2.1, tk_u2 m1.2.2.1 1 4 false, m1.2.2.2) : tk_m) := x_Fd_k (an_upto_len x y z 8) a2 (fun r q1 q2 => ⟨rfl, rfl, by dsimp only; rw [tk_u2_ne (by omega)], rfl⟩)
      refine ⟨_, e, ⟨?_, ?_, ?_, ?_, ?_, ?_, fun _ x' y' z' g0 g1 g2 => ?_⟩, fun r hr => r2 r (by omega) (by omega), hF1⟩
      · exact x_F_k h.1 (r2 202 (by decide) (by decide))
      · refine x_S_fl h.2.1 (fun r q1 q2 => (r1 r (by omega)).1) (fun r q1 q2 => (r2 r (by omega) (by omega)).2.2.1) (r1 2 (by decide)).2.2.2
      · exact x_P_k ha.2.1 h.2.2.1 (tk_rowi (r2 0 (by decide) (by decide))) (fun r q1 q2 => r2 r (by omega) (by omega))
      · exact x_N_k h.2.2.2.1 (fun r q1 q2 => r2 r (by omega) (by omega))
      · exact x_T_k h.2.2.2.2.1 (fun r q1 q2 => r2 r (by omega) (by omega))
      · exact x_Z_k h.2.2.2.2.2.1 (r2 14 (by decide) (by decide)) (r2 15 (by decide) (by decide))
      · rw [h0] at g0
        rw [h1] at g1
        rw [h2] at g2
        cases g0; cases g1; cases g2
        exact hF1
theorem x_go {res : Option (α × tk_m)} {o : α × s_as} {m1 : tk_m} (q : tk_hi m m1) (h : x_does an_K m1 res o) : x_does an_K m res o := by
  obtain ⟨m2, e1, e2, e3⟩ := h
  exact ⟨m2, e1, e2, tk_hi_tr q e3⟩
def an_get (f : an_F) (k : Int32) : an_c := (f.2[tk_n k]?).getD (0, fun _ => 0, 0)
theorem an_why_n {k : Int32} {f : an_F} (h : an_why k f < 0) (hl : f.2.length ≤ 16) : ∃ i c, k = Int32.ofNat i ∧ i < f.2.length ∧ i < 16 ∧ f.2[i]? = some c ∧ an_get f k = c ∧ c ∈ f.2 := by
  unfold an_why at h
  by_cases c1 : k < 0
  · rw [if_pos c1] at h; exact absurd h (by decide)
  · rw [if_neg c1] at h
    by_cases c2 : Int32.ofNat f.2.length ≤ k
    · rw [if_pos c2] at h; exact absurd h (by decide)
    · obtain ⟨i, hi, rfl⟩ := i_get (n := f.2.length) (by omega) c1 (by
        rw [Int32.lt_iff_toInt_lt]
        rw [Int32.le_iff_toInt_le] at c2
        omega)
      refine ⟨i, f.2[i], rfl, hi, by omega, List.getElem?_eq_getElem hi, ?_, List.getElem_mem hi⟩
      unfold an_get
      rw [i_nn (by omega), List.getElem?_eq_getElem hi]
      rfl
theorem an_why_p {k : Int32} {f : an_F} (h : ¬ an_why k f < 0) : an_why k f = 3 := by
  unfold an_why at *
  by_cases c1 : k < 0
  · rw [if_pos c1]
  · rw [if_neg c1] at *
    by_cases c2 : Int32.ofNat f.2.length ≤ k
    · rw [if_pos c2]
    · rw [if_neg c2] at h; exact absurd (by decide) h
noncomputable def o_answers (w : Int32) (a : s_as) : Int32 × s_as := if fX_isWithin w 0 2 = true then (match s_3 a with
  | none => s_fd a 4
  | some f => (if w = 0 then Int32.ofNat f.2.length else if w = 1 then f.1 else an_set f.2, a)) else s_fd a 0
theorem x_answers (ha : s_Ok a) (h : x_X an_K a m) (w : Int32) : x_does an_K m (fX_answers w m) (o_answers w a) := by
  unfold fX_answers o_answers
  refine x_ite Iff.rfl (fun _ => ?_) (fun _ => x_bt (x_find an_HK ha h 0 (by decide)))
  obtain ⟨q1, q2⟩ := x_misses ha h 0
  cases e : s_3 a with
  | none =>
    rw [q1 e, Option.bind_some, if_pos rfl]
    exact x_bt (x_find an_HK ha h 4 (by decide))
  | some f =>
    obtain ⟨m1, e1, e2, e3, e4⟩ := q2 f e
    rw [e1, Option.bind_some, if_neg]
    · refine x_go e3 ?_
      rw [e4.1, e4.2.1, e4.2.2.1]
      dsimp only
      by_cases c0 : w = 0
      · rw [if_pos c0, if_pos c0]; exact x_same e2 _
      · rw [if_neg c0, if_neg c0]
        by_cases c1 : w = 1
        · rw [if_pos c1, if_pos c1]; exact x_same e2 _
        · rw [if_neg c1, if_neg c1]; exact x_same e2 _
    · dsimp only
      unfold an_why
      split
      · decide
      · split <;> decide
noncomputable def o_signs (k : Int32) (a : s_as) : Int32 × s_as := match s_3 a with
  | none => s_fd a 4
  | some f => if an_why k f < 0 then ((an_get f k).1, a) else s_fd a 3
theorem x_signs (ha : s_Ok a) (h : x_X an_K a m) (k : Int32) : x_does an_K m (fX_signs k m) (o_signs k a) := by
  unfold fX_signs o_signs
  obtain ⟨q1, q2⟩ := x_misses ha h k
  cases e : s_3 a with
  | none =>
    rw [q1 e, Option.bind_some, if_neg (show ¬ (4 : Int32) < 0 by decide)]
    exact x_bt (x_find an_HK ha h 4 (by decide))
  | some f =>
    obtain ⟨m1, e1, e2, e3, e4⟩ := q2 f e
    rw [e1, Option.bind_some]
    dsimp only
    refine x_go e3 (x_ite Iff.rfl (fun c => ?_) (fun c => ?_))
    · obtain ⟨i, c', rfl, hi, hi2, hc, hg, _⟩ := an_why_n c (s_3ok ha e).1
      rw [hg]
      refine x_grd (i_ok hi2 (by omega)) ?_
      rw [i_nn (by omega), (e4.2.2.2 i c' hc).1]
      exact x_same e2 _
    · rw [an_why_p c]
      exact x_bt (x_find an_HK ha e2 3 (by decide))
noncomputable def o_answer (k p w : Int32) (a : s_as) : Int64 × s_as := if fX_isWithin p 0 2 = true then (if fX_isWithin w 0 3 = true then (match s_3 a with
  | none => s_fdl a 4
  | some f => if an_why k f < 0 then (s_part (an_num (an_get f k) (tk_n p)) w, a) else s_fdl a 3) else s_fdl a 0) else s_fdl a 0
theorem s_w3p {k : Int32} (h : fX_isWithin k 0 2 = true) : ∃ i, i < 3 ∧ k = Int32.ofNat i ∧ tk_n k = i ∧ ∀ t, fC_part t k = t + 2 + 2 * i := by
  have hw := w_i h
  rw [show (0 : Int32).toInt = 0 from rfl, show (2 : Int32).toInt = 2 from rfl] at hw
  rcases (show k.toInt = 0 ∨ k.toInt = 1 ∨ k.toInt = 2 by omega) with z | z | z
  · have : k = 0 := i_ext z
    subst this
    exact ⟨0, by decide, rfl, rfl, fun t => rfl⟩
  · have : k = 1 := i_ext z
    subst this
    exact ⟨1, by decide, rfl, rfl, fun t => rfl⟩
  · have : k = 2 := i_ext z
    subst this
    exact ⟨2, by decide, rfl, rfl, fun t => rfl⟩
theorem x_partN {n : s_nm} {r : Nat} (h : x_num n r m) {w : Int32} (hw : fX_isWithin w 0 3 = true) : fN_part r w m = s_part n w := by
  unfold fN_part s_part fN_p fN_q fN_m
  rw [h.1, h.2.1, h.2.2.1, h.2.2.2]
theorem x_answer (ha : s_Ok a) (h : x_X an_K a m) (k p w : Int32) : x_does an_K m (fX_answer k p w m) (o_answer k p w a) := by
  unfold fX_answer o_answer
  refine x_ite Iff.rfl (fun g1 => x_ite Iff.rfl (fun g2 => ?_) (fun _ => x_bt (x_findl an_HK ha h 0 (by decide)))) (fun _ => x_bt (x_findl an_HK ha h 0 (by decide)))
  obtain ⟨q1, q2⟩ := x_misses ha h k
  cases e : s_3 a with
  | none =>
    rw [q1 e, Option.bind_some, if_neg (show ¬ (4 : Int32) < 0 by decide)]
    exact x_bt (x_findl an_HK ha h 4 (by decide))
  | some f =>
    obtain ⟨m1, e1, e2, e3, e4⟩ := q2 f e
    rw [e1, Option.bind_some]
    dsimp only
    refine x_go e3 (x_ite Iff.rfl (fun c => ?_) (fun c => ?_))
    · obtain ⟨i, c', rfl, hi, hi2, hc, hg, _⟩ := an_why_n c (s_3ok ha e).1
      obtain ⟨j, hj, _, hj2, hj3⟩ := s_w3p g1
      rw [hg, hj2]
      refine x_grd (i_ok hi2 (by omega)) ?_
      rw [i_nn (by omega), hj3, x_partN ((e4.2.2.2 i c' hc).2.2.2 j hj).1 g2]
      exact x_same e2 _
    · rw [an_why_p c]
      exact x_bt (x_findl an_HK ha e2 3 (by decide))
theorem o_answers_ok (ha : s_Ok a) (w : Int32) : s_Ok (o_answers w a).2 := by
  unfold o_answers
  split
  · split <;> exact ha
  · exact ha
theorem o_signs_ok (ha : s_Ok a) (k : Int32) : s_Ok (o_signs k a).2 := by
  unfold o_signs
  split
  · exact ha
  · split <;> exact ha
theorem o_answer_ok (ha : s_Ok a) (k p w : Int32) : s_Ok (o_answer k p w a).2 := by
  unfold o_answer
  split
  · split
    · split
      · exact ha
      · split <;> exact ha
    · exact ha
  · exact ha
end
