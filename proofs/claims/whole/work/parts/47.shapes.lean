/-! ===== shapes: come, change, go ===== -/
section
variable {K : List s_sh → Int32 × Int32 × Int32 → tk_m → Prop} {a : s_as} {m m' : tk_m} {α : Type}
theorem x_put1 (HK : x_K K) (ha : s_Ok a) (h : x_X K a m) {c' : s_sn} (hr : ∀ r, ¬ (1 ≤ r ∧ r ≤ 9) → tk_row m m' r) (hS : x_S c' 1 m') (hch : m'.2.2.1 1 4 = true ∨ (c'.1 = a.1.1 ∧ c'.2.1 = a.1.2.1 ∧ m'.2.2.1 1 4 = m.2.2.1 1 4)) (v : α) : x_does K m (some (v, m')) (v, (c', a.2)) := by
  obtain ⟨h1, h2, h3, h4, h5, h6, h7⟩ := h
  refine ⟨m', rfl, ⟨x_F_k h1 (hr 202 (by omega)), hS, x_P_k ha.2.1 h3 (tk_rowi (hr 0 (by omega))) (fun r a b => hr r (by omega)), x_N_k h4 (fun r a b => hr r (by omega)), x_T_k h5 (fun r a b => hr r (by omega)), x_Z_k h6 (hr 14 (by omega)) (hr 15 (by omega)), fun hc => ?_⟩, fun r q => hr r (by omega)⟩
  rcases hch with e | ⟨e1, e2, e3⟩
  · rw [e] at hc; cases hc
  · rw [e3] at hc
    show K c'.1 c'.2.1 m'
    rw [e1, e2]
    exact HK _ _ _ _ (fun r a b => hr r (by omega)) (h7 hc)
theorem y_put1 (ha : s_Ok a) (h : y_Y a m) {c' : s_sn} (hr : ∀ r, r ≠ 296 → tk_row m m' r) (hS : y_S c' 296 m') (v : α) : y_does m (some (v, m')) (v, (c', a.2)) := by
  obtain ⟨h1, h2, h3, h4, h5⟩ := h
  exact ⟨m', rfl, ⟨y_F_k h1 (hr 306 (by decide)), hS, y_P_k ha.2.1 h3 (tk_rowi (hr 295 (by decide))) (fun r a b => hr r (by omega)), y_N_k h4 (fun r a b => hr r (by omega)), y_T_k h5 (fun r a b => hr r (by omega))⟩, fun r q => hr r (by omega)⟩
theorem x_S_add {c : s_sn} {s : s_sh} (h : x_S c 1 m) (hl : c.1.length < 6) (e1 : m'.1 1 1 = Int32.ofNat (c.1.length + 1)) (e2 : m'.1 1 3 = m.1 1 3) (e3 : m'.1 3 = m.1 3) (e4 : m'.2.2.2 = m.2.2.2) (e5 : ∀ r, 4 ≤ r → r ≠ 4 + (m.2.2.2 2 c.1.length).val → m'.1 r = m.1 r ∧ m'.2.2.1 r = m.2.2.1 r) (e6 : x_H s (4 + (m.2.2.2 2 c.1.length).val) m') : x_S (c.1 ++ [s], c.2) 1 m' := by
  obtain ⟨h1, h2, h3, h4, h5⟩ := h
  refine ⟨by rw [e1, List.length_append]; rfl, by rw [e2]; exact h2, by show m'.1 3 0 = _ ∧ m'.1 3 1 = _ ∧ m'.1 3 2 = _; rw [e3]; exact h3, fun i u hu => ?_, by rw [e4]; exact h5⟩
  rw [e4]
  by_cases hi : i < c.1.length
  · have hu2 : c.1[i]? = some u := by rw [← hu]; exact (List.getElem?_append_left hi).symm
    have hne : 4 + (m.2.2.2 2 i).val ≠ 4 + (m.2.2.2 2 c.1.length).val := by
      intro q
      have := h5 i c.1.length (by omega) (by omega) (Fin.ext (show (m.2.2.2 2 i).val = (m.2.2.2 2 c.1.length).val by omega))
      omega
    have hx := h4 i u hu2
    obtain ⟨q1, q2⟩ := e5 (4 + (m.2.2.2 2 i).val) (by omega) hne
    show x_H u (4 + (m.2.2.2 2 i).val) m'
    unfold x_H
    rw [q1, q2]
    exact hx
  · have hi2 := (List.getElem?_eq_some_iff.mp hu).1
    rw [List.length_append] at hi2
    have hi3 : i = c.1.length := by simp at hi2; omega
    subst hi3
    have : s = u := by
      have : (c.1 ++ [s])[c.1.length]? = some s := by rw [List.getElem?_append_right (Nat.le_refl _), Nat.sub_self]; rfl
      rw [hu] at this
      exact (Option.some.inj this).symm
    subst this
    exact e6
theorem y_S_add {c : s_sn} {s : s_sh} (h : y_S c 296 m) (hl : c.1.length < 6) (e1 : m'.1 296 0 = Int32.ofNat (c.1.length + 1)) (e2 : ∀ k, 1 ≤ k → k < 5 + 4 * c.1.length → m'.1 296 k = m.1 296 k) (e6 : y_H s 296 c.1.length m') : y_S (c.1 ++ [s], c.2) 296 m' := by
  obtain ⟨h1, h2, ⟨h3, h3b, h3c⟩, h4⟩ := h
  refine ⟨by rw [e1, List.length_append]; rfl, by rw [e2 4 (by omega) (by omega)]; exact h2, ⟨by rw [e2 1 (by omega) (by omega)]; exact h3, by rw [e2 2 (by omega) (by omega)]; exact h3b, by rw [e2 3 (by omega) (by omega)]; exact h3c⟩, fun i u hu => ?_⟩
  by_cases hi : i < c.1.length
  · have hu2 : c.1[i]? = some u := by rw [← hu]; exact (List.getElem?_append_left hi).symm
    obtain ⟨q1, q2, q3, q4⟩ := h4 i u hu2
    exact ⟨by rw [e2 _ (by omega) (by omega)]; exact q1, by rw [e2 _ (by omega) (by omega)]; exact q2, by rw [e2 _ (by omega) (by omega)]; exact q3, by rw [e2 _ (by omega) (by omega)]; exact q4⟩
  · have hi2 := (List.getElem?_eq_some_iff.mp hu).1
    rw [List.length_append] at hi2
    have hi3 : i = c.1.length := by simp at hi2; omega
    subst hi3
    have : s = u := by
      have : (c.1 ++ [s])[c.1.length]? = some s := by rw [List.getElem?_append_right (Nat.le_refl _), Nat.sub_self]; rfl
      rw [hu] at this
      exact (Option.some.inj this).symm
    subst this
    exact e6
def s_add (a : s_as) (s : s_sh) : Int32 × s_as := if a.1.1.length < 6 then (Int32.ofNat a.1.1.length, ((a.1.1 ++ [s], a.1.2), a.2)) else s_fd a 1
def o_round (x y r : Int32) (a : s_as) : Int32 × s_as := if fX_isWithin x (-5) 5 = true then (if fX_isWithin y (-5) 5 = true then (if fX_isWithin r 0 5 = true then s_add a (false, x, y, r) else s_fd a 0) else s_fd a 0) else s_fd a 0
def o_straight (x y : Int32) (a : s_as) : Int32 × s_as := if fX_isWithin x 0 5 = true then (if fX_isWithin y (-30) 30 = true then s_add a (true, x, y, 0) else s_fd a 0) else s_fd a 0
theorem s_len (ha : s_Ok a) : a.1.1.length ≤ 6 := ha.1.1
theorem w_i {v : Int32} {a b : Int32} (h : fX_isWithin v a b = true) : a.toInt ≤ v.toInt ∧ v.toInt ≤ b.toInt := by
  rw [w_in, Int32.lt_iff_toInt_lt, Int32.lt_iff_toInt_lt] at h
  omega
theorem i_suc {n : Nat} (h : n < 1000) : Int32.ofNat (n + 1) - 1 = Int32.ofNat n := by
  rw [Int32.ofNat_add]
  exact Int32.add_sub_cancel _ _
theorem x_round (HK : x_K K) (ha : s_Ok a) (h : x_X K a m) (x y r : Int32) : x_does K m (fX_round x y r m) (o_round x y r a) := by
  have hl := s_len ha
  have h1 := h.2.1.1
  unfold fX_round o_round
  refine x_ite Iff.rfl (fun g1 => x_ite Iff.rfl (fun g2 => x_ite Iff.rfl (fun g3 => ?_) (fun _ => x_bt (x_find HK ha h 0 (by decide)))) (fun _ => x_bt (x_find HK ha h 0 (by decide)))) (fun _ => x_bt (x_find HK ha h 0 (by decide)))
  unfold s_add
  refine x_ite (by rw [h1]; exact i_lt (b := 6) (by omega) (by omega)) (fun g4 => x_bt ?_) (fun _ => x_bt (x_find HK ha h 1 (by decide)))
  unfold fS_addRound
  rw [if_pos (by rw [h1]; exact i_ok g4 (by omega)), h1, i_nn (by omega)]
  unfold tk_let fH_becomeRound fS_grow
  dsimp only
  obtain ⟨h0, hh0⟩ : ∃ h0, h0 = 1 + 1 + 2 + (m.2.2.2 (1 + 1) a.1.1.length).val := ⟨_, rfl⟩
  have hb : 4 ≤ h0 ∧ h0 ≤ 9 := by have := (m.2.2.2 (1 + 1) a.1.1.length).isLt; omega
  rw [← hh0]
  have n1 : (1 : Nat) ≠ h0 := by omega
  have n3 : (3 : Nat) ≠ h0 := by omega
  rw [tk_u2_eq, tk_u2_ne n1, tk_u2_ne n1, tk_u2_ne n1, h1, show Int32.ofNat a.1.1.length + 1 = Int32.ofNat (a.1.1.length + 1) from i_add _ 1, i_suc (by omega)]
  refine x_put1 HK ha h ?_ ?_ (.inl (by dsimp only; exact tk_u2_eq)) _
  · intro r hr
    have q1 : r ≠ 1 := by omega
    have q2 : r ≠ h0 := by omega
    exact ⟨by dsimp only; rw [tk_u2_ne q1, tk_u2_ne q2, tk_u2_ne q2, tk_u2_ne q2], rfl, by dsimp only; rw [tk_u2_ne q1, tk_u2_ne q2], rfl⟩
  · refine x_S_add h.2.1 g4 (by dsimp only; rw [tk_u2_eq]) ?_ ?_ rfl ?_ ?_
    · dsimp only; rw [tk_u2_nk (by decide), tk_u2_ne n1, tk_u2_ne n1, tk_u2_ne n1]
    · dsimp only; rw [tk_u2_ne (by decide), tk_u2_ne n3, tk_u2_ne n3, tk_u2_ne n3]
    · intro r q1 q2
      have q3 : r ≠ h0 := fun e => q2 (by rw [e, hh0])
      exact ⟨by dsimp only; rw [tk_u2_ne (by omega), tk_u2_ne q3, tk_u2_ne q3, tk_u2_ne q3], by dsimp only; rw [tk_u2_ne (by omega), tk_u2_ne q3]⟩
    · rw [show 4 + (m.2.2.2 2 a.1.1.length).val = h0 from hh0.symm]
      refine ⟨by dsimp only; rw [tk_u2_ne (by omega), tk_u2_eq], fun _ => ⟨?_, ?_, ?_⟩, fun e => by cases e⟩
      · dsimp only; rw [tk_u2_ne (by omega), tk_u2_nk (by decide), tk_u2_nk (by decide), tk_u2_eq]
      · dsimp only; rw [tk_u2_ne (by omega), tk_u2_nk (by decide), tk_u2_eq]
      · dsimp only; rw [tk_u2_ne (by omega), tk_u2_eq]
theorem x_straight (HK : x_K K) (ha : s_Ok a) (h : x_X K a m) (x y : Int32) : x_does K m (fX_straight x y m) (o_straight x y a) := by
  have hl := s_len ha
  have h1 := h.2.1.1
  unfold fX_straight o_straight
  refine x_ite Iff.rfl (fun g1 => x_ite Iff.rfl (fun g2 => ?_) (fun _ => x_bt (x_find HK ha h 0 (by decide)))) (fun _ => x_bt (x_find HK ha h 0 (by decide)))
  unfold s_add
  refine x_ite (by rw [h1]; exact i_lt (b := 6) (by omega) (by omega)) (fun g4 => x_bt ?_) (fun _ => x_bt (x_find HK ha h 1 (by decide)))
  have g1' : fX_isWithin x 0 (6 - 1) = true := g1
  have hxo := w_i g1
  have hxk : tk_ok x 6 := ⟨by rw [Int32.lt_iff_toInt_lt]; have : (0 : Int32).toInt = 0 := rfl; omega, by show x.toInt.toNat < 6; have : (5 : Int32).toInt = 5 := rfl; omega⟩
  unfold fS_addStraight
  rw [if_pos (by rw [h1]; exact i_ok g4 (by omega)), h1, i_nn (by omega)]
  unfold fH_becomeStraight fH_setSlant
  rw [if_pos g1', if_pos hxk, Option.bind_some, Option.bind_some]
  unfold tk_let fS_grow
  dsimp only
  obtain ⟨h0, hh0⟩ : ∃ h0, h0 = 1 + 1 + 2 + (m.2.2.2 (1 + 1) a.1.1.length).val := ⟨_, rfl⟩
  have hb : 4 ≤ h0 ∧ h0 ≤ 9 := by have := (m.2.2.2 (1 + 1) a.1.1.length).isLt; omega
  rw [← hh0]
  have n1 : (1 : Nat) ≠ h0 := by omega
  have n3 : (3 : Nat) ≠ h0 := by omega
  rw [tk_u2_eq, tk_u2_ne n1, tk_u2_ne n1, tk_u2_ne n1, tk_u2_ne n1, tk_u2_ne n1, h1, show Int32.ofNat a.1.1.length + 1 = Int32.ofNat (a.1.1.length + 1) from i_add _ 1, i_suc (by omega)]
  refine x_put1 HK ha h ?_ ?_ (.inl (by dsimp only; exact tk_u2_eq)) _
  · intro r hr
    have q1 : r ≠ 1 := by omega
    have q2 : r ≠ h0 := by omega
    exact ⟨by dsimp only; rw [tk_u2_ne q1, tk_u2_ne q2, tk_u2_ne q2, tk_u2_ne q2, tk_u2_ne q2, tk_u2_ne q2], rfl, by dsimp only; rw [tk_u2_ne q1, tk_u2_ne q2], rfl⟩
  · refine x_S_add h.2.1 g4 (by dsimp only; rw [tk_u2_eq]) ?_ ?_ rfl ?_ ?_
    · dsimp only; rw [tk_u2_nk (by decide), tk_u2_ne n1, tk_u2_ne n1, tk_u2_ne n1, tk_u2_ne n1, tk_u2_ne n1]
    · dsimp only; rw [tk_u2_ne (by decide), tk_u2_ne n3, tk_u2_ne n3, tk_u2_ne n3, tk_u2_ne n3, tk_u2_ne n3]
    · intro r q1 q2
      have q3 : r ≠ h0 := fun e => q2 (by rw [e, hh0])
      exact ⟨by dsimp only; rw [tk_u2_ne (by omega), tk_u2_ne q3, tk_u2_ne q3, tk_u2_ne q3, tk_u2_ne q3, tk_u2_ne q3], by dsimp only; rw [tk_u2_ne (by omega), tk_u2_ne q3]⟩
    · rw [show 4 + (m.2.2.2 2 a.1.1.length).val = h0 from hh0.symm]
      refine ⟨by dsimp only; rw [tk_u2_ne (by omega), tk_u2_eq], (fun e => by cases e), fun _ => ⟨?_, ?_, ?_, ?_, ?_⟩⟩
      · dsimp only; rw [tk_u2_ne (by omega), tk_u2_nk (by decide), tk_u2_nk (by decide), tk_u2_nk (by decide), tk_u2_nk (by decide), tk_u2_eq]
      · dsimp only; rw [tk_u2_ne (by omega), tk_u2_eq]
      · dsimp only; rw [tk_u2_ne (by omega), tk_u2_nk (by decide), tk_u2_nk (by decide), tk_u2_nk (by decide), tk_u2_eq]; rfl
      · dsimp only; rw [tk_u2_ne (by omega), tk_u2_nk (by decide), tk_u2_nk (by decide), tk_u2_eq]; rfl
      · dsimp only; rw [tk_u2_ne (by omega), tk_u2_nk (by decide), tk_u2_eq]; rfl
theorem y_comes (ha : s_Ok a) (h : y_Y a m) (b : Bool) (x y r : Int32) : y_does m (fM_comes (tk_b b) x y r m) (s_add a (b, x, y, r)) := by
  have hl := s_len ha
  have h1 := h.2.1.1
  unfold fM_comes s_add
  rw [h1]
  by_cases g : a.1.1.length < 6
  · rw [if_neg (show ¬ Int32.ofNat a.1.1.length = 6 from fun q => absurd ((i_eq (b := 6) (by omega) (by omega)).mp q) (by omega)), if_pos g]
    have e0 : (5 : Int32) + 4 * Int32.ofNat a.1.1.length = Int32.ofNat (5 + 4 * a.1.1.length) := by rw [Int32.ofNat_add, Int32.ofNat_mul]; rfl
    rw [e0, show Int32.ofNat (5 + 4 * a.1.1.length) + 1 = Int32.ofNat (5 + 4 * a.1.1.length + 1) from i_add _ 1, show Int32.ofNat (5 + 4 * a.1.1.length) + 2 = Int32.ofNat (5 + 4 * a.1.1.length + 2) from i_add _ 2, show Int32.ofNat (5 + 4 * a.1.1.length) + 3 = Int32.ofNat (5 + 4 * a.1.1.length + 3) from i_add _ 3]
    rw [if_pos (i_ok (by omega) (by omega)), if_pos (i_ok (by omega) (by omega)), if_pos (i_ok (by omega) (by omega)), if_pos (i_ok (by omega) (by omega)), i_nn (by omega), i_nn (by omega), i_nn (by omega), i_nn (by omega)]
    have e1 : ∀ (k : Nat), (k = 5 + 4 * a.1.1.length ∨ k = 5 + 4 * a.1.1.length + 1 ∨ k = 5 + 4 * a.1.1.length + 2 ∨ k = 5 + 4 * a.1.1.length + 3) → (0 : Nat) ≠ k := by omega
    rw [tk_u2_eq, tk_u2_nk (e1 _ (by omega)), tk_u2_nk (e1 _ (by omega)), tk_u2_nk (e1 _ (by omega)), tk_u2_nk (e1 _ (by omega)), h1, show Int32.ofNat a.1.1.length + 1 = Int32.ofNat (a.1.1.length + 1) from i_add _ 1, i_suc (by omega)]
    refine y_put1 ha h ?_ ?_ _
    · intro r hr
      refine ⟨?_, rfl, rfl, rfl⟩
      dsimp only; rw [tk_u2_ne hr, tk_u2_ne hr, tk_u2_ne hr, tk_u2_ne hr, tk_u2_ne hr]
    refine y_S_add h.2.1 g ?_ ?_ ⟨?_, ?_, ?_, ?_⟩
    · dsimp only; rw [tk_u2_eq]
    · intro k k1 k2
      dsimp only
      rw [tk_u2_nk (by omega), tk_u2_nk (by omega), tk_u2_nk (by omega), tk_u2_nk (by omega), tk_u2_nk (by omega)]
    · dsimp only; rw [tk_u2_nk (by omega), tk_u2_nk (by omega), tk_u2_nk (by omega), tk_u2_nk (by omega)]; exact tk_u2_eq
    · dsimp only; rw [tk_u2_nk (by omega), tk_u2_nk (by omega), tk_u2_nk (by omega), tk_u2_eq]
    · dsimp only; rw [tk_u2_nk (by omega), tk_u2_nk (by omega), tk_u2_eq]
    · dsimp only; rw [tk_u2_nk (by omega), tk_u2_eq]
  · rw [if_pos (show Int32.ofNat a.1.1.length = 6 from (i_eq (b := 6) (by omega) (by omega)).mpr (by omega)), if_neg g]
    exact y_bt (y_find ha h 1 (by decide))
theorem y_round' (ha : s_Ok a) (h : y_Y a m) (x y r : Int32) : y_does m (fM_round x y r m) (o_round x y r a) := by
  unfold fM_round o_round
  exact y_ite (by rw [← w_eq (v := x) (a := -5) (b := 5)]; rfl) (fun _ => y_ite (by rw [← w_eq (v := y) (a := -5) (b := 5)]; rfl) (fun _ => y_ite (by rw [← w_eq (v := r) (a := 0) (b := 5)]; rfl) (fun _ => y_bt (y_comes ha h false x y r)) (fun _ => y_bt (y_find ha h 0 (by decide)))) (fun _ => y_bt (y_find ha h 0 (by decide)))) (fun _ => y_bt (y_find ha h 0 (by decide)))
theorem y_straight (ha : s_Ok a) (h : y_Y a m) (x y : Int32) : y_does m (fM_straight x y m) (o_straight x y a) := by
  unfold fM_straight o_straight
  exact y_ite (by rw [← w_eq (v := x) (a := 0) (b := 5)]; rfl) (fun _ => y_ite (by rw [← w_eq (v := y) (a := -30) (b := 30)]; rfl) (fun _ => y_bt (y_comes ha h true x y 0)) (fun _ => y_bt (y_find ha h 0 (by decide)))) (fun _ => y_bt (y_find ha h 0 (by decide)))
theorem s_add_ok (ha : s_Ok a) {s : s_sh} (hs : s_shOk s) : s_Ok (s_add a s).2 := by
  unfold s_add
  by_cases g : a.1.1.length < 6
  · rw [if_pos g]
    refine ⟨⟨by show (a.1.1 ++ [s]).length ≤ 6; rw [List.length_append]; simp; omega, fun u hu => ?_⟩, ha.2⟩
    rcases List.mem_append.mp hu with q | q
    · exact ha.1.2 u q
    · rw [List.mem_singleton.mp q]; exact hs
  · rw [if_neg g]; exact ha
theorem o_round_ok (ha : s_Ok a) (x y r : Int32) : s_Ok (o_round x y r a).2 := by
  unfold o_round
  by_cases g1 : fX_isWithin x (-5) 5 = true
  · rw [if_pos g1]
    by_cases g2 : fX_isWithin y (-5) 5 = true
    · rw [if_pos g2]
      by_cases g3 : fX_isWithin r 0 5 = true
      · rw [if_pos g3]
        exact s_add_ok ha (show s_in x (-5) 5 ∧ s_in y (-5) 5 ∧ s_in r 0 5 from ⟨w_i g1, w_i g2, w_i g3⟩)
      · rw [if_neg g3]; exact ha
    · rw [if_neg g2]; exact ha
  · rw [if_neg g1]; exact ha
theorem o_straight_ok (ha : s_Ok a) (x y : Int32) : s_Ok (o_straight x y a).2 := by
  unfold o_straight
  by_cases g1 : fX_isWithin x 0 5 = true
  · rw [if_pos g1]
    by_cases g2 : fX_isWithin y (-30) 30 = true
    · rw [if_pos g2]
      exact s_add_ok ha (show s_in x 0 5 ∧ s_in y (-30) 30 from ⟨w_i g1, w_i g2⟩)
    · rw [if_neg g2]; exact ha
  · rw [if_neg g1]; exact ha
end
