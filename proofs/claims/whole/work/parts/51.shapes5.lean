/-! ===== shapes: prune (the reference), three, power, lie, ring ===== -/
section
variable {K : List s_sh → Int32 × Int32 × Int32 → tk_m → Prop} {a : s_as} {m m' : tk_m} {α : Type}
theorem y_cp2 (i t : Nat) (hi : i < 6) (ht : t < 6) (I0 : Nat → Int32) : ∀ (q c n : Nat) (m : tk_m), c + q = 4 → q < n → (∀ x, ¬ (5 + 4 * t ≤ x ∧ x < 5 + 4 * t + 4) → m.1 296 x = I0 x) → (∀ e, e < 4 → m.1 296 (5 + 4 * t + e) = I0 (5 + 4 * (if e < c then i else t) + e)) → ∃ I, fM_copies_2 n (Int32.ofNat i) (Int32.ofNat t) (Int32.ofNat c) m = some (I, m.2.1, m.2.2.1, m.2.2.2) ∧ (∀ r, r ≠ 296 → I r = m.1 r) ∧ (∀ x, ¬ (5 + 4 * t ≤ x ∧ x < 5 + 4 * t + 4) → I 296 x = I0 x) ∧ (∀ e, e < 4 → I 296 (5 + 4 * t + e) = I0 (5 + 4 * i + e)) := by
  intro q
  induction q with
  | zero =>
    intro c n m h1 h2 h3 h4
    obtain ⟨n, rfl⟩ : ∃ k, n = k + 1 := ⟨n - 1, by omega⟩
    have hc : c = 4 := by omega
    subst hc
    unfold fM_copies_2
    rw [if_pos (by decide)]
    refine ⟨m.1, rfl, fun _ _ => rfl, h3, fun e he => ?_⟩
    rw [h4 e he, if_pos he]
  | succ q ih =>
    intro c n m h1 h2 h3 h4
    obtain ⟨n, rfl⟩ : ∃ k, n = k + 1 := ⟨n - 1, by omega⟩
    unfold fM_copies_2
    rw [if_neg (show ¬ (4 : Int32) ≤ Int32.ofNat c from fun z => absurd ((i_le (a := 4) (by omega) (by omega)).mp z) (by omega)), i_at, i_at, if_pos (i_ok (show 5 + 4 * i + c < 29 by omega) (by omega)), if_pos (i_ok (show 5 + 4 * t + c < 29 by omega) (by omega)), i_nn (by omega), i_nn (by omega), show Int32.ofNat c + 1 = Int32.ofNat (c + 1) from i_add c 1]
    have ri : m.1 296 (5 + 4 * i + c) = I0 (5 + 4 * i + c) := by
      by_cases e : i = t
      · subst e
        have := h4 c (by omega)
        rw [if_neg (by omega)] at this
        exact this
      · exact h3 _ (by omega)
    rw [ri]
    obtain ⟨I, e1, e2, e3, e4⟩ := ih (c + 1) n (tk_u2 m.1 296 (5 + 4 * t + c) (I0 (5 + 4 * i + c)), m.2.1, m.2.2.1, m.2.2.2) (by omega) (by omega) (fun x hx => by dsimp only; rw [tk_u2_nk (by omega)]; exact h3 x hx) (fun e he => by
      dsimp only
      by_cases c1 : e = c
      · rw [c1, tk_u2_eq, if_pos (by omega)]
      · rw [tk_u2_nk (by omega), h4 e he]
        by_cases c3 : e < c
        · rw [if_pos c3, if_pos (by omega)]
        · rw [if_neg c3, if_neg (by omega)])
    refine ⟨I, e1, fun r hr => ?_, e3, e4⟩
    rw [e2 r hr]
    dsimp only
    rw [tk_u2_ne hr]
theorem y_copies {c : s_sn} {i t : Nat} {s : s_sh} (h : y_S c 296 m) (hl : c.1.length ≤ 6) (hi : c.1[i]? = some s) (ht : t < c.1.length) : ∃ m', fM_copies (Int32.ofNat i) (Int32.ofNat t) m = some m' ∧ y_S (c.1.set t s, c.2) 296 m' ∧ (∀ r, r ≠ 296 → tk_row m m' r) := by
  have hil := (List.getElem?_eq_some_iff.mp hi).1
  obtain ⟨I, e1, e2, e3, e4⟩ := y_cp2 i t (by omega) (by omega) (m.1 296) 4 0 tk_F m (by omega) (by unfold tk_F; omega) (fun _ _ => rfl) (fun e _ => by rw [if_neg (by omega)])
  refine ⟨_, e1, y_S_set h ht (fun j hj => by dsimp only; exact e3 j (by omega)) ?_, fun r hr => ⟨e2 r hr, rfl, rfl, rfl⟩⟩
  obtain ⟨q1, q2, q3, q4⟩ := h.2.2.2 i s hi
  exact ⟨(e4 0 (by decide)).trans q1, (e4 1 (by decide)).trans q2, (e4 2 (by decide)).trans q3, (e4 3 (by decide)).trans q4⟩
theorem y_take (k : Int32) (orig : List s_sh) (hL : orig.length ≤ 6) : ∀ (j i n : Nat) (c : s_sn) (m : tk_m), i + j = orig.length → j < n → c.1.length = orig.length → y_S c 296 m → (∀ q, q < (s_keep k (orig.take i)).length → c.1[q]? = (s_keep k (orig.take i))[q]?) → (∀ q, i ≤ q → c.1[q]? = orig[q]?) → ∃ m', fM_prune_30 n k (Int32.ofNat (s_keep k (orig.take i)).length) (Int32.ofNat orig.length) (Int32.ofNat i) m = some (Int32.ofNat (orig.length - (s_keep k orig).length), m') ∧ y_S (s_keep k orig, c.2) 296 m' ∧ (∀ r, r ≠ 296 → tk_row m m' r) := by
  intro j
  induction j with
  | zero =>
    intro i n c m h1 h2 h3 h4 h5 h6
    obtain ⟨n, rfl⟩ : ∃ k, n = k + 1 := ⟨n - 1, by omega⟩
    have hi : i = orig.length := by omega
    subst hi
    rw [List.take_length] at h5 ⊢
    have hle : (s_keep k orig).length ≤ orig.length := List.length_filter_le _ _
    unfold fM_prune_30
    rw [if_pos ((i_le (by omega) (by omega)).mpr (by omega))]
    unfold fM_prune_68
    rw [i_sub hle]
    have ht : c.1.take (s_keep k orig).length = s_keep k orig := by
      apply List.ext_getElem?
      intro q
      rw [List.getElem?_take]
      by_cases e : q < (s_keep k orig).length
      · rw [if_pos e]; exact h5 q e
      · rw [if_neg e, List.getElem?_eq_none (by omega)]
    refine ⟨_, rfl, ?_, fun r hr => ⟨by dsimp only; rw [tk_u2_ne hr], rfl, rfl, rfl⟩⟩
    rw [← ht]
    exact y_S_take h4 (by omega) (by dsimp only; rw [tk_u2_eq, ht]) (fun q hq => by dsimp only; rw [tk_u2_nk (by omega)])
  | succ j ih =>
    intro i n c m h1 h2 h3 h4 h5 h6
    obtain ⟨n, rfl⟩ : ∃ k, n = k + 1 := ⟨n - 1, by omega⟩
    have hsi : orig[i]? = some (orig[i]'(by omega)) := List.getElem?_eq_getElem (by omega)
    generalize orig[i]'(by omega) = s at hsi
    have hci : c.1[i]? = some s := by rw [h6 i (Nat.le_refl i)]; exact hsi
    have hs : s_at c.1 (Int32.ofNat i) = some s := by rw [s_at_of (by omega)]; exact hci
    have hkt := s_keep_take (k := k) hsi
    have hle := s_keep_le (k := k) (l := orig) (i := i)
    unfold fM_prune_30
    rw [if_neg (fun q => absurd ((i_le (by omega) (by omega)).mp q) (by omega)), y_kind h4 (by omega) hs, Option.bind_some, y_under, show Int32.ofNat i + 1 = Int32.ofNat (i + 1) from i_add i 1]
    by_cases e : s_isOf s k = true
    · rw [if_pos e]
      rw [if_pos e, List.append_nil] at hkt
      rw [← hkt]
      exact ih (i + 1) n c m (by omega) (by omega) h3 h4 (by rw [hkt]; exact h5) (fun q hq => h6 q (by omega))
    · rw [if_neg e]
      rw [if_neg e] at hkt
      obtain ⟨m1, e1, e2, e3⟩ := y_copies (t := (s_keep k (orig.take i)).length) h4 (by omega) hci (by omega)
      rw [e1, Option.bind_some]
      have hlen : (s_keep k (orig.take (i + 1))).length = (s_keep k (orig.take i)).length + 1 := by rw [hkt, List.length_append]; rfl
      rw [show Int32.ofNat (s_keep k (orig.take i)).length + 1 = Int32.ofNat ((s_keep k (orig.take i)).length + 1) from i_add _ 1, ← hlen]
      obtain ⟨m', g1, g2, g3⟩ := ih (i + 1) n (c.1.set (s_keep k (orig.take i)).length s, c.2) m1 (by omega) (by omega) (by dsimp only; rw [List.length_set]; exact h3) e2 (by
        intro q hq
        dsimp only
        rw [hkt]
        rw [hlen] at hq
        by_cases c1 : q < (s_keep k (orig.take i)).length
        · rw [List.getElem?_append_left c1, List.getElem?_set_ne (by omega)]
          exact h5 q c1
        · have c2 : q = (s_keep k (orig.take i)).length := by omega
          rw [c2, List.getElem?_append_right (Nat.le_refl _), Nat.sub_self, List.getElem?_set_self (by omega)]
          rfl) (by
        intro q hq
        dsimp only
        rw [List.getElem?_set_ne (by omega)]
        exact h6 q (by omega))
      exact ⟨m', g1, g2, fun r hr => tk_row_tr (e3 r hr) (g3 r hr)⟩
theorem y_prune (ha : s_Ok a) (h : y_Y a m) (k : Int32) : y_does m (fM_prune k m) (o_prune k a) := by
  unfold fM_prune o_prune
  refine y_ite (by rw [← w_eq (v := k) (a := 0) (b := 4)]; rfl) (fun g1 => ?_) (fun _ => y_bt (y_find ha h 0 (by decide)))
  have hl := s_len ha
  obtain ⟨m', e1, e2, e3⟩ := y_take k a.1.1 hl a.1.1.length 0 tk_F a.1 m (by omega) (by unfold tk_F; omega) rfl h.2.1 (fun q hq => by rw [List.take_zero] at hq; exact absurd hq (by show ¬ q < 0; omega)) (fun _ _ => rfl)
  rw [h.2.1.1]
  rw [List.take_zero, show Int32.ofNat (s_keep k []).length = 0 from rfl, show Int32.ofNat 0 = 0 from rfl] at e1
  rw [e1]
  exact y_put1 ha h e3 e2 _
theorem o_prune_ok (ha : s_Ok a) (k : Int32) : s_Ok (o_prune k a).2 := by
  unfold o_prune
  split
  · exact ⟨⟨Nat.le_trans (List.length_filter_le _ _) (s_len ha), fun u hu => ha.1.2 u (List.mem_filter.mp hu).1⟩, ha.2⟩
  · exact ha
/-! three -/
def s_two (l : List s_sh) (i j : Int32) : Bool := (s_at l i).isSome && (s_at l j).isSome && decide (¬ i = j)
theorem x_two (ha : s_Ok a) (h : x_X K a m) (i j : Int32) : fX_areTwoShapes i j m = s_two a.1.1 i j := by
  unfold fX_areTwoShapes s_two
  rw [x_has h.2.1 (s_len ha), x_has h.2.1 (s_len ha)]
  cases (s_at a.1.1 i).isSome <;> cases (s_at a.1.1 j).isSome <;> by_cases e : i = j <;> simp [e]
theorem y_two (ha : s_Ok a) (h : y_Y a m) (i j : Int32) : fM_areTwo i j m = s_two a.1.1 i j := by
  unfold fM_areTwo s_two
  rw [y_has h.2.1 (s_len ha), y_has h.2.1 (s_len ha)]
  cases (s_at a.1.1 i).isSome <;> cases (s_at a.1.1 j).isSome <;> by_cases e : i = j <;> simp [e]
def o_three (i j k : Int32) (a : s_as) : Int32 × s_as := if (s_two a.1.1 i j && s_two a.1.1 j k && decide (¬ i = k)) = true then (1, ((a.1.1, (i, j, k), a.1.2.2), a.2)) else s_fd a 0
theorem x_S_three {c : s_sn} {i j k : Int32} (h : x_S c 1 m) (e1 : ∀ r, r ≠ 3 → m'.1 r = m.1 r) (e2 : m'.1 3 0 = i ∧ m'.1 3 1 = j ∧ m'.1 3 2 = k) (e3 : ∀ r, r ≠ 1 → m'.2.2.1 r = m.2.2.1 r) (e4 : m'.2.2.2 = m.2.2.2) : x_S (c.1, (i, j, k), c.2.2) 1 m' := by
  obtain ⟨h1, h2, h3, h4, h5⟩ := h
  refine ⟨by rw [e1 1 (by decide)]; exact h1, by rw [e1 1 (by decide)]; exact h2, e2, fun q u hu => ?_, by rw [e4]; exact h5⟩
  have hx := h4 q u hu
  rw [e4]
  unfold x_H at hx ⊢
  rw [e1 _ (by omega), e3 _ (by omega)]
  exact hx
theorem x_choose (HK : x_K K) (ha : s_Ok a) (h : x_X K a m) (i j k : Int32) (v : α) : x_does K m (some (v, fS_choose 1 i j k m)) (v, ((a.1.1, (i, j, k), a.1.2.2), a.2)) := by
  unfold fS_choose
  refine x_put1 HK ha h ?_ ?_ ?_ _
  · intro r hr
    exact ⟨by dsimp only; rw [tk_u2_ne (by omega), tk_u2_ne (by omega), tk_u2_ne (by omega)], rfl, by dsimp only; rw [tk_u2_ne (by omega)], rfl⟩
  rotate_left
  · exact .inl (by dsimp only; exact tk_u2_eq)
  refine x_S_three h.2.1 ?_ ⟨?_, ?_, ?_⟩ ?_ rfl
  · intro r hr; dsimp only; rw [tk_u2_ne (by omega), tk_u2_ne (by omega), tk_u2_ne (by omega)]
  · dsimp only; rw [tk_u2_nk (by decide), tk_u2_nk (by decide), tk_u2_eq]
  · dsimp only; rw [tk_u2_nk (by decide), tk_u2_eq]
  · dsimp only; rw [tk_u2_eq]
  · intro r hr; dsimp only; rw [tk_u2_ne hr]
theorem x_three (HK : x_K K) (ha : s_Ok a) (h : x_X K a m) (i j k : Int32) : x_does K m (fX_three i j k m) (o_three i j k a) := by
  unfold fX_three o_three
  rw [x_two ha h, x_two ha h]
  by_cases g1 : s_two a.1.1 i j = true
  · rw [if_pos g1]
    by_cases g2 : s_two a.1.1 j k = true
    · rw [if_pos g2]
      by_cases g3 : i = k
      · rw [if_pos g3, if_neg (by simp [g3])]
        exact x_bt (x_find HK ha h 0 (by decide))
      · rw [if_neg g3, if_pos (by simp [g1, g2, g3])]
        exact x_choose HK ha h i j k _
    · rw [if_neg g2, if_neg (by simp [g2])]
      exact x_bt (x_find HK ha h 0 (by decide))
  · rw [if_neg g1, if_neg (by simp [g1])]
    exact x_bt (x_find HK ha h 0 (by decide))
theorem y_S_three {c : s_sn} {i j k : Int32} (h : y_S c 296 m) (e1 : ∀ x, ¬ (1 ≤ x ∧ x ≤ 3) → m'.1 296 x = m.1 296 x) (e2 : m'.1 296 1 = i ∧ m'.1 296 2 = j ∧ m'.1 296 3 = k) : y_S (c.1, (i, j, k), c.2.2) 296 m' := by
  obtain ⟨h1, h2, h3, h4⟩ := h
  refine ⟨by rw [e1 0 (by omega)]; exact h1, by rw [e1 4 (by omega)]; exact h2, e2, fun q u hu => ?_⟩
  obtain ⟨q1, q2, q3, q4⟩ := h4 q u hu
  exact ⟨by rw [e1 _ (by omega)]; exact q1, by rw [e1 _ (by omega)]; exact q2, by rw [e1 _ (by omega)]; exact q3, by rw [e1 _ (by omega)]; exact q4⟩
theorem y_choose (ha : s_Ok a) (h : y_Y a m) (i j k : Int32) (v : α) : y_does m (some (v, (tk_u2 (tk_u2 (tk_u2 m.1 296 1 i) 296 2 j) 296 3 k, m.2.1, m.2.2.1, m.2.2.2))) (v, ((a.1.1, (i, j, k), a.1.2.2), a.2)) := by
  refine y_put1 ha h ?_ (y_S_three h.2.1 ?_ ⟨?_, ?_, ?_⟩) _
  · intro r hr
    exact ⟨by dsimp only; rw [tk_u2_ne hr, tk_u2_ne hr, tk_u2_ne hr], rfl, rfl, rfl⟩
  · intro x hx; dsimp only; rw [tk_u2_nk (by omega), tk_u2_nk (by omega), tk_u2_nk (by omega)]
  · dsimp only; rw [tk_u2_nk (by decide), tk_u2_nk (by decide), tk_u2_eq]
  · dsimp only; rw [tk_u2_nk (by decide), tk_u2_eq]
  · dsimp only; rw [tk_u2_eq]
theorem y_three (ha : s_Ok a) (h : y_Y a m) (i j k : Int32) : y_does m (fM_three_III i j k m) (o_three i j k a) := by
  unfold fM_three_III o_three
  rw [y_two ha h, y_two ha h, y_two ha h]
  unfold s_two
  by_cases g : (((s_at a.1.1 i).isSome && (s_at a.1.1 j).isSome && decide (¬ i = j)) && ((s_at a.1.1 j).isSome && (s_at a.1.1 k).isSome && decide (¬ j = k)) && decide (¬ i = k)) = true
  · rw [if_pos g]
    simp only [Bool.and_eq_true, decide_eq_true_eq] at g
    obtain ⟨⟨⟨⟨g1, g2⟩, g3⟩, ⟨_, g4⟩, g5⟩, g6⟩ := g
    rw [if_pos (by simp [g1, g2, g3]), if_pos (by simp [g1, g4, g6]), if_pos (by simp [g2, g4, g5])]
    exact y_choose ha h i j k _
  · rw [if_neg g]
    have hf := y_bt (y_find ha h 0 (by decide))
    by_cases c1 : ((s_at a.1.1 i).isSome && (s_at a.1.1 j).isSome && decide (¬ i = j)) = true
    · rw [if_pos c1]
      by_cases c2 : ((s_at a.1.1 i).isSome && (s_at a.1.1 k).isSome && decide (¬ i = k)) = true
      · rw [if_pos c2]
        by_cases c3 : ((s_at a.1.1 j).isSome && (s_at a.1.1 k).isSome && decide (¬ j = k)) = true
        · exfalso
          apply g
          simp only [Bool.and_eq_true, decide_eq_true_eq] at c1 c2 c3 ⊢
          exact ⟨⟨c1, c3⟩, c2.2⟩
        · rw [if_neg c3]; exact hf
      · rw [if_neg c2]; exact hf
    · rw [if_neg c1]; exact hf
theorem o_three_ok (ha : s_Ok a) (i j k : Int32) : s_Ok (o_three i j k a).2 := by
  unfold o_three
  split
  · exact ha
  · exact ha
def o_ofThree (k : Int32) (a : s_as) : Int32 × s_as := if fX_isWithin k 0 2 = true then ((if k = 0 then a.1.2.1.1 else if k = 1 then a.1.2.1.2.1 else a.1.2.1.2.2), a) else s_fd a 0
theorem s_w3 {k : Int32} (h : fX_isWithin k 0 2 = true) : k = 0 ∨ k = 1 ∨ k = 2 := by
  have hw := w_i h
  have t0 : (0 : Int32).toInt = 0 := rfl
  have t2 : (2 : Int32).toInt = 2 := rfl
  rcases (show k.toInt = 0 ∨ k.toInt = 1 ∨ k.toInt = 2 by omega) with q | q | q
  · exact .inl (i_ext q)
  · exact .inr (.inl (i_ext q))
  · exact .inr (.inr (i_ext q))
theorem x_ofThree (HK : x_K K) (ha : s_Ok a) (h : x_X K a m) (k : Int32) : x_does K m (fX_ofThree k m) (o_ofThree k a) := by
  unfold fX_ofThree o_ofThree
  refine x_ite Iff.rfl (fun g => ?_) (fun _ => x_bt (x_find HK ha h 0 (by decide)))
  obtain ⟨_, _, ⟨q1, q2, q3⟩, _, _⟩ := h.2.1
  rcases s_w3 g with e | e | e <;> subst e
  · rw [if_pos (by decide), show m.1 3 (tk_n 0) = a.1.2.1.1 from q1]; exact x_same h _
  · rw [if_pos (by decide), show m.1 3 (tk_n 1) = a.1.2.1.2.1 from q2]; exact x_same h _
  · rw [if_pos (by decide), show m.1 3 (tk_n 2) = a.1.2.1.2.2 from q3]; exact x_same h _
theorem y_ofThree (ha : s_Ok a) (h : y_Y a m) (k : Int32) : y_does m (fM_ofThree k m) (o_ofThree k a) := by
  unfold fM_ofThree o_ofThree
  refine y_ite (by rw [← w_eq (v := k) (a := 0) (b := 2)]; rfl) (fun g => ?_) (fun _ => y_bt (y_find ha h 0 (by decide)))
  obtain ⟨_, _, ⟨q1, q2, q3⟩, _⟩ := h.2.1
  rcases s_w3 g with e | e | e <;> subst e
  · rw [if_pos (by decide), show m.1 296 (tk_n (1 + 0)) = a.1.2.1.1 from q1]; exact y_same h _
  · rw [if_pos (by decide), show m.1 296 (tk_n (1 + 1)) = a.1.2.1.2.1 from q2]; exact y_same h _
  · rw [if_pos (by decide), show m.1 296 (tk_n (1 + 2)) = a.1.2.1.2.2 from q3]; exact y_same h _
theorem o_ofThree_ok (ha : s_Ok a) (k : Int32) : s_Ok (o_ofThree k a).2 := by
  unfold o_ofThree
  split
  · exact ha
  · exact ha
/-! seed -/
def o_seed (v : Int32) (a : s_as) : Int32 × s_as := (a.1.2.2, ((a.1.1, a.1.2.1, v), a.2))
theorem x_seed (HK : x_K K) (ha : s_Ok a) (h : x_X K a m) (v : Int32) : x_does K m (some (fX_seed v m)) (o_seed v a) := by
  obtain ⟨q1, q2, q3, q4, q5⟩ := h.2.1
  unfold fX_seed o_seed
  rw [q2]
  refine x_put1 HK ha h ?_ ?_ ?_ _
  · intro r hr
    exact ⟨by dsimp only; rw [tk_u2_ne (by omega)], rfl, rfl, rfl⟩
  rotate_left
  · exact .inr ⟨rfl, rfl, rfl⟩
  refine ⟨?_, ?_, ?_, ?_, q5⟩
  · dsimp only; rw [tk_u2_nk (by decide)]; exact q1
  · dsimp only; rw [tk_u2_eq]
  · dsimp only; rw [tk_u2_ne (by decide)]; exact q3
  · intro i u hu
    have hx := q4 i u hu
    unfold x_H at hx ⊢
    dsimp only
    rw [tk_u2_ne (by omega)]
    exact hx
theorem y_seed (ha : s_Ok a) (h : y_Y a m) (v : Int32) : y_does m (some (fM_seed v m)) (o_seed v a) := by
  obtain ⟨q1, q2, ⟨q3, q3b, q3c⟩, q4⟩ := h.2.1
  unfold fM_seed o_seed
  rw [q2]
  refine y_put1 ha h ?_ ⟨?_, ?_, ⟨?_, ?_, ?_⟩, ?_⟩ _
  · intro r hr
    exact ⟨by dsimp only; rw [tk_u2_ne hr], rfl, rfl, rfl⟩
  · dsimp only; rw [tk_u2_nk (by decide)]; exact q1
  · dsimp only; rw [tk_u2_eq]
  · dsimp only; rw [tk_u2_nk (by decide)]; exact q3
  · dsimp only; rw [tk_u2_nk (by decide)]; exact q3b
  · dsimp only; rw [tk_u2_nk (by decide)]; exact q3c
  · intro i u hu
    obtain ⟨z1, z2, z3, z4⟩ := q4 i u hu
    exact ⟨by dsimp only; rw [tk_u2_nk (by omega)]; exact z1, by dsimp only; rw [tk_u2_nk (by omega)]; exact z2, by dsimp only; rw [tk_u2_nk (by omega)]; exact z3, by dsimp only; rw [tk_u2_nk (by omega)]; exact z4⟩
theorem o_seed_ok (ha : s_Ok a) (v : Int32) : s_Ok (o_seed v a).2 := ha
/-! power -/
def o_power (i x y : Int32) (a : s_as) : Int32 × s_as := if (s_at a.1.1 i).isSome = true then (if fX_isWithin x (-99) 99 = true then (if fX_isWithin y (-99) 99 = true then ((((s_form (s_get a.1.1 i) 0 * ((x * x) + (y * y))) + (s_form (s_get a.1.1 i) 1 * x)) + (s_form (s_get a.1.1 i) 2 * y)) + s_form (s_get a.1.1 i) 3, a) else s_fd a 0) else s_fd a 0) else s_fd a 0
theorem x_power (HK : x_K K) (ha : s_Ok a) (h : x_X K a m) (i x y : Int32) : x_does K m (fX_power i x y m) (o_power i x y a) := by
  unfold fX_power o_power
  refine x_ite (x_hasI ha h i) (fun g1 => x_ite Iff.rfl (fun g2 => x_ite Iff.rfl (fun g3 => ?_) (fun _ => x_bt (x_find HK ha h 0 (by decide)))) (fun _ => x_bt (x_find HK ha h 0 (by decide)))) (fun _ => x_bt (x_find HK ha h 0 (by decide)))
  obtain ⟨s, hs⟩ := s_isS g1
  obtain ⟨hk, hH⟩ := x_at h.2.1 (s_len ha) hs
  rw [s_get_of hs]
  refine x_grd hk ?_
  unfold fH_powerIn
  rw [x_form hH, x_form hH, x_form hH, x_form hH]
  exact x_same h _
theorem y_power (ha : s_Ok a) (h : y_Y a m) (i x y : Int32) : y_does m (fM_power i x y m) (o_power i x y a) := by
  unfold fM_power o_power
  refine y_ite (y_hasI ha h i) (fun g1 => y_ite (by rw [← w_eq (v := x) (a := -99) (b := 99)]; rfl) (fun g2 => y_ite (by rw [← w_eq (v := y) (a := -99) (b := 99)]; rfl) (fun g3 => ?_) (fun _ => y_bt (y_find ha h 0 (by decide)))) (fun _ => y_bt (y_find ha h 0 (by decide)))) (fun _ => y_bt (y_find ha h 0 (by decide)))
  obtain ⟨s, hs⟩ := s_isS g1
  rw [s_get_of hs, y_form h.2.1 ha.1 hs, Option.bind_some, y_form h.2.1 ha.1 hs, Option.bind_some, y_form h.2.1 ha.1 hs, Option.bind_some, y_form h.2.1 ha.1 hs, Option.bind_some]
  exact y_same h _
theorem o_power_ok (ha : s_Ok a) (i x y : Int32) : s_Ok (o_power i x y a).2 := by
  unfold o_power
  split
  · split
    · split
      · exact ha
      · exact ha
    · exact ha
  · exact ha
end
