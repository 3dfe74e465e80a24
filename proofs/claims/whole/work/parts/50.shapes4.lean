/-! ===== shapes: swap, turn, prune ===== -/
def s_tau (i j k : Nat) : Nat := if k = j then i else if k = i then j else k
def s_sw (l : List s_sh) (i j : Nat) : List s_sh := match l[i]?, l[j]? with
  | some x, some y => (l.set i y).set j x
  | _, _ => l
theorem s_sw_len (l : List s_sh) (i j : Nat) : (s_sw l i j).length = l.length := by
  unfold s_sw
  split
  · rw [List.length_set, List.length_set]
  · rfl
theorem s_sw_get {l : List s_sh} {i j : Nat} (hi : i < l.length) (hj : j < l.length) (k : Nat) : (s_sw l i j)[k]? = l[s_tau i j k]? := by
  unfold s_sw s_tau
  rw [List.getElem?_eq_getElem hi, List.getElem?_eq_getElem hj]
  dsimp only
  by_cases e : k = j
  · subst e
    rw [List.getElem?_set_self (by rw [List.length_set]; exact hj), if_pos rfl, List.getElem?_eq_getElem hi]
  · rw [List.getElem?_set_ne (fun q => e q.symm), if_neg e]
    by_cases e2 : k = i
    · subst e2
      rw [List.getElem?_set_self hi, if_pos rfl, List.getElem?_eq_getElem hj]
    · rw [List.getElem?_set_ne (fun q => e2 q.symm), if_neg e2]
theorem s_sw_mem {l : List s_sh} {i j : Nat} {u : s_sh} (h : u ∈ s_sw l i j) : u ∈ l := by
  unfold s_sw at h
  split at h
  · rename_i x y hx hy
    rcases List.mem_or_eq_of_mem_set h with q | q
    · rcases List.mem_or_eq_of_mem_set q with q | q
      · exact q
      · rw [q]; exact List.mem_of_getElem? hy
    · rw [q]; exact List.mem_of_getElem? hx
  · exact h
theorem s_tau_lt {i j k n : Nat} (hi : i < n) (hj : j < n) (hk : k < n) : s_tau i j k < n := by
  unfold s_tau
  split
  · exact hi
  · split
    · exact hj
    · exact hk
theorem s_tau_inj {i j k k' : Nat} (h : s_tau i j k = s_tau i j k') : k = k' := by
  unfold s_tau at h
  split at h <;> split at h <;> (try split at h) <;> (try split at h) <;> omega
section
variable {K : List s_sh → Int32 × Int32 × Int32 → tk_m → Prop} {a : s_as} {m m' : tk_m} {α : Type}
theorem x_exch {c : s_sn} {i j : Nat} (h : x_S c 1 m) (hl : c.1.length ≤ 6) (hi : i < c.1.length) (hj : j < c.1.length) : ∃ m', fS_exchange 1 (Int32.ofNat i) (Int32.ofNat j) m = some m' ∧ x_S (s_sw c.1 i j, c.2) 1 m' ∧ m'.2.2.1 1 4 = true ∧ m'.1 = m.1 ∧ (∀ r, ¬ (1 ≤ r ∧ r ≤ 9) → tk_row m m' r) := by
  obtain ⟨h1, h2, h3, h4, h5⟩ := h
  unfold fS_exchange
  rw [if_pos (i_ok (show i < 6 by omega) (by omega)), if_pos (i_ok (show j < 6 by omega) (by omega)), i_nn (by omega), i_nn (by omega)]
  have hP : ∀ k, tk_u2 (tk_u2 m.2.2.2 (1 + 1) i (m.2.2.2 (1 + 1) j)) (1 + 1) j (m.2.2.2 (1 + 1) i) (1 + 1) k = m.2.2.2 (1 + 1) (s_tau i j k) := by
    intro k
    unfold s_tau
    by_cases e : k = j
    · subst e; rw [tk_u2_eq, if_pos rfl]
    · rw [tk_u2_nk e, if_neg e]
      by_cases e2 : k = i
      · subst e2; rw [tk_u2_eq, if_pos rfl]
      · rw [tk_u2_nk e2, if_neg e2]
  refine ⟨_, rfl, ⟨?_, h2, h3, ?_, ?_⟩, by dsimp only; exact tk_u2_eq, rfl, ?_⟩
  · dsimp only; rw [s_sw_len]; exact h1
  · intro k u hu
    dsimp only at hu ⊢
    rw [s_sw_get hi hj] at hu
    rw [hP]
    have hx := h4 _ u hu
    have hv := (m.2.2.2 (1 + 1) (s_tau i j k)).isLt
    unfold x_H at hx ⊢
    dsimp only
    rw [tk_u2_ne (by omega)]
    exact hx
  · intro k k' hk hk' hq
    dsimp only at hq
    rw [hP, hP] at hq
    exact s_tau_inj (h5 _ _ (s_tau_lt (by omega) (by omega) hk) (s_tau_lt (by omega) (by omega) hk') hq)
  · intro r hr
    exact ⟨rfl, rfl, by dsimp only; rw [tk_u2_ne (by omega)], by dsimp only; rw [tk_u2_ne (by omega), tk_u2_ne (by omega)]⟩
theorem y_sw2 (i j : Nat) (hi : i < 6) (hj : j < 6) (I0 : Nat → Int32) : ∀ (q c n : Nat) (m : tk_m), c + q = 4 → q < n → (∀ x, x < 5 → m.1 296 x = I0 x) → (∀ k e, k < 6 → e < 4 → m.1 296 (5 + 4 * k + e) = I0 (5 + 4 * (if e < c then s_tau i j k else k) + e)) → ∃ I, fM_swaps_2 n (Int32.ofNat i) (Int32.ofNat j) (Int32.ofNat c) m = some (I, m.2.1, m.2.2.1, m.2.2.2) ∧ (∀ r, r ≠ 296 → I r = m.1 r) ∧ (∀ x, x < 5 → I 296 x = I0 x) ∧ (∀ k e, k < 6 → e < 4 → I 296 (5 + 4 * k + e) = I0 (5 + 4 * s_tau i j k + e)) := by
  intro q
  induction q with
  | zero =>
    intro c n m h1 h2 h3 h4
    obtain ⟨n, rfl⟩ : ∃ k, n = k + 1 := ⟨n - 1, by omega⟩
    have hc : c = 4 := by omega
    subst hc
    unfold fM_swaps_2
    rw [if_pos (by decide)]
    refine ⟨m.1, rfl, fun _ _ => rfl, h3, fun k e hk he => ?_⟩
    rw [h4 k e hk he, if_pos he]
  | succ q ih =>
    intro c n m h1 h2 h3 h4
    obtain ⟨n, rfl⟩ : ∃ k, n = k + 1 := ⟨n - 1, by omega⟩
    unfold fM_swaps_2
    rw [if_neg (show ¬ (4 : Int32) ≤ Int32.ofNat c from fun z => absurd ((i_le (a := 4) (by omega) (by omega)).mp z) (by omega)), y_of0 hi (by omega), Option.bind_some, y_of0 hj (by omega), Option.bind_some, i_at, i_at, if_pos (i_ok (show 5 + 4 * i + c < 29 by omega) (by omega)), if_pos (i_ok (show 5 + 4 * j + c < 29 by omega) (by omega)), i_nn (by omega), i_nn (by omega), show Int32.ofNat c + 1 = Int32.ofNat (c + 1) from i_add c 1]
    have ri := h4 i c hi (by omega)
    have rj := h4 j c hj (by omega)
    rw [if_neg (by omega)] at ri rj
    rw [ri, rj]
    obtain ⟨I, e1, e2, e3, e4⟩ := ih (c + 1) n (tk_u2 (tk_u2 m.1 296 (5 + 4 * i + c) (I0 (5 + 4 * j + c))) 296 (5 + 4 * j + c) (I0 (5 + 4 * i + c)), m.2.1, m.2.2.1, m.2.2.2) (by omega) (by omega) (fun x hx => by dsimp only; rw [tk_u2_nk (by omega), tk_u2_nk (by omega)]; exact h3 x hx) (fun k e hk he => by
      dsimp only
      by_cases c1 : k = j ∧ e = c
      · rw [c1.1, c1.2, tk_u2_eq, if_pos (by omega)]
        unfold s_tau
        rw [if_pos rfl]
      · rw [tk_u2_nk (by omega)]
        by_cases c2 : k = i ∧ e = c
        · rw [c2.1, c2.2, tk_u2_eq, if_pos (by omega)]
          unfold s_tau
          rw [if_neg (by omega), if_pos rfl]
        · rw [tk_u2_nk (by omega), h4 k e hk he]
          by_cases c3 : e < c
          · rw [if_pos c3, if_pos (by omega)]
          · rw [if_neg c3]
            by_cases c4 : e < c + 1
            · rw [if_pos c4]
              unfold s_tau
              rw [if_neg (by omega), if_neg (by omega)]
            · rw [if_neg c4])
    refine ⟨I, e1, fun r hr => ?_, e3, e4⟩
    rw [e2 r hr]
    dsimp only
    rw [tk_u2_ne hr, tk_u2_ne hr]
theorem y_swaps {c : s_sn} {i j : Nat} (h : y_S c 296 m) (hl : c.1.length ≤ 6) (hi : i < c.1.length) (hj : j < c.1.length) : ∃ m', fM_swaps (Int32.ofNat i) (Int32.ofNat j) m = some m' ∧ y_S (s_sw c.1 i j, c.2) 296 m' ∧ (∀ r, r ≠ 296 → tk_row m m' r) ∧ m'.1 296 0 = m.1 296 0 := by
  obtain ⟨I, e1, e2, e3, e4⟩ := y_sw2 i j (by omega) (by omega) (m.1 296) 4 0 tk_F m (by omega) (by unfold tk_F; omega) (fun _ _ => rfl) (fun k e _ _ => by rw [if_neg (by omega)])
  obtain ⟨h1, h2, ⟨h3, h3b, h3c⟩, h4⟩ := h
  refine ⟨_, e1, ⟨?_, ?_, ⟨?_, ?_, ?_⟩, ?_⟩, fun r hr => ⟨e2 r hr, rfl, rfl, rfl⟩, e3 0 (by decide)⟩
  · dsimp only; rw [e3 0 (by decide), s_sw_len]; exact h1
  · dsimp only; rw [e3 4 (by decide)]; exact h2
  · dsimp only; rw [e3 1 (by decide)]; exact h3
  · dsimp only; rw [e3 2 (by decide)]; exact h3b
  · dsimp only; rw [e3 3 (by decide)]; exact h3c
  · intro k u hu
    dsimp only at hu
    rw [s_sw_get hi hj] at hu
    have hkl : k < 6 := by
      have hh : (s_sw c.1 i j)[k]? = some u := by rw [s_sw_get hi hj]; exact hu
      have := (List.getElem?_eq_some_iff.mp hh).1
      rw [s_sw_len] at this
      omega
    obtain ⟨q1, q2, q3, q4⟩ := h4 _ u hu
    exact ⟨(e4 k 0 hkl (by decide)).trans q1, (e4 k 1 hkl (by decide)).trans q2, (e4 k 2 hkl (by decide)).trans q3, (e4 k 3 hkl (by decide)).trans q4⟩
def o_swap (i j : Int32) (a : s_as) : Int32 × s_as := if (s_at a.1.1 i).isSome = true then (if (s_at a.1.1 j).isSome = true then (1, ((s_sw a.1.1 (tk_n i) (tk_n j), a.1.2), a.2)) else s_fd a 0) else s_fd a 0
theorem x_swap (HK : x_K K) (ha : s_Ok a) (h : x_X K a m) (i j : Int32) : x_does K m (fX_swap i j m) (o_swap i j a) := by
  unfold fX_swap o_swap
  refine x_ite (x_hasI ha h i) (fun g1 => x_ite (x_hasI ha h j) (fun g2 => ?_) (fun _ => x_bt (x_find HK ha h 0 (by decide)))) (fun _ => x_bt (x_find HK ha h 0 (by decide)))
  have hl := s_len ha
  obtain ⟨s, hs⟩ := s_isS g1
  obtain ⟨s', hs'⟩ := s_isS g2
  obtain ⟨k, rfl, hk, _⟩ := s_at_some hs
  obtain ⟨k', rfl, hk', _⟩ := s_at_some hs'
  obtain ⟨m', e1, e2, e3, e4, e5⟩ := x_exch h.2.1 hl hk hk'
  rw [e1, Option.bind_some, i_nn (by omega), i_nn (by omega)]
  exact x_put1 HK ha h e5 e2 (.inl e3) _
theorem y_swap (ha : s_Ok a) (h : y_Y a m) (i j : Int32) : y_does m (fM_swap i j m) (o_swap i j a) := by
  unfold fM_swap o_swap
  refine y_ite (y_hasI ha h i) (fun g1 => y_ite (y_hasI ha h j) (fun g2 => ?_) (fun _ => y_bt (y_find ha h 0 (by decide)))) (fun _ => y_bt (y_find ha h 0 (by decide)))
  have hl := s_len ha
  obtain ⟨s, hs⟩ := s_isS g1
  obtain ⟨s', hs'⟩ := s_isS g2
  obtain ⟨k, rfl, hk, _⟩ := s_at_some hs
  obtain ⟨k', rfl, hk', _⟩ := s_at_some hs'
  obtain ⟨m', e1, e2, e3, e4⟩ := y_swaps h.2.1 hl hk hk'
  rw [e1, Option.bind_some, i_nn (by omega), i_nn (by omega)]
  exact y_put1 ha h e3 e2 _
theorem s_sw_ok (ha : s_Ok a) (i j : Nat) : s_Ok ((s_sw a.1.1 i j, a.1.2), a.2) := ⟨⟨by show (s_sw _ _ _).length ≤ 6; rw [s_sw_len]; exact s_len ha, fun u hu => ha.1.2 u (s_sw_mem hu)⟩, ha.2⟩
theorem o_swap_ok (ha : s_Ok a) (i j : Int32) : s_Ok (o_swap i j a).2 := by
  unfold o_swap
  split
  · split
    · exact s_sw_ok ha _ _
    · exact ha
  · exact ha
/-! turn -/
def s_rv : Nat → List s_sh → Nat → List s_sh
  | 0, l, _ => l
  | j + 1, l, i => s_rv j (s_sw l i (l.length - 1 - i)) (i + 1)
def o_turn (a : s_as) : Int32 × s_as := (Int32.ofNat a.1.1.length, ((s_rv (a.1.1.length / 2) a.1.1 0, a.1.2), a.2))
theorem i_half {n : Nat} (h : n < 2147483648) : Int32.ofNat n / 2 = Int32.ofNat (n / 2) := (Int32.ofNat_div (a := n) (b := 2) (by omega) (by omega)).symm
theorem i_sub {a b : Nat} (h : b ≤ a) : Int32.ofNat a - Int32.ofNat b = Int32.ofNat (a - b) := (Int32.ofNat_sub a b h).symm
theorem x_rev (L : Nat) (hL : L ≤ 6) : ∀ (j i n : Nat) (c : s_sn) (m : tk_m), i + j = L / 2 → j < n → c.1.length = L → x_S c 1 m → ∃ m', fS_reverse_2 n 1 (Int32.ofNat i) m = some (Int32.ofNat L, m') ∧ x_S (s_rv j c.1 i, c.2) 1 m' ∧ (m'.2.2.1 1 4 = true ∨ (j = 0 ∧ m' = m)) ∧ (∀ r, ¬ (1 ≤ r ∧ r ≤ 9) → tk_row m m' r) := by
  intro j
  induction j with
  | zero =>
    intro i n c m h1 h2 h3 h4
    obtain ⟨n, rfl⟩ : ∃ k, n = k + 1 := ⟨n - 1, by omega⟩
    unfold fS_reverse_2
    rw [h4.1, h3, i_half (by omega), if_pos ((i_le (by omega) (by omega)).mpr (by omega))]
    exact ⟨m, rfl, h4, .inr ⟨rfl, rfl⟩, fun r _ => tk_row_rf m r⟩
  | succ j ih =>
    intro i n c m h1 h2 h3 h4
    obtain ⟨n, rfl⟩ : ∃ k, n = k + 1 := ⟨n - 1, by omega⟩
    unfold fS_reverse_2
    rw [h4.1, h3, i_half (by omega), if_neg (fun q => absurd ((i_le (by omega) (by omega)).mp q) (by omega))]
    rw [show Int32.ofNat L - 1 = Int32.ofNat (L - 1) from i_sub (b := 1) (by omega), i_sub (by omega), show Int32.ofNat i + 1 = Int32.ofNat (i + 1) from i_add i 1]
    obtain ⟨m1, e1, e2, e3, e4, e5⟩ := x_exch (i := i) (j := L - 1 - i) h4 (by omega) (by omega) (by omega)
    rw [e1, Option.bind_some]
    obtain ⟨m', g1, g2, g3, g4⟩ := ih (i + 1) n (s_sw c.1 i (L - 1 - i), c.2) m1 (by omega) (by omega) (by dsimp only; rw [s_sw_len]; exact h3) e2
    refine ⟨m', g1, ?_, ?_, fun r hr => tk_row_tr (e5 r hr) (g4 r hr)⟩
    · show x_S (s_rv j (s_sw c.1 i (c.1.length - 1 - i)) (i + 1), c.2) 1 m'
      rw [h3]
      exact g2
    · rcases g3 with q | ⟨_, q⟩
      · exact .inl q
      · rw [q]; exact .inl e3
theorem x_turn (HK : x_K K) (ha : s_Ok a) (h : x_X K a m) : x_does K m (fX_turn m) (o_turn a) := by
  obtain ⟨m', e1, e2, e3, e4⟩ := x_rev a.1.1.length (s_len ha) (a.1.1.length / 2) 0 tk_F a.1 m (by omega) (by have := s_len ha; unfold tk_F; omega) rfl h.2.1
  unfold fX_turn o_turn
  refine x_bt ?_
  unfold fS_reverse
  rw [show (0 : Int32) = Int32.ofNat 0 from rfl, e1]
  refine x_put1 HK ha h e4 e2 ?_ _
  rcases e3 with q | ⟨q1, q2⟩
  · exact .inl q
  · right
    rw [q1]
    exact ⟨rfl, rfl, by rw [q2]⟩
theorem y_rev (L : Nat) (hL : L ≤ 6) : ∀ (j i n : Nat) (c : s_sn) (m : tk_m), i + j = L / 2 → j < n → c.1.length = L → y_S c 296 m → ∃ m', fM_turn_2 n (Int32.ofNat i) m = some (Int32.ofNat L, m') ∧ y_S (s_rv j c.1 i, c.2) 296 m' ∧ (∀ r, r ≠ 296 → tk_row m m' r) := by
  intro j
  induction j with
  | zero =>
    intro i n c m h1 h2 h3 h4
    obtain ⟨n, rfl⟩ : ∃ k, n = k + 1 := ⟨n - 1, by omega⟩
    unfold fM_turn_2
    rw [h4.1, h3, i_half (by omega), if_pos ((i_le (by omega) (by omega)).mpr (by omega))]
    exact ⟨m, rfl, h4, fun r _ => tk_row_rf m r⟩
  | succ j ih =>
    intro i n c m h1 h2 h3 h4
    obtain ⟨n, rfl⟩ : ∃ k, n = k + 1 := ⟨n - 1, by omega⟩
    unfold fM_turn_2
    rw [h4.1, h3, i_half (by omega), if_neg (fun q => absurd ((i_le (by omega) (by omega)).mp q) (by omega))]
    rw [show Int32.ofNat L - 1 = Int32.ofNat (L - 1) from i_sub (b := 1) (by omega), i_sub (by omega), show Int32.ofNat i + 1 = Int32.ofNat (i + 1) from i_add i 1]
    obtain ⟨m1, e1, e2, e3, e4⟩ := y_swaps (i := i) (j := L - 1 - i) h4 (by omega) (by omega) (by omega)
    rw [e1, Option.bind_some]
    obtain ⟨m', g1, g2, g3⟩ := ih (i + 1) n (s_sw c.1 i (L - 1 - i), c.2) m1 (by omega) (by omega) (by dsimp only; rw [s_sw_len]; exact h3) e2
    refine ⟨m', g1, ?_, fun r hr => tk_row_tr (e3 r hr) (g3 r hr)⟩
    show y_S (s_rv j (s_sw c.1 i (c.1.length - 1 - i)) (i + 1), c.2) 296 m'
    rw [h3]
    exact g2
theorem y_turn (ha : s_Ok a) (h : y_Y a m) : y_does m (fM_turn m) (o_turn a) := by
  obtain ⟨m', e1, e2, e3⟩ := y_rev a.1.1.length (s_len ha) (a.1.1.length / 2) 0 tk_F a.1 m (by omega) (by have := s_len ha; unfold tk_F; omega) rfl h.2.1
  unfold fM_turn o_turn
  rw [show (0 : Int32) = Int32.ofNat 0 from rfl, e1]
  exact y_put1 ha h e3 e2 _
theorem s_rv_len : ∀ (j : Nat) (l : List s_sh) (i : Nat), (s_rv j l i).length = l.length := by
  intro j
  induction j with
  | zero => intro l i; rfl
  | succ j ih => intro l i; unfold s_rv; rw [ih, s_sw_len]
theorem s_rv_mem {u : s_sh} : ∀ (j : Nat) (l : List s_sh) (i : Nat), u ∈ s_rv j l i → u ∈ l := by
  intro j
  induction j with
  | zero => intro l i h; exact h
  | succ j ih => intro l i h; unfold s_rv at h; exact s_sw_mem (ih _ _ h)
theorem o_turn_ok (ha : s_Ok a) : s_Ok (o_turn a).2 := ⟨⟨by show (s_rv _ _ _).length ≤ 6; rw [s_rv_len]; exact s_len ha, fun u hu => ha.1.2 u (s_rv_mem _ _ _ hu)⟩, ha.2⟩
/-! prune -/
def s_keep (k : Int32) (l : List s_sh) : List s_sh := l.filter (fun s => !(s_isOf s k))
def o_prune (k : Int32) (a : s_as) : Int32 × s_as := if fX_isWithin k 0 4 = true then (Int32.ofNat (a.1.1.length - (s_keep k a.1.1).length), ((s_keep k a.1.1, a.1.2), a.2)) else s_fd a 0
theorem s_keep_take {k : Int32} {l : List s_sh} {i : Nat} {s : s_sh} (h : l[i]? = some s) : s_keep k (l.take (i + 1)) = s_keep k (l.take i) ++ (if s_isOf s k = true then [] else [s]) := by
  unfold s_keep
  rw [List.take_add_one, List.filter_append, h]
  congr 1
  cases e : s_isOf s k <;> simp [e]
theorem s_keep_le {k : Int32} {l : List s_sh} {i : Nat} : (s_keep k (l.take i)).length ≤ i := Nat.le_trans (List.length_filter_le _ _) (List.length_take_le _ _)
theorem x_take (k : Int32) (orig : List s_sh) (hL : orig.length ≤ 6) : ∀ (j i n : Nat) (c : s_sn) (m : tk_m), i + j = orig.length → j < n → c.1.length = orig.length → x_S c 1 m → (∀ q, q < (s_keep k (orig.take i)).length → c.1[q]? = (s_keep k (orig.take i))[q]?) → (∀ q, i ≤ q → c.1[q]? = orig[q]?) → ∃ m', fS_takeOut_10 n 1 k (Int32.ofNat (s_keep k (orig.take i)).length) (Int32.ofNat orig.length) (Int32.ofNat i) m = some (Int32.ofNat (orig.length - (s_keep k orig).length), m') ∧ x_S (s_keep k orig, c.2) 1 m' ∧ m'.2.2.1 1 4 = true ∧ (∀ r, ¬ (1 ≤ r ∧ r ≤ 9) → tk_row m m' r) := by
  intro j
  induction j with
  | zero =>
    intro i n c m h1 h2 h3 h4 h5 h6
    obtain ⟨n, rfl⟩ : ∃ k, n = k + 1 := ⟨n - 1, by omega⟩
    have hi : i = orig.length := by omega
    subst hi
    rw [List.take_length] at h5 ⊢
    have hle : (s_keep k orig).length ≤ orig.length := List.length_filter_le _ _
    unfold fS_takeOut_10
    rw [if_pos ((i_le (by omega) (by omega)).mpr (by omega))]
    unfold fS_takeOut_46
    rw [i_sub hle]
    have ht : c.1.take (s_keep k orig).length = s_keep k orig := by
      apply List.ext_getElem?
      intro q
      rw [List.getElem?_take]
      by_cases e : q < (s_keep k orig).length
      · rw [if_pos e]; exact h5 q e
      · rw [if_neg e, List.getElem?_eq_none (by omega)]
    refine ⟨_, rfl, ?_, by dsimp only; exact tk_u2_eq, fun r hr => ⟨by dsimp only; rw [tk_u2_ne (by omega)], rfl, by dsimp only; rw [tk_u2_ne (by omega)], rfl⟩⟩
    rw [← ht]
    refine x_S_take h4 (by omega) ?_ ?_ ?_ rfl ?_
    · dsimp only; rw [tk_u2_eq, ht]
    · dsimp only; rw [tk_u2_nk (by decide)]
    · intro r hr; dsimp only; rw [tk_u2_ne (by omega)]
    · intro r hr; dsimp only; rw [tk_u2_ne (by omega)]
  | succ j ih =>
    intro i n c m h1 h2 h3 h4 h5 h6
    obtain ⟨n, rfl⟩ : ∃ k, n = k + 1 := ⟨n - 1, by omega⟩
    have hsi : orig[i]? = some (orig[i]'(by omega)) := List.getElem?_eq_getElem (by omega)
    generalize orig[i]'(by omega) = s at hsi
    have hci : c.1[i]? = some s := by rw [h6 i (Nat.le_refl i)]; exact hsi
    have hs : s_at c.1 (Int32.ofNat i) = some s := by rw [s_at_of (by omega)]; exact hci
    obtain ⟨hk, hH⟩ := x_at h4 (by omega) hs
    have hkt := s_keep_take (k := k) hsi
    have hle := s_keep_le (k := k) (l := orig) (i := i)
    unfold fS_takeOut_10
    rw [if_neg (fun q => absurd ((i_le (by omega) (by omega)).mp q) (by omega)), if_pos hk, x_isOf hH, show Int32.ofNat i + 1 = Int32.ofNat (i + 1) from i_add i 1]
    by_cases e : s_isOf s k = true
    · rw [if_pos e]
      rw [if_pos e, List.append_nil] at hkt
      rw [← hkt]
      exact ih (i + 1) n c m (by omega) (by omega) h3 h4 (by rw [hkt]; exact h5) (fun q hq => h6 q (by omega))
    · rw [if_neg e]
      rw [if_neg e] at hkt
      obtain ⟨m1, e1, e2, e3, e4, e5⟩ := x_exch (i := (s_keep k (orig.take i)).length) (j := i) h4 (by omega) (by omega) (by omega)
      rw [e1, Option.bind_some]
      have hlen : (s_keep k (orig.take (i + 1))).length = (s_keep k (orig.take i)).length + 1 := by rw [hkt, List.length_append]; rfl
      rw [show Int32.ofNat (s_keep k (orig.take i)).length + 1 = Int32.ofNat ((s_keep k (orig.take i)).length + 1) from i_add _ 1, ← hlen]
      obtain ⟨m', g1, g2, g3, g4⟩ := ih (i + 1) n (s_sw c.1 (s_keep k (orig.take i)).length i, c.2) m1 (by omega) (by omega) (by dsimp only; rw [s_sw_len]; exact h3) e2 (by
        intro q hq
        dsimp only
        rw [s_sw_get (by omega) (by omega), hkt]
        rw [hlen] at hq
        by_cases c1 : q < (s_keep k (orig.take i)).length
        · rw [List.getElem?_append_left c1]
          unfold s_tau
          rw [if_neg (by omega), if_neg (by omega)]
          exact h5 q c1
        · have c2 : q = (s_keep k (orig.take i)).length := by omega
          rw [c2, List.getElem?_append_right (Nat.le_refl _), Nat.sub_self]
          unfold s_tau
          by_cases c3 : (s_keep k (orig.take i)).length = i
          · rw [if_pos c3, c3]; exact hci
          · rw [if_neg c3, if_pos rfl]; exact hci) (by
        intro q hq
        dsimp only
        rw [s_sw_get (by omega) (by omega)]
        unfold s_tau
        rw [if_neg (by omega), if_neg (by omega)]
        exact h6 q (by omega))
      exact ⟨m', g1, g2, g3, fun r hr => tk_row_tr (e5 r hr) (g4 r hr)⟩
theorem x_prune (HK : x_K K) (ha : s_Ok a) (h : x_X K a m) (k : Int32) : x_does K m (fX_prune k m) (o_prune k a) := by
  unfold fX_prune o_prune
  refine x_ite Iff.rfl (fun g1 => x_bt ?_) (fun _ => x_bt (x_find HK ha h 0 (by decide)))
  have hl := s_len ha
  obtain ⟨m', e1, e2, e3, e4⟩ := x_take k a.1.1 hl a.1.1.length 0 tk_F a.1 m (by omega) (by unfold tk_F; omega) rfl h.2.1 (fun q hq => by rw [List.take_zero] at hq; exact absurd hq (by show ¬ q < 0; omega)) (fun _ _ => rfl)
  unfold fS_takeOut
  rw [h.2.1.1]
  rw [List.take_zero, show Int32.ofNat (s_keep k []).length = 0 from rfl, show Int32.ofNat 0 = 0 from rfl] at e1
  rw [e1]
  exact x_put1 HK ha h e4 e2 (.inl e3) _
end
