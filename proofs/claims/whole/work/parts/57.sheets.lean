/-! ===== sheets ===== -/
section
variable {K : List s_sh → Int32 × Int32 × Int32 → tk_m → Prop} {a : s_as} {m m' : tk_m} {α : Type}
theorem x_putT (HK : x_K K) (ha : s_Ok a) (h : x_X K a m) {t : Nat → s_st} (hr : ∀ r, ¬ (287 ≤ r ∧ r ≤ 294) → ¬ ((16 ≤ r ∧ r ≤ 38) ∨ (40 ≤ r ∧ r ≤ 60)) → tk_row m m' r) (hT : x_T t m') (v : α) : x_does K m (some (v, m')) (v, (a.1, a.2.1, a.2.2.1, t, a.2.2.2.2)) := by
  obtain ⟨h1, h2, h3, h4, h5, h6, h7⟩ := h
  refine ⟨m', rfl, ⟨x_F_k h1 (hr 202 (by omega) (by omega)), x_S_k h2 (fun r a b => hr r (by omega) (by omega)), x_P_k ha.2.1 h3 (tk_rowi (hr 0 (by omega) (by omega))) (fun r a b => hr r (by omega) (by omega)), x_N_k h4 (fun r a b => hr r (by omega) (by omega)), hT, x_Z_k h6 (hr 14 (by omega) (by omega)) (hr 15 (by omega) (by omega)), fun hc => ?_⟩, fun r q => hr r (by omega) (by omega)⟩
  rw [(hr 1 (by omega) (by omega)).2.2.1] at hc
  exact HK _ _ _ _ (fun r a b => hr r (by omega) (by omega)) (h7 hc)
/-- rows of the reference in which nothing of its state lies, and the sheets' -/
theorem y_putT (ha : s_Ok a) (h : y_Y a m) {t : Nat → s_st} (hr : ∀ r, (r < 307 ∨ (450 ≤ r ∧ r < 458)) → (r = 295 → m'.1 295 2 = m.1 295 2) ∧ (r ≠ 295 → tk_row m m' r)) (hT : y_T t m') (v : α) : y_does m (some (v, m')) (v, (a.1, a.2.1, a.2.2.1, t, a.2.2.2.2)) := by
  obtain ⟨h1, h2, h3, h4, h5⟩ := h
  exact ⟨m', rfl, ⟨y_F_k h1 ((hr 306 (by omega)).2 (by omega)), y_S_k h2 ((hr 296 (by omega)).2 (by omega)), y_P_k ha.2.1 h3 ((hr 295 (by omega)).1 rfl) (fun r a b => (hr r (by omega)).2 (by omega)), y_N_k h4 (fun r a b => (hr r (by omega)).2 (by omega)), hT⟩, fun r q => (hr r (by omega)).2 (by omega)⟩
def s_setT (t : Nat → s_st) (i : Nat) (s : s_st) : Nat → s_st := fun j => if j = i then s else t j
theorem s_setT_ok (ha : s_Ok a) {i : Nat} {s : s_st} (h : s.2.1 ≤ 40 ∧ s_in s.1 (-1) 2) : s_Ok (a.1, a.2.1, a.2.2.1, s_setT a.2.2.2.1 i s, a.2.2.2.2) := by
  refine ⟨ha.1, ha.2.1, ha.2.2.1, ha.2.2.2.1, fun j => ?_⟩
  show (s_setT a.2.2.2.1 i s j).2.1 ≤ 40 ∧ s_in (s_setT a.2.2.2.1 i s j).1 (-1) 2
  unfold s_setT
  split
  · exact h
  · exact ha.2.2.2.2 j
theorem x_T_set {t : Nat → s_st} {i : Nat} {s : s_st} (h : x_T t m) (hi : i < 4) (hr : ∀ r, r ≠ 287 + 2 * i → r ≠ 287 + 2 * i + 1 → tk_row m m' r) (e1 : m'.1 (287 + 2 * i) 0 = s.1) (e2 : m'.1 (287 + 2 * i) 1 = Int32.ofNat s.2.1) (e3 : ∀ k, k < 40 → m'.2.1 (287 + 2 * i + 1) k = s.2.2 k) : x_T (s_setT t i s) m' := by
  intro j hj
  unfold s_setT
  by_cases e : j = i
  · subst e
    simp only [if_pos]
    exact ⟨e1, e2, e3⟩
  · simp only [if_neg e]
    obtain ⟨q1, q2, q3⟩ := h j hj
    refine ⟨by rw [(hr _ (by omega) (by omega)).1]; exact q1, by rw [(hr _ (by omega) (by omega)).1]; exact q2, fun k hk => by rw [(hr _ (by omega) (by omega)).2.1]; exact q3 k hk⟩
theorem y_T_set {t : Nat → s_st} {i : Nat} {s : s_st} (h : y_T t m) (hi : i < 4) (r1 : ∀ j, j ≠ i → m'.1 442 j = m.1 442 j ∧ m'.1 443 j = m.1 443 j) (r2 : ∀ j, j < 4 → j ≠ i → m'.2.1 (445 + j) = m.2.1 (445 + j)) (e1 : m'.1 442 i = s.1) (e2 : m'.1 443 i = Int32.ofNat s.2.1) (e3 : ∀ k, k < 40 → m'.2.1 (445 + i) k = s.2.2 k) : y_T (s_setT t i s) m' := by
  intro j hj
  unfold s_setT
  by_cases e : j = i
  · subst e
    simp only [if_pos]
    exact ⟨e1, e2, e3⟩
  · simp only [if_neg e]
    obtain ⟨q1, q2, q3⟩ := h j hj
    refine ⟨by rw [(r1 j e).1]; exact q1, by rw [(r1 j e).2]; exact q2, fun k hk => by rw [r2 j hj e]; exact q3 k hk⟩
theorem s_sheetI {s : Int32} (h : fX_isSheet s = true) : ∃ k, k < 4 ∧ s = Int32.ofNat k := by
  have hw : fX_isWithin s 0 3 = true := h
  have hw := w_i hw
  have t0 : (0 : Int32).toInt = 0 := rfl
  have t3 : (3 : Int32).toInt = 3 := rfl
  refine ⟨s.toInt.toNat, by omega, ?_⟩
  apply i_ext
  rw [i_to (by omega)]
  omega
theorem y_isSheet (s : Int32) : fM_isSheet s = fX_isSheet s := w_eq (v := s) (a := 0) (b := 3)
theorem x_miss {t : Nat → s_st} {i : Nat} (h : x_T t m) (hi : i < 4) : fT_isMissing (287 + 2 * i) m = decide ((t i).1 = -1) := by
  unfold fT_isMissing
  rw [(h i hi).1]
  by_cases e : (t i).1 = -1
  · rw [if_pos e, decide_eq_true e]
  · rw [if_neg e, decide_eq_false e]
theorem s_srt {s : Int32} (h : s_in s (-1) 2) : (0 ≤ s ↔ ¬ s = -1) ∧ (s < 0 ↔ s = -1) := by
  unfold s_in at h
  rw [Int32.le_iff_toInt_le, Int32.lt_iff_toInt_lt, ← Int32.toInt_inj, show (0 : Int32).toInt = 0 from rfl, show (-1 : Int32).toInt = -1 from rfl]
  omega
/-! sheet -/
def o_sheet (s t n : Int32) (a : s_as) : Int32 × s_as := if fX_isSheet s = true then (if fX_isWithin t (-1) 2 = true then (if t = -1 then (0, (a.1, a.2.1, a.2.2.1, s_setT a.2.2.2.1 (tk_n s) (-1, 0, fun _ => 0), a.2.2.2.2)) else (if 0 ≤ n then (if n ≤ 40 then (n, (a.1, a.2.1, a.2.2.1, s_setT a.2.2.2.1 (tk_n s) (t, tk_n n, fun _ => 0), a.2.2.2.2)) else s_fd a 0) else s_fd a 6)) else s_fd a 0) else s_fd a 0
theorem x_zero (t : Nat) : ∀ (j i n : Nat) (m : tk_m), i + j = 40 → j < n → (∀ k, k < i → m.2.1 (t + 1) k = 0) → ∃ L, fT_become_12 n t (Int32.ofNat i) m = some (m.1, L, m.2.2.1, m.2.2.2) ∧ (∀ r, r ≠ t + 1 → L r = m.2.1 r) ∧ (∀ k, k < 40 → L (t + 1) k = 0) := by
  intro j
  induction j with
  | zero =>
    intro i n m h1 h2 h3
    obtain ⟨n, rfl⟩ : ∃ k, n = k + 1 := ⟨n - 1, by omega⟩
    have hi : i = 40 := by omega
    subst hi
    unfold fT_become_12
    rw [if_pos (by decide)]
    exact ⟨m.2.1, rfl, fun _ _ => rfl, h3⟩
  | succ j ih =>
    intro i n m h1 h2 h3
    obtain ⟨n, rfl⟩ : ∃ k, n = k + 1 := ⟨n - 1, by omega⟩
    unfold fT_become_12
    rw [if_neg (show ¬ (40 : Int32) ≤ Int32.ofNat i from fun z => absurd ((i_le (a := 40) (by omega) (by omega)).mp z) (by omega)), if_pos (i_ok (show i < 40 by omega) (by omega)), i_nn (by omega), show Int32.ofNat i + 1 = Int32.ofNat (i + 1) from i_add i 1]
    obtain ⟨L, e1, e2, e3⟩ := ih (i + 1) n (m.1, tk_u2 m.2.1 (t + 1) i 0, m.2.2.1, m.2.2.2) (by omega) (by omega) (by
      intro k hk
      dsimp only
      by_cases e : k = i
      · rw [e, tk_u2_eq]
      · rw [tk_u2_nk e]; exact h3 k (by omega))
    exact ⟨L, e1, fun r hr => by rw [e2 r hr]; exact tk_u2_ne hr, e3⟩
theorem y_zero (s : Nat) (hs : s < 4) : ∀ (j i n : Nat) (m : tk_m), i + j = 40 → j < n → (∀ k, k < i → m.2.1 (445 + s) k = 0) → ∃ L, fM_sheet_83 n (Int32.ofNat s) (Int32.ofNat i) m = some (m.1 443 s, (m.1, L, m.2.2.1, m.2.2.2)) ∧ (∀ r, r ≠ 445 + s → L r = m.2.1 r) ∧ (∀ k, k < 40 → L (445 + s) k = 0) := by
  intro j
  induction j with
  | zero =>
    intro i n m h1 h2 h3
    obtain ⟨n, rfl⟩ : ∃ k, n = k + 1 := ⟨n - 1, by omega⟩
    have hi : i = 40 := by omega
    subst hi
    unfold fM_sheet_83
    rw [if_pos (by decide), if_pos (i_ok hs (by omega)), i_nn (by omega)]
    exact ⟨m.2.1, rfl, fun _ _ => rfl, h3⟩
  | succ j ih =>
    intro i n m h1 h2 h3
    obtain ⟨n, rfl⟩ : ∃ k, n = k + 1 := ⟨n - 1, by omega⟩
    unfold fM_sheet_83
    rw [if_neg (show ¬ (40 : Int32) ≤ Int32.ofNat i from fun z => absurd ((i_le (a := 40) (by omega) (by omega)).mp z) (by omega)), if_pos (i_ok hs (by omega)), if_pos (i_ok (show i < 40 by omega) (by omega)), i_nn (show s < 2147483648 by omega), i_nn (show i < 2147483648 by omega), show Int32.ofNat i + 1 = Int32.ofNat (i + 1) from i_add i 1]
    obtain ⟨L, e1, e2, e3⟩ := ih (i + 1) n (m.1, tk_u2 m.2.1 (445 + s) i 0, m.2.2.1, m.2.2.2) (by omega) (by omega) (by
      intro k hk
      dsimp only
      by_cases e : k = i
      · rw [e, tk_u2_eq]
      · rw [tk_u2_nk e]; exact h3 k (by omega))
    exact ⟨L, e1, fun r hr => by rw [e2 r hr]; exact tk_u2_ne hr, e3⟩
theorem x_sheet (HK : x_K K) (ha : s_Ok a) (h : x_X K a m) (s t n : Int32) : x_does K m (fX_sheet s t n m) (o_sheet s t n a) := by
  unfold fX_sheet o_sheet
  refine x_ite Iff.rfl (fun g1 => x_ite Iff.rfl (fun g2 => ?_) (fun _ => x_bt (x_find HK ha h 0 (by decide)))) (fun _ => x_bt (x_find HK ha h 0 (by decide)))
  obtain ⟨k, hk, rfl⟩ := s_sheetI g1
  have nk : tk_n (Int32.ofNat k) = k := i_nn (by omega)
  have go : ∀ (u v : Int32) (N : Nat) (w : Int32), v = Int32.ofNat N → x_does K m ((fT_become (287 + 2 * tk_n (Int32.ofNat k)) u v m).bind fun o => some (w, o)) (w, (a.1, a.2.1, a.2.2.1, s_setT a.2.2.2.1 (tk_n (Int32.ofNat k)) (u, N, fun _ => 0), a.2.2.2.2)) := by
    intro u v N w hv
    rw [nk]
    unfold fT_become
    obtain ⟨L, e1, e2, e3⟩ := x_zero (287 + 2 * k) 40 0 tk_F (tk_u2 (tk_u2 m.1 (287 + 2 * k) 0 u) (287 + 2 * k) 1 v, m.2.1, m.2.2.1, m.2.2.2) (by omega) (by unfold tk_F; omega) (fun _ q => by omega)
    rw [show (0 : Int32) = Int32.ofNat 0 from rfl, e1, Option.bind_some]
    dsimp only at e2
    have fr : ∀ r, r ≠ 287 + 2 * k → r ≠ 287 + 2 * k + 1 → tk_row m (tk_u2 (tk_u2 m.1 (287 + 2 * k) 0 u) (287 + 2 * k) 1 v, L, m.2.2.1, m.2.2.2) r := fun r q1 q2 => ⟨by dsimp only; rw [tk_u2_ne q1, tk_u2_ne q1], e2 r q2, rfl, rfl⟩
    refine x_putT HK ha h (fun r q _ => fr r (by omega) (by omega)) (x_T_set h.2.2.2.2.1 hk fr ?_ ?_ e3) _
    · dsimp only; rw [tk_u2_nk (by decide), tk_u2_eq]
    · dsimp only; rw [tk_u2_eq]; exact hv
  refine x_ite Iff.rfl (fun _ => x_grd (i_ok hk (by omega)) (go (-1) 0 0 0 rfl)) (fun g3 => x_ite Iff.rfl (fun g4 => x_ite Iff.rfl (fun g5 => x_grd (i_ok hk (by omega)) (go t n (tk_n n) n ?_)) (fun _ => x_bt (x_find HK ha h 0 (by decide)))) (fun _ => x_bt (x_find HK ha h 6 (by decide))))
  rw [Int32.le_iff_toInt_le, show (0 : Int32).toInt = 0 from rfl] at g4
  have hr := i_rng n
  have hn : tk_n n = n.toInt.toNat := rfl
  apply i_ext
  rw [i_to (by omega)]
  omega
theorem y_sheet (ha : s_Ok a) (h : y_Y a m) (s t n : Int32) : y_does m (fM_sheet s t n m) (o_sheet s t n a) := by
  unfold fM_sheet o_sheet
  refine y_ite (by rw [y_isSheet]) (fun g1 => y_ite (by rw [← w_eq (v := t) (a := -1) (b := 2)]; rfl) (fun g2 => ?_) (fun _ => y_bt (y_find ha h 0 (by decide)))) (fun _ => y_bt (y_find ha h 0 (by decide)))
  obtain ⟨k, hk, rfl⟩ := s_sheetI g1
  have nk : tk_n (Int32.ofNat k) = k := i_nn (by omega)
  have hso : s_in t (-1) 2 := w_i g2
  have go : ∀ (v : Int32) (N : Nat) (w : Int32), v = Int32.ofNat N → v = w → y_does m (fM_sheet_83 tk_F (Int32.ofNat k) 0 (tk_u2 (tk_u2 m.1 442 (tk_n (Int32.ofNat k)) t) 443 (tk_n (Int32.ofNat k)) v, m.2.1, m.2.2.1, m.2.2.2)) (w, (a.1, a.2.1, a.2.2.1, s_setT a.2.2.2.1 (tk_n (Int32.ofNat k)) (t, N, fun _ => 0), a.2.2.2.2)) := by
    intro v N w hv hw
    rw [nk]
    obtain ⟨L, e1, e2, e3⟩ := y_zero k hk 40 0 tk_F (tk_u2 (tk_u2 m.1 442 k t) 443 k v, m.2.1, m.2.2.1, m.2.2.2) (by omega) (by unfold tk_F; omega) (fun _ q => by omega)
    rw [show (0 : Int32) = Int32.ofNat 0 from rfl, e1]
    dsimp only at e2 ⊢
    rw [tk_u2_eq, hw]
    refine y_putT ha h ?_ (y_T_set h.2.2.2.2 hk ?_ ?_ ?_ ?_ e3) _
    · intro r q
      refine ⟨fun e => by dsimp only; rw [tk_u2_ne (by decide), tk_u2_ne (by decide)], fun e => ⟨by dsimp only; rw [tk_u2_ne (by omega), tk_u2_ne (by omega)], e2 r (by omega), rfl, rfl⟩⟩
    · intro j hj
      dsimp only
      rw [tk_u2_ne (show 442 ≠ 443 by decide), tk_u2_nk hj, tk_u2_nk hj, tk_u2_ne (show 443 ≠ 442 by decide)]
      exact ⟨rfl, rfl⟩
    · intro j hj hj2; exact e2 _ (by omega)
    · dsimp only; rw [tk_u2_ne (by decide), tk_u2_eq]
    · dsimp only; rw [tk_u2_eq, ← hw]; exact hv
  have hs := s_srt hso
  unfold fM_sheet_58
  refine y_ite hs.2 (fun g3 => y_grd (i_ok hk (by omega)) ?_) (fun g3 => y_ite Iff.rfl (fun g4 => y_ite Iff.rfl (fun g5 => y_grd (i_ok hk (by omega)) ?_) (fun _ => y_bt (y_find ha h 0 (by decide)))) (fun _ => y_bt (y_find ha h 6 (by decide))))
  · rw [if_neg (fun q => (hs.1.mp q) g3)]
    have := go 0 0 0 rfl rfl
    rw [g3] at this ⊢
    exact this
  · rw [if_pos (hs.1.mpr g3)]
    refine go n (tk_n n) n ?_ rfl
    rw [Int32.le_iff_toInt_le, show (0 : Int32).toInt = 0 from rfl] at g4
    have hr := i_rng n
    have hn : tk_n n = n.toInt.toNat := rfl
    apply i_ext
    rw [i_to (by omega)]
    omega
theorem o_sheet_ok (ha : s_Ok a) (s t n : Int32) : s_Ok (o_sheet s t n a).2 := by
  unfold o_sheet
  by_cases g1 : fX_isSheet s = true
  · rw [if_pos g1]
    by_cases g2 : fX_isWithin t (-1) 2 = true
    · rw [if_pos g2]
      by_cases g3 : t = -1
      · rw [if_pos g3]
        exact s_setT_ok ha ⟨Nat.zero_le _, by decide, by decide⟩
      · rw [if_neg g3]
        by_cases g4 : 0 ≤ n
        · rw [if_pos g4]
          by_cases g5 : n ≤ 40
          · rw [if_pos g5]
            refine s_setT_ok ha ⟨?_, w_i g2⟩
            rw [Int32.le_iff_toInt_le, show (40 : Int32).toInt = 40 from rfl] at g5
            show n.toInt.toNat ≤ 40
            omega
          · rw [if_neg g5]; exact ha
        · rw [if_neg g4]; exact ha
    · rw [if_neg g2]; exact ha
  · rw [if_neg g1]; exact ha
/-! write, item -/
def s_why (s i : Int32) (t : Nat → s_st) : Int32 := if fX_isSheet s = true then (if (t (tk_n s)).1 = -1 then 5 else (if i < 0 then 0 else (if Int32.ofNat (t (tk_n s)).2.1 ≤ i then 0 else -1))) else 0
theorem x_why (ha : s_Ok a) (h : x_X K a m) (s i : Int32) : fX_missesItem s i m = some (s_why s i a.2.2.2.1) := by
  unfold fX_missesItem s_why
  by_cases g1 : fX_isSheet s = true
  · rw [if_pos g1, if_pos g1]
    obtain ⟨k, hk, rfl⟩ := s_sheetI g1
    rw [if_pos (i_ok hk (by omega)), i_nn (by omega), x_miss h.2.2.2.2.1 hk, (h.2.2.2.2.1 k hk).2.1]
    by_cases e : (a.2.2.2.1 k).1 = -1
    · rw [if_pos (decide_eq_true e), if_pos e]
    · rw [if_neg (by rw [decide_eq_false e]; decide), if_neg e]
      split
      · rfl
      · split <;> rfl
  · rw [if_neg g1, if_neg g1]
theorem y_why (ha : s_Ok a) (h : y_Y a m) (s i : Int32) : fM_whyNoPlace s i m = some (s_why s i a.2.2.2.1) := by
  unfold fM_whyNoPlace s_why
  rw [y_isSheet]
  by_cases g1 : fX_isSheet s = true
  · rw [if_pos g1, if_pos g1]
    obtain ⟨k, hk, rfl⟩ := s_sheetI g1
    obtain ⟨q1, q2, q3⟩ := h.2.2.2.2 k hk
    obtain ⟨z1, z2⟩ := ha.2.2.2.2 k
    have hs := s_srt z2
    rw [if_pos (i_ok hk (by omega)), i_nn (by omega), q1, q2]
    by_cases e : (a.2.2.2.1 k).1 = -1
    · rw [if_neg (fun q => (hs.1.mp q) e), if_pos e]
    · rw [if_pos (hs.1.mpr e), if_neg e]
      have e1 : (Int32.ofNat (a.2.2.2.1 k).2.1 - 1).toInt = ((a.2.2.2.1 k).2.1 : Int) - 1 := by rw [i_tsub (by rw [i_to (by omega), show (1 : Int32).toInt = 1 from rfl]; omega), i_to (by omega)]; rfl
      have hin : (fM_in i.toInt64 0 (Int32.ofNat (a.2.2.2.1 k).2.1 - 1).toInt64 = true) ↔ (¬ i < 0 ∧ ¬ Int32.ofNat (a.2.2.2.1 k).2.1 ≤ i) := by
        rw [w_inM, Int64.lt_iff_toInt_lt, Int64.lt_iff_toInt_lt, Int32.toInt_toInt64, Int32.toInt_toInt64, e1, show (0 : Int64).toInt = 0 from rfl, Int32.lt_iff_toInt_lt, Int32.le_iff_toInt_le, i_to (by omega), show (0 : Int32).toInt = 0 from rfl]
        omega
      by_cases c1 : i < 0
      · rw [if_pos c1, if_neg (fun q => (hin.mp q).1 c1)]
      · rw [if_neg c1]
        by_cases c2 : Int32.ofNat (a.2.2.2.1 k).2.1 ≤ i
        · rw [if_pos c2, if_neg (fun q => (hin.mp q).2 c2)]
        · rw [if_neg c2, if_pos (hin.mpr ⟨c1, c2⟩)]
  · rw [if_neg g1, if_neg g1]
theorem s_why_cs {s i : Int32} {t : Nat → s_st} (ht : ∀ k, (t k).2.1 ≤ 40) : s_why s i t = 0 ∨ s_why s i t = 5 ∨ (s_why s i t = -1 ∧ ∃ k j, k < 4 ∧ s = Int32.ofNat k ∧ j < (t k).2.1 ∧ i = Int32.ofNat j) := by
  unfold s_why
  by_cases g1 : fX_isSheet s = true
  · rw [if_pos g1]
    split
    · exact .inr (.inl rfl)
    · by_cases c1 : i < 0
      · rw [if_pos c1]; exact .inl rfl
      · rw [if_neg c1]
        by_cases c2 : Int32.ofNat (t (tk_n s)).2.1 ≤ i
        · rw [if_pos c2]; exact .inl rfl
        · rw [if_neg c2]
          obtain ⟨k, hk, rfl⟩ := s_sheetI g1
          rw [i_nn (by omega)] at c2
          have := ht k
          rw [Int32.lt_iff_toInt_lt, show (0 : Int32).toInt = 0 from rfl] at c1
          rw [Int32.le_iff_toInt_le, i_to (by omega)] at c2
          refine .inr (.inr ⟨rfl, k, i.toInt.toNat, hk, rfl, by omega, ?_⟩)
          apply i_ext
          rw [i_to (by omega)]
          omega
  · rw [if_neg g1]; exact .inl rfl
def s_put (t : Nat → s_st) (k j : Nat) (v : Int64) : Nat → s_st := s_setT t k ((t k).1, (t k).2.1, fun q => if q = j then v else (t k).2.2 q)
def o_write (s i : Int32) (v : Int64) (a : s_as) : Int32 × s_as := if s_why s i a.2.2.2.1 < 0 then (1, (a.1, a.2.1, a.2.2.1, s_put a.2.2.2.1 (tk_n s) (tk_n i) (fM_cut (a.2.2.2.1 (tk_n s)).1 v), a.2.2.2.2)) else s_fd a (tk_n (s_why s i a.2.2.2.1))
theorem x_nar {t : Nat → s_st} {k : Nat} (h : x_T t m) (hk : k < 4) (v : Int64) : fT_narrow (287 + 2 * k) v m = fM_cut (t k).1 v := by
  unfold fT_narrow fM_cut
  rw [(h k hk).1]
theorem x_setT (ha : s_Ok a) (h : x_X K a m) {k j : Nat} (hk : k < 4) (hj : j < 40) (v : Int64) : fT_set (287 + 2 * k) (Int32.ofNat j) v m = some (m.1, tk_u2 m.2.1 (287 + 2 * k + 1) j (fM_cut (a.2.2.2.1 k).1 v), m.2.2.1, m.2.2.2) := by
  unfold fT_set
  rw [if_pos (i_ok hj (by omega)), i_nn (by omega), x_nar h.2.2.2.2.1 hk]
theorem x_T_put {t : Nat → s_st} {k j : Nat} {v : Int64} (h : x_T t m) (hk : k < 4) : x_T (s_put t k j v) (m.1, tk_u2 m.2.1 (287 + 2 * k + 1) j v, m.2.2.1, m.2.2.2) := by
  obtain ⟨q1, q2, q3⟩ := h k hk
  refine x_T_set h hk (fun r r1 r2 => ⟨rfl, by dsimp only; rw [tk_u2_ne r2], rfl, rfl⟩) q1 q2 (fun q hq => ?_)
  dsimp only
  by_cases e : q = j
  · rw [e, tk_u2_eq, if_pos rfl]
  · rw [tk_u2_nk e, if_neg e]; exact q3 q hq
theorem y_T_put {t : Nat → s_st} {k j : Nat} {v : Int64} (h : y_T t m) (hk : k < 4) : y_T (s_put t k j v) (m.1, tk_u2 m.2.1 (445 + k) j v, m.2.2.1, m.2.2.2) := by
  obtain ⟨q1, q2, q3⟩ := h k hk
  refine y_T_set h hk (fun _ _ => ⟨rfl, rfl⟩) (fun i hi hi2 => by dsimp only; rw [tk_u2_ne (by omega)]) q1 q2 (fun q hq => ?_)
  dsimp only
  by_cases e : q = j
  · rw [e, tk_u2_eq, if_pos rfl]
  · rw [tk_u2_nk e, if_neg e]; exact q3 q hq
theorem s_fdw {s i : Int32} {t : Nat → s_st} (ht : ∀ k, (t k).2.1 ≤ 40) (h : ¬ s_why s i t < 0) : ∃ k, k < 8 ∧ s_why s i t = Int32.ofNat k ∧ tk_n (s_why s i t) = k := by
  rcases s_why_cs (s := s) (i := i) ht with q | q | ⟨q, _⟩
  · rw [q]; exact ⟨0, by decide, rfl, rfl⟩
  · rw [q]; exact ⟨5, by decide, rfl, rfl⟩
  · rw [q] at h; exact absurd (by decide) h
theorem x_write (HK : x_K K) (ha : s_Ok a) (h : x_X K a m) (s i : Int32) (v : Int64) : x_does K m (fX_write s i v m) (o_write s i v a) := by
  have ht : ∀ k, (a.2.2.2.1 k).2.1 ≤ 40 := fun k => (ha.2.2.2.2 k).1
  unfold fX_write o_write
  rw [x_why ha h, Option.bind_some]
  refine x_ite Iff.rfl (fun g => ?_) (fun g => ?_)
  · rcases s_why_cs (s := s) (i := i) ht with q | q | ⟨_, k, j, hk, rfl, hj, rfl⟩
    · rw [q] at g; exact absurd g (by decide)
    · rw [q] at g; exact absurd g (by decide)
    · have := ht k
      refine x_grd (i_ok hk (by omega)) ?_
      rw [i_nn (show k < 2147483648 by omega), i_nn (show j < 2147483648 by omega), x_setT ha h hk (by omega), Option.bind_some]
      refine x_putT HK ha h ?_ (x_T_put h.2.2.2.2.1 hk) _
      intro r q _
      exact ⟨rfl, by dsimp only; rw [tk_u2_ne (by omega)], rfl, rfl⟩
  · obtain ⟨k, hk, e1, e2⟩ := s_fdw ht g
    rw [e2, e1]
    exact x_bt (x_find HK ha h k hk)
theorem y_write (ha : s_Ok a) (h : y_Y a m) (s i : Int32) (v : Int64) : y_does m (fM_write s i v m) (o_write s i v a) := by
  have ht : ∀ k, (a.2.2.2.1 k).2.1 ≤ 40 := fun k => (ha.2.2.2.2 k).1
  unfold fM_write o_write
  rw [y_why ha h, Option.bind_some]
  refine y_ite Iff.rfl (fun g => ?_) (fun g => ?_)
  · rcases s_why_cs (s := s) (i := i) ht with q | q | ⟨_, k, j, hk, rfl, hj, rfl⟩
    · rw [q] at g; exact absurd g (by decide)
    · rw [q] at g; exact absurd g (by decide)
    · have := ht k
      refine y_grd (i_ok hk (by omega)) (y_grd (i_ok (show j < 40 by omega) (by omega)) ?_)
      rw [i_nn (show k < 2147483648 by omega), i_nn (show j < 2147483648 by omega), (h.2.2.2.2 k hk).1]
      refine y_putT ha h ?_ (y_T_put h.2.2.2.2 hk) _
      intro r q
      exact ⟨fun _ => rfl, fun _ => ⟨rfl, by dsimp only; rw [tk_u2_ne (by omega)], rfl, rfl⟩⟩
  · obtain ⟨k, hk, e1, e2⟩ := s_fdw ht g
    rw [e2, e1]
    exact y_bt (y_find ha h k hk)
theorem o_write_ok (ha : s_Ok a) (s i : Int32) (v : Int64) : s_Ok (o_write s i v a).2 := by
  unfold o_write
  split
  · exact s_setT_ok ha (ha.2.2.2.2 _)
  · exact ha
def o_item (s i : Int32) (a : s_as) : Int64 × s_as := if s_why s i a.2.2.2.1 < 0 then ((a.2.2.2.1 (tk_n s)).2.2 (tk_n i), a) else s_fdl a (tk_n (s_why s i a.2.2.2.1))
theorem x_item (HK : x_K K) (ha : s_Ok a) (h : x_X K a m) (s i : Int32) : x_does K m (fX_item s i m) (o_item s i a) := by
  have ht : ∀ k, (a.2.2.2.1 k).2.1 ≤ 40 := fun k => (ha.2.2.2.2 k).1
  unfold fX_item o_item
  rw [x_why ha h, Option.bind_some]
  refine x_ite Iff.rfl (fun g => ?_) (fun g => ?_)
  · rcases s_why_cs (s := s) (i := i) ht with q | q | ⟨_, k, j, hk, rfl, hj, rfl⟩
    · rw [q] at g; exact absurd g (by decide)
    · rw [q] at g; exact absurd g (by decide)
    · have := ht k
      refine x_grd (i_ok hk (by omega)) (x_grd (i_ok (show j < 40 by omega) (by omega)) ?_)
      rw [i_nn (show k < 2147483648 by omega), i_nn (show j < 2147483648 by omega), (h.2.2.2.2.1 k hk).2.2 j (by omega)]
      exact x_same h _
  · obtain ⟨k, hk, e1, e2⟩ := s_fdw ht g
    rw [e2, e1]
    exact x_bt (x_findl HK ha h k hk)
theorem y_item (ha : s_Ok a) (h : y_Y a m) (s i : Int32) : y_does m (fM_item s i m) (o_item s i a) := by
  have ht : ∀ k, (a.2.2.2.1 k).2.1 ≤ 40 := fun k => (ha.2.2.2.2 k).1
  unfold fM_item o_item
  rw [y_why ha h, Option.bind_some]
  refine y_ite Iff.rfl (fun g => ?_) (fun g => ?_)
  · rcases s_why_cs (s := s) (i := i) ht with q | q | ⟨_, k, j, hk, rfl, hj, rfl⟩
    · rw [q] at g; exact absurd g (by decide)
    · rw [q] at g; exact absurd g (by decide)
    · have := ht k
      refine y_grd (i_ok hk (by omega)) (y_grd (i_ok (show j < 40 by omega) (by omega)) ?_)
      rw [i_nn (show k < 2147483648 by omega), i_nn (show j < 2147483648 by omega), (h.2.2.2.2 k hk).2.2 j (by omega)]
      exact y_same h _
  · obtain ⟨k, hk, e1, e2⟩ := s_fdw ht g
    rw [e2, e1]
    exact y_bt (y_findl ha h k hk)
theorem o_item_ok (ha : s_Ok a) (s i : Int32) : s_Ok (o_item s i a).2 := by
  unfold o_item
  split
  · exact ha
  · exact ha
end
