/-! ===== sheets: copy, lays ===== -/
section
variable {K : List s_sh → Int32 × Int32 × Int32 → tk_m → Prop} {a : s_as} {m m' : tk_m} {α : Type}
theorem tk_row_ul {m : tk_m} {i k r : Nat} {v : Int64} (h : r ≠ i) : tk_row m (m.1, tk_u2 m.2.1 i k v, m.2.2.1, m.2.2.2) r := ⟨rfl, tk_u2_ne h, rfl, rfl⟩
def s_row (sz : Nat) (i n : Int32) : Bool := decide (0 ≤ i.toInt ∧ 0 ≤ n.toInt ∧ i.toInt + n.toInt ≤ sz)
theorem x_row {t : Nat → s_st} {k : Nat} (h : x_T t m) (hk : k < 4) (hs : (t k).2.1 ≤ 40) (i n : Int32) : fT_hasRow (287 + 2 * k) i n m = s_row (t k).2.1 i n := by
  have hi := i_rng i
  have hn := i_rng n
  unfold fT_hasRow s_row
  rw [(h k hk).2.1]
  by_cases c1 : i < 0
  · rw [if_pos c1]
    rw [Int32.lt_iff_toInt_lt, show (0 : Int32).toInt = 0 from rfl] at c1
    rw [decide_eq_false (by omega)]
  rw [if_neg c1]
  rw [Int32.lt_iff_toInt_lt, show (0 : Int32).toInt = 0 from rfl] at c1
  by_cases c2 : n < 0
  · rw [if_pos c2]
    rw [Int32.lt_iff_toInt_lt, show (0 : Int32).toInt = 0 from rfl] at c2
    rw [decide_eq_false (by omega)]
  rw [if_neg c2]
  rw [Int32.lt_iff_toInt_lt, show (0 : Int32).toInt = 0 from rfl] at c2
  by_cases c3 : Int32.ofNat (t k).2.1 < i
  · rw [if_pos c3]
    rw [Int32.lt_iff_toInt_lt, i_to (by omega)] at c3
    rw [decide_eq_false (by omega)]
  rw [if_neg c3]
  rw [Int32.lt_iff_toInt_lt, i_to (by omega)] at c3
  have e : (Int32.ofNat (t k).2.1 - i).toInt = ((t k).2.1 : Int) - i.toInt := by rw [i_tsub (by rw [i_to (by omega)]; omega), i_to (by omega)]
  by_cases c4 : Int32.ofNat (t k).2.1 - i < n
  · rw [if_pos c4]
    rw [Int32.lt_iff_toInt_lt, e] at c4
    rw [decide_eq_false (by omega)]
  · rw [if_neg c4]
    rw [Int32.lt_iff_toInt_lt, e] at c4
    rw [decide_eq_true (by omega)]
def s_cpy (t : Nat → s_st) (s u i j n : Nat) : Nat → s_st := s_setT t u ((t u).1, (t u).2.1, fun q => if j ≤ q ∧ q < j + n then (t s).2.2 (i + (q - j)) else (t u).2.2 q)
def o_copy (s i u j n : Int32) (a : s_as) : Int32 × s_as := if fX_isSheet s = true then (if fX_isSheet u = true then (if (a.2.2.2.1 (tk_n s)).1 = -1 then s_fd a 5 else (if (a.2.2.2.1 (tk_n u)).1 = -1 then s_fd a 5 else (if (a.2.2.2.1 (tk_n s)).1 = (a.2.2.2.1 (tk_n u)).1 then (if s_row (a.2.2.2.1 (tk_n s)).2.1 i n = true then (if s_row (a.2.2.2.1 (tk_n u)).2.1 j n = true then (n, (a.1, a.2.1, a.2.2.1, s_cpy a.2.2.2.1 (tk_n s) (tk_n u) (tk_n i) (tk_n j) (tk_n n), a.2.2.2.2)) else s_fd a 0) else s_fd a 0) else s_fd a 2))) else s_fd a 0) else s_fd a 0
theorem x_copy (HK : x_K K) (ha : s_Ok a) (h : x_X K a m) (s i u j n : Int32) : x_does K m (fX_copy s i u j n m) (o_copy s i u j n a) := by
  unfold fX_copy o_copy
  refine x_ite Iff.rfl (fun g1 => x_ite Iff.rfl (fun g2 => ?_) (fun _ => x_bt (x_find HK ha h 0 (by decide)))) (fun _ => x_bt (x_find HK ha h 0 (by decide)))
  obtain ⟨k, hk, rfl⟩ := s_sheetI g1
  obtain ⟨l, hl, rfl⟩ := s_sheetI g2
  have nk : tk_n (Int32.ofNat k) = k := i_nn (by omega)
  have nl : tk_n (Int32.ofNat l) = l := i_nn (by omega)
  have zk := (ha.2.2.2.2 k).1
  have zl := (ha.2.2.2.2 l).1
  have hT := h.2.2.2.2.1
  refine x_grd (i_ok hk (by omega)) (x_grd (i_ok hl (by omega)) ?_)
  rw [nk, nl, x_miss hT hk, x_miss hT hl, (hT k hk).1, (hT l hl).1, x_row hT hk zk, x_row hT hl zl]
  refine x_ite (by rw [decide_eq_true_eq]) (fun _ => x_bt (x_find HK ha h 5 (by decide))) (fun _ => x_ite (by rw [decide_eq_true_eq]) (fun _ => x_bt (x_find HK ha h 5 (by decide))) (fun _ => x_ite Iff.rfl (fun _ => x_ite Iff.rfl (fun r1 => x_ite Iff.rfl (fun r2 => ?_) (fun _ => x_bt (x_find HK ha h 0 (by decide)))) (fun _ => x_bt (x_find HK ha h 0 (by decide)))) (fun _ => x_bt (x_find HK ha h 2 (by decide)))))
  unfold s_row at r1 r2
  rw [decide_eq_true_eq] at r1 r2
  have ni : tk_n i = i.toInt.toNat := rfl
  have nj : tk_n j = j.toInt.toNat := rfl
  have nn : tk_n n = n.toInt.toNat := rfl
  have hz : (0 : Int32).toInt = 0 := rfl
  refine x_grd ⟨by rw [Int32.lt_iff_toInt_lt]; omega, by rw [Int32.lt_iff_toInt_lt]; omega, by rw [Int32.lt_iff_toInt_lt]; omega, by omega, by omega⟩ ?_
  have fr : ∀ r, r ≠ 287 + 2 * l + 1 → tk_row m (m.1, tk_cpy m.2.1 (287 + 2 * k + 1) (287 + 2 * l + 1) (tk_n i) (tk_n j) (tk_n n), m.2.2.1, m.2.2.2) r := fun r hr => ⟨rfl, by funext q; show (if r = 287 + 2 * l + 1 then _ else _) = _; rw [if_neg hr], rfl, rfl⟩
  refine x_putT HK ha h (fun r q _ => fr r (by omega)) (x_T_set (s := ((a.2.2.2.1 l).1, (a.2.2.2.1 l).2.1, fun q => if tk_n j ≤ q ∧ q < tk_n j + tk_n n then (a.2.2.2.1 k).2.2 (tk_n i + (q - tk_n j)) else (a.2.2.2.1 l).2.2 q)) hT hl (fun r r1 r2 => fr r r2) (hT l hl).1 (hT l hl).2.1 (fun q hq => ?_)) _
  show (if 287 + 2 * l + 1 = 287 + 2 * l + 1 then va_cpy (m.2.1 (287 + 2 * k + 1)) (m.2.1 (287 + 2 * l + 1)) (tk_n i) (tk_n j) (tk_n n) q else _) = (if tk_n j ≤ q ∧ q < tk_n j + tk_n n then _ else _)
  rw [if_pos rfl]
  unfold va_cpy
  by_cases c : tk_n j ≤ q ∧ q < tk_n j + tk_n n
  · rw [if_pos c, if_pos c]; exact (hT k hk).2.2 _ (by omega)
  · rw [if_neg c, if_neg c]; exact (hT l hl).2.2 _ hq
theorem y_cp123 (k l I J N : Nat) (hk : k < 4) (hl : l < 4) (hI : I + N ≤ 40) (hJ : J + N ≤ 40) : ∀ (c p n : Nat) (m : tk_m), p + c = N → c < n → (∀ q, q < p → m.2.1 459 q = m.2.1 (445 + k) (I + q)) → ∃ m', fM_copy_123 n (Int32.ofNat k) (Int32.ofNat I) (Int32.ofNat l) (Int32.ofNat J) (Int32.ofNat N) (Int32.ofNat p) m = fM_copy_157 tk_F (Int32.ofNat l) (Int32.ofNat J) (Int32.ofNat N) 0 m' ∧ (∀ r, r ≠ 459 → tk_row m m' r) ∧ (∀ q, q < N → m'.2.1 459 q = m.2.1 (445 + k) (I + q)) := by
  intro c
  induction c with
  | zero =>
    intro p n m h1 h2 h3
    obtain ⟨n, rfl⟩ : ∃ k, n = k + 1 := ⟨n - 1, by omega⟩
    unfold fM_copy_123
    rw [if_pos ((i_le (by omega) (by omega)).mpr (by omega))]
    exact ⟨m, rfl, fun r _ => tk_row_rf m r, fun q hq => h3 q (by omega)⟩
  | succ c ih =>
    intro p n m h1 h2 h3
    obtain ⟨n, rfl⟩ : ∃ k, n = k + 1 := ⟨n - 1, by omega⟩
    unfold fM_copy_123
    rw [if_neg (fun z => absurd ((i_le (by omega) (by omega)).mp z) (by omega)), if_pos (i_ok hk (by omega)), i_add I p, if_pos (i_ok (show I + p < 40 by omega) (by omega)), if_pos (i_ok (show p < 40 by omega) (by omega)), i_nn (show k < 2147483648 by omega), i_nn (show I + p < 2147483648 by omega), i_nn (show p < 2147483648 by omega), show Int32.ofNat p + 1 = Int32.ofNat (p + 1) from i_add p 1]
    obtain ⟨m', e1, e2, e3⟩ := ih (p + 1) n (m.1, tk_u2 m.2.1 459 p (m.2.1 (445 + k) (I + p)), m.2.2.1, m.2.2.2) (by omega) (by omega) (by
      intro q hq
      dsimp only
      rw [tk_u2_ne (show 445 + k ≠ 459 by omega)]
      by_cases e : q = p
      · rw [e, tk_u2_eq]
      · rw [tk_u2_nk e]; exact h3 q (by omega))
    refine ⟨m', e1, fun r hr => tk_row_tr (tk_row_ul hr) (e2 r hr), fun q hq => ?_⟩
    rw [e3 q hq]
    dsimp only
    rw [tk_u2_ne (by omega)]
theorem y_cp157 (l J N : Nat) (hl : l < 4) (hJ : J + N ≤ 40) : ∀ (c p n : Nat) (m : tk_m), p + c = N → c < n → ∃ m', fM_copy_157 n (Int32.ofNat l) (Int32.ofNat J) (Int32.ofNat N) (Int32.ofNat p) m = some (Int32.ofNat N, m') ∧ (∀ r, r ≠ 445 + l → tk_row m m' r) ∧ (∀ q, m'.2.1 (445 + l) q = if J + p ≤ q ∧ q < J + N then m.2.1 459 (q - J) else m.2.1 (445 + l) q) ∧ m'.1 = m.1 ∧ m'.2.2 = m.2.2 := by
  intro c
  induction c with
  | zero =>
    intro p n m h1 h2
    obtain ⟨n, rfl⟩ : ∃ k, n = k + 1 := ⟨n - 1, by omega⟩
    unfold fM_copy_157
    rw [if_pos ((i_le (by omega) (by omega)).mpr (by omega))]
    exact ⟨m, rfl, fun r _ => tk_row_rf m r, fun q => by rw [if_neg (by omega)], rfl, rfl⟩
  | succ c ih =>
    intro p n m h1 h2
    obtain ⟨n, rfl⟩ : ∃ k, n = k + 1 := ⟨n - 1, by omega⟩
    unfold fM_copy_157
    rw [if_neg (fun z => absurd ((i_le (by omega) (by omega)).mp z) (by omega)), if_pos (i_ok hl (by omega)), if_pos (i_ok (show p < 40 by omega) (by omega)), i_add J p, if_pos (i_ok (show J + p < 40 by omega) (by omega)), i_nn (show l < 2147483648 by omega), i_nn (show J + p < 2147483648 by omega), i_nn (show p < 2147483648 by omega), show Int32.ofNat p + 1 = Int32.ofNat (p + 1) from i_add p 1]
    obtain ⟨m', e1, e2, e3, e4, e5⟩ := ih (p + 1) n (m.1, tk_u2 m.2.1 (445 + l) (J + p) (m.2.1 459 p), m.2.2.1, m.2.2.2) (by omega) (by omega)
    refine ⟨m', e1, fun r hr => tk_row_tr (tk_row_ul hr) (e2 r hr), fun q => ?_, e4, e5⟩
    rw [e3 q]
    dsimp only
    rw [tk_u2_ne (show 459 ≠ 445 + l by omega)]
    by_cases c1 : J + (p + 1) ≤ q ∧ q < J + N
    · rw [if_pos c1, if_pos (by omega)]
    · rw [if_neg c1]
      by_cases c2 : q = J + p
      · rw [c2, tk_u2_eq, if_pos (by omega), Nat.add_sub_cancel_left]
      · rw [tk_u2_nk c2, if_neg (by omega)]
theorem y_copy (ha : s_Ok a) (h : y_Y a m) (s i u j n : Int32) : y_does m (fM_copy s i u j n m) (o_copy s i u j n a) := by
  unfold fM_copy o_copy
  refine y_ite (by rw [y_isSheet]) (fun g1 => y_ite (by rw [y_isSheet]) (fun g2 => ?_) (fun _ => y_bt (y_find ha h 0 (by decide)))) (fun _ => y_bt (y_find ha h 0 (by decide)))
  obtain ⟨k, hk, rfl⟩ := s_sheetI g1
  obtain ⟨l, hl, rfl⟩ := s_sheetI g2
  have nk : tk_n (Int32.ofNat k) = k := i_nn (by omega)
  have nl : tk_n (Int32.ofNat l) = l := i_nn (by omega)
  obtain ⟨zk, yk⟩ := ha.2.2.2.2 k
  obtain ⟨zl, yl⟩ := ha.2.2.2.2 l
  have hT := h.2.2.2.2
  have sk := s_srt yk
  have sl := s_srt yl
  refine y_grd (i_ok hk (by omega)) ?_
  rw [if_pos (i_ok hl (by omega)), nk, nl, (hT k hk).1, (hT l hl).1, (hT k hk).2.1, (hT l hl).2.1]
  have f0 := y_bt (y_find ha h 0 (by decide))
  have hi := i_rng i
  have hj := i_rng j
  have hn := i_rng n
  have hz : (0 : Int32).toInt = 0 := rfl
  refine y_ite sk.2 (fun _ => y_bt (y_find ha h 5 (by decide))) (fun _ => ?_)
  by_cases c1 : (a.2.2.2.1 l).1 = -1
  · rw [if_neg (fun q => (sl.1.mp q) c1), if_pos c1]
    exact y_bt (y_find ha h 5 (by decide))
  rw [if_pos (sl.1.mpr c1), if_neg c1]
  refine y_ite Iff.rfl (fun _ => ?_) (fun _ => y_bt (y_find ha h 2 (by decide)))
  have q1 : (i.toInt64 + n.toInt64).toInt = i.toInt + n.toInt := by rw [lo_add (by rw [Int32.toInt_toInt64, Int32.toInt_toInt64]; constructor <;> omega), Int32.toInt_toInt64, Int32.toInt_toInt64]
  have q2 : (j.toInt64 + n.toInt64).toInt = j.toInt + n.toInt := by rw [lo_add (by rw [Int32.toInt_toInt64, Int32.toInt_toInt64]; constructor <;> omega), Int32.toInt_toInt64, Int32.toInt_toInt64]
  have r1 : s_row (a.2.2.2.1 k).2.1 i n = true ↔ (0 ≤ i.toInt ∧ 0 ≤ n.toInt ∧ i.toInt + n.toInt ≤ (a.2.2.2.1 k).2.1) := by unfold s_row; rw [decide_eq_true_eq]
  have r2 : s_row (a.2.2.2.1 l).2.1 j n = true ↔ (0 ≤ j.toInt ∧ 0 ≤ n.toInt ∧ j.toInt + n.toInt ≤ (a.2.2.2.1 l).2.1) := by unfold s_row; rw [decide_eq_true_eq]
  have hfd : ∀ (X : Int32 × s_as), ¬ (s_row (a.2.2.2.1 k).2.1 i n = true ∧ s_row (a.2.2.2.1 l).2.1 j n = true) → (if s_row (a.2.2.2.1 k).2.1 i n = true then (if s_row (a.2.2.2.1 l).2.1 j n = true then X else s_fd a 0) else s_fd a 0) = s_fd a 0 := by
    intro X hX
    by_cases p : s_row (a.2.2.2.1 k).2.1 i n = true
    · rw [if_pos p, if_neg (fun q => hX ⟨p, q⟩)]
    · rw [if_neg p]
  by_cases d1 : i < 0
  · rw [if_pos d1, hfd _ (by rw [r1, r2]; rw [Int32.lt_iff_toInt_lt] at d1; omega)]; exact f0
  rw [if_neg d1]
  by_cases d2 : j < 0
  · rw [if_pos d2, hfd _ (by rw [r1, r2]; rw [Int32.lt_iff_toInt_lt] at d2; omega)]; exact f0
  rw [if_neg d2]
  by_cases d3 : n < 0
  · rw [if_pos d3, hfd _ (by rw [r1, r2]; rw [Int32.lt_iff_toInt_lt] at d3; omega)]; exact f0
  rw [if_neg d3]
  by_cases d4 : (Int32.ofNat (a.2.2.2.1 k).2.1).toInt64 < i.toInt64 + n.toInt64
  · rw [if_pos d4, hfd _ (by rw [r1, r2]; rw [Int64.lt_iff_toInt_lt, Int32.toInt_toInt64, q1, i_to (by omega)] at d4; omega)]; exact f0
  rw [if_neg d4]
  by_cases d5 : j.toInt64 + n.toInt64 ≤ (Int32.ofNat (a.2.2.2.1 l).2.1).toInt64
  · rw [Int32.lt_iff_toInt_lt] at d1 d2 d3
    rw [Int64.lt_iff_toInt_lt, Int32.toInt_toInt64, q1, i_to (by omega)] at d4
    rw [if_pos d5, if_pos (r1.mpr (by omega)), if_pos (r2.mpr (by rw [Int64.le_iff_toInt_le, Int32.toInt_toInt64, q2, i_to (by omega)] at d5; omega))]
    rw [Int64.le_iff_toInt_le, Int32.toInt_toInt64, q2, i_to (by omega)] at d5
    have ei : i = Int32.ofNat (tk_n i) := by apply i_ext; rw [i_to (by show i.toInt.toNat < _; omega)]; show i.toInt = (i.toInt.toNat : Int); omega
    have ej : j = Int32.ofNat (tk_n j) := by apply i_ext; rw [i_to (by show j.toInt.toNat < _; omega)]; show j.toInt = (j.toInt.toNat : Int); omega
    have en : n = Int32.ofNat (tk_n n) := by apply i_ext; rw [i_to (by show n.toInt.toNat < _; omega)]; show n.toInt = (n.toInt.toNat : Int); omega
    have b1 : tk_n i + tk_n n ≤ 40 := by show i.toInt.toNat + n.toInt.toNat ≤ 40; omega
    have b2 : tk_n j + tk_n n ≤ 40 := by show j.toInt.toNat + n.toInt.toNat ≤ 40; omega
    obtain ⟨m1, e1, e2, e3⟩ := y_cp123 k l (tk_n i) (tk_n j) (tk_n n) hk hl b1 b2 (tk_n n) 0 tk_F m (by omega) (by unfold tk_F; omega) (fun q hq => by omega)
    obtain ⟨m2, g1, g2, g3, g4, g5⟩ := y_cp157 l (tk_n j) (tk_n n) hl b2 (tk_n n) 0 tk_F m1 (by omega) (by unfold tk_F; omega)
    rw [← ei, ← ej, ← en, show Int32.ofNat 0 = 0 from rfl] at e1
    rw [← ej, ← en, show Int32.ofNat 0 = 0 from rfl] at g1
    rw [e1, g1]
    have fr : ∀ r, r ≠ 459 → r ≠ 445 + l → tk_row m m2 r := fun r h1 h2 => tk_row_tr (e2 r h1) (g2 r h2)
    refine y_putT ha h (fun r q => ⟨fun e => (by rw [(fr 295 (by omega) (by omega)).1]), fun e => fr r (by omega) (by omega)⟩) (y_T_set (s := ((a.2.2.2.1 l).1, (a.2.2.2.1 l).2.1, fun q => if tk_n j ≤ q ∧ q < tk_n j + tk_n n then (a.2.2.2.1 k).2.2 (tk_n i + (q - tk_n j)) else (a.2.2.2.1 l).2.2 q)) hT hl (fun q _ => ⟨by rw [(fr 442 (by omega) (by omega)).1], by rw [(fr 443 (by omega) (by omega)).1]⟩) (fun q h1 h2 => (fr _ (by omega) (by omega)).2.1) (by rw [(fr 442 (by omega) (by omega)).1]; exact (hT l hl).1) (by rw [(fr 443 (by omega) (by omega)).1]; exact (hT l hl).2.1) (fun q hq => ?_)) _
    rw [g3 q, Nat.add_zero]
    show _ = (if tk_n j ≤ q ∧ q < tk_n j + tk_n n then _ else _)
    by_cases c : tk_n j ≤ q ∧ q < tk_n j + tk_n n
    · rw [if_pos c, if_pos c, e3 _ (by omega)]
      exact (hT k hk).2.2 _ (by omega)
    · rw [if_neg c, if_neg c, (e2 (445 + l) (by omega)).2.1]
      exact (hT l hl).2.2 _ hq
  · rw [if_neg d5, hfd _ (by rw [r1, r2]; rw [Int64.le_iff_toInt_le, Int32.toInt_toInt64, q2, i_to (by omega)] at d5; omega)]
    exact f0
theorem o_copy_ok (ha : s_Ok a) (s i u j n : Int32) : s_Ok (o_copy s i u j n a).2 := by
  unfold o_copy
  repeat (first | exact ha | exact s_setT_ok ha (ha.2.2.2.2 _) | split)
/-! lays -/
def s_ly (sh : s_sh) (t : Nat → s_st) (k : Nat) : Nat → Nat → s_st
  | 0 => t
  | c + 1 => s_put (s_ly sh t k c) k c (fM_cut (t k).1 (s_form sh (Int32.ofNat c)).toInt64)
theorem s_ly_k {sh : s_sh} {t : Nat → s_st} {k : Nat} : ∀ c, (s_ly sh t k c k).1 = (t k).1 ∧ (s_ly sh t k c k).2.1 = (t k).2.1 := by
  intro c
  induction c with
  | zero => exact ⟨rfl, rfl⟩
  | succ c ih =>
    show (s_put (s_ly sh t k c) k c _ k).1 = _ ∧ (s_put (s_ly sh t k c) k c _ k).2.1 = _
    unfold s_put s_setT
    rw [if_pos rfl]
    exact ih
theorem s_ly_ok {sh : s_sh} {t : Nat → s_st} {k : Nat} (ht : ∀ i, (t i).2.1 ≤ 40 ∧ s_in (t i).1 (-1) 2) : ∀ c i, (s_ly sh t k c i).2.1 ≤ 40 ∧ s_in (s_ly sh t k c i).1 (-1) 2 := by
  intro c
  induction c with
  | zero => exact ht
  | succ c ih =>
    intro i
    show (s_put (s_ly sh t k c) k c _ i).2.1 ≤ 40 ∧ s_in (s_put (s_ly sh t k c) k c _ i).1 (-1) 2
    unfold s_put s_setT
    split
    · exact ih k
    · exact ih i
def o_lays (s i : Int32) (a : s_as) : Int32 × s_as := if fX_isSheet s = true then (if (s_at a.1.1 i).isSome = true then (if (a.2.2.2.1 (tk_n s)).1 = -1 then s_fd a 5 else (Int32.ofNat (min 4 (a.2.2.2.1 (tk_n s)).2.1), (a.1, a.2.1, a.2.2.1, s_ly (s_get a.1.1 i) a.2.2.2.1 (tk_n s) (min 4 (a.2.2.2.1 (tk_n s)).2.1), a.2.2.2.2))) else s_fd a 0) else s_fd a 0
theorem i_min4 {n : Nat} (h : n ≤ 40) : fZ_min_I 4 (Int32.ofNat n) = Int32.ofNat (min 4 n) := by
  unfold fZ_min_I
  by_cases c : n < 4
  · rw [if_pos (show Int32.ofNat n < 4 from (i_lt (b := 4) (by omega) (by omega)).mpr c), Nat.min_eq_right (by omega)]
  · rw [if_neg (show ¬ Int32.ofNat n < 4 from fun q => c ((i_lt (b := 4) (by omega) (by omega)).mp q)), Nat.min_eq_left (by omega)]; rfl
theorem x_ly (HK : x_K K) (ha : s_Ok a) (h : x_X K a m) {k : Nat} {i : Int32} {sh : s_sh} (hk : k < 4) (hs : s_at a.1.1 i = some sh) (N : Nat) (hN : N ≤ 4) : ∀ (c p n : Nat) (m1 : tk_m), p + c = N → c < n → (∀ r, r ≠ 287 + 2 * k + 1 → tk_row m m1 r) → x_T (s_ly sh a.2.2.2.1 k p) m1 → ∃ m2, fX_lays_57 n i (287 + 2 * k) (Int32.ofNat N) (Int32.ofNat p) m1 = some (Int32.ofNat N, m2) ∧ (∀ r, r ≠ 287 + 2 * k + 1 → tk_row m m2 r) ∧ x_T (s_ly sh a.2.2.2.1 k N) m2 := by
  intro c
  induction c with
  | zero =>
    intro p n m1 h1 h2 h3 h4
    obtain ⟨n, rfl⟩ : ∃ k, n = k + 1 := ⟨n - 1, by omega⟩
    unfold fX_lays_57
    rw [if_pos ((i_le (by omega) (by omega)).mpr (by omega))]
    have : p = N := by omega
    subst this
    exact ⟨m1, rfl, h3, h4⟩
  | succ c ih =>
    intro p n m1 h1 h2 h3 h4
    obtain ⟨n, rfl⟩ : ∃ k, n = k + 1 := ⟨n - 1, by omega⟩
    have hS : x_S a.1 1 m1 := x_S_k h.2.1 (fun r a b => h3 r (by omega))
    obtain ⟨gk, gH⟩ := x_at hS (s_len ha) hs
    unfold fX_lays_57
    rw [if_neg (fun z => absurd ((i_le (by omega) (by omega)).mp z) (by omega)), if_pos gk, show fH_formNumber (2 + 2 + (m1.2.2.2 2 (tk_n i)).val) (Int32.ofNat p) m1 = s_form sh (Int32.ofNat p) from x_form gH]
    unfold fT_set
    rw [if_pos (i_ok (show p < 40 by omega) (by omega)), i_nn (show p < 2147483648 by omega), x_nar h4 hk, (s_ly_k p).1, Option.bind_some, show Int32.ofNat p + 1 = Int32.ofNat (p + 1) from i_add p 1]
    refine ih (p + 1) n _ (by omega) (by omega) (fun r hr => tk_row_tr (h3 r hr) (tk_row_ul hr)) (x_T_put h4 hk)
theorem x_lays (HK : x_K K) (ha : s_Ok a) (h : x_X K a m) (s i : Int32) : x_does K m (fX_lays s i m) (o_lays s i a) := by
  unfold fX_lays o_lays
  refine x_ite Iff.rfl (fun g1 => x_ite (x_hasI ha h i) (fun g2 => ?_) (fun _ => x_bt (x_find HK ha h 0 (by decide)))) (fun _ => x_bt (x_find HK ha h 0 (by decide)))
  obtain ⟨k, hk, rfl⟩ := s_sheetI g1
  have nk : tk_n (Int32.ofNat k) = k := i_nn (by omega)
  have hT := h.2.2.2.2.1
  obtain ⟨sh, hs⟩ := s_isS g2
  refine x_grd (i_ok hk (by omega)) ?_
  rw [nk, s_get_of hs, x_miss hT hk, (hT k hk).2.1, i_min4 (ha.2.2.2.2 k).1]
  refine x_ite (by rw [decide_eq_true_eq]) (fun _ => x_bt (x_find HK ha h 5 (by decide))) (fun _ => ?_)
  obtain ⟨m2, e1, e2, e3⟩ := x_ly HK ha h hk hs (min 4 (a.2.2.2.1 k).2.1) (Nat.min_le_left _ _) (min 4 (a.2.2.2.1 k).2.1) 0 tk_F m (by omega) (by have := Nat.min_le_left 4 (a.2.2.2.1 k).2.1; unfold tk_F; omega) (fun r _ => tk_row_rf m r) hT
  rw [show (0 : Int32) = Int32.ofNat 0 from rfl, e1]
  exact x_putT HK ha h (fun r q _ => e2 r (by omega)) e3 _
theorem y_ly (ha : s_Ok a) (h : y_Y a m) {k : Nat} {i : Int32} {sh : s_sh} (hk : k < 4) (hs : s_at a.1.1 i = some sh) (N : Nat) (hN : N ≤ 4) : ∀ (c p n : Nat) (m1 : tk_m), p + c = N → c < n → (∀ r, r ≠ 445 + k → tk_row m m1 r) → y_T (s_ly sh a.2.2.2.1 k p) m1 → ∃ m2, fM_lays_50 n (Int32.ofNat k) i (Int32.ofNat N) (Int32.ofNat p) m1 = some (Int32.ofNat N, m2) ∧ (∀ r, r ≠ 445 + k → tk_row m m2 r) ∧ y_T (s_ly sh a.2.2.2.1 k N) m2 := by
  intro c
  induction c with
  | zero =>
    intro p n m1 h1 h2 h3 h4
    obtain ⟨n, rfl⟩ : ∃ k, n = k + 1 := ⟨n - 1, by omega⟩
    unfold fM_lays_50
    rw [if_pos ((i_le (by omega) (by omega)).mpr (by omega))]
    have : p = N := by omega
    subst this
    exact ⟨m1, rfl, h3, h4⟩
  | succ c ih =>
    intro p n m1 h1 h2 h3 h4
    obtain ⟨n, rfl⟩ : ∃ k, n = k + 1 := ⟨n - 1, by omega⟩
    have hS : y_S a.1 296 m1 := y_S_k h.2.1 (h3 296 (by omega))
    unfold fM_lays_50
    rw [if_neg (fun z => absurd ((i_le (by omega) (by omega)).mp z) (by omega)), if_pos (i_ok hk (by omega)), y_form hS ha.1 hs, Option.bind_some, if_pos (i_ok (show p < 40 by omega) (by omega)), i_nn (show k < 2147483648 by omega), i_nn (show p < 2147483648 by omega), (h4 k hk).1, (s_ly_k p).1, show Int32.ofNat p + 1 = Int32.ofNat (p + 1) from i_add p 1]
    refine ih (p + 1) n _ (by omega) (by omega) (fun r hr => tk_row_tr (h3 r hr) (tk_row_ul hr)) (y_T_put h4 hk)
theorem y_lays (ha : s_Ok a) (h : y_Y a m) (s i : Int32) : y_does m (fM_lays s i m) (o_lays s i a) := by
  unfold fM_lays o_lays
  refine y_ite (by rw [y_isSheet]) (fun g1 => y_ite (y_hasI ha h i) (fun g2 => ?_) (fun _ => y_bt (y_find ha h 0 (by decide)))) (fun _ => y_bt (y_find ha h 0 (by decide)))
  obtain ⟨k, hk, rfl⟩ := s_sheetI g1
  have nk : tk_n (Int32.ofNat k) = k := i_nn (by omega)
  have hT := h.2.2.2.2
  have hq := s_srt (ha.2.2.2.2 k).2
  obtain ⟨sh, hs⟩ := s_isS g2
  refine y_grd (i_ok hk (by omega)) ?_
  rw [nk, s_get_of hs, (hT k hk).1, (hT k hk).2.1, i_min4 (ha.2.2.2.2 k).1]
  by_cases c : (a.2.2.2.1 k).1 = -1
  · rw [if_neg (fun q => (hq.1.mp q) c), if_pos c]
    exact y_bt (y_find ha h 5 (by decide))
  rw [if_pos (hq.1.mpr c), if_neg c]
  obtain ⟨m2, e1, e2, e3⟩ := y_ly ha h hk hs (min 4 (a.2.2.2.1 k).2.1) (Nat.min_le_left _ _) (min 4 (a.2.2.2.1 k).2.1) 0 tk_F m (by omega) (by have := Nat.min_le_left 4 (a.2.2.2.1 k).2.1; unfold tk_F; omega) (fun r _ => tk_row_rf m r) hT
  rw [show (0 : Int32) = Int32.ofNat 0 from rfl, e1]
  exact y_putT ha h (fun r q => ⟨fun e => by rw [(e2 295 (by omega)).1], fun e => e2 r (by omega)⟩) e3 _
theorem o_lays_ok (ha : s_Ok a) (s i : Int32) : s_Ok (o_lays s i a).2 := by
  unfold o_lays
  split
  · split
    · split
      · exact ha
      · exact ⟨ha.1, ha.2.1, ha.2.2.1, ha.2.2.2.1, fun j => s_ly_ok ha.2.2.2.2 _ j⟩
    · exact ha
  · exact ha
end
