/-! ===== count, status, piles ===== -/
section
variable {K : List s_sh → Int32 × Int32 × Int32 → tk_m → Prop} {a : s_as} {m m' : tk_m} {α : Type}
def s_cnt (k : Int32) (l : List s_sh) : Nat := (l.filter (fun s => s_isOf s k)).length
theorem s_cnt_take {k : Int32} {l : List s_sh} {i : Nat} {s : s_sh} (h : l[i]? = some s) : s_cnt k (l.take (i + 1)) = s_cnt k (l.take i) + (if s_isOf s k = true then 1 else 0) := by
  unfold s_cnt
  rw [List.take_add_one, List.filter_append, h, List.length_append]
  congr 1
  cases e : s_isOf s k <;> simp [e]
theorem x_many (k : Int32) {c : s_sn} (h : x_S c 1 m) (hl : c.1.length ≤ 6) : ∀ (j i n : Nat), i + j = c.1.length → j < n → fS_howMany_4 n 1 k (Int32.ofNat (s_cnt k (c.1.take i))) (Int32.ofNat i) m = some (Int32.ofNat (s_cnt k c.1)) := by
  intro j
  induction j with
  | zero =>
    intro i n h1 h2
    obtain ⟨n, rfl⟩ : ∃ k, n = k + 1 := ⟨n - 1, by omega⟩
    have hi : i = c.1.length := by omega
    unfold fS_howMany_4
    rw [h.1, if_pos ((i_le (by omega) (by omega)).mpr (by omega)), hi, List.take_length]
  | succ j ih =>
    intro i n h1 h2
    obtain ⟨n, rfl⟩ : ∃ k, n = k + 1 := ⟨n - 1, by omega⟩
    have hsi : c.1[i]? = some (c.1[i]'(by omega)) := List.getElem?_eq_getElem (by omega)
    generalize c.1[i]'(by omega) = s at hsi
    have hs : s_at c.1 (Int32.ofNat i) = some s := by rw [s_at_of (by omega)]; exact hsi
    obtain ⟨hk, hH⟩ := x_at h hl hs
    have hkt := s_cnt_take (k := k) hsi
    unfold fS_howMany_4
    rw [h.1, if_neg (fun q => absurd ((i_le (by omega) (by omega)).mp q) (by omega)), if_pos hk, x_isOf hH, show Int32.ofNat i + 1 = Int32.ofNat (i + 1) from i_add i 1]
    by_cases e : s_isOf s k = true
    · rw [if_pos e] at hkt
      rw [if_pos e, show Int32.ofNat (s_cnt k (c.1.take i)) + 1 = Int32.ofNat (s_cnt k (c.1.take i) + 1) from i_add _ 1, ← hkt]
      exact ih (i + 1) n (by omega) (by omega)
    · rw [if_neg e] at hkt
      rw [if_neg e, show s_cnt k (c.1.take i) = s_cnt k (c.1.take (i + 1)) by omega]
      exact ih (i + 1) n (by omega) (by omega)
theorem y_many (k : Int32) {c : s_sn} (h : y_S c 296 m) (hl : c.1.length ≤ 6) : ∀ (j i n : Nat), i + j = c.1.length → j < n → fM_countOf_4 n k (Int32.ofNat (s_cnt k (c.1.take i))) (Int32.ofNat i) m = some (Int32.ofNat (s_cnt k c.1)) := by
  intro j
  induction j with
  | zero =>
    intro i n h1 h2
    obtain ⟨n, rfl⟩ : ∃ k, n = k + 1 := ⟨n - 1, by omega⟩
    have hi : i = c.1.length := by omega
    unfold fM_countOf_4
    rw [h.1, if_pos ((i_le (by omega) (by omega)).mpr (by omega)), hi, List.take_length]
  | succ j ih =>
    intro i n h1 h2
    obtain ⟨n, rfl⟩ : ∃ k, n = k + 1 := ⟨n - 1, by omega⟩
    have hsi : c.1[i]? = some (c.1[i]'(by omega)) := List.getElem?_eq_getElem (by omega)
    generalize c.1[i]'(by omega) = s at hsi
    have hs : s_at c.1 (Int32.ofNat i) = some s := by rw [s_at_of (by omega)]; exact hsi
    have hkt := s_cnt_take (k := k) hsi
    unfold fM_countOf_4
    rw [h.1, if_neg (fun q => absurd ((i_le (by omega) (by omega)).mp q) (by omega)), y_kind h hl hs, Option.bind_some, y_under, show Int32.ofNat i + 1 = Int32.ofNat (i + 1) from i_add i 1]
    by_cases e : s_isOf s k = true
    · rw [if_pos e] at hkt
      rw [if_pos e, show Int32.ofNat (s_cnt k (c.1.take i)) + 1 = Int32.ofNat (s_cnt k (c.1.take i) + 1) from i_add _ 1, ← hkt]
      exact ih (i + 1) n (by omega) (by omega)
    · rw [if_neg e] at hkt
      rw [if_neg e, show Int32.ofNat (s_cnt k (c.1.take i)) + 0 = Int32.ofNat (s_cnt k (c.1.take i) + 0) from i_add _ 0, show s_cnt k (c.1.take i) + 0 = s_cnt k (c.1.take (i + 1)) by omega]
      exact ih (i + 1) n (by omega) (by omega)
def s_nh (f : Nat → Option s_nm) : Nat → Nat
  | 0 => 0
  | i + 1 => s_nh f i + (if (f i).isSome = true then 1 else 0)
theorem x_spots (f : Nat → Option s_nm) (h : x_N f m) : ∀ (j i n : Nat), i + j = 6 → j < n → fX_spotsHeld_4 n (Int32.ofNat (s_nh f i)) (Int32.ofNat i) m = some (Int32.ofNat (s_nh f 6)) := by
  intro j
  induction j with
  | zero =>
    intro i n h1 h2
    obtain ⟨n, rfl⟩ : ∃ k, n = k + 1 := ⟨n - 1, by omega⟩
    have hi : i = 6 := by omega
    subst hi
    unfold fX_spotsHeld_4
    rw [if_pos (by decide)]
  | succ j ih =>
    intro i n h1 h2
    obtain ⟨n, rfl⟩ : ∃ k, n = k + 1 := ⟨n - 1, by omega⟩
    have hh := (h i (by omega)).1
    unfold fX_spotsHeld_4
    rw [if_neg (show ¬ (6 : Int32) ≤ Int32.ofNat i from fun z => absurd ((i_le (a := 6) (by omega) (by omega)).mp z) (by omega)), if_pos (i_ok (show i < 6 by omega) (by omega)), i_nn (by omega), hh, show Int32.ofNat i + 1 = Int32.ofNat (i + 1) from i_add i 1]
    have hs : s_nh f (i + 1) = s_nh f i + (if (f i).isSome = true then 1 else 0) := rfl
    by_cases e : (f i).isSome = true
    · rw [if_pos e] at hs
      rw [if_pos e, show Int32.ofNat (s_nh f i) + 1 = Int32.ofNat (s_nh f i + 1) from i_add _ 1, ← hs]
      exact ih (i + 1) n (by omega) (by omega)
    · rw [if_neg e] at hs
      rw [if_neg e, show s_nh f i = s_nh f (i + 1) by omega]
      exact ih (i + 1) n (by omega) (by omega)
theorem y_spots (f : Nat → Option s_nm) (h : y_N f m) : ∀ (j i n : Nat), i + j = 6 → j < n → fM_count_73 n (Int32.ofNat (s_nh f i)) (Int32.ofNat i) m = some (Int32.ofNat (s_nh f 6), m) := by
  intro j
  induction j with
  | zero =>
    intro i n h1 h2
    obtain ⟨n, rfl⟩ : ∃ k, n = k + 1 := ⟨n - 1, by omega⟩
    have hi : i = 6 := by omega
    subst hi
    unfold fM_count_73
    rw [if_pos (by decide)]
  | succ j ih =>
    intro i n h1 h2
    obtain ⟨n, rfl⟩ : ∃ k, n = k + 1 := ⟨n - 1, by omega⟩
    have hh := (h i (by omega)).1
    unfold fM_count_73
    rw [if_neg (show ¬ (6 : Int32) ≤ Int32.ofNat i from fun z => absurd ((i_le (a := 6) (by omega) (by omega)).mp z) (by omega)), if_pos (i_ok (show i < 6 by omega) (by omega)), i_nn (by omega), hh, show Int32.ofNat i + 1 = Int32.ofNat (i + 1) from i_add i 1]
    have hs : s_nh f (i + 1) = s_nh f i + (if (f i).isSome = true then 1 else 0) := rfl
    by_cases e : (f i).isSome = true
    · rw [if_pos e] at hs
      rw [if_pos e, show Int32.ofNat (s_nh f i) + 1 = Int32.ofNat (s_nh f i + 1) from i_add _ 1, ← hs]
      exact ih (i + 1) n (by omega) (by omega)
    · rw [if_neg e] at hs
      rw [if_neg e, show Int32.ofNat (s_nh f i) + 0 = Int32.ofNat (s_nh f i + 0) from i_add _ 0, show s_nh f i + 0 = s_nh f (i + 1) by omega]
      exact ih (i + 1) n (by omega) (by omega)
def o_count (w : Int32) (a : s_as) : Int32 × s_as := if w = 0 then (Int32.ofNat a.1.1.length, a) else if w = 1 then (Int32.ofNat (s_cnt 1 a.1.1), a) else if w = 2 then (Int32.ofNat (s_cnt 3 a.1.1), a) else if w = 3 then (Int32.ofNat a.2.1.length, a) else if w = 4 then (a.1.2.2, a) else if w = 5 then (Int32.ofNat (s_nh a.2.2.1 6), a) else s_fd a 0
theorem x_count (HK : x_K K) (ha : s_Ok a) (h : x_X K a m) (w : Int32) : x_does K m (fX_count w m) (o_count w a) := by
  have hl := s_len ha
  unfold fX_count o_count
  refine x_ite Iff.rfl (fun _ => ?_) (fun _ => x_ite Iff.rfl (fun _ => ?_) (fun _ => x_ite Iff.rfl (fun _ => ?_) (fun _ => x_ite Iff.rfl (fun _ => ?_) (fun _ => x_ite Iff.rfl (fun _ => ?_) (fun _ => x_ite Iff.rfl (fun _ => ?_) (fun _ => x_bt (x_find HK ha h 0 (by decide))))))))
  · rw [h.2.1.1]; exact x_same h _
  · have := x_many 1 h.2.1 hl a.1.1.length 0 tk_F (by omega) (by unfold tk_F; omega)
    unfold fS_howMany
    rw [List.take_zero] at this
    rw [show (0 : Int32) = Int32.ofNat (s_cnt 1 []) from rfl] at *
    rw [show fS_howMany_4 tk_F 1 1 (Int32.ofNat (s_cnt 1 [])) (Int32.ofNat (s_cnt 1 [])) m = some (Int32.ofNat (s_cnt 1 a.1.1)) from this, Option.bind_some]
    exact x_same h _
  · have := x_many 3 h.2.1 hl a.1.1.length 0 tk_F (by omega) (by unfold tk_F; omega)
    unfold fS_howMany
    rw [List.take_zero] at this
    rw [show fS_howMany_4 tk_F 1 3 0 0 m = some (Int32.ofNat (s_cnt 3 a.1.1)) from this, Option.bind_some]
    exact x_same h _
  · rw [h.2.2.1.1]; exact x_same h _
  · rw [h.2.1.2.1]; exact x_same h _
  · have := x_spots a.2.2.1 h.2.2.2.1 6 0 tk_F (by omega) (by unfold tk_F; omega)
    unfold fX_spotsHeld
    rw [show fX_spotsHeld_4 tk_F 0 0 m = some (Int32.ofNat (s_nh a.2.2.1 6)) from this, Option.bind_some]
    exact x_same h _
theorem y_count (ha : s_Ok a) (h : y_Y a m) (w : Int32) : y_does m (fM_count w m) (o_count w a) := by
  have hl := s_len ha
  unfold fM_count o_count
  refine y_ite Iff.rfl (fun _ => ?_) (fun _ => y_ite Iff.rfl (fun _ => ?_) (fun _ => y_ite Iff.rfl (fun _ => ?_) (fun _ => y_ite Iff.rfl (fun _ => ?_) (fun _ => y_ite Iff.rfl (fun _ => ?_) (fun _ => y_ite Iff.rfl (fun _ => ?_) (fun _ => y_bt (y_find ha h 0 (by decide))))))))
  · rw [h.2.1.1]; exact y_same h _
  · have := y_many 1 h.2.1 hl a.1.1.length 0 tk_F (by omega) (by unfold tk_F; omega)
    unfold fM_countOf
    rw [List.take_zero] at this
    rw [show fM_countOf_4 tk_F 1 0 0 m = some (Int32.ofNat (s_cnt 1 a.1.1)) from this, Option.bind_some]
    exact y_same h _
  · have := y_many 3 h.2.1 hl a.1.1.length 0 tk_F (by omega) (by unfold tk_F; omega)
    unfold fM_countOf
    rw [List.take_zero] at this
    rw [show fM_countOf_4 tk_F 3 0 0 m = some (Int32.ofNat (s_cnt 3 a.1.1)) from this, Option.bind_some]
    exact y_same h _
  · rw [h.2.2.1.1]; exact y_same h _
  · rw [h.2.1.2.1]; exact y_same h _
  · have := y_spots a.2.2.1 h.2.2.2.1 6 0 tk_F (by omega) (by unfold tk_F; omega)
    rw [show fM_count_73 tk_F 0 0 m = some (Int32.ofNat (s_nh a.2.2.1 6), m) from this]
    exact y_same h _
theorem o_count_ok (ha : s_Ok a) (w : Int32) : s_Ok (o_count w a).2 := by
  unfold o_count
  repeat (first | exact ha | split)
/-! status -/
def s_fs (f : Nat → Int32) : Nat → Int32
  | 0 => 0
  | k + 1 => s_fs f k + f k
def o_status (w : Int32) (a : s_as) : Int32 × s_as := if fX_isWithin w (-1) 7 = true then (if w < 0 then (s_fs a.2.2.2.2 8, a) else (a.2.2.2.2 (tk_n w), a)) else s_fd a 0
theorem x_stat (f : Nat → Int32) (h : x_F f m) : ∀ (j i n : Nat), i + j = 8 → j < n → fX_status_31 n (s_fs f i) (Int32.ofNat i) m = some (s_fs f 8, m) := by
  intro j
  induction j with
  | zero =>
    intro i n h1 h2
    obtain ⟨n, rfl⟩ : ∃ k, n = k + 1 := ⟨n - 1, by omega⟩
    have hi : i = 8 := by omega
    subst hi
    unfold fX_status_31
    rw [if_pos (by decide)]
  | succ j ih =>
    intro i n h1 h2
    obtain ⟨n, rfl⟩ : ∃ k, n = k + 1 := ⟨n - 1, by omega⟩
    unfold fX_status_31
    rw [if_neg (show ¬ (8 : Int32) ≤ Int32.ofNat i from fun z => absurd ((i_le (a := 8) (by omega) (by omega)).mp z) (by omega)), if_pos (i_ok (show i < 8 by omega) (by omega)), i_nn (by omega), h i (by omega), show Int32.ofNat i + 1 = Int32.ofNat (i + 1) from i_add i 1]
    exact ih (i + 1) n (by omega) (by omega)
theorem y_stat (f : Nat → Int32) (h : y_F f m) (w : Int32) : ∀ (j i n : Nat) (v : Int32), i + j = 8 → j < n → (v = if w < 0 then s_fs f i else if tk_n w < i then f (tk_n w) else 0) → fM_status_24 n w v (Int32.ofNat i) m = some ((if w < 0 then s_fs f 8 else if tk_n w < 8 then f (tk_n w) else 0), m) := by
  intro j
  induction j with
  | zero =>
    intro i n v h1 h2 h3
    obtain ⟨n, rfl⟩ : ∃ k, n = k + 1 := ⟨n - 1, by omega⟩
    have hi : i = 8 := by omega
    subst hi
    unfold fM_status_24
    rw [if_pos (by decide), h3]
  | succ j ih =>
    intro i n v h1 h2 h3
    obtain ⟨n, rfl⟩ : ∃ k, n = k + 1 := ⟨n - 1, by omega⟩
    unfold fM_status_24
    rw [if_neg (show ¬ (8 : Int32) ≤ Int32.ofNat i from fun z => absurd ((i_le (a := 8) (by omega) (by omega)).mp z) (by omega)), if_pos (i_ok (show i < 8 by omega) (by omega)), i_nn (by omega), h i (by omega), show Int32.ofNat i + 1 = Int32.ofNat (i + 1) from i_add i 1]
    by_cases c1 : w < 0
    · rw [if_pos c1] at h3
      rw [if_pos c1]
      exact ih (i + 1) n _ (by omega) (by omega) (by rw [if_pos c1, h3]; rfl)
    · rw [if_neg c1] at h3
      rw [if_neg c1]
      have hw : (w = Int32.ofNat i) ↔ tk_n w = i := by
        rw [Int32.lt_iff_toInt_lt, show (0 : Int32).toInt = 0 from rfl] at c1
        have hr := i_rng w
        have hn : tk_n w = w.toInt.toNat := rfl
        constructor
        · intro q; rw [q, i_nn (by omega)]
        · intro q; apply i_ext; rw [i_to (by omega)]; omega
      by_cases c2 : w = Int32.ofNat i
      · rw [if_pos c2]
        refine ih (i + 1) n _ (by omega) (by omega) ?_
        have c3 := hw.mp c2
        rw [if_neg c1, if_pos (by omega), h3, if_neg (by omega), c3]
        grind
      · rw [if_neg c2]
        refine ih (i + 1) n _ (by omega) (by omega) ?_
        have c3 : ¬ tk_n w = i := fun q => c2 (hw.mpr q)
        rw [if_neg c1, h3]
        by_cases c4 : tk_n w < i
        · rw [if_pos c4, if_pos (by omega)]; grind
        · rw [if_neg c4, if_neg (by omega)]; grind
theorem x_status (HK : x_K K) (ha : s_Ok a) (h : x_X K a m) (w : Int32) : x_does K m (fX_status w m) (o_status w a) := by
  unfold fX_status o_status
  refine x_ite Iff.rfl (fun g => x_ite Iff.rfl (fun c => ?_) (fun c => ?_)) (fun _ => x_bt (x_find HK ha h 0 (by decide)))
  · rw [show fX_status_31 tk_F 0 0 m = some (s_fs a.2.2.2.2 8, m) from x_stat a.2.2.2.2 h.1 8 0 tk_F (by omega) (by unfold tk_F; omega)]
    exact x_same h _
  · have hw := w_i g
    have hk : tk_n w < 8 := by
      have t7 : (7 : Int32).toInt = 7 := rfl
      have hn : tk_n w = w.toInt.toNat := rfl
      omega
    rw [if_pos ⟨c, hk⟩, h.1 _ hk]
    exact x_same h _
theorem y_status (ha : s_Ok a) (h : y_Y a m) (w : Int32) : y_does m (fM_status w m) (o_status w a) := by
  unfold fM_status o_status
  refine y_ite (by rw [← w_eq (v := w) (a := -1) (b := 7)]; rfl) (fun g => ?_) (fun _ => y_bt (y_find ha h 0 (by decide)))
  have hw := w_i g
  have t7 : (7 : Int32).toInt = 7 := rfl
  have hn : tk_n w = w.toInt.toNat := rfl
  have hk : tk_n w < 8 := by omega
  rw [show fM_status_24 tk_F w 0 0 m = some ((if w < 0 then s_fs a.2.2.2.2 8 else if tk_n w < 8 then a.2.2.2.2 (tk_n w) else 0), m) from y_stat a.2.2.2.2 h.1 w 8 0 tk_F 0 (by omega) (by unfold tk_F; omega) (by split <;> rfl), if_pos hk]
  by_cases c : w < 0
  · rw [if_pos c, if_pos c]; exact y_same h _
  · rw [if_neg c, if_neg c]; exact y_same h _
theorem o_status_ok (ha : s_Ok a) (w : Int32) : s_Ok (o_status w a).2 := by
  unfold o_status
  repeat (first | exact ha | split)
end
