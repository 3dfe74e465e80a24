/-! ===== shapes: told, changed, dropped, exchanged ===== -/
section
variable {K : List s_sh → Int32 × Int32 × Int32 → tk_m → Prop} {a : s_as} {m m' : tk_m} {α : Type}
theorem s_isS {l : List s_sh} {i : Int32} (h : (s_at l i).isSome = true) : ∃ s, s_at l i = some s := by
  cases e : s_at l i with
  | none => rw [e] at h; cases h
  | some s => exact ⟨s, rfl⟩
theorem x_hasI (ha : s_Ok a) (h : x_X K a m) (i : Int32) : fS_has 1 i m = true ↔ (s_at a.1.1 i).isSome = true := by rw [x_has h.2.1 (s_len ha)]
theorem y_hasI (ha : s_Ok a) (h : y_Y a m) (i : Int32) : fM_isShape i m = true ↔ (s_at a.1.1 i).isSome = true := by rw [y_has h.2.1 (s_len ha)]
def s_meas (s : s_sh) (k : Int32) : Int32 := if k = 1 then s.2.1 else if k = 2 then s.2.2.1 else if k = 3 then s.2.2.2 else if k = 4 then s.2.1 else s.2.2.1
def s_get (l : List s_sh) (i : Int32) : s_sh := (s_at l i).getD (false, 0, 0, 0)
theorem s_get_of {l : List s_sh} {i : Int32} {s : s_sh} (h : s_at l i = some s) : s_get l i = s := by unfold s_get; rw [h]; rfl
def o_of (i w : Int32) (a : s_as) : Int32 × s_as := if (s_at a.1.1 i).isSome = true then (if fX_isWithin w 0 9 = true then (if w = 0 then (s_kind (s_get a.1.1 i), a) else (if w < 6 then (if (s_get a.1.1 i).1 = decide (¬ w < 4) then (s_meas (s_get a.1.1 i) w, a) else s_fd a 2) else (s_form (s_get a.1.1 i) (w - 6), a))) else s_fd a 0) else s_fd a 0
theorem x_meas {s : s_sh} {h : Nat} {w : Int32} (hh : x_H s h m) (e : s.1 = decide (¬ w < 4)) (hw : 1 ≤ w.toInt ∧ w.toInt ≤ 5) : fH_measure h w m = s_meas s w := by
  obtain ⟨h1, h2, h3⟩ := hh
  have hlt : (w < 4) ↔ w.toInt < 4 := by rw [Int32.lt_iff_toInt_lt]; rfl
  unfold fH_measure s_meas
  have eqv : ∀ k : Int32, w = k ↔ w.toInt = k.toInt := fun k => ⟨fun q => by rw [q], i_ext⟩
  have t1 : (1 : Int32).toInt = 1 := rfl
  have t2 : (2 : Int32).toInt = 2 := rfl
  have t3 : (3 : Int32).toInt = 3 := rfl
  have t4 : (4 : Int32).toInt = 4 := rfl
  by_cases hc : w < 4
  · rw [decide_eq_false (fun q => q hc)] at e
    obtain ⟨a1, a2, a3⟩ := h2 e
    rw [a1, a2, a3]
    have hc2 := hlt.mp hc
    have n4 : ¬ w = 4 := by rw [eqv, t4]; omega
    by_cases e1 : w = 1
    · rw [if_pos e1, if_pos e1]
    by_cases e2 : w = 2
    · rw [if_neg e1, if_neg e1, if_pos e2, if_pos e2]
    have e3 : w = 3 := by rw [eqv, t3]; rw [eqv, t1] at e1; rw [eqv, t2] at e2; omega
    rw [if_neg e1, if_neg e1, if_neg e2, if_neg e2, if_pos e3, if_pos e3]
  · rw [decide_eq_true hc] at e
    obtain ⟨a1, a2, a3, a4, a5⟩ := h3 e
    rw [a1, a2]
    rw [hlt] at hc
    have n1 : ¬ w = 1 := by rw [eqv, t1]; omega
    have n2 : ¬ w = 2 := by rw [eqv, t2]; omega
    have n3 : ¬ w = 3 := by rw [eqv, t3]; omega
    rw [if_neg n1, if_neg n1, if_neg n2, if_neg n2, if_neg n3, if_neg n3]
theorem x_of (HK : x_K K) (ha : s_Ok a) (h : x_X K a m) (i w : Int32) : x_does K m (fX_of i w m) (o_of i w a) := by
  unfold fX_of o_of
  refine x_ite (x_hasI ha h i) (fun g1 => x_ite Iff.rfl (fun g2 => ?_) (fun _ => x_bt (x_find HK ha h 0 (by decide)))) (fun _ => x_bt (x_find HK ha h 0 (by decide)))
  obtain ⟨s, hs⟩ := s_isS g1
  obtain ⟨hk, hH⟩ := x_at h.2.1 (s_len ha) hs
  have hw := w_i g2
  have t0 : (0 : Int32).toInt = 0 := rfl
  have hlt : ∀ k : Int32, (w < k) ↔ w.toInt < k.toInt := fun k => Int32.lt_iff_toInt_lt
  rw [s_get_of hs]
  refine x_grd hk (x_ite Iff.rfl (fun _ => ?_) (fun g3 => ?_))
  · rw [x_kind hH]; exact x_same h _
  have hw1 : 1 ≤ w.toInt := by
    have : w.toInt ≠ 0 := fun q => g3 (i_ext (by rw [q]; rfl))
    omega
  refine x_ite Iff.rfl (fun g4 => ?_) (fun _ => ?_)
  · have hw5 : w.toInt ≤ 5 := by rw [hlt, show (6 : Int32).toInt = 6 from rfl] at g4; omega
    have hb : ∀ b : Bool, (tk_b b = 0 ↔ b = false) ∧ (tk_b b = 1 ↔ b = true) := by decide
    by_cases g5 : w < 4
    · rw [if_pos g5]
      refine x_ite ?_ (fun e => ?_) (fun _ => x_bt (x_find HK ha h 2 (by decide)))
      · rw [hH.1, (hb s.1).1, decide_eq_false (fun q => q g5)]
      · rw [x_meas hH e ⟨hw1, hw5⟩]; exact x_same h _
    · rw [if_neg g5]
      refine x_ite ?_ (fun e => ?_) (fun _ => x_bt (x_find HK ha h 2 (by decide)))
      · rw [hH.1, (hb s.1).2, decide_eq_true g5]
      · rw [x_meas hH e ⟨hw1, hw5⟩]; exact x_same h _
  · rw [x_form hH]; exact x_same h _
theorem y_of61 (ha : s_Ok a) (h : y_Y a m) {i w : Int32} {s : s_sh} (hs : s_at a.1.1 i = some s) (hw : 1 ≤ w.toInt ∧ w.toInt ≤ 5) (f : Int32) (hf : f = if (4 : Int32) ≤ w then 0 else 1) : y_does m (fM_of_61 i w f m) (if s.1 = decide (¬ w < 4) then (s_meas s w, a) else s_fd a 2) := by
  obtain ⟨h0, h1, h2, h3⟩ := y_at h.2.1 (s_len ha) hs
  have hle : ((4 : Int32) ≤ w) ↔ ¬ w < 4 := by rw [Int32.le_iff_toInt_le, Int32.lt_iff_toInt_lt]; omega
  unfold fM_of_61
  rw [y_round h0, Option.bind_some]
  refine y_ite ?_ (fun e => ?_) (fun _ => y_bt (y_find ha h 2 (by decide)))
  · rw [hf]
    by_cases g : w < 4
    · rw [if_neg (by rw [hle]; exact fun q => q g), decide_eq_false (fun q => q g)]
      cases s.1 <;> decide
    · rw [if_pos (hle.mpr g), decide_eq_true g]
      cases s.1 <;> decide
  · have eqv : ∀ k : Int32, w = k ↔ w.toInt = k.toInt := fun k => ⟨fun q => by rw [q], i_ext⟩
    have hlt : (w < 4) ↔ w.toInt < 4 := by rw [Int32.lt_iff_toInt_lt]; rfl
    have t1 : (1 : Int32).toInt = 1 := rfl
    have t2 : (2 : Int32).toInt = 2 := rfl
    have t3 : (3 : Int32).toInt = 3 := rfl
    have t4 : (4 : Int32).toInt = 4 := rfl
    have t5 : (5 : Int32).toInt = 5 := rfl
    unfold s_meas
    by_cases g : w < 4
    · rw [if_neg (by rw [hle]; exact fun q => q g)]
      rw [hlt] at g
      rcases (show w.toInt = 1 ∨ w.toInt = 2 ∨ w.toInt = 3 by omega) with q | q | q
      · have : w = 1 := (eqv 1).mpr q
        subst this
        rw [h1, Option.bind_some]; exact y_same h _
      · have : w = 2 := (eqv 2).mpr q
        subst this
        rw [h2, Option.bind_some]; exact y_same h _
      · have : w = 3 := (eqv 3).mpr q
        subst this
        rw [h3, Option.bind_some]; exact y_same h _
    · rw [if_pos (hle.mpr g)]
      rw [hlt] at g
      rcases (show w.toInt = 4 ∨ w.toInt = 5 by omega) with q | q
      · have : w = 4 := (eqv 4).mpr q
        subst this
        rw [show (4 : Int32) - 3 = 1 from rfl, h1, Option.bind_some]; exact y_same h _
      · have : w = 5 := (eqv 5).mpr q
        subst this
        rw [show (5 : Int32) - 3 = 2 from rfl, h2, Option.bind_some]; exact y_same h _
theorem y_of (ha : s_Ok a) (h : y_Y a m) (i w : Int32) : y_does m (fM_of i w m) (o_of i w a) := by
  unfold fM_of o_of
  refine y_ite (y_hasI ha h i) (fun g1 => y_ite (by rw [← w_eq (v := w) (a := 0) (b := 9)]; rfl) (fun g2 => ?_) (fun _ => y_bt (y_find ha h 0 (by decide)))) (fun _ => y_bt (y_find ha h 0 (by decide)))
  obtain ⟨s, hs⟩ := s_isS g1
  have hw := w_i g2
  have t0 : (0 : Int32).toInt = 0 := rfl
  rw [s_get_of hs]
  refine y_ite Iff.rfl (fun _ => ?_) (fun g3 => ?_)
  · rw [y_kind h.2.1 (s_len ha) hs, Option.bind_some]; exact y_same h _
  have hw1 : 1 ≤ w.toInt := by
    have : w.toInt ≠ 0 := fun q => g3 (i_ext (by rw [q]; rfl))
    omega
  have hle : (w ≤ 5) ↔ w < 6 := by
    rw [Int32.le_iff_toInt_le, Int32.lt_iff_toInt_lt, show (5 : Int32).toInt = 5 from rfl, show (6 : Int32).toInt = 6 from rfl]; omega
  refine y_ite hle (fun g4 => ?_) (fun _ => ?_)
  · rw [Int32.lt_iff_toInt_lt, show (6 : Int32).toInt = 6 from rfl] at g4
    by_cases g5 : (4 : Int32) ≤ w
    · rw [if_pos g5]; exact y_of61 ha h hs ⟨hw1, by omega⟩ 0 (by rw [if_pos g5])
    · rw [if_neg g5]; exact y_of61 ha h hs ⟨hw1, by omega⟩ 1 (by rw [if_neg g5])
  · rw [y_form h.2.1 ha.1 hs, Option.bind_some]; exact y_same h _
theorem o_of_ok (ha : s_Ok a) (i w : Int32) : s_Ok (o_of i w a).2 := by
  unfold o_of
  split
  · split
    · split
      · exact ha
      · split
        · split
          · exact ha
          · exact ha
        · exact ha
    · exact ha
  · exact ha
/-! as, drop -/
def o_as (i w : Int32) (a : s_as) : Int32 × s_as := if (s_at a.1.1 i).isSome = true then (if fX_isWithin w 0 4 = true then (if s_isOf (s_get a.1.1 i) w = true then (if (s_get a.1.1 i).1 = true then ((s_get a.1.1 i).2.2.1, a) else ((s_get a.1.1 i).2.2.2, a)) else s_fd a 2) else s_fd a 0) else s_fd a 0
theorem x_as (HK : x_K K) (ha : s_Ok a) (h : x_X K a m) (i w : Int32) : x_does K m (fX_as i w m) (o_as i w a) := by
  unfold fX_as o_as
  refine x_ite (x_hasI ha h i) (fun g1 => x_ite Iff.rfl (fun g2 => ?_) (fun _ => x_bt (x_find HK ha h 0 (by decide)))) (fun _ => x_bt (x_find HK ha h 0 (by decide)))
  obtain ⟨s, hs⟩ := s_isS g1
  obtain ⟨hk, hH⟩ := x_at h.2.1 (s_len ha) hs
  rw [s_get_of hs]
  refine x_grd hk (x_ite (by rw [x_isOf hH]) (fun _ => x_ite (by rw [hH.1]) (fun e => ?_) (fun e => ?_)) (fun _ => x_bt (x_find HK ha h 2 (by decide))))
  · rw [(hH.2.2 e).2.1]; exact x_same h _
  · rw [(hH.2.1 (by simpa using e)).2.2]; exact x_same h _
theorem y_as (ha : s_Ok a) (h : y_Y a m) (i w : Int32) : y_does m (fM_as i w m) (o_as i w a) := by
  unfold fM_as o_as
  refine y_ite (y_hasI ha h i) (fun g1 => y_ite (by rw [← w_eq (v := w) (a := 0) (b := 4)]; rfl) (fun g2 => ?_) (fun _ => y_bt (y_find ha h 0 (by decide)))) (fun _ => y_bt (y_find ha h 0 (by decide)))
  obtain ⟨s, hs⟩ := s_isS g1
  obtain ⟨h0, h1, h2, h3⟩ := y_at h.2.1 (s_len ha) hs
  rw [s_get_of hs, y_kind h.2.1 (s_len ha) hs, Option.bind_some]
  refine y_ite (by rw [y_under]) (fun _ => ?_) (fun _ => y_bt (y_find ha h 2 (by decide)))
  rw [y_round h0, Option.bind_some]
  by_cases e : s.1 = true
  · rw [if_pos e, e, if_neg (by decide), h2, Option.bind_some]; exact y_same h _
  · have e2 : s.1 = false := by simpa using e
    rw [if_neg e, e2, if_pos (by decide), h3, Option.bind_some]; exact y_same h _
theorem o_as_ok (ha : s_Ok a) (i w : Int32) : s_Ok (o_as i w a).2 := by
  unfold o_as
  split
  · split
    · split
      · split <;> exact ha
      · exact ha
    · exact ha
  · exact ha
def o_drop (a : s_as) : Int32 × s_as := if a.1.1.length = 0 then s_fd a 3 else (Int32.ofNat (a.1.1.length - 1), ((a.1.1.take (a.1.1.length - 1), a.1.2), a.2))
theorem x_S_take {c : s_sn} {n : Nat} (h : x_S c 1 m) (hn : n ≤ c.1.length) (e1 : m'.1 1 1 = Int32.ofNat n) (e2 : m'.1 1 3 = m.1 1 3) (e3 : ∀ r, 3 ≤ r → m'.1 r = m.1 r) (e4 : m'.2.2.2 = m.2.2.2) (e5 : ∀ r, 3 ≤ r → m'.2.2.1 r = m.2.2.1 r) : x_S (c.1.take n, c.2) 1 m' := by
  obtain ⟨h1, h2, h3, h4, h5⟩ := h
  refine ⟨by rw [e1, List.length_take, Nat.min_eq_left hn], by rw [e2]; exact h2, by show m'.1 3 0 = _ ∧ m'.1 3 1 = _ ∧ m'.1 3 2 = _; rw [e3 3 (by decide)]; exact h3, fun i u hu => ?_, by rw [e4]; exact h5⟩
  have hu2 : c.1[i]? = some u := by
    rw [List.getElem?_take] at hu
    split at hu
    · exact hu
    · cases hu
  rw [e4]
  have hx := h4 i u hu2
  unfold x_H at hx ⊢
  rw [e3 _ (by omega), e5 _ (by omega)]
  exact hx
theorem x_drop (HK : x_K K) (ha : s_Ok a) (h : x_X K a m) : x_does K m (fX_drop m) (o_drop a) := by
  have hl := s_len ha
  have h1 := h.2.1.1
  unfold fX_drop o_drop
  refine x_ite (by rw [h1]; exact i_eq (b := 0) (by omega) (by omega)) (fun _ => x_bt (x_find HK ha h 3 (by decide))) (fun g => ?_)
  obtain ⟨n, hn⟩ : ∃ n, a.1.1.length = n + 1 := ⟨a.1.1.length - 1, by omega⟩
  unfold tk_let fS_dropLast
  dsimp only
  rw [tk_u2_eq, h1, hn, i_suc (by omega), Nat.add_sub_cancel]
  refine x_put1 HK ha h ?_ ?_ (.inl (by dsimp only; exact tk_u2_eq)) _
  · intro r hr
    have q1 : r ≠ 1 := by omega
    exact ⟨by dsimp only; rw [tk_u2_ne q1], rfl, by dsimp only; rw [tk_u2_ne q1], rfl⟩
  · refine x_S_take h.2.1 (by omega) ?_ ?_ ?_ rfl ?_
    · dsimp only; rw [tk_u2_eq]
    · dsimp only; rw [tk_u2_nk (by decide)]
    · intro r hr; dsimp only; rw [tk_u2_ne (by omega)]
    · intro r hr; dsimp only; rw [tk_u2_ne (by omega)]
theorem y_S_take {c : s_sn} {n : Nat} (h : y_S c 296 m) (hn : n ≤ c.1.length) (e1 : m'.1 296 0 = Int32.ofNat n) (e2 : ∀ k, 1 ≤ k → m'.1 296 k = m.1 296 k) : y_S (c.1.take n, c.2) 296 m' := by
  obtain ⟨h1, h2, ⟨h3, h3b, h3c⟩, h4⟩ := h
  refine ⟨by rw [e1, List.length_take, Nat.min_eq_left hn], by rw [e2 4 (by omega)]; exact h2, ⟨by rw [e2 1 (by omega)]; exact h3, by rw [e2 2 (by omega)]; exact h3b, by rw [e2 3 (by omega)]; exact h3c⟩, fun i u hu => ?_⟩
  have hu2 : c.1[i]? = some u := by
    rw [List.getElem?_take] at hu
    split at hu
    · exact hu
    · cases hu
  obtain ⟨q1, q2, q3, q4⟩ := h4 i u hu2
  exact ⟨by rw [e2 _ (by omega)]; exact q1, by rw [e2 _ (by omega)]; exact q2, by rw [e2 _ (by omega)]; exact q3, by rw [e2 _ (by omega)]; exact q4⟩
theorem y_drop (ha : s_Ok a) (h : y_Y a m) : y_does m (fM_drop m) (o_drop a) := by
  have hl := s_len ha
  have h1 := h.2.1.1
  unfold fM_drop o_drop
  refine y_ite (by rw [h1]; exact i_eq (b := 0) (by omega) (by omega)) (fun _ => y_bt (y_find ha h 3 (by decide))) (fun g => ?_)
  obtain ⟨n, hn⟩ : ∃ n, a.1.1.length = n + 1 := ⟨a.1.1.length - 1, by omega⟩
  rw [tk_u2_eq, h1, hn, i_suc (by omega), Nat.add_sub_cancel]
  refine y_put1 ha h ?_ ?_ _
  · intro r hr
    exact ⟨by dsimp only; rw [tk_u2_ne hr], rfl, rfl, rfl⟩
  · refine y_S_take h.2.1 (by omega) (by dsimp only; rw [tk_u2_eq]) (fun k hk => by dsimp only; rw [tk_u2_nk (by omega)])
theorem o_drop_ok (ha : s_Ok a) : s_Ok (o_drop a).2 := by
  unfold o_drop
  by_cases g : a.1.1.length = 0
  · rw [if_pos g]; exact ha
  · rw [if_neg g]
    exact ⟨⟨Nat.le_trans (List.length_take_le _ _) (by have := s_len ha; omega), fun u hu => ha.1.2 u (List.mem_of_mem_take hu)⟩, ha.2⟩
end
