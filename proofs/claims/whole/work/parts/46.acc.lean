/-! ===== calls: how they are put together; what is read of shapes ===== -/
section
variable {K : List s_sh → Int32 × Int32 × Int32 → tk_m → Prop} {a : s_as} {m : tk_m} {α : Type}
theorem x_ite {c c' : Prop} [Decidable c] [Decidable c'] {p q : Option (α × tk_m)} {o1 o2 : α × s_as} (hc : c ↔ c') (h1 : c' → x_does K m p o1) (h2 : ¬ c' → x_does K m q o2) : x_does K m (if c then p else q) (if c' then o1 else o2) := by
  by_cases h : c'
  · rw [if_pos h, if_pos (hc.mpr h)]; exact h1 h
  · rw [if_neg h, if_neg (fun q => h (hc.mp q))]; exact h2 h
theorem y_ite {c c' : Prop} [Decidable c] [Decidable c'] {p q : Option (α × tk_m)} {o1 o2 : α × s_as} (hc : c ↔ c') (h1 : c' → y_does m p o1) (h2 : ¬ c' → y_does m q o2) : y_does m (if c then p else q) (if c' then o1 else o2) := by
  by_cases h : c'
  · rw [if_pos h, if_pos (hc.mpr h)]; exact h1 h
  · rw [if_neg h, if_neg (fun q => h (hc.mp q))]; exact h2 h
theorem x_grd {c : Prop} [Decidable c] {p : Option (α × tk_m)} {o : α × s_as} (hc : c) (h : x_does K m p o) : x_does K m (if c then p else none) o := by rw [if_pos hc]; exact h
theorem y_grd {c : Prop} [Decidable c] {p : Option (α × tk_m)} {o : α × s_as} (hc : c) (h : y_does m p o) : y_does m (if c then p else none) o := by rw [if_pos hc]; exact h
theorem x_same (h : x_X K a m) (v : α) : x_does K m (some (v, m)) (v, a) := ⟨m, rfl, h, fun r _ => tk_row_rf m r⟩
theorem y_same (h : y_Y a m) (v : α) : y_does m (some (v, m)) (v, a) := ⟨m, rfl, h, fun r _ => tk_row_rf m r⟩
theorem x_bt {p : Option (α × tk_m)} {o : α × s_as} (h : x_does K m p o) : x_does K m (p.bind fun z => some (z.1, z.2)) o := by rw [tk_beta]; exact h
theorem y_bt {p : Option (α × tk_m)} {o : α × s_as} (h : y_does m p o) : y_does m (p.bind fun z => some (z.1, z.2)) o := by rw [tk_beta]; exact h
end
theorem tk_hi_tr {m m1 m2 : tk_m} (h : tk_hi m m1) (h2 : tk_hi m1 m2) : tk_hi m m2 := fun r hr => tk_row_tr (h r hr) (h2 r hr)
theorem tk_lo_tr {m m1 m2 : tk_m} (h : tk_lo m m1) (h2 : tk_lo m1 m2) : tk_lo m m2 := fun r hr => tk_row_tr (h r hr) (h2 r hr)
theorem y_Y_k {a : s_as} {m m' : tk_m} (hp : a.2.1.length ≤ 8) (h : y_Y a m) (q : tk_hi m m') : y_Y a m' := by
  obtain ⟨h1, h2, h3, h4, h5⟩ := h
  exact ⟨y_F_k h1 (q 306 (by decide)), y_S_k h2 (q 296 (by decide)), y_P_k hp h3 (tk_rowi (q 295 (by decide))) (fun r a b => q r (by omega)), y_N_k h4 (fun r a b => q r (by omega)), y_T_k h5 (fun r a b => q r (by omega))⟩
theorem x_X_k {K : List s_sh → Int32 × Int32 × Int32 → tk_m → Prop} (HK : x_K K) {a : s_as} {m m' : tk_m} (hp : a.2.1.length ≤ 8) (h : x_X K a m) (q : tk_lo m m') : x_X K a m' := by
  obtain ⟨h1, h2, h3, h4, h5, h6, h7⟩ := h
  refine ⟨x_F_k h1 (q 202 (by decide)), x_S_k h2 (fun r a b => q r (by omega)), x_P_k hp h3 (tk_rowi (q 0 (by decide))) (fun r a b => q r (by omega)), x_N_k h4 (fun r a b => q r (by omega)), x_T_k h5 (fun r a b => q r (by omega)), x_Z_k h6 (q 14 (by decide)) (q 15 (by decide)), fun hc => ?_⟩
  rw [(q 1 (by decide)).2.2.1] at hc
  exact HK _ _ _ _ (fun r a b => q r (by omega)) (h7 hc)
/-! shapes -/
def s_at (l : List s_sh) (i : Int32) : Option s_sh := if i < 0 then none else l[tk_n i]?
theorem s_at_some {l : List s_sh} {i : Int32} {s : s_sh} (h : s_at l i = some s) : ∃ k, i = Int32.ofNat k ∧ k < l.length ∧ l[k]? = some s := by
  unfold s_at at h
  by_cases hi : i < 0
  · rw [if_pos hi] at h; cases h
  · rw [if_neg hi] at h
    refine ⟨tk_n i, ?_, (List.getElem?_eq_some_iff.mp h).1, h⟩
    apply i_ext
    rw [Int32.lt_iff_toInt_lt, show (0 : Int32).toInt = 0 from rfl] at hi
    have hr := i_rng i
    have : tk_n i = i.toInt.toNat := rfl
    rw [i_to (by omega)]
    omega
theorem s_at_of {l : List s_sh} {k : Nat} (h : k < 2147483648) : s_at l (Int32.ofNat k) = l[k]? := by
  unfold s_at
  rw [if_neg (i_neg h), i_nn h]
theorem s_at_ok {c : s_sn} {i : Int32} {s : s_sh} (hc : s_snOk c) (h : s_at c.1 i = some s) : s_shOk s := by
  obtain ⟨k, _, _, h3⟩ := s_at_some h
  exact hc.2 s (List.mem_of_getElem? h3)
def s_kind (s : s_sh) : Int32 := if s.1 = true then (if (1 : Int32) < s.2.1 then 2 else 4) else (if s.2.2.2 = 0 then 3 else 1)
def s_isOf (s : s_sh) (k : Int32) : Bool := decide (k = 0) || (decide (k = if s.1 = true then 2 else 1) || decide (k = s_kind s))
def s_form (s : s_sh) (k : Int32) : Int32 := if k = 0 then (if s.1 = true then 0 else 1) else if k = 1 then (if s.1 = true then s_A s.2.1 else (-2 : Int32) * s.2.1) else if k = 2 then (if s.1 = true then s_B s.2.1 else (-2 : Int32) * s.2.2.1) else (if s.1 = true then -s.2.2.1 else ((s.2.1 * s.2.1) + (s.2.2.1 * s.2.2.1)) - (s.2.2.2 * s.2.2.2))
/-! the class reads -/
section
variable {c : s_sn} {m : tk_m} {t : Nat}
theorem x_has {i : Int32} (h : x_S c t m) (hl : c.1.length ≤ 6) : fS_has t i m = (s_at c.1 i).isSome := by
  unfold fS_has s_at
  by_cases hi : i < 0
  · rw [if_pos hi, if_pos hi]; rfl
  · rw [if_neg hi, if_neg hi, h.1]
    rw [Int32.lt_iff_toInt_lt, show (0 : Int32).toInt = 0 from rfl] at hi
    have hr := i_rng i
    have hn : tk_n i = i.toInt.toNat := rfl
    by_cases hc : Int32.ofNat c.1.length ≤ i
    · rw [if_pos hc]
      rw [Int32.le_iff_toInt_le, i_to (by omega)] at hc
      rw [List.getElem?_eq_none (by omega)]
      rfl
    · rw [if_neg hc]
      rw [Int32.le_iff_toInt_le, i_to (by omega)] at hc
      rw [List.getElem?_eq_getElem (show tk_n i < c.1.length by omega)]
      rfl
theorem x_at {i : Int32} {s : s_sh} (h : x_S c t m) (hl : c.1.length ≤ 6) (hs : s_at c.1 i = some s) : tk_ok i 6 ∧ x_H s (t + 1 + 2 + (m.2.2.2 (t + 1) (tk_n i)).val) m := by
  obtain ⟨k, rfl, h2, h3⟩ := s_at_some hs
  have hk : k < 6 := by omega
  rw [i_nn (by omega)]
  exact ⟨i_ok hk (by omega), h.2.2.2.1 k s h3⟩
theorem x_kind {s : s_sh} {h : Nat} (hh : x_H s h m) : fH_lowestKind h m = s_kind s := by
  unfold fH_lowestKind s_kind
  obtain ⟨h1, h2, h3⟩ := hh
  rw [h1]
  by_cases e : s.1 = true
  · rw [if_pos e, if_pos e, (h3 e).1]
  · rw [if_neg e, if_neg e, (h2 (by simpa using e)).2.2]
theorem x_isOf {s : s_sh} {h : Nat} {k : Int32} (hh : x_H s h m) : fH_isOf h k m = s_isOf s k := by
  unfold fH_isOf s_isOf
  rw [x_kind hh, hh.1]
  by_cases e0 : k = 0
  · rw [if_pos e0]; simp [e0]
  · rw [if_neg e0]
    by_cases e : s.1 = true
    · rw [if_pos e, if_pos e]
      by_cases e2 : k = 2
      · rw [if_pos e2]; simp [e2]
      · rw [if_neg e2]
        by_cases e3 : k = s_kind s
        · rw [if_pos e3, decide_eq_true e3]; simp
        · rw [if_neg e3, decide_eq_false e3, decide_eq_false e2, decide_eq_false e0]; rfl
    · rw [if_neg e, if_neg e]
      by_cases e2 : k = 1
      · rw [if_pos e2]; simp [e2]
      · rw [if_neg e2]
        by_cases e3 : k = s_kind s
        · rw [if_pos e3, decide_eq_true e3]; simp
        · rw [if_neg e3, decide_eq_false e3, decide_eq_false e2, decide_eq_false e0]; rfl
theorem x_form {s : s_sh} {h : Nat} {k : Int32} (hh : x_H s h m) : fH_formNumber h k m = s_form s k := by
  obtain ⟨h1, h2, h3⟩ := hh
  unfold fH_formNumber s_form
  rw [h1]
  by_cases e : s.1 = true
  · obtain ⟨a1, a2, a3, a4, a5⟩ := h3 e
    simp only [if_pos e, a2, a3, a4]
  · obtain ⟨a1, a2, a3⟩ := h2 (by simpa using e)
    simp only [if_neg e, a1, a2, a3]
end
/-! the reference reads -/
section
variable {c : s_sn} {m : tk_m}
theorem y_has {i : Int32} (h : y_S c 296 m) (hl : c.1.length ≤ 6) : fM_isShape i m = (s_at c.1 i).isSome := by
  unfold fM_isShape
  have hr := i_rng i
  have e1 : (Int32.ofNat c.1.length - 1).toInt = (c.1.length : Int) - 1 := by rw [i_tsub (by rw [i_to (by omega), show (1 : Int32).toInt = 1 from rfl]; omega), i_to (by omega)]; rfl
  rw [h.1, Bool.eq_iff_iff, w_inM, Int64.lt_iff_toInt_lt, Int64.lt_iff_toInt_lt, Int32.toInt_toInt64, Int32.toInt_toInt64, e1, show (0 : Int64).toInt = 0 from rfl]
  unfold s_at
  have hn : tk_n i = i.toInt.toNat := rfl
  by_cases hi : i < 0
  · rw [if_pos hi]
    rw [Int32.lt_iff_toInt_lt, show (0 : Int32).toInt = 0 from rfl] at hi
    constructor
    · intro q; omega
    · intro q; cases q
  · rw [if_neg hi]
    rw [Int32.lt_iff_toInt_lt, show (0 : Int32).toInt = 0 from rfl] at hi
    by_cases hc : tk_n i < c.1.length
    · rw [List.getElem?_eq_getElem hc]
      constructor
      · intro _; rfl
      · intro _; omega
    · rw [List.getElem?_eq_none (by omega)]
      constructor
      · intro q; omega
      · intro q; cases q
theorem y_of0 {k j : Nat} (hk : k < 6) (hj : j < 4) : fM_of0 (Int32.ofNat k) (Int32.ofNat j) m = some (m.1 296 (5 + 4 * k + j)) := by
  unfold fM_of0
  rw [i_at, if_pos (i_ok (show 5 + 4 * k + j < 29 by omega) (by omega)), i_nn (by omega)]
theorem y_at {i : Int32} {s : s_sh} (h : y_S c 296 m) (hl : c.1.length ≤ 6) (hs : s_at c.1 i = some s) : fM_of0 i 0 m = some (tk_b s.1) ∧ fM_of0 i 1 m = some s.2.1 ∧ fM_of0 i 2 m = some s.2.2.1 ∧ fM_of0 i 3 m = some s.2.2.2 := by
  obtain ⟨k, rfl, h2, h3⟩ := s_at_some hs
  have hk : k < 6 := by omega
  obtain ⟨a1, a2, a3, a4⟩ := h.2.2.2 k s h3
  exact ⟨(y_of0 (j := 0) hk (by decide)).trans (by rw [a1]), (y_of0 (j := 1) hk (by decide)).trans (by rw [a2]), (y_of0 (j := 2) hk (by decide)).trans (by rw [a3]), (y_of0 (j := 3) hk (by decide)).trans (by rw [a4])⟩
theorem y_round {i : Int32} {s : s_sh} (h : fM_of0 i 0 m = some (tk_b s.1)) : fM_isRound i m = some (!s.1) := by
  unfold fM_isRound
  rw [h, Option.bind_some]
  cases s.1
  · rw [if_pos (by decide)]; rfl
  · rw [if_neg (by decide)]; rfl
theorem y_kind {i : Int32} {s : s_sh} (h : y_S c 296 m) (hl : c.1.length ≤ 6) (hs : s_at c.1 i = some s) : fM_kindOf i m = some (s_kind s) := by
  obtain ⟨h0, h1, h2, h3⟩ := y_at h hl hs
  unfold fM_kindOf s_kind
  rw [y_round h0, Option.bind_some]
  have e2 : (2 : Int32) ≤ s.2.1 ↔ (1 : Int32) < s.2.1 := by
    rw [Int32.lt_iff_toInt_lt, show (1 : Int32).toInt = 1 from rfl, Int32.le_iff_toInt_le, show (2 : Int32).toInt = 2 from rfl]
    omega
  cases e : s.1
  · simp only [Bool.not_false, if_true, h3, Option.bind_some, Bool.false_eq_true, if_false]
    split <;> rfl
  · simp only [Bool.not_true, Bool.false_eq_true, if_false, h1, Option.bind_some, if_true, e2]
    split <;> rfl
theorem y_under (s : s_sh) (k : Int32) : fM_isUnder (s_kind s) k = s_isOf s k := by
  unfold fM_isUnder s_isOf
  have hk : s_kind s = (if s.1 = true then (if (1 : Int32) < s.2.1 then 2 else 4) else (if s.2.2.2 = 0 then 3 else 1)) := rfl
  by_cases e0 : k = 0
  · rw [if_pos e0, decide_eq_true e0]; rfl
  rw [if_neg e0, decide_eq_false e0]
  by_cases e1 : k = s_kind s
  · rw [if_pos e1, decide_eq_true e1]; simp
  rw [if_neg e1, decide_eq_false e1]
  by_cases e : s.1 = true
  · rw [if_pos e]
    rw [if_pos e] at hk
    by_cases e2 : (1 : Int32) < s.2.1
    · rw [if_pos e2] at hk
      rw [hk] at e1 ⊢
      rw [decide_eq_false e1, if_neg (by decide), if_neg (by decide)]; rfl
    · rw [if_neg e2] at hk
      rw [hk, if_neg (by decide), if_pos rfl]
      by_cases e3 : k = 2
      · rw [if_pos e3, decide_eq_true e3]; rfl
      · rw [if_neg e3, decide_eq_false e3]; rfl
  · rw [if_neg e]
    rw [if_neg e] at hk
    by_cases e2 : s.2.2.2 = 0
    · rw [if_pos e2] at hk
      rw [hk, if_pos rfl]
      by_cases e3 : k = 1
      · rw [if_pos e3, decide_eq_true e3]; rfl
      · rw [if_neg e3, decide_eq_false e3, if_neg (by decide)]; rfl
    · rw [if_neg e2] at hk
      rw [hk] at e1 ⊢
      rw [decide_eq_false e1, if_neg (by decide), if_neg (by decide)]; rfl
theorem y_slant {i : Int32} {s : s_sh} (h1 : fM_of0 i 1 m = some s.2.1) (ho : s_shOk s) (e : s.1 = true) : fM_slant 1003 i m = some (s_A s.2.1) ∧ fM_slant 1004 i m = some (s_B s.2.1) ∧ fM_slant 1005 i m = some (s_L s.2.1) := by
  unfold s_shOk at ho
  rw [if_pos e] at ho
  obtain ⟨q1, q2⟩ := ho.1
  have hok : tk_ok s.2.1 6 := by
    refine ⟨?_, ?_⟩
    · rw [Int32.lt_iff_toInt_lt, show (0 : Int32).toInt = 0 from rfl]; omega
    · show s.2.1.toInt.toNat < 6
      omega
  unfold fM_slant
  rw [h1, Option.bind_some, if_pos hok, Option.bind_some, if_pos hok, Option.bind_some, if_pos hok]
  exact ⟨rfl, rfl, rfl⟩
theorem y_form {i k : Int32} {s : s_sh} (h : y_S c 296 m) (hc : s_snOk c) (hs : s_at c.1 i = some s) : fM_form i k m = some (s_form s k) := by
  obtain ⟨h0, h1, h2, h3⟩ := y_at h hc.1 hs
  unfold fM_form s_form
  rw [h1, Option.bind_some, h2, Option.bind_some, h3, Option.bind_some, y_round h0, Option.bind_some]
  cases e : s.1
  · simp only [Bool.not_false, if_true, Bool.false_eq_true, if_false]
    split
    · rfl
    split
    · rfl
    split <;> rfl
  · obtain ⟨g1, g2, g3⟩ := y_slant h1 (s_at_ok hc hs) e
    simp only [Bool.not_true, Bool.false_eq_true, if_false, if_true, g1, g2, Option.bind_some]
    split
    · rfl
    split
    · rfl
    split <;> rfl
end
