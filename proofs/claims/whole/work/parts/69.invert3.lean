/-! ===== invert: the short loops of the class ===== -/
def iv_ld (f : Nat → Int64) : Nat := if f 0 = 0 then (if f 1 = 0 then (if f 2 = 0 then 3 else 2) else 1) else 0
def iv_z (f : Nat → Int64) : Bool := decide (f 0 = 0) && (decide (f 1 = 0) && (decide (f 2 = 0) && decide (f 3 = 0)))
def iv_c (c : Int32) (f : Nat → Int64) : Bool := decide (fM_cut c (f 0) = f 0) && (decide (fM_cut c (f 1) = f 1) && (decide (fM_cut c (f 2) = f 2) && decide (fM_cut c (f 3) = f 3)))
theorem iv_F : tk_F = 999995 + 1 + 1 + 1 + 1 + 1 := rfl
theorem iv_n4 {i : Nat} (h : i < 4) : ¬ (4 : Int32) ≤ Int32.ofNat i := by
  show ¬ Int32.ofNat 4 ≤ Int32.ofNat i
  rw [i_le (by omega) (by omega)]
  omega
theorem iv_fn {r : Nat} {m : tk_m} (hr : tk_al r = 4) (n i : Nat) (hi : i < 4) : fK_firstNotZero_2 (n + 1) r (Int32.ofNat i) m = if m.2.1 r i = 0 then fK_firstNotZero_2 n r (Int32.ofNat (i + 1)) m else some (Int32.ofNat i) := by
  conv => lhs; unfold fK_firstNotZero_2
  rw [hr, if_neg (show ¬ Int32.ofNat 4 ≤ Int32.ofNat i from iv_n4 hi), if_pos (i_ok hi (by omega)), i_nn (show i < 2147483648 by omega), show Int32.ofNat i + 1 = Int32.ofNat (i + 1) from i_add i 1]
theorem iv_fnz {r : Nat} {m : tk_m} (hr : tk_al r = 4) (h : iv_z (m.2.1 r) = false) : fK_firstNotZero r m = some (Int32.ofNat (iv_ld (m.2.1 r))) := by
  unfold fK_firstNotZero
  rw [show (0 : Int32) = Int32.ofNat 0 from rfl, iv_F, iv_fn hr _ 0 (by decide), iv_fn hr _ (0 + 1) (by decide), iv_fn hr _ (0 + 1 + 1) (by decide), iv_fn hr _ (0 + 1 + 1 + 1) (by decide)]
  unfold iv_z at h
  unfold iv_ld
  by_cases c0 : m.2.1 r 0 = 0
  · rw [if_pos c0, if_pos c0]
    by_cases c1 : m.2.1 r 1 = 0
    · rw [if_pos c1, if_pos c1]
      by_cases c2 : m.2.1 r 2 = 0
      · rw [if_pos c2, if_pos c2]
        by_cases c3 : m.2.1 r 3 = 0
        · simp [c0, c1, c2, c3] at h
        · rw [if_neg c3]
      · rw [if_neg c2, if_neg c2]
    · rw [if_neg c1, if_neg c1]
  · rw [if_neg c0, if_neg c0]
theorem iv_ld_ne {f : Nat → Int64} (h : iv_z f = false) : iv_ld f < 4 ∧ f (iv_ld f) ≠ 0 := by
  unfold iv_z at h
  unfold iv_ld
  by_cases c0 : f 0 = 0
  · rw [if_pos c0]
    by_cases c1 : f 1 = 0
    · rw [if_pos c1]
      by_cases c2 : f 2 = 0
      · rw [if_pos c2]
        refine ⟨by decide, fun c3 => ?_⟩
        simp [c0, c1, c2, c3] at h
      · rw [if_neg c2]; exact ⟨by decide, c2⟩
    · rw [if_neg c1]; exact ⟨by decide, c1⟩
  · rw [if_neg c0]; exact ⟨by decide, c0⟩
theorem iv_fs {t : Nat} {m : tk_m} (n i : Nat) (hi : i < 4) : fT_isFormZero_2 (n + 1) t (Int32.ofNat i) m = if m.2.1 (t + 1) i = 0 then fT_isFormZero_2 n t (Int32.ofNat (i + 1)) m else some false := by
  conv => lhs; unfold fT_isFormZero_2
  rw [if_neg (iv_n4 hi), if_pos (i_ok (show i < 40 by omega) (by omega)), i_nn (show i < 2147483648 by omega), show Int32.ofNat i + 1 = Int32.ofNat (i + 1) from i_add i 1]
theorem iv_fz (t : Nat) (m : tk_m) : fT_isFormZero t m = some (iv_z (m.2.1 (t + 1))) := by
  have e4 : ∀ n, fT_isFormZero_2 (n + 1) t (Int32.ofNat (0 + 1 + 1 + 1 + 1)) m = some true := fun n => by
    unfold fT_isFormZero_2
    rw [if_pos (by decide)]
  unfold fT_isFormZero iv_z
  rw [show (0 : Int32) = Int32.ofNat 0 from rfl, iv_F, iv_fs _ 0 (by decide), iv_fs _ (0 + 1) (by decide), iv_fs _ (0 + 1 + 1) (by decide), iv_fs _ (0 + 1 + 1 + 1) (by decide), e4]
  by_cases c0 : m.2.1 (t + 1) 0 = 0 <;> by_cases c1 : m.2.1 (t + 1) 1 = 0 <;> by_cases c2 : m.2.1 (t + 1) 2 = 0 <;> by_cases c3 : m.2.1 (t + 1) 3 = 0 <;> simp [c0, c1, c2, c3]
theorem iv_ms {t r : Nat} {c : Int32} {m : tk_m} (hr : tk_al r = 4) (hn : ∀ v, fT_narrow t v m = fM_cut c v) (n i : Nat) (hi : i < 4) : fT_mayHold_2 (n + 1) t r (Int32.ofNat i) m = if fM_cut c (m.2.1 r i) = m.2.1 r i then fT_mayHold_2 n t r (Int32.ofNat (i + 1)) m else some false := by
  conv => lhs; unfold fT_mayHold_2
  rw [hr, if_neg (show ¬ Int32.ofNat 4 ≤ Int32.ofNat i from iv_n4 hi), if_pos (i_ok hi (by omega)), i_nn (show i < 2147483648 by omega), hn, show Int32.ofNat i + 1 = Int32.ofNat (i + 1) from i_add i 1]
theorem iv_mh {t r : Nat} {c : Int32} {m : tk_m} (hr : tk_al r = 4) (hn : ∀ v, fT_narrow t v m = fM_cut c v) : fT_mayHold t r m = some (iv_c c (m.2.1 r)) := by
  have e4 : ∀ n, fT_mayHold_2 (n + 1) t r (Int32.ofNat (0 + 1 + 1 + 1 + 1)) m = some true := fun n => by
    unfold fT_mayHold_2
    rw [hr, if_pos (by decide)]
  unfold fT_mayHold iv_c
  rw [show (0 : Int32) = Int32.ofNat 0 from rfl, iv_F, iv_ms hr hn _ 0 (by decide), iv_ms hr hn _ (0 + 1) (by decide), iv_ms hr hn _ (0 + 1 + 1) (by decide), iv_ms hr hn _ (0 + 1 + 1 + 1) (by decide), e4]
  by_cases c0 : fM_cut c (m.2.1 r 0) = m.2.1 r 0 <;> by_cases c1 : fM_cut c (m.2.1 r 1) = m.2.1 r 1 <;> by_cases c2 : fM_cut c (m.2.1 r 2) = m.2.1 r 2 <;> by_cases c3 : fM_cut c (m.2.1 r 3) = m.2.1 r 3 <;> simp [c0, c1, c2, c3]
