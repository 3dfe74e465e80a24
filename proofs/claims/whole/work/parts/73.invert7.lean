/-! ===== invert: the class lowers ===== -/
theorem tk_al37 : tk_al 37 = 4 := by decide +kernel
theorem iv_bb (f : Nat → Int64) : (lo_D (lo_g (iv_f f) 4) (iv_f f (iv_ld f)) = -1 ∧ ∃ k, k < 4 ∧ iv_f f k = -9223372036854775808) ↔ iv_b f = true := by
  have e : lo_D (lo_g (iv_f f) 4) (iv_f f (iv_ld f)) = iv_D f := rfl
  rw [e]
  unfold iv_b
  simp only [Bool.or_eq_true, decide_eq_true_eq]
  constructor
  · rintro ⟨h1, k, hk, h2⟩
    have h3 : (f k).toInt = -9223372036854775808 := h2
    rcases (show k = 0 ∨ k = 1 ∨ k = 2 ∨ k = 3 by omega) with rfl | rfl | rfl | rfl
    · exact .inl (.inl (.inl ⟨h3, h1⟩))
    · exact .inl (.inl (.inr ⟨h3, h1⟩))
    · exact .inl (.inr ⟨h3, h1⟩)
    · exact .inr ⟨h3, h1⟩
  · rintro (((h | h) | h) | h)
    · exact ⟨h.2, 0, by decide, h.1⟩
    · exact ⟨h.2, 1, by decide, h.1⟩
    · exact ⟨h.2, 2, by decide, h.1⟩
    · exact ⟨h.2, 3, by decide, h.1⟩
theorem iv_xl {m : tk_m} (h : iv_z (m.2.1 37) = false) : ((fK_firstNotZero 37 m).bind fun o => fK_lower 37 o m) = if iv_b (m.2.1 37) = true then some (false, m) else some (true, lo_up m 37 4 (iv_w (m.2.1 37))) := by
  obtain ⟨h1, h2⟩ := iv_ld_ne h
  rw [iv_fnz tk_al37 h, Option.bind_some, lo_low (f := iv_f (m.2.1 37)) tk_al37 (by decide) h1 (fun k _ => rfl) (fun z => h2 (lo_z.mpr z))]
  by_cases c : iv_b (m.2.1 37) = true
  · rw [if_pos c, if_pos ((iv_bb _).mpr c)]
  · rw [if_neg c, if_neg (fun z => c ((iv_bb _).mp z))]
    rfl
