/-! ===== work ===== -/
theorem wk_dp {u v : s_nm} (ou : s_nmOk u) (ov : s_nmOk v) (h : ¬ (u.2.1 = 0 ∧ v.2.1 = 0)) : 1 < (wk_d u v).toInt ∧ (wk_d u v).toInt ≤ 100000000 ∧ nu_sf (wk_d u v).toInt.natAbs := by
  rw [← wk_dq ou]
  by_cases c : u.2.1 = 0
  · rw [if_pos c]
    have := ov.2.2 (fun z => h ⟨c, z⟩)
    exact ⟨this.1, this.2.1, s_sfto this.2.2⟩
  · rw [if_neg c]
    have := ou.2.2 c
    exact ⟨this.1, this.2.1, s_sfto this.2.2⟩
theorem wk_dv {u v : s_nm} (ou : s_nmOk u) (hk : ¬ u.2.1 = 0 → ¬ v.2.1 = 0 → u.2.2.1 = v.2.2.1) (h : ¬ v.2.1 = 0) : wk_d u v = v.2.2.1 := by
  rw [← wk_dq ou]
  by_cases c : u.2.1 = 0
  · rw [if_pos c]
  · rw [if_neg c]; exact hk c h
theorem wk_q0 (w : Int32) {u v : s_nm} (d : Int64) (h1 : u.2.1 = 0) (h2 : v.2.1 = 0) : (wk w u v d).2.1 = 0 := by
  unfold wk
  rw [h1, h2]
  by_cases c0 : w = 0
  · rw [if_pos c0]; dsimp only; rw [Int64.zero_mul, Int64.zero_mul]; rfl
  · by_cases c1 : w = 1
    · rw [if_neg c0, if_pos c1]; dsimp only; rw [Int64.zero_mul, Int64.zero_mul]; rfl
    · by_cases c2 : w = 2
      · rw [if_neg c0, if_neg c1, if_pos c2]; dsimp only; rw [Int64.zero_mul, Int64.mul_zero]; rfl
      · rw [if_neg c0, if_neg c1, if_neg c2]; dsimp only; rw [Int64.zero_mul, Int64.mul_zero]; exact Int64.zero_mul
theorem wk_norm {p q d : Int64} (h1 : ov_t p p = false) (h2 : ov_t q q = false) (h3 : ov_t (q * q) d = false) (h4 : ov_m (p * p) (q * q * d) = false) (hpq : ¬ (p = 0 ∧ q = 0)) (hd : ¬ q = 0 → 1 < d.toInt ∧ nu_sf d.toInt.natAbs) : (p * p - q * q * d).toInt ≠ 0 := by
  rw [ov_m_ok h4, ov_t_ok h1, ov_t_ok h3, ov_t_ok h2]
  intro z
  by_cases c : q = 0
  · have hp : p.toInt ≠ 0 := fun y => hpq ⟨lo_z.mpr y, c⟩
    have hq : q.toInt = 0 := lo_z.mp c
    rw [hq, Int.mul_zero, Int.zero_mul, Int.sub_zero] at z
    rcases Int.mul_eq_zero.mp z with y | y <;> exact hp y
  · have hq : q.toInt ≠ 0 := fun y => c (lo_z.mpr y)
    obtain ⟨d1, d2⟩ := hd c
    have := nu_sfi (b := q.toInt) (c := p.toInt) (d := d.toInt) (e := 1) hq d2 nu_sf_one (by omega) (by omega) (by rw [Int.mul_one]; omega)
    omega
theorem wk_ne {w : Int32} {u v : s_nm} (ou : s_nmOk u) (ov : s_nmOk v) (hk : ¬ u.2.1 = 0 → ¬ v.2.1 = 0 → u.2.2.1 = v.2.2.1) (h3 : w = 3 → ¬ (v.1 = 0 ∧ v.2.1 = 0)) (hw : w = 0 ∨ w = 1 ∨ w = 2 ∨ w = 3) (ho : (wk w u v (wk_d u v)).2.2.2 = false) : (wk w u v (wk_d u v)).2.2.1 ≠ 0 := by
  have hu := ou.1
  have hv := ov.1
  have hmm : ov_t u.2.2.2 v.2.2.2 = false → u.2.2.2 * v.2.2.2 ≠ 0 := by
    intro q z
    have e := ov_t_ok q
    rw [z, show (0 : Int64).toInt = 0 from rfl] at e
    have := Int.mul_pos hu hv
    omega
  unfold wk at ho ⊢
  rcases hw with rfl | rfl | rfl | rfl
  · rw [if_pos rfl] at ho ⊢
    simp only [Bool.or_eq_false_iff] at ho
    exact hmm ho.2
  · rw [if_neg (by decide), if_pos rfl] at ho ⊢
    simp only [Bool.or_eq_false_iff] at ho
    exact hmm ho.2
  · rw [if_neg (by decide), if_neg (by decide), if_pos rfl] at ho ⊢
    simp only [Bool.or_eq_false_iff] at ho
    exact hmm ho.2
  · rw [if_neg (by decide), if_neg (by decide), if_neg (by decide)] at ho ⊢
    simp only [Bool.or_eq_false_iff] at ho
    have hn := wk_norm ho.1.1.1.1.2 ho.1.1.1.2 ho.1.1.2 ho.1.2 (h3 rfl) (fun c => by
      have := ov.2.2 c
      rw [wk_dv ou hk c]
      exact ⟨this.1, s_sfto this.2.2⟩)
    intro z
    have e := ov_t_ok ho.2
    rw [show u.2.2.2 * (v.1 * v.1 - v.2.1 * v.2.1 * wk_d u v) = 0 from z, show (0 : Int64).toInt = 0 from rfl] at e
    rcases Int.mul_eq_zero.mp e.symm with y | y
    · omega
    · exact hn y
