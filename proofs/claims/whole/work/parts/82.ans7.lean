/-! ===== ANSWERS: circles are small ===== -/
def an_cok (c : an_c) : Prop := 0 < (c.2.1 6).toInt ∧ (∀ k, k < 7 → an_bd (c.2.1 k).toInt 300000000) ∧ (0 ≤ c.2.2.toInt ∧ c.2.2.toInt ≤ 40000000) ∧ (∀ k, k < 3 → an_bd ((c.2.1 (3 + k)).toInt * (c.2.1 (3 + k)).toInt * c.2.2.toInt) 2000000000000) ∧ ∀ k, k < 3 → (c.2.1 (3 + k)).toInt ≠ 0 → 1 < c.2.2.toInt ∧ nu_sf c.2.2.toInt.natAbs
theorem an_lw0 {f : Nat → Int} (h : an_rb1 f) {k : Nat} (hk : k < 7) (hz : f k = 0) : (an_lw f k).toInt = 0 := by
  obtain ⟨D, d0, d1, d2, d3, d4, d5⟩ := an_lw_D h
  rw [d5 k hk, hz, Int.zero_ediv]
theorem an_mk_ok {B : an_V} {r : an_R} (g : Int32) (h : an_rok B r) {p : Int} (hp : an_bd p 6400) (hz : 0 < r.1 ∨ p = 0) : an_cok (an_mk g B r p 0 0) := by
  have hs := an_rok_row h hp (q := 0) (by unfold an_bd; decide) (hz.elim .inl (fun z => .inr ⟨z, rfl⟩))
  obtain ⟨D, d0, d1, d2, d3, d4, d5⟩ := an_lw_D hs.1
  have z : ∀ k, k < 3 → (an_lw (an_row r.2.1 r.2.2.1 B r.2.2.2 p 0) (3 + k)).toInt = 0 := fun k hk => an_lw0 hs.1 (by omega) (by rw [an_row_hi hk, Int.zero_mul])
  refine ⟨d2, hs.2, ⟨show 0 ≤ (0 : Int64).toInt by decide, show (0 : Int64).toInt ≤ 40000000 by decide⟩, fun k hk => ?_, fun k hk hq => absurd (z k hk) hq⟩
  show an_bd ((an_lw (an_row r.2.1 r.2.2.1 B r.2.2.2 p 0) (3 + k)).toInt * (an_lw (an_row r.2.1 r.2.2.1 B r.2.2.2 p 0) (3 + k)).toInt * _) _
  rw [z k hk, Int.zero_mul, Int.zero_mul]
  unfold an_bd
  decide
theorem an_sdb {Q s d : Nat} (hQ : Q ≤ 40000000) (h0 : 0 < Q) (e : Q = s * s * d) : s ≤ 6400 ∧ 0 < d ∧ d ≤ 40000000 ∧ 0 < s := by
  have hd : 0 < d := by
    rcases Nat.eq_zero_or_pos d with z | z
    · rw [z, Nat.mul_zero] at e; omega
    · exact z
  have hs : 0 < s := by
    rcases Nat.eq_zero_or_pos s with z | z
    · rw [z, Nat.zero_mul] at e; omega
    · exact z
  have h1 : s * s * 1 ≤ s * s * d := Nat.mul_le_mul_left _ hd
  have h2 : 1 * d ≤ s * s * d := Nat.mul_le_mul_right _ (Nat.mul_pos hs hs)
  refine ⟨?_, hd, by omega, hs⟩
  rcases Nat.lt_or_ge 6400 s with z | z
  · have := Nat.mul_le_mul z z
    omega
  · exact z
theorem an_e_ok {B : an_V} {r : an_R} (g : Int32) (h : an_rok B r) (hQ : 0 < r.1) {s d : Nat} (e : r.1.natAbs = s * s * d) (hd : nu_sf d) {i : Int} (hi : i = 1 ∨ i = -1) : an_cok (an_e g B r s d i) := by
  have hq := h.1
  obtain ⟨s1, s2, s3, s4⟩ := an_sdb (by omega) (by omega) e
  have bp : an_bd (i * s) 6400 := bd_mul (a := 1) (b := 6400) (by unfold an_bd; omega) (by unfold an_bd; omega) (by decide)
  unfold an_e
  by_cases c : d = 1
  · rw [if_pos c, if_pos c, if_pos c]
    exact an_mk_ok g h bp (.inl hQ)
  · rw [if_neg c, if_neg c, if_neg c]
    have hs := an_rok_row h (p := 0) (by unfold an_bd; decide) bp (.inl hQ)
    obtain ⟨D, d0, d1, d2, d3, d4, d5⟩ := an_lw_D hs.1
    have ed : (rt_o d).toInt = d := rt_i (by omega)
    refine ⟨d2, hs.2, ⟨by show 0 ≤ (rt_o d).toInt; omega, by show (rt_o d).toInt ≤ 40000000; omega⟩, fun k hk => ?_, fun k hk _ => ⟨by show 1 < (rt_o d).toInt; omega, by show nu_sf (rt_o d).toInt.natAbs; rw [ed]; exact hd⟩⟩
    show an_bd ((an_lw (an_row r.2.1 r.2.2.1 B r.2.2.2 0 (i * s)) (3 + k)).toInt * (an_lw (an_row r.2.1 r.2.2.1 B r.2.2.2 0 (i * s)) (3 + k)).toInt * (rt_o d).toInt) _
    have e1 := d1 (3 + k) (by omega)
    rw [an_row_hi hk] at e1
    have b1 : an_bd (an_lw (an_row r.2.1 r.2.2.1 B r.2.2.2 0 (i * s)) (3 + k)).toInt (s * 200) := an_ab e1 d0 (bd_mul (bd_mul (a := 1) (b := s) (by unfold an_bd; omega) (by unfold an_bd; omega) (Nat.le_refl _)) (h.2.1 k hk) (by rw [Nat.one_mul]; exact Nat.le_refl _))
    refine bd_mul (bd_mul b1 b1 (Nat.le_refl _)) (b := d) (by unfold an_bd; omega) ?_
    have e2 : s * 200 * (s * 200) * d = (s * s * d) * 40000 := by
      rw [show s * 200 * (s * 200) = s * s * 40000 by rw [Nat.mul_assoc, Nat.mul_comm 200 (s * 200), Nat.mul_assoc s 200 200, Nat.mul_assoc s s], Nat.mul_assoc, Nat.mul_comm 40000 d, ← Nat.mul_assoc]
    rw [e2, ← e]
    omega
theorem an_ls_1 (M : Int) (W : an_V) : an_ls M W = 1 ∨ an_ls M W = -1 := by
  unfold an_ls
  exact (Classical.em _).elim (fun c => .inr (if_pos c)) (fun c => .inl (if_neg c))
theorem an_cs_ok {B : an_V} {r : an_R} (g : Int32) (h : an_rok B r) : (∀ c ∈ an_cs g B r, an_cok c ∧ c.1 = g ∧ an_rad c = true) ∧ (an_cs g B r).length ≤ 2 := by
  unfold an_cs
  by_cases c1 : r.1 < 0
  · rw [if_pos c1]
    exact ⟨fun c hc => (by cases hc), by decide⟩
  · rw [if_neg c1]
    by_cases c2 : r.1 = 0
    · rw [if_pos c2]
      refine ⟨fun c hc => ?_, Nat.le_trans (List.length_filter_le _ _) (show 1 ≤ 2 by decide)⟩
      obtain ⟨h1, h2⟩ := List.mem_filter.mp hc
      have : c = an_mk g B r 0 0 0 := List.mem_singleton.mp h1
      rw [this] at h2 ⊢
      exact ⟨an_mk_ok g h (by unfold an_bd; decide) (.inr rfl), rfl, h2⟩
    · rw [if_neg c2]
      obtain ⟨e, hd⟩ := an_sd_of (n := r.1.natAbs) (by omega)
      refine ⟨fun c hc => ?_, Nat.le_trans (List.length_filter_le _ _) (show 2 ≤ 2 by decide)⟩
      obtain ⟨h1, h2⟩ := List.mem_filter.mp hc
      have hl := an_ls_1 r.2.2.2 r.2.2.1
      rcases List.mem_cons.mp h1 with z | z
      · rw [z] at h2 ⊢
        exact ⟨an_e_ok g h (by omega) e hd hl, rfl, h2⟩
      · have z2 := List.mem_singleton.mp z
        rw [z2] at h2 ⊢
        exact ⟨an_e_ok g h (by omega) e hd (by omega), rfl, h2⟩
theorem an_one_eq (x y z : s_sh) (g : Nat) (f : an_F) : an_one x y z g f = if an_cnt x y z g = true then (match (an_sol x y z (an_bit g 0) (an_bit g 1) (an_bit g 2)).2 with
  | none => (f.1 ||| tk_ishl 1 (Int32.ofNat g), f.2)
  | some r => (f.1, f.2 ++ an_cs (Int32.ofNat g) (an_sol x y z (an_bit g 0) (an_bit g 1) (an_bit g 2)).1 r)) else f := by
  unfold an_one
  obtain ⟨B, o⟩ := an_sol x y z (an_bit g 0) (an_bit g 1) (an_bit g 2)
  cases o <;> rfl
theorem an_upto_ok {x y z : s_sh} (hx : s_shOk x) (hy : s_shOk y) (hz : s_shOk z) : ∀ g, (∀ c ∈ (an_upto x y z g).2, an_cok c) ∧ (an_upto x y z g).2.length ≤ 2 * g := by
  intro g
  induction g with
  | zero => exact ⟨fun c hc => (by cases hc), by unfold an_upto; exact Nat.le_refl _⟩
  | succ g ih =>
    unfold an_upto
    rw [an_one_eq]
    by_cases c1 : an_cnt x y z g = true
    · rw [if_pos c1]
      cases e : (an_sol x y z (an_bit g 0) (an_bit g 1) (an_bit g 2)).2 with
      | none => exact ⟨ih.1, Nat.le_trans ih.2 (by omega)⟩
      | some r =>
        have hr := an_cs_ok (Int32.ofNat g) (an_sol_ok hx hy hz e)
        refine ⟨fun c hc => ?_, ?_⟩
        · rcases List.mem_append.mp hc with q | q
          · exact ih.1 c q
          · exact (hr.1 c q).1
        · dsimp only
          rw [List.length_append]
          have := ih.2
          have := hr.2
          omega
    · rw [if_neg c1]
      exact ⟨ih.1, Nat.le_trans ih.2 (by omega)⟩
