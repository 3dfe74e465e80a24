/-! ===== ANSWERS: sizes of planes, of what they come to, of circles ===== -/
theorem an_in {v : Int32} {a b : Int} {n : Nat} (h : s_in v a b) (h1 : -(n : Int) ≤ a) (h2 : b ≤ n) : an_bd v.toInt n := by
  unfold an_bd
  have := h.1
  have := h.2
  omega
theorem an_base_b {s : s_sh} {b : Bool} (ho : s_shOk s) (e : s.1 = false) : an_vb (an_base s b) 5 := by
  unfold s_shOk at ho
  rw [e, if_neg (by decide)] at ho
  have hz : an_bd (an_z s b) 5 := by
    have : an_bd s.2.2.2.toInt 5 := an_in ho.2.2 (by decide) (by decide)
    unfold an_z
    split
    · exact bd_neg this
    · exact this
  exact an_3 (an_in ho.1 (by decide) (by decide)) (an_in ho.2.1 (by decide) (by decide)) hz
theorem an_slv {k : Int32} (h : s_in k 0 5) : ∃ A B L : Int, (s_A k).toInt = A ∧ (s_B k).toInt = B ∧ (s_L k).toInt = L ∧ ((A = 1 ∧ B = 0 ∧ L = 1) ∨ (A = 0 ∧ B = 1 ∧ L = 1) ∨ (A = 3 ∧ B = 4 ∧ L = 5) ∨ (A = 4 ∧ B = 3 ∧ L = 5) ∨ (A = 3 ∧ B = -4 ∧ L = 5) ∨ (A = 4 ∧ B = -3 ∧ L = 5)) := by
  have h1 := h.1
  have h2 := h.2
  have e : k = 0 ∨ k = 1 ∨ k = 2 ∨ k = 3 ∨ k = 4 ∨ k = 5 := by
    rcases (show k.toInt = 0 ∨ k.toInt = 1 ∨ k.toInt = 2 ∨ k.toInt = 3 ∨ k.toInt = 4 ∨ k.toInt = 5 by omega) with z | z | z | z | z | z
    · exact .inl (i_ext z)
    · exact .inr (.inl (i_ext z))
    · exact .inr (.inr (.inl (i_ext z)))
    · exact .inr (.inr (.inr (.inl (i_ext z))))
    · exact .inr (.inr (.inr (.inr (.inl (i_ext z)))))
    · exact .inr (.inr (.inr (.inr (.inr (i_ext z)))))
  rcases e with rfl | rfl | rfl | rfl | rfl | rfl
  · exact ⟨1, 0, 1, by decide, by decide, by decide, .inl ⟨rfl, rfl, rfl⟩⟩
  · exact ⟨0, 1, 1, by decide, by decide, by decide, .inr (.inl ⟨rfl, rfl, rfl⟩)⟩
  · exact ⟨3, 4, 5, by decide, by decide, by decide, .inr (.inr (.inl ⟨rfl, rfl, rfl⟩))⟩
  · exact ⟨4, 3, 5, by decide, by decide, by decide, .inr (.inr (.inr (.inl ⟨rfl, rfl, rfl⟩)))⟩
  · exact ⟨3, -4, 5, by decide, by decide, by decide, .inr (.inr (.inr (.inr (.inl ⟨rfl, rfl, rfl⟩))))⟩
  · exact ⟨4, -3, 5, by decide, by decide, by decide, .inr (.inr (.inr (.inr (.inr ⟨rfl, rfl, rfl⟩))))⟩
theorem an_pl_b {B : an_V} {s : s_sh} {b : Bool} (ho : s_shOk s) (hB : an_vb B 5) : an_vb (an_n B s b) 10 ∧ an_bd (an_t B s b) 200 ∧ (s.1 = true → an_vb (an_n B s b) 5 ∧ ((∀ k, B k = 0) → an_bd (an_t B s b) 60)) := by
  have q0 := hB 0 (by decide)
  have q1 := hB 1 (by decide)
  have q2 := hB 2 (by decide)
  cases e : s.1 with
  | true =>
    unfold s_shOk at ho
    rw [e, if_pos rfl] at ho
    obtain ⟨A, C, L, h1, h2, h3, h4⟩ := an_slv ho.1
    have hn : an_n B s b = an_v A C (if b = true then L else -L) := by
      unfold an_n
      rw [e, if_pos rfl, h1, h2, h3]
    have ht : an_t B s b = 2 * (s.2.2.1.toInt - (A * B 0 + C * B 1 + (if b = true then L else -L) * B 2)) := by
      unfold an_t
      rw [e, if_pos rfl, hn]
      rfl
    have hv : an_vb (an_n B s b) 5 := by
      rw [hn]
      refine an_3 ?_ ?_ ?_
      · rw [an_v0]; unfold an_bd; omega
      · rw [an_v1]; unfold an_bd; omega
      · rw [an_v2]; unfold an_bd; cases b <;> simp <;> omega
    refine ⟨fun k hk => bd_le (hv k hk) (by decide), ?_, fun _ => ⟨hv, fun hz => ?_⟩⟩
    · rw [ht]
      have hc := ho.2.1
      have hc2 := ho.2.2
      unfold an_bd at *
      cases b
      · simp only [Bool.false_eq_true, if_false]
        rcases h4 with ⟨rfl, rfl, rfl⟩ | ⟨rfl, rfl, rfl⟩ | ⟨rfl, rfl, rfl⟩ | ⟨rfl, rfl, rfl⟩ | ⟨rfl, rfl, rfl⟩ | ⟨rfl, rfl, rfl⟩ <;> omega
      · simp only [if_true]
        rcases h4 with ⟨rfl, rfl, rfl⟩ | ⟨rfl, rfl, rfl⟩ | ⟨rfl, rfl, rfl⟩ | ⟨rfl, rfl, rfl⟩ | ⟨rfl, rfl, rfl⟩ | ⟨rfl, rfl, rfl⟩ <;> omega
    · rw [ht, hz 0, hz 1, hz 2, Int.mul_zero, Int.mul_zero, Int.mul_zero]
      have hc := ho.2.1
      have hc2 := ho.2.2
      unfold an_bd
      omega
  | false =>
    unfold s_shOk at ho
    rw [e, if_neg (by decide)] at ho
    have hz : an_bd (an_z s b) 5 := by
      have : an_bd s.2.2.2.toInt 5 := an_in ho.2.2 (by decide) (by decide)
      unfold an_z
      split
      · exact bd_neg this
      · exact this
    have hv : an_vb (an_n B s b) 10 := by
      unfold an_n
      rw [e, if_neg (by decide)]
      exact an_3 (bd_sub (an_in ho.1 (by decide) (by decide)) q0 (by decide : 5 + 5 ≤ 10)) (bd_sub (an_in ho.2.1 (by decide) (by decide)) q1 (by decide : 5 + 5 ≤ 10)) (bd_sub q2 hz (by decide))
    refine ⟨hv, ?_, fun z => Bool.noConfusion z⟩
    unfold an_t
    rw [e, if_neg (by decide)]
    exact vb_BB hv
def an_rok (B : an_V) (r : an_R) : Prop := r.1 ≤ 40000000 ∧ an_vb r.2.2.1 200 ∧ r.2.2.2 ≠ 0 ∧ (0 < r.1 → ¬ (r.2.2.1 0 = 0 ∧ r.2.2.1 1 = 0 ∧ r.2.2.1 2 = 0)) ∧ ((an_vb r.2.1 2000000 ∧ an_vb B 5 ∧ an_bd r.2.2.2 240000) ∨ (r.1 ≤ 0 ∧ an_small (an_row r.2.1 r.2.2.1 B r.2.2.2 0 0)))
theorem an_vb0 (n : Nat) : an_vb (fun _ => 0) n := fun _ _ => Nat.zero_le _
theorem an_m2_ok {a b x : an_V} {s t : Int} {r : an_R} (ha : an_vb a 10) (hb : an_vb b 10) (hs : an_bd s 200) (ht : an_bd t 200) (hx : an_vb x 5) (h : an_m2 a b s t = some r) : an_rok x r := by
  obtain ⟨z1, z2, z3, z4, z5, z6⟩ := an_sz ha hb hs ht
  unfold an_m2 at h
  by_cases c1 : an_X a b 0 = 0 ∧ an_X a b 1 = 0 ∧ an_X a b 2 = 0
  · rw [if_pos c1] at h; cases h
  · rw [if_neg c1] at h
    by_cases c2 : an_B (an_X a b) (an_X a b) = 0
    · rw [if_pos c2] at h
      by_cases c3 : an_B (an_W a b s t) (an_X a b) = 0
      · rw [if_pos c3] at h
        by_cases c4 : an_B (an_W a b s t) (an_W a b s t) = 0
        · rw [if_pos c4] at h; cases h
        · rw [if_neg c4] at h
          cases h
          exact ⟨by decide, an_vb0 _, by decide, fun z => absurd z (by decide), .inl ⟨an_vb0 _, hx, by unfold an_bd; decide⟩⟩
      · rw [if_neg c3] at h
        cases h
        obtain ⟨g1, g2⟩ := an_edge ha hb hs ht hx c1 c2 c3
        exact ⟨show (0 : Int) ≤ 40000000 by decide, an_vb0 _, g1, fun z => absurd z (show ¬ (0 : Int) < 0 by decide), .inr ⟨show (0 : Int) ≤ 0 by decide, g2⟩⟩
    · rw [if_neg c2] at h
      cases h
      refine ⟨?_, z1, fun z => c2 (by dsimp only at z; omega), fun _ => c1, .inl ⟨z4, hx, bd_mul (a := 2) (by unfold an_bd; decide) z3 (by decide)⟩⟩
      unfold an_bd at z5
      show an_sq a b s t ≤ 40000000
      omega
theorem an_m3_ok {a b c : an_V} {p q r : Int} {R : an_R} (ha : an_vb a 5) (hb : an_vb b 5) (hc : an_vb c 5) (hp : an_bd p 60) (hq : an_bd q 60) (hr : an_bd r 60) (h : an_m3 a b c p q r = some R) : an_rok (fun _ => 0) R := by
  unfold an_m3 at h
  by_cases c1 : an_S a (an_X b c) = 0
  · rw [if_pos c1] at h; cases h
  · rw [if_neg c1] at h
    cases h
    have x1 : an_vb (an_X b c) 50 := vb_X hb hc (by decide)
    have x2 : an_vb (an_X c a) 50 := vb_X hc ha (by decide)
    have x3 : an_vb (an_X a b) 50 := vb_X ha hb (by decide)
    refine ⟨show (0 : Int) ≤ 40000000 by decide, an_vb0 _, fun z => c1 (by dsimp only at z; omega), fun z => absurd z (show ¬ (0 : Int) < 0 by decide), .inl ⟨fun k hk => ?_, an_vb0 _, bd_mul (a := 2) (by unfold an_bd; decide) (vb_S ha x1 (Nat.le_refl _)) (by decide)⟩⟩
    exact bd_add (bd_add (bd_mul hp (x1 k hk) (Nat.le_refl _)) (bd_mul hq (x2 k hk) (Nat.le_refl _)) (Nat.le_refl _)) (bd_mul hr (x3 k hk) (Nat.le_refl _)) (by decide)
theorem an_sol_ok {x y z : s_sh} {a b c : Bool} {r : an_R} (hx : s_shOk x) (hy : s_shOk y) (hz : s_shOk z) (h : (an_sol x y z a b c).2 = some r) : an_rok (an_sol x y z a b c).1 r := by
  unfold an_sol at h ⊢
  by_cases c1 : x.1 = false
  · rw [if_pos c1] at h ⊢
    have hB := an_base_b (b := a) hx c1
    exact an_m2_ok (an_pl_b hy hB).1 (an_pl_b hz hB).1 (an_pl_b hy hB).2.1 (an_pl_b hz hB).2.1 hB h
  · rw [if_neg c1] at h ⊢
    by_cases c2 : y.1 = false
    · rw [if_pos c2] at h ⊢
      have hB := an_base_b (b := b) hy c2
      exact an_m2_ok (an_pl_b hx hB).1 (an_pl_b hz hB).1 (an_pl_b hx hB).2.1 (an_pl_b hz hB).2.1 hB h
    · rw [if_neg c2] at h ⊢
      by_cases c3 : z.1 = false
      · rw [if_pos c3] at h ⊢
        have hB := an_base_b (b := c) hz c3
        exact an_m2_ok (an_pl_b hx hB).1 (an_pl_b hy hB).1 (an_pl_b hx hB).2.1 (an_pl_b hy hB).2.1 hB h
      · rw [if_neg c3] at h ⊢
        have e1 : x.1 = true := by cases e : x.1 with | true => rfl | false => exact absurd e c1
        have e2 : y.1 = true := by cases e : y.1 with | true => rfl | false => exact absurd e c2
        have e3 : z.1 = true := by cases e : z.1 with | true => rfl | false => exact absurd e c3
        have qx := (an_pl_b (b := a) hx (an_vb0 5)).2.2 e1
        have qy := (an_pl_b (b := b) hy (an_vb0 5)).2.2 e2
        have qz := (an_pl_b (b := c) hz (an_vb0 5)).2.2 e3
        exact an_m3_ok qx.1 qy.1 qz.1 (qx.2 (fun _ => rfl)) (qy.2 (fun _ => rfl)) (qz.2 (fun _ => rfl)) h
theorem an_rok_row {B : an_V} {r : an_R} (h : an_rok B r) {p q : Int} (hp : an_bd p 6400) (hq : an_bd q 6400) (hz : 0 < r.1 ∨ (p = 0 ∧ q = 0)) : an_small (an_row r.2.1 r.2.2.1 B r.2.2.2 p q) := by
  obtain ⟨h1, h2, h3, _, h4⟩ := h
  rcases h4 with ⟨h4, h5, h6⟩ | ⟨h4, h5⟩
  · refine an_sm1 h3 (an_7 (fun k hk => ?_) (fun k hk => ?_) ?_)
    · rw [an_row_lo hk]
      exact bd_add (bd_add (h4 k hk) (bd_mul hp (h2 k hk) (Nat.le_refl _)) (Nat.le_refl _)) (bd_mul (h5 k hk) h6 (Nat.le_refl _)) (by decide)
    · rw [an_row_hi hk]
      exact bd_mul hq (h2 k hk) (by decide)
    · rw [an_row_6]; exact bd_le h6 (by decide)
  · rcases hz with z | ⟨rfl, rfl⟩
    · omega
    · exact h5
