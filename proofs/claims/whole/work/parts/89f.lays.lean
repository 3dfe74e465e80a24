/-! ===== the reference: in order ===== -/
def an_is (c1 c2 : an_c) : Int32 := if s_cmp (an_num c1 2) (an_num c2 2) = 0 then (if s_cmp (an_num c1 0) (an_num c2 0) = 0 then s_cmp (an_num c1 1) (an_num c2 1) else s_cmp (an_num c1 0) (an_num c2 0)) else s_cmp (an_num c1 2) (an_num c2 2)
theorem z_F_wd {m m' : tk_m} (h : wd_fr m m') : z_F m m' := ⟨fun r _ => by rw [h.1], fun r k a b => h.2 r k (by omega) (by omega), fun r _ => by rw [h.1], by rw [h.1]⟩
theorem y_Fd_wd {F : an_F} {m m' : tk_m} (h : y_Fd F m) (q : wd_fr m m') : y_Fd F m' := by
  obtain ⟨h1, h2, h3⟩ := h
  refine ⟨by rw [q.2 295 10 (by decide) (by decide)]; exact h1, by rw [q.2 295 11 (by decide) (by decide)]; exact h2, fun k c hk => ⟨by rw [q.2 349 k (by decide) (by omega)]; exact (h3 k c hk).1, y_W_k (h3 k c hk).2 (by rw [q.1]) (fun i _ => by rw [q.1])⟩⟩
theorem y_num_h {c : an_c} {k i : Nat} {m : tk_m} (h : y_W c k m) (hi : i < 3) : m.2.1 (351 + 4 * k + 1 + i) 0 = (an_num c i).1 ∧ m.2.1 (351 + 4 * k + 1 + i) 1 = (an_num c i).2.1 ∧ m.2.1 (351 + 4 * k + 1 + i) 2 = (an_num c i).2.2.1 ∧ m.2.1 (351 + 4 * k + 1 + i) 3 = (an_num c i).2.2.2 := h.2.2.2 i hi
theorem y_lays1 {F : an_F} {l : List an_c} {m : tk_m} (hF : y_Fd (F.1, F.2 ++ l) m) (h1 : l.length < 2) (hl : F.2.length ≤ 16) : fM_laysInOrder (Int32.ofNat F.2.length) m = some m := by
  have e : m.1 295 10 - Int32.ofNat F.2.length = Int32.ofNat l.length := by
    rw [hF.1]
    dsimp only
    rw [List.length_append, i_sub (by omega), Nat.add_sub_cancel_left]
  unfold fM_laysInOrder
  rw [e, if_neg]
  show ¬ Int32.ofNat 2 ≤ Int32.ofNat l.length
  rw [i_le (by omega) (by omega)]
  omega
theorem y_lays2 {F : an_F} {c1 c2 : an_c} {m : tk_m} (hF : y_Fd (F.1, F.2 ++ [c1, c2]) m) (hl : F.2.length + 1 < 16) (o1 : an_cok c1) (o2 : an_cok c2) (eg : c1.1 = c2.1) : ∃ m1, fM_laysInOrder (Int32.ofNat F.2.length) m = some m1 ∧ z_F m m1 ∧ y_Fd (F.1, F.2 ++ if 0 < an_is c1 c2 then [c2, c1] else [c1, c2]) m1 := by
  have e : m.1 295 10 - Int32.ofNat F.2.length = 2 := by
    rw [hF.1]
    dsimp only
    rw [List.length_append, i_sub (by omega), Nat.add_sub_cancel_left]
    rfl
  have g1 : (F.2 ++ [c1, c2])[F.2.length]? = some c1 := by rw [List.getElem?_append_right (Nat.le_refl _), Nat.sub_self]; rfl
  have g2 : (F.2 ++ [c1, c2])[F.2.length + 1]? = some c2 := by rw [List.getElem?_append_right (by omega), Nat.add_sub_cancel_left]; rfl
  have ek : Int32.ofNat F.2.length + 1 = Int32.ofNat (F.2.length + 1) := i_add _ 1
  have nk := i_nn (show F.2.length < 2147483648 by omega)
  have nk1 := i_nn (show F.2.length + 1 < 2147483648 by omega)
  have cmp : ∀ (M : tk_m) i, i < 3 → y_Fd (F.1, F.2 ++ [c1, c2]) M → ∃ M1, fM_compares (351 + 4 * F.2.length + 1 + i) (351 + 4 * (F.2.length + 1) + 1 + i) M = some (s_cmp (an_num c1 i) (an_num c2 i), M1) ∧ wd_fr M M1 := fun M i hi hM => y_cmp (tk_al331 _ (by omega) i hi) (tk_al331 _ hl i hi) (y_num_h (hM.2.2 _ _ g1).2 hi) (y_num_h (hM.2.2 _ _ g2).2 hi) (an_num_ok o1 hi) (an_num_ok o2 hi)
  -- the end: exchanged or not
  have swap : ∀ M, z_F m M → y_Fd (F.1, F.2 ++ [c1, c2]) M → ∃ m1, fM_laysInOrder_103 tk_F (Int32.ofNat F.2.length) 0 M = some m1 ∧ z_F m m1 ∧ y_Fd (F.1, F.2 ++ [c2, c1]) m1 := by
    intro M hz hM
    obtain ⟨m1, s1, s2, s3, s4, s5, s6⟩ := y_swp hl (hM.2.2 _ _ g1).2 (hM.2.2 _ _ g2).2
    refine ⟨m1, s1, z_F_tr hz ⟨fun r hr => s6 r (by omega) (by omega) (by omega) (by omega), fun r k _ _ => by rw [s4], fun r _ => by rw [s5], by rw [s5]⟩, ?_, ?_, fun k c hk => ?_⟩
    · rw [s4, hM.1]
      dsimp only
      rw [List.length_append, List.length_append]
      rfl
    · rw [s4]; exact hM.2.1
    · dsimp only at hk
      by_cases k1 : k < F.2.length
      · rw [List.getElem?_append_left k1] at hk
        have hk' : (F.2 ++ [c1, c2])[k]? = some c := by rw [List.getElem?_append_left k1]; exact hk
        have := hM.2.2 k c hk'
        exact ⟨by rw [s4]; exact this.1, y_W_k this.2 (s6 _ (by omega) (by omega) (by omega) (by omega)) (fun i hi => s6 _ (by omega) (by omega) (by omega) (by omega))⟩
      · by_cases k2 : k = F.2.length
        · subst k2
          rw [List.getElem?_append_right (Nat.le_refl _), Nat.sub_self] at hk
          have : c = c2 := (Option.some.inj hk).symm
          subst this
          exact ⟨by rw [s4, ← eg]; exact (hM.2.2 _ _ g1).1, s2⟩
        · by_cases k3 : k = F.2.length + 1
          · subst k3
            rw [List.getElem?_append_right (by omega), Nat.add_sub_cancel_left] at hk
            have : c = c1 := (Option.some.inj hk).symm
            subst this
            exact ⟨by rw [s4, eg]; exact (hM.2.2 _ _ g2).1, s3⟩
          · have := (List.getElem?_eq_some_iff.mp hk).1
            rw [List.length_append] at this
            simp at this
            omega
  have fin : ∀ M s0, z_F m M → y_Fd (F.1, F.2 ++ [c1, c2]) M → an_is c1 c2 = (if s0 = 0 then s_cmp (an_num c1 1) (an_num c2 1) else s0) → ∃ m1, fM_laysInOrder_64 (Int32.ofNat F.2.length) s0 M = some m1 ∧ z_F m m1 ∧ y_Fd (F.1, F.2 ++ if 0 < an_is c1 c2 then [c2, c1] else [c1, c2]) m1 := by
    intro M s0 hz hM his
    unfold fM_laysInOrder_64
    by_cases c0 : s0 = 0
    · rw [if_pos c0] at his ⊢
      rw [if_pos (i_ok (show F.2.length < 16 by omega) (by omega)), ek, if_pos (i_ok hl (by omega)), nk, nk1]
      obtain ⟨M1, a1, a2⟩ := cmp M 1 (by decide) hM
      rw [a1, Option.bind_some, his]
      by_cases d : 0 < s_cmp (an_num c1 1) (an_num c2 1)
      · rw [if_pos d, if_pos d]
        exact swap M1 (z_F_tr hz (z_F_wd a2)) (y_Fd_wd hM a2)
      · rw [if_neg d, if_neg d]
        exact ⟨M1, rfl, z_F_tr hz (z_F_wd a2), y_Fd_wd hM a2⟩
    · rw [if_neg c0] at his ⊢
      rw [his]
      by_cases d : 0 < s0
      · rw [if_pos d, if_pos d]
        exact swap M hz hM
      · rw [if_neg d, if_neg d]
        exact ⟨M, rfl, hz, hM⟩
  unfold fM_laysInOrder
  rw [e, if_pos (by decide), if_pos (i_ok (show F.2.length < 16 by omega) (by omega)), ek, if_pos (i_ok hl (by omega)), nk, nk1]
  obtain ⟨M1, a1, a2⟩ := cmp m 2 (by decide) hF
  rw [a1, Option.bind_some]
  dsimp only
  have hM1 := y_Fd_wd hF a2
  by_cases d : s_cmp (an_num c1 2) (an_num c2 2) = 0
  · rw [if_pos d]
    obtain ⟨M2, b1, b2⟩ := cmp M1 0 (by decide) hM1
    rw [b1, Option.bind_some]
    exact fin M2 _ (z_F_tr (z_F_wd a2) (z_F_wd b2)) (y_Fd_wd hM1 b2) (by unfold an_is; rw [if_pos d])
  · rw [if_neg d]
    exact fin M1 _ (z_F_wd a2) hM1 (by unfold an_is; rw [if_neg d, if_neg d])
/-- the side that is less, by its weighings -/
theorem an_isls {c1 c2 : an_c} {M : Int} {W : an_V} (h : ∀ k, k < 3 → s_cmp (an_num c1 k) (an_num c2 k) = Int32.ofInt (nu_sg (-(W k * M)))) (hM : M ≠ 0) (hW : ¬ (W 0 = 0 ∧ W 1 = 0 ∧ W 2 = 0)) : 0 < an_is c1 c2 ↔ an_ls M W = 1 := by
  have z : ∀ x : Int, (Int32.ofInt (nu_sg x) = 0 ↔ x = 0) := fun x => by
    rcases nu_sg_cs x with q | q | q <;> rw [q] <;> (have := @nu_sg_iz x; rw [q] at this)
    · exact ⟨fun y => absurd y (by decide), fun y => absurd (this.mpr y) (by decide)⟩
    · exact ⟨fun _ => this.mp rfl, fun _ => rfl⟩
    · exact ⟨fun y => absurd y (by decide), fun y => absurd (this.mpr y) (by decide)⟩
  have p : ∀ x : Int, (0 < Int32.ofInt (nu_sg x) ↔ 0 < x) := fun x => by
    rcases nu_sg_cs x with q | q | q <;> rw [q] <;> (have := @nu_sg_ip x; rw [q] at this)
    · exact ⟨fun _ => this.mp (by decide), fun _ => by decide⟩
    · exact ⟨fun y => absurd y (by decide), fun y => absurd (this.mpr y) (by decide)⟩
    · exact ⟨fun y => absurd y (by decide), fun y => absurd (this.mpr y) (by decide)⟩
  have zm : ∀ k, (-(W k * M) = 0 ↔ W k = 0) := fun k => ⟨fun y => (Int.mul_eq_zero.mp (show W k * M = 0 by omega)).resolve_right hM, fun y => by rw [y, Int.zero_mul]; rfl⟩
  have key : ∀ L : Int, L ≠ 0 → (0 < -(L * M) ↔ ¬ (0 < L ↔ 0 < M)) := fun L hL => by
    rcases Int.lt_or_gt_of_ne hL with a | a <;> rcases Int.lt_or_gt_of_ne hM with b | b
    · have := Int.mul_pos_of_neg_of_neg a b
      constructor
      · intro; omega
      · intro q; exact absurd ⟨fun _ => by omega, fun _ => by omega⟩ q
    · have := Int.mul_neg_of_neg_of_pos a b
      constructor
      · intro _ q; have := q.mpr b; omega
      · intro; omega
    · have := Int.mul_neg_of_pos_of_neg a b
      constructor
      · intro _ q; have := q.mp a; omega
      · intro; omega
    · have := Int.mul_pos a b
      constructor
      · intro; omega
      · intro q; exact absurd ⟨fun _ => b, fun _ => a⟩ q
  have fin : ∀ L : Int, L ≠ 0 → (0 < Int32.ofInt (nu_sg (-(L * M))) ↔ (if (0 < L ↔ 0 < M) then (-1 : Int) else 1) = 1) := fun L hL => by
    rw [p, key L hL]
    by_cases q : (0 < L ↔ 0 < M)
    · rw [if_pos q]; exact ⟨fun y => absurd q y, fun y => absurd y (by decide)⟩
    · rw [if_neg q]; exact ⟨fun _ => rfl, fun _ => q⟩
  unfold an_is an_ls
  rw [h 2 (by decide), h 0 (by decide), h 1 (by decide)]
  by_cases c2 : W 2 = 0
  · rw [if_pos ((z _).mpr ((zm 2).mpr c2)), if_pos c2]
    by_cases c0 : W 0 = 0
    · rw [if_pos ((z _).mpr ((zm 0).mpr c0)), if_pos c0]
      exact fin (W 1) (fun y => hW ⟨c0, y, c2⟩)
    · rw [if_neg (fun y => c0 ((zm 0).mp ((z _).mp y))), if_neg c0]
      exact fin (W 0) c0
  · rw [if_neg (fun y => c2 ((zm 2).mp ((z _).mp y))), if_neg c2]
    exact fin (W 2) c2
