/-! ===== touches: the reference's call ===== -/
theorem o_eq {x y : Int} {p q : Nat} (hx : an_bd x p) (hy : an_bd y q) (hp : p < 9223372036854775808) (hq : q < 9223372036854775808) : Int64.ofInt x = Int64.ofInt y ↔ x = y := by
  constructor
  · intro h
    have := congrArg Int64.toInt h
    rw [lo_i (bd_r hx hp), lo_i (bd_r hy hq)] at this
    exact this
  · intro h; rw [h]
section
variable {a : s_as} {m : tk_m}
theorem y_ts {c : an_c} {k : Nat} (hk : k < 16) (hc : an_cok c) (hW : y_W c k m) {i : Int32} {s : s_sh} (ho : s_shOk s) (e : s.1 = true) (hs : fM_of0 i 1 m = some s.2.1 ∧ fM_of0 i 2 m = some s.2.2.1) (b : Bool) : ∃ B, fM_touchesStraight (416 + k) i (if b = true then -1 else 1) m = some B ∧ (B = true ↔ an_ts c s b) := by
  have l8 := tk_al395 k hk
  obtain ⟨h1, h2, h3, _⟩ := hW
  obtain ⟨s1, s2, s3⟩ := y_slant hs.1 ho e
  unfold s_shOk at ho
  rw [e, if_pos rfl] at ho
  obtain ⟨A, C, L, q1, q2, q3, q4⟩ := an_slv ho.1
  have bc : an_bd s.2.2.1.toInt 30 := an_in ho.2 (by decide) (by decide)
  have bA : an_bd (s_A s.2.1).toInt 5 := by unfold an_bd; omega
  have bB : an_bd (s_B s.2.1).toInt 5 := by unfold an_bd; omega
  have bL : an_bd (s_L s.2.1).toInt 5 := by unfold an_bd; omega
  have z2 : (((if b = true then (-1 : Int32) else 1) * s_L s.2.1)).toInt = if b = true then -(s_L s.2.1).toInt else (s_L s.2.1).toInt := i_bz b bL
  have bs : an_bd (if b = true then -(s_L s.2.1).toInt else (s_L s.2.1).toInt) 5 := by
    split
    · exact bd_neg bL
    · exact bL
  have es : (if b = true then (s_L s.2.1).toInt else -(s_L s.2.1).toInt) = -(if b = true then -(s_L s.2.1).toInt else (s_L s.2.1).toInt) := by cases b <;> simp
  have hR : ∀ j, j < 6 → m.2.1 (416 + k) j = Int64.ofInt (c.2.1 j).toInt := fun j hj => (h1 j hj).trans (Int64.ofInt_toInt _).symm
  have r0 : m.2.1 (416 + k) (tk_n (0 : Int32)) = Int64.ofInt (c.2.1 0).toInt := hR 0 (by decide)
  have r1 : m.2.1 (416 + k) (tk_n (1 : Int32)) = Int64.ofInt (c.2.1 1).toInt := hR 1 (by decide)
  have r2 : m.2.1 (416 + k) (tk_n (2 : Int32)) = Int64.ofInt (c.2.1 2).toInt := hR 2 (by decide)
  have r3 : m.2.1 (416 + k) (tk_n (3 : Int32)) = Int64.ofInt (c.2.1 3).toInt := hR 3 (by decide)
  have r4 : m.2.1 (416 + k) (tk_n (4 : Int32)) = Int64.ofInt (c.2.1 4).toInt := hR 4 (by decide)
  have r5 : m.2.1 (416 + k) (tk_n (5 : Int32)) = Int64.ofInt (c.2.1 5).toInt := hR 5 (by decide)
  have r7 : m.2.1 (416 + k) (tk_n (7 : Int32)) = Int64.ofInt (c.2.1 6).toInt := h3.trans (Int64.ofInt_toInt _).symm
  have hb := hc.2.1
  unfold fM_touchesStraight an_ts
  rw [s1, Option.bind_some, s2, Option.bind_some, s3, Option.bind_some, l8, if_pos (by decide), if_pos (by decide), hs.2, Option.bind_some, if_pos (by decide), if_pos (by decide), r0, r1, r2, r7, o_32, o_32, o_32, o_32, z2, es]
  generalize (if b = true then -(s_L s.2.1).toInt else (s_L s.2.1).toInt) = l at *
  rw [o_mul, o_mul, o_mul, o_mul, o_add, o_sub]
  have e1 := o_eq (x := (s_A s.2.1).toInt * (c.2.1 0).toInt + (s_B s.2.1).toInt * (c.2.1 1).toInt - s.2.2.1.toInt * (c.2.1 6).toInt) (y := l * (c.2.1 2).toInt) (bd_sub (bd_add (bd_mul bA (hb 0 (by decide)) (Nat.le_refl _)) (bd_mul bB (hb 1 (by decide)) (Nat.le_refl _)) (Nat.le_refl _)) (bd_mul bc (hb 6 (by decide)) (Nat.le_refl _)) (Nat.le_refl _)) (bd_mul bs (hb 2 (by decide)) (Nat.le_refl _)) (by decide) (by decide)
  have e2 := o_eq (x := (s_A s.2.1).toInt * (c.2.1 3).toInt + (s_B s.2.1).toInt * (c.2.1 4).toInt) (y := l * (c.2.1 5).toInt) (bd_add (bd_mul bA (hb 3 (by decide)) (Nat.le_refl _)) (bd_mul bB (hb 4 (by decide)) (Nat.le_refl _)) (Nat.le_refl _)) (bd_mul bs (hb 5 (by decide)) (Nat.le_refl _)) (by decide) (by decide)
  rw [Int.neg_mul, Int.neg_mul]
  by_cases k1 : (s_A s.2.1).toInt * (c.2.1 0).toInt + (s_B s.2.1).toInt * (c.2.1 1).toInt - s.2.2.1.toInt * (c.2.1 6).toInt = l * (c.2.1 2).toInt
  · rw [if_pos (e1.mpr k1), if_pos (by decide), if_pos (by decide), if_pos (by decide), r3, r4, r5, o_mul, o_mul, o_mul, o_add]
    by_cases k2 : (s_A s.2.1).toInt * (c.2.1 3).toInt + (s_B s.2.1).toInt * (c.2.1 4).toInt = l * (c.2.1 5).toInt
    · rw [if_pos (e2.mpr k2)]
      exact ⟨true, rfl, fun _ => ⟨by omega, by omega⟩, fun _ => rfl⟩
    · rw [if_neg (fun z => k2 (e2.mp z))]
      exact ⟨false, rfl, fun z => Bool.noConfusion z, fun z => absurd (by have := z.2; omega) k2⟩
  · rw [if_neg (fun z => k1 (e1.mp z))]
    exact ⟨false, rfl, fun z => Bool.noConfusion z, fun z => absurd (by have := z.1; omega) k1⟩
theorem y_tw {c : an_c} {k : Nat} (hk : k < 16) (hc : an_cok c) (hW : y_W c k m) {i : Int32} {s : s_sh} (ho : s_shOk s) (hs : fM_of0 i 0 m = some (tk_b s.1) ∧ fM_of0 i 1 m = some s.2.1 ∧ fM_of0 i 2 m = some s.2.2.1 ∧ fM_of0 i 3 m = some s.2.2.2) (b : Bool) (n : Nat) (v : Int32) (hv : v = if b = true then -1 else 1) : ∃ m', wd_fr m m' ∧ fM_touches_33 (n + 1) (Int32.ofNat k) i v m = @ite _ (an_tw c s b) (Classical.propDecidable _) (some (if b = true then 2 else 1, m')) (fM_touches_33 n (Int32.ofNat k) i (v + -2) m') := by
  have hr := y_round hs.1
  have h82 : ∀ M, fM_touches_82 v M = some (if b = true then 2 else 1, M) := fun M => by
    unfold fM_touches_82
    rw [hv]
    cases b
    · rw [if_pos (by decide), if_neg (by decide)]
    · rw [if_neg (by decide), if_pos rfl]
  have hlt : ¬ v < -1 := by rw [hv]; cases b <;> decide
  conv => enter [1, m', 2, 1]; unfold fM_touches_33
  rw [if_neg hlt, hr, Option.bind_some]
  unfold an_tw
  cases e : s.1 with
  | true =>
    obtain ⟨B, t1, t2⟩ := y_ts hk hc hW ho e ⟨hs.2.1, hs.2.2.1⟩ b
    rw [if_neg (by decide), if_pos (i_ok hk (by omega)), i_nn (show k < 2147483648 by omega), if_pos rfl]
    refine ⟨m, wd_fr_rf m, ?_⟩
    rw [← hv] at t1
    rw [t1, Option.bind_some, h82]
    by_cases q : an_ts c s b
    · rw [if_pos q, if_pos (t2.mpr q)]
    · rw [if_neg q, if_neg (fun z => q (t2.mp z))]
  | false =>
    obtain ⟨B, M, t1, t3, t2⟩ := y_tr hk hc hW ho e hs.2 b
    rw [if_pos (by decide), if_pos (i_ok hk (by omega)), i_nn (show k < 2147483648 by omega), if_neg (fun z => Bool.noConfusion z)]
    refine ⟨M, t3, ?_⟩
    rw [← hv] at t1
    rw [t1, Option.bind_some]
    dsimp only
    rw [h82]
    by_cases q : an_tr c s b
    · rw [if_pos q, if_pos (t2.mpr q)]
    · rw [if_neg q, if_neg (fun z => q (t2.mp z))]
theorem an_tw0 {c : an_c} {s : s_sh} (h : s_kind s = 3) : an_tw c s true ↔ an_tw c s false := by
  unfold s_kind at h
  cases e : s.1 with
  | true =>
    rw [e, if_pos rfl] at h
    split at h
    · exact absurd h (by decide)
    · exact absurd h (by decide)
  | false =>
    rw [e, if_neg (by decide)] at h
    by_cases q : s.2.2.2 = 0
    · have ez : an_z s true = an_z s false := by
        unfold an_z
        rw [q]
        rfl
      unfold an_tw an_tr
      rw [e, if_neg (by decide), if_neg (by decide), ez]
    · rw [if_neg q] at h; exact absurd h (by decide)
theorem y_touches (ha : s_Ok a) (h : y_Y a m) (k i : Int32) : y_does m (fM_touches k i m) (o_touches k i a) := by
  unfold fM_touches o_touches
  refine y_ite (y_hasI ha h i) (fun g1 => ?_) (fun _ => y_bt (y_find ha h 0 (by decide)))
  obtain ⟨s, hs⟩ := s_isS g1
  obtain ⟨q1, q2⟩ := y_whyA ha h k
  cases e : s_3 a with
  | none =>
    rw [q1 e, Option.bind_some, if_neg (show ¬ (4 : Int32) < 0 by decide)]
    exact y_bt (y_find ha h 4 (by decide))
  | some f =>
    obtain ⟨m1, e1, e2, e3, e4⟩ := q2 f e
    rw [e1, Option.bind_some]
    dsimp only
    refine y_chain e3 (y_ite Iff.rfl (fun c => ?_) (fun c => ?_))
    · obtain ⟨j, c', rfl, hi, hi2, hc, hg, hm⟩ := an_why_n c (s_3ok ha e).1
      have ho := s_at_ok ha.1 hs
      have hok := (s_3ok ha e).2 _ hm
      have hW := (e4.2.2 j c' hc).2
      rw [hg, s_get_of hs]
      have at1 := y_at e2.2.1 (s_len ha) hs
      obtain ⟨m2, f1, f2⟩ := y_tw hi2 hok hW ho at1 false (999995 + 1 + 1 + 1 + 1) 1 rfl
      have e22 := y_scr_Y ha e2 f1
      have at2 := y_at e22.2.1 (s_len ha) hs
      have hW2 : y_W c' j m2 := y_W_k hW (by rw [f1.1]) (fun i _ => by rw [f1.1])
      obtain ⟨m3, p1, p2⟩ := y_tw hi2 hok hW2 ho at2 true (999995 + 1 + 1 + 1) (1 + -2) (by decide)
      rw [iv_F, f2, p2]
      unfold an_to
      by_cases d0 : an_tw c' s false
      · rw [if_pos d0, if_pos d0, if_neg (fun z => Bool.noConfusion z)]
        exact y_scrd ha e2 f1 _
      · rw [if_neg d0, if_neg d0]
        by_cases d3 : s_kind s = 3
        · rw [if_pos d3, if_neg (fun z => d0 ((an_tw0 d3).mp z))]
          unfold fM_touches_33
          rw [if_pos (by decide)]
          exact y_scrd ha e2 (wd_fr_tr f1 p1) _
        · rw [if_neg d3]
          by_cases d1 : an_tw c' s true
          · rw [if_pos d1, if_pos d1, if_pos rfl]
            exact y_scrd ha e2 (wd_fr_tr f1 p1) _
          · rw [if_neg d1, if_neg d1]
            unfold fM_touches_33
            rw [if_pos (by decide)]
            exact y_scrd ha e2 (wd_fr_tr f1 p1) _
    · rw [an_why_p c]
      exact y_bt (y_find ha e2 3 (by decide))
end
