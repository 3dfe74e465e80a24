/-! ===== work: the call ===== -/
noncomputable def s_low (k : Nat) (p q d w : Int64) (a : s_as) : Int32 × s_as := @ite _ (lo_bad p.toInt q.toInt w.toInt) (Classical.propDecidable _) (s_fd a 7) (1, (a.1, a.2.1, s_setN a.2.2.1 k (some (lo_val p.toInt q.toInt d w.toInt)), a.2.2.2))
noncomputable def o_wk (k : Nat) (w : Int32) (u v : s_nm) (a : s_as) : Int32 × s_as := if (decide (w = 3) && decide (v.1 = 0) && decide (v.2.1 = 0)) = true then s_fd a 4 else if (wk w u v (wk_d u v)).2.2.2 = true then s_fd a 7 else s_low k (wk w u v (wk_d u v)).1 (wk w u v (wk_d u v)).2.1 (wk_d u v) (wk w u v (wk_d u v)).2.2.1 a
noncomputable def o_work (s t r w : Int32) (a : s_as) : Int32 × s_as := if fX_isSpot s = true then (if fX_isSpot t = true then (if fX_isSpot r = true then (if fX_isWithin w 0 3 = true then (if (a.2.2.1 (tk_n t)).isSome = true then (if (a.2.2.1 (tk_n r)).isSome = true then (if (decide (¬ (s_gN a.2.2.1 (tk_n t)).2.1 = 0) && decide (¬ (s_gN a.2.2.1 (tk_n r)).2.1 = 0) && decide (¬ (s_gN a.2.2.1 (tk_n t)).2.2.1 = (s_gN a.2.2.1 (tk_n r)).2.2.1)) = true then s_fd a 2 else o_wk (tk_n s) w (s_gN a.2.2.1 (tk_n t)) (s_gN a.2.2.1 (tk_n r)) a) else s_fd a 5) else s_fd a 5) else s_fd a 0) else s_fd a 0) else s_fd a 0) else s_fd a 0
section
variable {K : List s_sh → Int32 × Int32 × Int32 → tk_m → Prop} {a : s_as} {m m' : tk_m} {α : Type}
theorem x_chain {res : Option (α × tk_m)} {o : α × s_as} (q : x_scr m m') (h : x_does K m' res o) : x_does K m res o := by
  obtain ⟨m1, e1, e2, e3⟩ := h
  exact ⟨m1, e1, e2, tk_hi_tr (x_scr_hi q) e3⟩
theorem y_chain {res : Option (α × tk_m)} {o : α × s_as} (q : tk_lo m m') (h : y_does m' res o) : y_does m res o := by
  obtain ⟨m1, e1, e2, e3⟩ := h
  exact ⟨m1, e1, e2, tk_lo_tr q e3⟩
theorem ov_X_scr (m : tk_m) (B : Bool) : x_scr m (ov_X m B) := fun r hr => ⟨rfl, rfl, tk_u2_ne (by omega), rfl⟩
theorem ov_X34 (m : tk_m) (B : Bool) : (ov_X m B).2.2.1 34 0 = B := by
  show tk_u2 m.2.2.1 34 0 B 34 0 = B
  exact tk_u2_eq
theorem tk_al36 : tk_al (35 + 1) = 3 := by decide +kernel
/-- the class's answer to a working that is done -/
theorem x_conc (HK : x_K K) (ha : s_Ok a) (h : x_X K a m) {k : Nat} (hk : k < 6) (p q d w : Int64) (B : Bool) (hw : B = false → w ≠ 0) : x_does K m ((fK_conclude p q d w (ov_X m B)).bind fun o1 => if o1.1 = true then (if tk_ok (Int32.ofNat k) 6 then tk_let (fN_become (275 + 2 * (tk_n (Int32.ofNat k))) 35 o1.2) fun o4 => some ((1 : Int32), o4) else none) else (fX_finding (7 : Int32) o1.2).bind fun o5 => some (o5.1, o5.2)) (if B = true then s_fd a 7 else s_low k p q d w a) := by
  have hX : ∀ {m1 : tk_m}, x_scr m m1 → x_does K m ((fX_finding (7 : Int32) m1).bind fun o5 => some (o5.1, o5.2)) (s_fd a 7) := fun q => x_chain q (x_bt (x_find HK ha (x_scr_X HK ha h q) 7 (by decide)))
  unfold fK_conclude
  rw [ov_X34]
  cases B with
  | true =>
    rw [if_pos rfl, if_pos rfl, Option.bind_some, if_neg (fun z => Bool.noConfusion z)]
    exact hX (ov_X_scr m true)
  | false =>
    rw [if_neg (by decide), if_neg (by decide)]
    obtain ⟨b, M1, e1, e2, e3, e4, e5, e6, e7⟩ := x_hold tk_al36 p q d w (ov_X m false) (hw rfl)
    have hs : x_scr m M1 := fun r hr => tk_row_tr (ov_X_scr m false r hr) (e3 r (by omega) (by omega))
    rw [e1, Option.bind_some]
    unfold s_low
    by_cases hb : lo_bad p.toInt q.toInt w.toInt
    · have hbf : b = false := by
        cases b with
        | false => rfl
        | true => exact absurd hb (e2.mp rfl)
      rw [if_pos hb, hbf, if_neg (fun z => Bool.noConfusion z), Option.bind_some, if_neg (fun z => Bool.noConfusion z)]
      exact hX hs
    · have hbt : b = true := e2.mpr hb
      rw [if_neg hb, hbt, if_pos rfl, Option.bind_some, if_pos rfl, if_pos (i_ok hk (by omega)), i_nn (show k < 2147483648 by omega)]
      obtain ⟨n1, n2, n3, n4⟩ := e7 hbt
      unfold fN_become tk_let
      refine x_putN HK ha h (fun r q1 q2 => ?_) (x_N_set h.2.2.2.1 hk (fun r q1 q2 q3 q4 => ?_) ?_ (fun n hn => ?_)) _
      · obtain ⟨z1, z2, z3, z4⟩ := hs r q2
        refine ⟨z1, ?_, ?_, z4⟩
        · dsimp only
          rw [tk_u2_ne (by omega), tk_u2_ne (by omega), tk_u2_ne (by omega), tk_u2_ne (by omega)]; exact z2
        · dsimp only
          rw [tk_u2_ne (by omega)]; exact z3
      · obtain ⟨z1, z2, z3, z4⟩ := hs r (by omega)
        refine ⟨z1, ?_, ?_, z4⟩
        · dsimp only
          rw [tk_u2_ne (by omega), tk_u2_ne (by omega), tk_u2_ne (by omega), tk_u2_ne (by omega)]; exact z2
        · dsimp only
          rw [tk_u2_ne (by omega)]; exact z3
      · dsimp only; rw [tk_u2_eq, e6, hbt]; rfl
      · have : lo_val p.toInt q.toInt d w.toInt = n := Option.some.inj hn
        rw [← this]
        have a1 : 275 + 2 * k + 1 ≠ 275 + 2 * k := by omega
        have a2 : 275 + 2 * k ≠ 275 + 2 * k + 1 := by omega
        have b1 : 35 + 1 ≠ 275 + 2 * k + 1 := by omega
        have b2 : 35 ≠ 275 + 2 * k + 1 := by omega
        refine ⟨?_, ?_, ?_, ?_⟩
        · dsimp only; rw [tk_u2_ne a1, tk_u2_nk (by decide), tk_u2_nk (by decide), tk_u2_eq]; exact n1
        · dsimp only; rw [tk_u2_ne a1, tk_u2_nk (by decide), tk_u2_eq, tk_u2_ne b1]; exact n2
        · dsimp only; rw [tk_u2_ne a1, tk_u2_eq, tk_u2_ne b1, tk_u2_ne b1]; exact n3
        · dsimp only; rw [tk_u2_eq, tk_u2_ne b2, tk_u2_ne b2, tk_u2_ne b2]; exact n4
theorem x_wk (HK : x_K K) (ha : s_Ok a) (h : x_X K a m) {k i j : Nat} (hk : k < 6) {w : Int32} {u v : s_nm} (hu : x_num u (275 + 2 * i) m) (hv : x_num v (275 + 2 * j) m) (ou : s_nmOk u) (ov : s_nmOk v) (hw : w = 0 ∨ w = 1 ∨ w = 2 ∨ w = 3) (hd : ¬ u.2.1 = 0 → ¬ v.2.1 = 0 → u.2.2.1 = v.2.2.1) : x_does K m (fX_work_113 (Int32.ofNat k) w (275 + 2 * i) (275 + 2 * j) m) (o_wk k w u v a) := by
  have key : (w = 3 → ¬ (v.1 = 0 ∧ v.2.1 = 0)) → x_does K m (fX_work_145 (Int32.ofNat k) w (275 + 2 * i) (275 + 2 * j) m) (o_wk k w u v a) := by
    intro h3
    unfold fX_work_145 o_wk
    rw [wk_X w hu hv, if_neg]
    · exact x_conc HK ha h hk _ _ _ _ _ (wk_ne ou ov hd h3 hw)
    · simp only [Bool.and_eq_true, decide_eq_true_eq]
      exact fun z => h3 z.1.1 ⟨z.1.2, z.2⟩
  have hp : fN_p (275 + 2 * j) m = v.1 := hv.1
  have hq : fN_q (275 + 2 * j) m = v.2.1 := hv.2.1
  unfold fX_work_113
  rw [hp, hq]
  by_cases c1 : w = 3
  · rw [if_pos c1]
    by_cases c2 : v.1 = 0
    · rw [if_pos c2]
      by_cases c3 : v.2.1 = 0
      · rw [if_pos c3]
        unfold o_wk
        rw [if_pos (by simp [c1, c2, c3])]
        exact x_bt (x_find HK ha h 4 (by decide))
      · rw [if_neg c3]; exact key (fun _ z => c3 z.2)
    · rw [if_neg c2]; exact key (fun _ z => c2 z.1)
  · rw [if_neg c1]; exact key (fun z => absurd z c1)
theorem x_work (HK : x_K K) (ha : s_Ok a) (h : x_X K a m) (s t r w : Int32) : x_does K m (fX_work s t r w m) (o_work s t r w a) := by
  have f0 := x_bt (x_find HK ha h 0 (by decide))
  unfold fX_work o_work
  refine x_ite Iff.rfl (fun g1 => x_ite Iff.rfl (fun g2 => x_ite Iff.rfl (fun g3 => x_ite Iff.rfl (fun g4 => ?_) (fun _ => f0)) (fun _ => f0)) (fun _ => f0)) (fun _ => f0)
  obtain ⟨k, hk, rfl⟩ := s_spotI g1
  obtain ⟨i, hi, rfl⟩ := s_spotI g2
  obtain ⟨j, hj, rfl⟩ := s_spotI g3
  refine x_grd (i_ok hi (by omega)) (x_grd (i_ok hj (by omega)) ?_)
  rw [i_nn (show i < 2147483648 by omega), i_nn (show j < 2147483648 by omega), i_nn (show k < 2147483648 by omega), (h.2.2.2.1 i hi).1, (h.2.2.2.1 j hj).1]
  refine x_ite Iff.rfl (fun c1 => x_ite Iff.rfl (fun c2 => ?_) (fun _ => x_bt (x_find HK ha h 5 (by decide)))) (fun _ => x_bt (x_find HK ha h 5 (by decide)))
  obtain ⟨u, hu⟩ := s_isN c1
  obtain ⟨v, hv⟩ := s_isN c2
  have xu := (h.2.2.2.1 i hi).2 u hu
  have xv := (h.2.2.2.1 j hj).2 v hv
  have ou := ha.2.2.2.1 i u hu
  have ov := ha.2.2.2.1 j v hv
  rw [s_gN_of hu, s_gN_of hv]
  have his : ∀ {l : Nat} {n : s_nm}, x_num n (275 + 2 * l) m → fN_isOf (275 + 2 * l) 1 m = decide (¬ n.2.1 = 0) := by
    intro l n hn
    unfold fN_isOf fN_q fN_m
    rw [hn.2.1, hn.2.2.1]
    by_cases q : n.2.1 = 0 <;> simp [q]
  rw [his xu, his xv, xu.2.2.2, xv.2.2.2]
  have hw := s_w4 g4
  by_cases d1 : u.2.1 = 0
  · rw [if_neg (by simp [d1]), if_neg (by simp [d1])]
    exact x_wk HK ha h hk xu xv ou ov hw (fun z => absurd d1 z)
  · rw [if_pos (by simp [d1])]
    by_cases d2 : v.2.1 = 0
    · rw [if_neg (by simp [d2]), if_neg (by simp [d2])]
      exact x_wk HK ha h hk xu xv ou ov hw (fun _ z => absurd d2 z)
    · rw [if_pos (by simp [d2])]
      by_cases d3 : u.2.2.1 = v.2.2.1
      · rw [if_pos d3, if_neg (by simp [d3])]
        exact x_wk HK ha h hk xu xv ou ov hw (fun _ _ => d3)
      · rw [if_neg d3, if_pos (by simp [d1, d2, d3])]
        exact x_bt (x_find HK ha h 2 (by decide))
/-! the reference -/
theorem ov_Y274 (m : tk_m) (L : Nat → Nat → Int64) (B : Bool) : (ov_Y m L B).2.2.1 295 4 = B := by
  show tk_u2 m.2.2.1 295 4 B 295 4 = B
  exact tk_u2_eq
theorem ov_Y429 (m : tk_m) (L : Nat → Nat → Int64) (B : Bool) : (ov_Y m L B).2.2.1 450 = m.2.2.1 450 := by
  show tk_u2 m.2.2.1 295 4 B 450 = _
  exact tk_u2_ne (by decide)
theorem ov_Y_fr {L : Nat → Nat → Int64} (B : Bool) (hL : ∀ j, j ≠ 458 → L j = m.2.1 j) : ∀ q, (q < 307 ∨ (442 ≤ q ∧ q < 449)) → (q = 295 → (ov_Y m L B).1 295 2 = m.1 295 2) ∧ (q ≠ 295 → tk_row m (ov_Y m L B) q) := fun q hq => ⟨fun _ => rfl, fun e => ⟨rfl, hL q (by omega), tk_u2_ne e, rfl⟩⟩
theorem ov_Y_Y (ha : s_Ok a) (h : y_Y a m) {L : Nat → Nat → Int64} (B : Bool) (hL : ∀ j, j ≠ 458 → L j = m.2.1 j) : y_Y a (ov_Y m L B) ∧ tk_lo m (ov_Y m L B) := by
  have hN : y_N a.2.2.1 (ov_Y m L B) := by
    intro i hi
    have := h.2.2.2.1 i hi
    have e1 : (ov_Y m L B).2.2.1 450 = m.2.2.1 450 := ov_Y429 m L B
    have e2 : (ov_Y m L B).2.1 (452 + i) = m.2.1 (452 + i) := hL _ (by omega)
    rw [e1, e2]
    exact this
  obtain ⟨m1, e1, e2, e3⟩ := y_putN ha h (ov_Y_fr B hL) hN (0 : Int32)
  have : m1 = ov_Y m L B := ((Prod.mk.inj (Option.some.inj e1)).2).symm
  subst this
  exact ⟨e2, e3⟩
theorem wk_L_ne {L : Nat → Nat → Int64} {p q d w : Int64} : ∀ j, j ≠ 458 → wk_L L p q d w j = L j := by
  intro j hj
  unfold wk_L
  rw [tk_u2_ne hj, tk_u2_ne hj, tk_u2_ne hj, tk_u2_ne hj]
theorem wk_L_at (L : Nat → Nat → Int64) (p q d w : Int64) : wk_L L p q d w 458 0 = p ∧ wk_L L p q d w 458 1 = q ∧ wk_L L p q d w 458 2 = d ∧ wk_L L p q d w 458 3 = w := by
  unfold wk_L
  refine ⟨?_, ?_, ?_, tk_u2_eq⟩
  · rw [tk_u2_nk (by decide), tk_u2_nk (by decide), tk_u2_eq]
  · rw [tk_u2_nk (by decide), tk_u2_eq]
  · rw [tk_u2_nk (by decide), tk_u2_nk (by decide), tk_u2_nk (by decide), tk_u2_eq]
theorem y_conc (ha : s_Ok a) (h : y_Y a m) {k : Nat} (hk : k < 6) (p q d w : Int64) (B : Bool) (hw : B = false → w ≠ 0) : y_does m (if (ov_Y m (wk_L m.2.1 p q d w) B).2.2.1 295 4 = true then (fM_finds (7 : Int32) (ov_Y m (wk_L m.2.1 p q d w) B)).bind fun o3 => some (o3.1, o3.2) else (fM_lowest ((ov_Y m (wk_L m.2.1 p q d w) B).2.1 458 0) ((ov_Y m (wk_L m.2.1 p q d w) B).2.1 458 1) ((ov_Y m (wk_L m.2.1 p q d w) B).2.1 458 2) ((ov_Y m (wk_L m.2.1 p q d w) B).2.1 458 3) 458 (ov_Y m (wk_L m.2.1 p q d w) B)).bind fun o4 => if (o4.2.2.1 295 4) = true then (fM_finds (7 : Int32) o4).bind fun o6 => some (o6.1, o6.2) else (fM_keeps (Int32.ofNat k) 458 o4).bind fun o7 => some ((1 : Int32), o7)) (if B = true then s_fd a 7 else s_low k p q d w a) := by
  have hL : ∀ j, j ≠ 458 → wk_L m.2.1 p q d w j = m.2.1 j := wk_L_ne
  have hY : ∀ {L : Nat → Nat → Int64} (b : Bool), (∀ j, j ≠ 458 → L j = m.2.1 j) → y_does m ((fM_finds (7 : Int32) (ov_Y m L b)).bind fun o5 => some (o5.1, o5.2)) (s_fd a 7) := fun b q => y_chain (ov_Y_Y ha h b q).2 (y_bt (y_find ha (ov_Y_Y ha h b q).1 7 (by decide)))
  obtain ⟨c0, c1, c2, c3⟩ := wk_L_at m.2.1 p q d w
  rw [ov_Y274, ov_Y1, c0, c1, c2, c3]
  cases B with
  | true =>
    rw [if_pos rfl, if_pos rfl]
    exact hY true hL
  | false =>
    rw [if_neg (by decide), if_neg (by decide)]
    obtain ⟨b, L, e1, e2, e3, e4⟩ := y_lowest tk_al437 p q d w (ov_Y m (wk_L m.2.1 p q d w) false) (hw rfl)
    have hL2 : ∀ j, j ≠ 458 → L j = m.2.1 j := fun j hj => (e3 j hj).trans (hL j hj)
    have e5 : ((ov_Y m (wk_L m.2.1 p q d w) false).1, L, tk_u2 (ov_Y m (wk_L m.2.1 p q d w) false).2.2.1 295 4 ((ov_Y m (wk_L m.2.1 p q d w) false).2.2.1 295 4 || b), (ov_Y m (wk_L m.2.1 p q d w) false).2.2.2) = ov_Y m L b := by
      rw [ov_Y274, Bool.false_or]
      unfold ov_Y
      dsimp only
      rw [tk_u2_rw]
    rw [e1, e5, Option.bind_some, ov_Y274]
    unfold s_low
    by_cases hb : lo_bad p.toInt q.toInt w.toInt
    · rw [if_pos hb, e2.mpr hb, if_pos rfl]
      exact hY true hL2
    · have hbf : b = false := by
        cases b with
        | false => rfl
        | true => exact absurd (e2.mp rfl) hb
      rw [if_neg hb, hbf, if_neg (by decide)]
      exact y_keep ha h hk tk_al437 (by omega) (fun j hj => hL2 _ (by omega)) (ov_Y429 m L false) (ov_Y_fr false hL2) e4.1 e4.2.1 e4.2.2.1 e4.2.2.2 _
theorem y_wk (ha : s_Ok a) (h : y_Y a m) {k i j : Nat} (hk : k < 6) (hi : i < 6) (hj : j < 6) {w : Int32} {u v : s_nm} (hu : m.2.1 (452 + i) 0 = u.1 ∧ m.2.1 (452 + i) 1 = u.2.1 ∧ m.2.1 (452 + i) 2 = u.2.2.1 ∧ m.2.1 (452 + i) 3 = u.2.2.2) (hv : m.2.1 (452 + j) 0 = v.1 ∧ m.2.1 (452 + j) 1 = v.2.1 ∧ m.2.1 (452 + j) 2 = v.2.2.1 ∧ m.2.1 (452 + j) 3 = v.2.2.2) (ou : s_nmOk u) (ov : s_nmOk v) (hw : w = 0 ∨ w = 1 ∨ w = 2 ∨ w = 3) (hd : ¬ u.2.1 = 0 → ¬ v.2.1 = 0 → u.2.2.1 = v.2.2.1) : y_does m (fM_work_116 (Int32.ofNat k) w (452 + i) (452 + j) m) (o_wk k w u v a) := by
  have key : (w = 3 → ¬ (v.1 = 0 ∧ v.2.1 = 0)) → y_does m (fM_work_146 (Int32.ofNat k) w (452 + i) (452 + j) m) (o_wk k w u v a) := by
    intro h3
    unfold fM_work_146 o_wk
    rw [ov_Y0, wk_Y w (tk_al431 i hi) (tk_al431 j hj) (by omega) (by omega) hu hv ou hw, if_neg, Option.bind_some]
    · exact y_conc ha h hk _ _ _ _ _ (wk_ne ou ov hd h3 hw)
    · simp only [Bool.and_eq_true, decide_eq_true_eq]
      exact fun z => h3 z.1.1 ⟨z.1.2, z.2⟩
  unfold fM_work_116
  rw [hv.1, hv.2.1]
  by_cases c1 : w = 3
  · rw [if_pos c1]
    by_cases c2 : v.1 = 0
    · rw [if_pos c2]
      by_cases c3 : v.2.1 = 0
      · rw [if_pos c3]
        unfold o_wk
        rw [if_pos (by simp [c1, c2, c3])]
        exact y_bt (y_find ha h 4 (by decide))
      · rw [if_neg c3]; exact key (fun _ z => c3 z.2)
    · rw [if_neg c2]; exact key (fun _ z => c2 z.1)
  · rw [if_neg c1]; exact key (fun z => absurd z c1)
theorem y_work (ha : s_Ok a) (h : y_Y a m) (s t r w : Int32) : y_does m (fM_work s t r w m) (o_work s t r w a) := by
  have f0 := y_bt (y_find ha h 0 (by decide))
  unfold fM_work o_work
  refine y_ite (by rw [y_isSpot]) (fun g1 => y_ite (by rw [y_isSpot]) (fun g2 => y_ite (by rw [y_isSpot]) (fun g3 => y_ite (by rw [← w_eq (v := w) (a := 0) (b := 3)]; rfl) (fun g4 => ?_) (fun _ => f0)) (fun _ => f0)) (fun _ => f0)) (fun _ => f0)
  obtain ⟨k, hk, rfl⟩ := s_spotI g1
  obtain ⟨i, hi, rfl⟩ := s_spotI g2
  obtain ⟨j, hj, rfl⟩ := s_spotI g3
  refine y_grd (i_ok hi (by omega)) ?_
  rw [if_pos (i_ok hj (by omega)), i_nn (show i < 2147483648 by omega), i_nn (show j < 2147483648 by omega), i_nn (show k < 2147483648 by omega), (h.2.2.2.1 i hi).1, (h.2.2.2.1 j hj).1]
  refine y_ite Iff.rfl (fun c1 => y_ite Iff.rfl (fun c2 => ?_) (fun _ => y_bt (y_find ha h 5 (by decide)))) (fun _ => y_bt (y_find ha h 5 (by decide)))
  obtain ⟨u, hu⟩ := s_isN c1
  obtain ⟨v, hv⟩ := s_isN c2
  have xu := (h.2.2.2.1 i hi).2 u hu
  have xv := (h.2.2.2.1 j hj).2 v hv
  have ou := ha.2.2.2.1 i u hu
  have ov := ha.2.2.2.1 j v hv
  rw [s_gN_of hu, s_gN_of hv, xu.2.1, xu.2.2.1, xv.2.1, xv.2.2.1]
  have hw := s_w4 g4
  by_cases d1 : u.2.1 = 0
  · rw [if_pos d1, if_neg (by simp [d1])]
    exact y_wk ha h hk hi hj xu xv ou ov hw (fun z => absurd d1 z)
  · rw [if_neg d1]
    by_cases d2 : v.2.1 = 0
    · rw [if_pos d2, if_neg (by simp [d2])]
      exact y_wk ha h hk hi hj xu xv ou ov hw (fun _ z => absurd d2 z)
    · rw [if_neg d2]
      by_cases d3 : u.2.2.1 = v.2.2.1
      · rw [if_pos d3, if_neg (by simp [d3])]
        exact y_wk ha h hk hi hj xu xv ou ov hw (fun _ _ => d3)
      · rw [if_neg d3, if_pos (by simp [d1, d2, d3])]
        exact y_bt (y_find ha h 2 (by decide))
theorem o_work_ok (ha : s_Ok a) (s t r w : Int32) : s_Ok (o_work s t r w a).2 := by
  unfold o_work
  by_cases g1 : fX_isSpot s = true
  case neg => rw [if_neg g1]; exact ha
  by_cases g2 : fX_isSpot t = true
  case neg => rw [if_pos g1, if_neg g2]; exact ha
  by_cases g3 : fX_isSpot r = true
  case neg => rw [if_pos g1, if_pos g2, if_neg g3]; exact ha
  by_cases g4 : fX_isWithin w 0 3 = true
  case neg => rw [if_pos g1, if_pos g2, if_pos g3, if_neg g4]; exact ha
  rw [if_pos g1, if_pos g2, if_pos g3, if_pos g4]
  by_cases c1 : (a.2.2.1 (tk_n t)).isSome = true
  case neg => rw [if_neg c1]; exact ha
  by_cases c2 : (a.2.2.1 (tk_n r)).isSome = true
  case neg => rw [if_pos c1, if_neg c2]; exact ha
  rw [if_pos c1, if_pos c2]
  obtain ⟨u, hu⟩ := s_isN c1
  obtain ⟨v, hv⟩ := s_isN c2
  have ou := ha.2.2.2.1 _ u hu
  have ov := ha.2.2.2.1 _ v hv
  rw [s_gN_of hu, s_gN_of hv]
  by_cases c3 : (decide (¬ u.2.1 = 0) && decide (¬ v.2.1 = 0) && decide (¬ u.2.2.1 = v.2.2.1)) = true
  · rw [if_pos c3]; exact ha
  rw [if_neg c3]
  unfold o_wk
  by_cases c4 : (decide (w = 3) && decide (v.1 = 0) && decide (v.2.1 = 0)) = true
  · rw [if_pos c4]; exact ha
  rw [if_neg c4]
  by_cases c5 : (wk w u v (wk_d u v)).2.2.2 = true
  · rw [if_pos c5]; exact ha
  rw [if_neg c5]
  unfold s_low
  by_cases c6 : lo_bad (wk w u v (wk_d u v)).1.toInt (wk w u v (wk_d u v)).2.1.toInt (wk w u v (wk_d u v)).2.2.1.toInt
  · rw [if_pos c6]; exact ha
  rw [if_neg c6]
  simp only [Bool.and_eq_true, decide_eq_true_eq] at c3 c4
  have hne := wk_ne (w := w) ou ov (fun z1 z2 => Decidable.not_not.mp (fun z3 => c3 ⟨⟨z1, z2⟩, z3⟩)) (fun z1 z2 => c4 ⟨⟨z1, z2.1⟩, z2.2⟩) (s_w4 g4) (by simpa using c5)
  refine s_setN_ok ha (fun n hn => ?_)
  have := Option.some.inj hn
  rw [← this]
  refine s_val_ok (fun z => hne (lo_z.mpr z)) (lo_rng _) (lo_rng _) c6 (fun z => ?_)
  exact wk_dp ou ov (fun y => z (lo_z.mp (wk_q0 w _ y.1 y.2)))
end
