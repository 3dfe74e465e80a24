/-! ===== ratio, root, compare, taken ===== -/
theorem tk_alN : ∀ k, k < 6 → tk_al (275 + 2 * k + 1) = 3 := by decide +kernel
theorem tk_al437 : tk_al 458 = 4 := by decide +kernel
theorem tk_al431 : ∀ k, k < 6 → tk_al (452 + k) = 4 := by decide +kernel
theorem lo_mD {p q m : Int} (h : m ≠ 0) : 0 < m / lo_D3 p q m := by
  obtain ⟨k, hk⟩ := lo_D3m p q m
  have h0 := lo_D3n (p := p) (q := q) h
  have hg := lo_g3p (p := p) (q := q) h
  have hs : (m < 0 → lo_D3 p q m < 0) ∧ (0 < m → 0 < lo_D3 p q m) := by
    unfold lo_D3 lo_D
    split <;> omega
  generalize lo_D3 p q m = D at *
  have e : m / D = k := by rw [hk, Int.mul_ediv_cancel_left _ h0]
  rw [e]
  rcases Int.lt_trichotomy k 0 with c | c | c
  · exfalso
    rcases Int.lt_trichotomy m 0 with z | z | z
    · have := Int.mul_pos_of_neg_of_neg (hs.1 z) c; omega
    · exact h z
    · have := Int.mul_neg_of_pos_of_neg (hs.2 z) c; omega
  · rw [c, Int.mul_zero] at hk; exact absurd hk h
  · exact c
theorem lo_nbad {p q m : Int} (h : ¬ lo_bad p q m) : (p ≠ -9223372036854775808 ∨ lo_D3 p q m ≠ -1) ∧ (q ≠ -9223372036854775808 ∨ lo_D3 p q m ≠ -1) ∧ (m ≠ -9223372036854775808 ∨ lo_D3 p q m ≠ -1) := by
  unfold lo_bad at h
  omega
theorem s_val_ok {p q m : Int} {d : Int64} (hm : m ≠ 0) (rq : lo_r q) (rm : lo_r m) (hb : ¬ lo_bad p q m) (hd : q ≠ 0 → 1 < d.toInt ∧ d.toInt ≤ 100000000 ∧ nu_sf d.toInt.natAbs) : s_nmOk (lo_val p q d m) := by
  obtain ⟨b1, b2, b3⟩ := lo_nbad hb
  have em : (Int64.ofInt (m / lo_D3 p q m)).toInt = m / lo_D3 p q m := lo_i (lo_qr (lo_D3m _ _ _) rm b3)
  have eq : Int64.ofInt (q / lo_D3 p q m) = 0 ↔ q = 0 := by
    rw [lo_z, lo_i (lo_qr (lo_D3q _ _ _) rq b2), lo_qz (lo_D3n hm) (lo_D3q _ _ _)]
  refine ⟨?_, ?_, ?_⟩
  · show 0 < (Int64.ofInt (m / lo_D3 p q m)).toInt
    rw [em]; exact lo_mD hm
  · intro z
    show (if q = 0 then (0 : Int64) else d) = 0
    rw [if_pos (eq.mp z)]
  · intro z
    have z2 : q ≠ 0 := fun y => z (eq.mpr y)
    show 1 < (if q = 0 then (0 : Int64) else d).toInt ∧ (if q = 0 then (0 : Int64) else d).toInt ≤ 100000000 ∧ ∀ k : Int, k * k ∣ (if q = 0 then (0 : Int64) else d).toInt → k * k = 1
    rw [if_neg z2]
    obtain ⟨d1, d2, d3⟩ := hd z2
    exact ⟨d1, d2, s_sfof d3⟩
theorem lo_small {p q m : Int} (hp : p ≠ -9223372036854775808) (hq : q ≠ -9223372036854775808) (hm : m ≠ -9223372036854775808) : ¬ lo_bad p q m := by
  rintro ⟨_, h | h | h⟩
  · exact hp h
  · exact hq h
  · exact hm h
section
variable {K : List s_sh → Int32 × Int32 × Int32 → tk_m → Prop} {a : s_as} {m m' : tk_m} {α : Type}
/-- a spot holds what hold makes -/
theorem x_holdS (HK : x_K K) (ha : s_Ok a) (h : x_X K a m) {k : Nat} (hk : k < 6) (p q d w : Int64) (hw : w ≠ 0) (hb : ¬ lo_bad p.toInt q.toInt w.toInt) (v : α) : x_does K m ((fN_hold (275 + 2 * k) p q d w m).bind fun o => some (v, o.2)) (v, (a.1, a.2.1, s_setN a.2.2.1 k (some (lo_val p.toInt q.toInt d w.toInt)), a.2.2.2)) := by
  obtain ⟨b, M1, e1, e2, e3, e4, e5, e6, e7⟩ := x_hold (tk_alN k hk) p q d w m hw
  have hbt : b = true := e2.mpr hb
  rw [e1, Option.bind_some]
  refine x_putN HK ha h (fun r q _ => e3 r (by omega) (by omega)) (x_N_set h.2.2.2.1 hk (fun r _ _ q1 q2 => e3 r q1 q2) (by rw [e6, hbt]; rfl) (fun n hn => ?_)) v
  have : lo_val p.toInt q.toInt d w.toInt = n := Option.some.inj hn
  rw [← this]
  exact e7 hbt
theorem y_lowS (ha : s_Ok a) (h : y_Y a m) {m0 : tk_m} {k : Nat} (hk : k < 6) (p q d w : Int64) (hw : w ≠ 0) (h431 : ∀ j, j < 6 → m0.2.1 (452 + j) = m.2.1 (452 + j)) (h429 : m0.2.2.1 450 = m.2.2.1 450) (hfr : ∀ q, (q < 307 ∨ (442 ≤ q ∧ q < 449)) → (q = 295 → m0.1 295 2 = m.1 295 2) ∧ (q ≠ 295 → tk_row m m0 q)) (v : α) : y_does m ((fM_lowest p q d w 458 m0).bind fun o => (fM_keeps (Int32.ofNat k) 458 o).bind fun o2 => some (v, o2)) (v, (a.1, a.2.1, s_setN a.2.2.1 k (some (lo_val p.toInt q.toInt d w.toInt)), a.2.2.2)) := by
  obtain ⟨b, L, e1, e2, e3, e4⟩ := y_lowest tk_al437 p q d w m0 hw
  rw [e1, Option.bind_some]
  refine y_keep ha h hk tk_al437 (by omega) (fun j hj => by dsimp only; rw [e3 _ (by omega)]; exact h431 j hj) (by dsimp only; rw [tk_u2_ne (by decide)]; exact h429) (fun r hr => ?_) e4.1 e4.2.1 e4.2.2.1 e4.2.2.2 v
  obtain ⟨f1, f2⟩ := hfr r hr
  refine ⟨f1, fun e => ?_⟩
  obtain ⟨z1, z2, z3, z4⟩ := f2 e
  exact ⟨z1, by dsimp only; rw [e3 r (by omega)]; exact z2, by dsimp only; rw [tk_u2_ne e]; exact z3, z4⟩
theorem y_fr0 : ∀ q, (q < 307 ∨ (442 ≤ q ∧ q < 449)) → (q = 295 → m.1 295 2 = m.1 295 2) ∧ (q ≠ 295 → tk_row m m q) := fun q _ => ⟨fun _ => rfl, fun _ => tk_row_rf m q⟩
def o_ratio (s p w : Int32) (a : s_as) : Int32 × s_as := if (fX_isSpot s && decide (¬ w = 0) && fX_isWithin p (-1000000) 1000000 && fX_isWithin w (-1000000) 1000000) = true then (1, (a.1, a.2.1, s_setN a.2.2.1 (tk_n s) (some (lo_val p.toInt 0 0 w.toInt)), a.2.2.2)) else s_fd a 0
theorem x_ratio (HK : x_K K) (ha : s_Ok a) (h : x_X K a m) (s p w : Int32) : x_does K m (fX_ratio s p w m) (o_ratio s p w a) := by
  have f0 := x_bt (x_find HK ha h 0 (by decide))
  have key : ∀ f : Int32, (f = 0 ↔ ¬ (fX_isWithin p (-1000000) 1000000 = true ∧ fX_isWithin w (-1000000) 1000000 = true)) → x_does K m (fX_ratio_31 s p w f m) (o_ratio s p w a) := by
    intro f hf
    unfold fX_ratio_31 o_ratio
    by_cases g1 : fX_isSpot s = true
    · rw [if_pos g1]
      by_cases g2 : f = 0
      · rw [if_pos g2, if_neg]
        · exact f0
        · simp only [Bool.and_eq_true]
          exact fun z => (hf.mp g2) ⟨z.1.2, z.2⟩
      · rw [if_neg g2]
        have g2' : fX_isWithin p (-1000000) 1000000 = true ∧ fX_isWithin w (-1000000) 1000000 = true := Decidable.not_not.mp (fun z => g2 (hf.mpr z))
        by_cases g3 : w = 0
        · rw [if_pos g3, if_neg]
          · exact f0
          · simp [g3]
        · have hcond : (fX_isSpot s && decide (¬ w = 0) && fX_isWithin p (-1000000) 1000000 && fX_isWithin w (-1000000) 1000000) = true := by simp [g1, g2'.1, g2'.2, g3]
          rw [if_neg g3, if_pos hcond]
          obtain ⟨k, hk, rfl⟩ := s_spotI g1
          refine x_grd (i_ok hk (by omega)) ?_
          rw [i_nn (by omega)]
          have bp := w_i g2'.1
          have bw := w_i g2'.2
          have t1 : (-1000000 : Int32).toInt = -1000000 := rfl
          have t2 : (1000000 : Int32).toInt = 1000000 := rfl
          have e1 : p.toInt64.toInt = p.toInt := Int32.toInt_toInt64 p
          have e2 : w.toInt64.toInt = w.toInt := Int32.toInt_toInt64 w
          have hw : w.toInt64 ≠ 0 := by
            intro z
            rw [lo_z, e2] at z
            exact g3 (i_ext (by rw [z]; rfl))
          have := x_holdS HK ha h hk p.toInt64 0 0 w.toInt64 hw (by rw [e1, e2]; exact lo_small (by omega) (by decide) (by omega)) (1 : Int32)
          rw [e1, e2] at this
          exact this
    · rw [if_neg g1, if_neg]
      · exact f0
      · simp [g1]
  unfold fX_ratio
  by_cases c1 : fX_isWithin p (-1000000) 1000000 = true
  · rw [if_pos c1]
    by_cases c2 : fX_isWithin w (-1000000) 1000000 = true
    · rw [if_pos c2]; exact key 1 ⟨fun z => absurd z (by decide), fun z => absurd ⟨c1, c2⟩ z⟩
    · rw [if_neg c2]; exact key 0 ⟨fun _ z => c2 z.2, fun _ => rfl⟩
  · rw [if_neg c1]; exact key 0 ⟨fun _ z => c1 z.1, fun _ => rfl⟩
theorem y_ratio (ha : s_Ok a) (h : y_Y a m) (s p w : Int32) : y_does m (fM_ratio s p w m) (o_ratio s p w a) := by
  have f0 := y_bt (y_find ha h 0 (by decide))
  have wp : fM_in p.toInt64 (-1000000) 1000000 = fX_isWithin p (-1000000) 1000000 := w_eq (a := -1000000) (b := 1000000)
  have ww : fM_in w.toInt64 (-1000000) 1000000 = fX_isWithin w (-1000000) 1000000 := w_eq (a := -1000000) (b := 1000000)
  unfold fM_ratio o_ratio
  rw [y_isSpot, wp, ww]
  by_cases g1 : fX_isSpot s = true
  · rw [if_pos g1]
    by_cases g3 : w = 0
    · rw [if_pos g3, if_neg]
      · exact f0
      · simp [g3]
    rw [if_neg g3]
    by_cases c1 : fX_isWithin p (-1000000) 1000000 = true
    · rw [if_pos c1]
      by_cases c2 : fX_isWithin w (-1000000) 1000000 = true
      · rw [if_pos c2, if_pos (by simp [g1, c1, c2, g3])]
        obtain ⟨k, hk, rfl⟩ := s_spotI g1
        rw [i_nn (by omega)]
        have e1 : p.toInt64.toInt = p.toInt := Int32.toInt_toInt64 p
        have e2 : w.toInt64.toInt = w.toInt := Int32.toInt_toInt64 w
        have hw : w.toInt64 ≠ 0 := by
          intro z
          rw [lo_z, e2] at z
          exact g3 (i_ext (by rw [z]; rfl))
        have := y_lowS ha h (m0 := m) hk p.toInt64 0 0 w.toInt64 hw (fun _ _ => rfl) rfl y_fr0 (1 : Int32)
        rw [e1, e2] at this
        exact this
      · rw [if_neg c2, if_neg]
        · exact f0
        · simp [c2]
    · rw [if_neg c1, if_neg]
      · exact f0
      · simp [c1]
  · rw [if_neg g1, if_neg]
    · exact f0
    · simp [g1]
theorem o_ratio_ok (ha : s_Ok a) (s p w : Int32) : s_Ok (o_ratio s p w a).2 := by
  unfold o_ratio
  by_cases g : (fX_isSpot s && decide (¬ w = 0) && fX_isWithin p (-1000000) 1000000 && fX_isWithin w (-1000000) 1000000) = true
  · rw [if_pos g]
    simp only [Bool.and_eq_true, decide_eq_true_eq] at g
    refine s_setN_ok ha (fun n hn => ?_)
    have bp := w_i g.1.2
    have bw := w_i g.2
    have t1 : (-1000000 : Int32).toInt = -1000000 := rfl
    have t2 : (1000000 : Int32).toInt = 1000000 := rfl
    have hw : w.toInt ≠ 0 := fun z => g.1.1.2 (i_ext (by rw [z]; rfl))
    have : lo_val p.toInt 0 0 w.toInt = n := Option.some.inj hn
    rw [← this]
    exact s_val_ok hw ⟨by decide, by decide⟩ ⟨by omega, by omega⟩ (lo_small (by omega) (by decide) (by omega)) (fun z => absurd rfl z)
  · rw [if_neg g]; exact ha
/-! root -/
def s_root (n : Nat) (v : s_nm) : Prop := (n = 0 ∧ v = lo_val 0 0 0 1) ∨ ∃ s d, 0 < n ∧ n = s * s * d ∧ nu_sf d ∧ v = lo_val (if d = 1 then (s : Int) else 0) (if d = 1 then 0 else (s : Int)) (if d = 1 then 0 else rt_o d) 1
theorem s_root_ex (n : Nat) : ∃ v, s_root n v := by
  by_cases h : n = 0
  · exact ⟨_, .inl ⟨h, rfl⟩⟩
  · obtain ⟨s, d, h1, h2⟩ := rt_parts n (by omega)
    exact ⟨_, .inr ⟨s, d, by omega, h1, h2, rfl⟩⟩
noncomputable def s_rootV (n : Nat) : s_nm := Classical.choose (s_root_ex n)
theorem s_rootV_of (n : Nat) : s_root n (s_rootV n) := Classical.choose_spec (s_root_ex n)
theorem s_rt_sz {n s d : Nat} (e : n = s * s * d) (hn : 0 < n) : s ≤ n ∧ d ≤ n ∧ 0 < s ∧ 0 < d := by
  have hs : 0 < s := by
    apply Nat.pos_of_ne_zero
    intro q
    rw [q] at e
    omega
  have hd : 0 < d := by
    apply Nat.pos_of_ne_zero
    intro q
    rw [q, Nat.mul_zero] at e
    omega
  refine ⟨Nat.le_of_dvd hn ⟨s * d, by rw [e]; grind⟩, Nat.le_of_dvd hn ⟨s * s, by rw [e]; grind⟩, hs, hd⟩
noncomputable def o_root (s n : Int32) (a : s_as) : Int32 × s_as := if fX_isSpot s = true then (if fX_isWithin n 0 1000000 = true then (1, (a.1, a.2.1, s_setN a.2.2.1 (tk_n s) (some (s_rootV (tk_n n))), a.2.2.2)) else s_fd a 0) else s_fd a 0
theorem s_nat {n : Int32} (h : fX_isWithin n 0 1000000 = true) : n.toInt = (tk_n n : Int) ∧ tk_n n ≤ 1000000 := by
  have hw := w_i h
  have t0 : (0 : Int32).toInt = 0 := rfl
  have t1 : (1000000 : Int32).toInt = 1000000 := rfl
  have hn : tk_n n = n.toInt.toNat := rfl
  omega
theorem x_root (HK : x_K K) (ha : s_Ok a) (h : x_X K a m) (s n : Int32) : x_does K m (fX_root s n m) (o_root s n a) := by
  unfold fX_root o_root
  refine x_ite Iff.rfl (fun g1 => x_ite Iff.rfl (fun g2 => ?_) (fun _ => x_bt (x_find HK ha h 0 (by decide)))) (fun _ => x_bt (x_find HK ha h 0 (by decide)))
  obtain ⟨k, hk, rfl⟩ := s_spotI g1
  obtain ⟨hn1, hn2⟩ := s_nat g2
  refine x_grd (i_ok hk (by omega)) ?_
  rw [i_nn (show k < 2147483648 by omega)]
  have hn3 : n.toInt64 = rt_o (tk_n n) := by
    apply lo_ext
    rw [Int32.toInt_toInt64, rt_i (by omega)]
    exact hn1
  rw [hn3]
  rcases s_rootV_of (tk_n n) with ⟨e0, e1⟩ | ⟨t, d, e00, e0, e1, e2⟩
  · rw [e1, e0]
    unfold fN_holdRoot
    rw [if_neg (by decide)]
    have := x_holdS HK ha h hk 0 0 0 1 (by decide) (lo_small (by decide) (by decide) (by decide)) (1 : Int32)
    cases hh : fN_hold (275 + 2 * k) 0 0 0 1 m with
    | none => rw [hh] at this; obtain ⟨_, z, _⟩ := this; cases z
    | some o => rw [hh] at this; exact this
  · obtain ⟨z1, z2, z3, z4⟩ := s_rt_sz e0 (by omega)
    rw [e2, x_holdRoot (by omega) (by omega) e0 e1]
    unfold rt_H
    have hb1 : (rt_o t).toInt = (t : Int) := rt_i (by omega)
    by_cases c : d = 1
    · simp only [if_pos c]
      have := x_holdS HK ha h hk (rt_o t) 0 (rt_o d) 1 (by decide) (by rw [hb1]; exact lo_small (by omega) (by decide) (by decide)) (1 : Int32)
      rw [hb1] at this
      cases hh : fN_hold (275 + 2 * k) (rt_o t) 0 (rt_o d) 1 m with
      | none => rw [hh] at this; obtain ⟨_, z, _⟩ := this; cases z
      | some o => rw [hh] at this; exact this
    · simp only [if_neg c]
      have := x_holdS HK ha h hk 0 (rt_o t) (rt_o d) 1 (by decide) (by rw [hb1]; exact lo_small (by decide) (by omega) (by decide)) (1 : Int32)
      rw [hb1] at this
      cases hh : fN_hold (275 + 2 * k) 0 (rt_o t) (rt_o d) 1 m with
      | none => rw [hh] at this; obtain ⟨_, z, _⟩ := this; cases z
      | some o => rw [hh] at this; exact this
/-- the reference's root -/
theorem y_root (ha : s_Ok a) (h : y_Y a m) (s n : Int32) : y_does m (fM_root s n m) (o_root s n a) := by
  unfold fM_root o_root
  refine y_ite (by rw [y_isSpot]) (fun g1 => y_ite (by rw [← w_eq (v := n) (a := 0) (b := 1000000)]; rfl) (fun g2 => ?_) (fun _ => y_bt (y_find ha h 0 (by decide)))) (fun _ => y_bt (y_find ha h 0 (by decide)))
  obtain ⟨k, hk, rfl⟩ := s_spotI g1
  obtain ⟨hn1, hn2⟩ := s_nat g2
  rw [i_nn (show k < 2147483648 by omega)]
  have hn3 : n.toInt64 = rt_o (tk_n n) := by
    apply lo_ext
    rw [Int32.toInt_toInt64, rt_i (by omega)]
    exact hn1
  have hle : n ≤ 0 ↔ tk_n n = 0 := by rw [Int32.le_iff_toInt_le, show (0 : Int32).toInt = 0 from rfl]; omega
  have hzr : n = 0 ↔ tk_n n = 0 := by
    constructor
    · intro q; rw [q]; rfl
    · intro q; apply i_ext; rw [hn1, q]; rfl
  rcases s_rootV_of (tk_n n) with ⟨e0, e1⟩ | ⟨t, d, e00, e0, e1, e2⟩
  · rw [e1, if_pos (hle.mpr e0)]
    unfold fM_root_35
    rw [if_pos (hzr.mpr e0)]
    unfold fM_root_53
    rw [if_pos (hzr.mpr e0), if_neg (by decide)]
    unfold fM_root_87
    rw [if_neg (by decide)]
    exact y_lowS ha h (m0 := m) hk 0 0 0 1 (by decide) (fun _ _ => rfl) rfl y_fr0 (1 : Int32)
  · obtain ⟨z1, z2, z3, z4⟩ := s_rt_sz e0 (by omega)
    have hb1 : (rt_o t).toInt = (t : Int) := rt_i (by omega)
    rw [e2, if_neg (fun q => by have := hle.mp q; omega), hn3, y_parts (m := m) 1001 (by decide) (by decide) (by omega) (by omega) (fun l hl hnd => by have := Nat.le_of_dvd (by omega) hl; omega) e0 e1, Option.bind_some]
    have hfr : ∀ q, (q < 307 ∨ (442 ≤ q ∧ q < 449)) → (q = 295 → (rt_M m t d).1 295 2 = m.1 295 2) ∧ (q ≠ 295 → tk_row m (rt_M m t d) q) := by
      intro q _
      refine ⟨fun _ => rfl, fun e => ⟨rfl, ?_, rfl, rfl⟩⟩
      unfold rt_M
      dsimp only
      rw [tk_u2_ne e, tk_u2_ne e]
    have h431 : ∀ j, j < 6 → (rt_M m t d).2.1 (452 + j) = m.2.1 (452 + j) := by
      intro j _
      unfold rt_M
      dsimp only
      rw [tk_u2_ne (by omega), tk_u2_ne (by omega)]
    have hz : ¬ n = 0 := fun q => by have := hzr.mp q; omega
    unfold fM_root_35
    rw [if_neg hz, rt_M6]
    by_cases c : d = 1
    · rw [if_pos (by rw [c]; rfl)]
      unfold fM_root_53
      rw [if_neg hz, if_neg (by decide), rt_M5]
      unfold fM_root_87
      rw [if_neg (by decide)]
      simp only [if_pos c]
      have := y_lowS ha h (m0 := rt_M m t d) hk (rt_o t) 0 0 1 (by decide) h431 rfl hfr (1 : Int32)
      rw [hb1] at this
      exact this
    · rw [if_neg (show ¬ rt_o d = 1 from fun q => c ((rt_eq (b := 1) (by omega) (by omega)).mp q))]
      unfold fM_root_53
      rw [if_neg hz, if_pos rfl, rt_M5]
      unfold fM_root_87
      rw [if_pos rfl, rt_M6]
      simp only [if_neg c]
      have := y_lowS ha h (m0 := rt_M m t d) hk 0 (rt_o t) (rt_o d) 1 (by decide) h431 rfl hfr (1 : Int32)
      rw [hb1] at this
      exact this
theorem o_root_ok (ha : s_Ok a) (s n : Int32) : s_Ok (o_root s n a).2 := by
  unfold o_root
  by_cases g1 : fX_isSpot s = true
  · rw [if_pos g1]
    by_cases g2 : fX_isWithin n 0 1000000 = true
    · rw [if_pos g2]
      obtain ⟨hn1, hn2⟩ := s_nat g2
      refine s_setN_ok ha (fun v hv => ?_)
      have : s_rootV (tk_n n) = v := Option.some.inj hv
      rw [← this]
      rcases s_rootV_of (tk_n n) with ⟨e0, e1⟩ | ⟨t, d, e00, e0, e1, e2⟩
      · rw [e1]
        exact s_val_ok (by decide) ⟨by decide, by decide⟩ ⟨by decide, by decide⟩ (lo_small (by decide) (by decide) (by decide)) (fun z => absurd rfl z)
      · obtain ⟨z1, z2, z3, z4⟩ := s_rt_sz e0 (by omega)
        rw [e2]
        by_cases c : d = 1
        · simp only [if_pos c]
          exact s_val_ok (by decide) ⟨by decide, by decide⟩ ⟨by decide, by decide⟩ (lo_small (by omega) (by decide) (by decide)) (fun z => absurd rfl z)
        · simp only [if_neg c]
          refine s_val_ok (by decide) ⟨by omega, by omega⟩ ⟨by decide, by decide⟩ (lo_small (by decide) (by omega) (by decide)) (fun _ => ?_)
          rw [rt_i (by omega)]
          exact ⟨by omega, by omega, by rw [Int.natAbs_natCast]; exact e1⟩
    · rw [if_neg g2]; exact ha
  · rw [if_neg g1]; exact ha
end
