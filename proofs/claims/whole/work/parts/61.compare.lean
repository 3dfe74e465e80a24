/-! ===== compare, taken, tell ===== -/
def s_cmp (u v : s_nm) : Int32 := Int32.ofInt (nu_cmpM (u.1.toInt * v.2.2.2.toInt + -(v.1.toInt * u.2.2.2.toInt)) (u.2.1.toInt * v.2.2.2.toInt) (-(v.2.1.toInt * u.2.2.2.toInt)) u.2.2.1.toInt v.2.2.1.toInt)
theorem s_sfn {n : s_nm} (h : s_nmOk n) {z : Int} (hz : n.2.1.toInt * z ≠ 0) : 0 < n.2.2.1.toInt ∧ nu_sf n.2.2.1.toInt.natAbs := by
  have hq : n.2.1 ≠ 0 := by
    intro q
    rw [q] at hz
    exact hz (by rw [show (0 : Int64).toInt = 0 from rfl, Int.zero_mul])
  obtain ⟨d1, d2, d3⟩ := h.2.2 hq
  exact ⟨by omega, s_sfto d3⟩
section
variable {K : List s_sh → Int32 × Int32 × Int32 → tk_m → Prop} {a : s_as} {m m' : tk_m} {α : Type}
theorem bg_J_scr (h : bg_J m m') : x_scr m m' := fun r hr => ⟨h.2 r (by omega), by rw [h.1], by rw [h.1], by rw [h.1]⟩
theorem x_cmp {r1 r2 : Nat} {u v : s_nm} (hu : x_num u r1 m) (hv : x_num v r2 m) (ou : s_nmOk u) (ov : s_nmOk v) : ∃ m', fJ_order r1 r2 m = some (s_cmp u v, m') ∧ x_scr m m' := by
  obtain ⟨a1, a2, a3, a4⟩ := hu
  obtain ⟨b1, b2, b3, b4⟩ := hv
  obtain ⟨m', e1, e2⟩ := x_order m a1 a2 a4 a3 b1 b2 b4 b3 (s_nmd ou) (s_nmd ov)
  refine ⟨m', ?_, bg_J_scr e2⟩
  rw [e1]
  unfold s_cmp
  rw [nu_ord (fun hz => s_sfn ou hz) (fun hz => ?_), show u.1.toInt * v.2.2.2.toInt + -1 * (v.1.toInt * u.2.2.2.toInt) = u.1.toInt * v.2.2.2.toInt + -(v.1.toInt * u.2.2.2.toInt) by omega]
  exact s_sfn ov (z := u.2.2.2.toInt) (by omega)
theorem bg_Jq_scr (h : bg_Jq m m') : x_scr m m' := fun r hr => ⟨h.2 r (by omega), by rw [h.1], by rw [h.1], by rw [h.1]⟩
theorem x_cmpq {r1 r2 : Nat} {u v : s_nm} (hu : x_num u r1 m) (hv : x_num v r2 m) (ou : s_nmOk u) (ov : s_nmOk v) : ∃ m', fJ_orderq r1 r2 m = some (s_cmp u v, m') ∧ x_scr m m' := by
  obtain ⟨a1, a2, a3, a4⟩ := hu
  obtain ⟨b1, b2, b3, b4⟩ := hv
  obtain ⟨m', e1, e2⟩ := x_orderq m a1 a2 a4 a3 b1 b2 b4 b3 (s_nmd ou) (s_nmd ov)
  refine ⟨m', ?_, bg_Jq_scr e2⟩
  rw [e1]
  unfold s_cmp
  rw [nu_ord (fun hz => s_sfn ou hz) (fun hz => ?_), show u.1.toInt * v.2.2.2.toInt + -1 * (v.1.toInt * u.2.2.2.toInt) = u.1.toInt * v.2.2.2.toInt + -(v.1.toInt * u.2.2.2.toInt) by omega]
  exact s_sfn ov (z := u.2.2.2.toInt) (by omega)
/-- what the reference's weighing leaves alone -/
def y_scr (m m' : tk_m) : Prop := m'.2 = m.2 ∧ ∀ r k, (r < 308 ∨ 348 < r) → ¬ (r = 295 ∧ k = 9) → m'.1 r k = m.1 r k
theorem y_scr_Y (ha : s_Ok a) (h : y_Y a m) (q : wd_fr m m') : y_Y a m' := by
  have hrow : ∀ r, r ≠ 295 → (r < 308 ∨ 348 < r) → tk_row m m' r := fun r h1 h2 => ⟨funext fun k => q.2 r k h2 (by omega), by rw [q.1], by rw [q.1], by rw [q.1]⟩
  obtain ⟨h1, h2, h3, h4, h5⟩ := h
  exact ⟨y_F_k h1 (hrow 306 (by omega) (by omega)), y_S_k h2 (hrow 296 (by omega) (by omega)), y_P_k ha.2.1 h3 (q.2 295 2 (by omega) (by omega)) (fun r a b => hrow r (by omega) (by omega)), y_N_k h4 (fun r a b => hrow r (by omega) (by omega)), y_T_k h5 (fun r a b => hrow r (by omega) (by omega))⟩
theorem y_scr_lo (q : wd_fr m m') : tk_lo m m' := fun r hr => ⟨funext fun k => q.2 r k (by omega) (by omega), by rw [q.1], by rw [q.1], by rw [q.1]⟩
theorem y_scrd (ha : s_Ok a) (h : y_Y a m) (q : wd_fr m m') (v : α) : y_does m (some (v, m')) (v, a) := ⟨m', rfl, y_scr_Y ha h q, y_scr_lo q⟩
theorem y_cmp {r1 r2 : Nat} {u v : s_nm} (l1 : tk_al r1 = 4) (l2 : tk_al r2 = 4) (hu : m.2.1 r1 0 = u.1 ∧ m.2.1 r1 1 = u.2.1 ∧ m.2.1 r1 2 = u.2.2.1 ∧ m.2.1 r1 3 = u.2.2.2) (hv : m.2.1 r2 0 = v.1 ∧ m.2.1 r2 1 = v.2.1 ∧ m.2.1 r2 2 = v.2.2.1 ∧ m.2.1 r2 3 = v.2.2.2) (ou : s_nmOk u) (ov : s_nmOk v) : ∃ m', fM_compares r1 r2 m = some (s_cmp u v, m') ∧ wd_fr m m' :=
  y_compares l1 l2 m hu.1 hu.2.1 hu.2.2.1 hu.2.2.2 hv.1 hv.2.1 hv.2.2.1 hv.2.2.2 (s_nmd ou) (s_nmd ov)
def o_compare (s t : Int32) (a : s_as) : Int32 × s_as := if fX_isSpot s = true then (if fX_isSpot t = true then (if (a.2.2.1 (tk_n s)).isSome = true then (if (a.2.2.1 (tk_n t)).isSome = true then (s_cmp (s_gN a.2.2.1 (tk_n s)) (s_gN a.2.2.1 (tk_n t)), a) else s_fd a 5) else s_fd a 5) else s_fd a 0) else s_fd a 0
theorem x_compare (HK : x_K K) (ha : s_Ok a) (h : x_X K a m) (s t : Int32) : x_does K m (fX_compare s t m) (o_compare s t a) := by
  unfold fX_compare o_compare
  refine x_ite Iff.rfl (fun g1 => x_ite Iff.rfl (fun g2 => ?_) (fun _ => x_bt (x_find HK ha h 0 (by decide)))) (fun _ => x_bt (x_find HK ha h 0 (by decide)))
  obtain ⟨k, hk, rfl⟩ := s_spotI g1
  obtain ⟨l, hl, rfl⟩ := s_spotI g2
  refine x_grd (i_ok hk (by omega)) ?_
  rw [if_pos (i_ok hl (by omega)), i_nn (show k < 2147483648 by omega), i_nn (show l < 2147483648 by omega), (h.2.2.2.1 k hk).1, (h.2.2.2.1 l hl).1]
  refine x_ite Iff.rfl (fun c1 => x_ite Iff.rfl (fun c2 => x_bt ?_) (fun _ => x_bt (x_find HK ha h 5 (by decide)))) (fun _ => x_bt (x_find HK ha h 5 (by decide)))
  obtain ⟨u, hu⟩ := s_isN c1
  obtain ⟨v, hv⟩ := s_isN c2
  obtain ⟨m1, e1, e2⟩ := x_cmp ((h.2.2.2.1 k hk).2 u hu) ((h.2.2.2.1 l hl).2 v hv) (ha.2.2.2.1 k u hu) (ha.2.2.2.1 l v hv)
  rw [e1, s_gN_of hu, s_gN_of hv]
  exact x_scrd HK ha h e2 _
theorem y_compare (ha : s_Ok a) (h : y_Y a m) (s t : Int32) : y_does m (fM_compare s t m) (o_compare s t a) := by
  unfold fM_compare o_compare
  refine y_ite (by rw [y_isSpot]) (fun g1 => y_ite (by rw [y_isSpot]) (fun g2 => ?_) (fun _ => y_bt (y_find ha h 0 (by decide)))) (fun _ => y_bt (y_find ha h 0 (by decide)))
  obtain ⟨k, hk, rfl⟩ := s_spotI g1
  obtain ⟨l, hl, rfl⟩ := s_spotI g2
  refine y_grd (i_ok hk (by omega)) ?_
  rw [if_pos (i_ok hl (by omega)), i_nn (show k < 2147483648 by omega), i_nn (show l < 2147483648 by omega), (h.2.2.2.1 k hk).1, (h.2.2.2.1 l hl).1]
  refine y_ite Iff.rfl (fun c1 => y_ite Iff.rfl (fun c2 => y_bt ?_) (fun _ => y_bt (y_find ha h 5 (by decide)))) (fun _ => y_bt (y_find ha h 5 (by decide)))
  obtain ⟨u, hu⟩ := s_isN c1
  obtain ⟨v, hv⟩ := s_isN c2
  obtain ⟨m1, e1, e2⟩ := y_cmp (tk_al431 k hk) (tk_al431 l hl) ((h.2.2.2.1 k hk).2 u hu) ((h.2.2.2.1 l hl).2 v hv) (ha.2.2.2.1 k u hu) (ha.2.2.2.1 l v hv)
  rw [e1, s_gN_of hu, s_gN_of hv]
  exact y_scrd ha h e2 _
theorem o_compare_ok (ha : s_Ok a) (s t : Int32) : s_Ok (o_compare s t a).2 := by
  unfold o_compare
  repeat (first | exact ha | split)
/-! taken -/
def s_is (n : s_nm) (w : Int32) : Bool := if w = 0 then true else if w = 1 then decide (¬ n.2.1 = 0) else if w = 2 then decide (n.2.1 = 0) else decide (n.2.1 = 0 ∧ n.2.2.2 = 1)
def s_asI (v : Int64) (a : s_as) : Int32 × s_as := if v = v.toInt32.toInt64 then (v.toInt32, a) else s_fd a 7
def o_taken (s w : Int32) (a : s_as) : Int32 × s_as := if fX_isSpot s = true then (if fX_isWithin w 0 3 = true then (if (a.2.2.1 (tk_n s)).isSome = true then (if s_is (s_gN a.2.2.1 (tk_n s)) w = true then (if w = 0 then (Int32.ofInt (nu_s1 (s_gN a.2.2.1 (tk_n s)).1.toInt (s_gN a.2.2.1 (tk_n s)).2.1.toInt (s_gN a.2.2.1 (tk_n s)).2.2.1.toInt), a) else if w = 1 then s_asI (s_gN a.2.2.1 (tk_n s)).2.2.1 a else if w = 2 then s_asI (s_gN a.2.2.1 (tk_n s)).2.2.2 a else s_asI (s_gN a.2.2.1 (tk_n s)).1 a) else s_fd a 2) else s_fd a 5) else s_fd a 0) else s_fd a 0
theorem s_cmp0 {u : s_nm} (ou : s_nmOk u) : s_cmp u (0, 0, 0, 1) = Int32.ofInt (nu_s1 u.1.toInt u.2.1.toInt u.2.2.1.toInt) := by
  unfold s_cmp
  have t1 : (1 : Int64).toInt = 1 := rfl
  have t0 : (0 : Int64).toInt = 0 := rfl
  dsimp only
  rw [t1, t0, Int.mul_one, Int.mul_one, Int.zero_mul, Int.neg_zero, Int.add_zero]
  congr 1
  unfold nu_cmpM
  by_cases e : u.2.1.toInt = 0
  · rw [if_pos e]
    unfold nu_s1
    rw [if_pos rfl, if_pos e]
  · rw [if_neg e, if_pos rfl]
theorem x_taken (HK : x_K K) (ha : s_Ok a) (h : x_X K a m) (s w : Int32) : x_does K m (fX_taken s w m) (o_taken s w a) := by
  unfold fX_taken o_taken
  refine x_ite Iff.rfl (fun g1 => x_ite Iff.rfl (fun g2 => ?_) (fun _ => x_bt (x_find HK ha h 0 (by decide)))) (fun _ => x_bt (x_find HK ha h 0 (by decide)))
  obtain ⟨k, hk, rfl⟩ := s_spotI g1
  refine x_grd (i_ok hk (by omega)) ?_
  rw [i_nn (show k < 2147483648 by omega), (h.2.2.2.1 k hk).1]
  refine x_ite Iff.rfl (fun c1 => ?_) (fun _ => x_bt (x_find HK ha h 5 (by decide)))
  obtain ⟨u, hu⟩ := s_isN c1
  have hn := (h.2.2.2.1 k hk).2 u hu
  have ou := ha.2.2.2.1 k u hu
  rw [s_gN_of hu]
  have hz : ∀ b : Int64, (if b = 0 then false else true) = decide (¬ b = 0) := fun b => by by_cases q : b = 0 <;> simp [q]
  have his : fN_isOf (275 + 2 * k) w m = s_is u w := by
    unfold fN_isOf s_is fN_q fN_m
    rw [hn.2.1, hn.2.2.1]
    by_cases q : u.2.1 = 0 <;> by_cases q2 : u.2.2.2 = 1 <;> simp [q, q2]
  rw [his]
  have asI : ∀ v : Int64, x_does K m (fX_taken_97 v m) (s_asI v a) := by
    intro v
    unfold fX_taken_97 s_asI
    exact x_ite Iff.rfl (fun _ => x_same h _) (fun _ => x_bt (x_find HK ha h 7 (by decide)))
  refine x_ite Iff.rfl (fun c2 => x_ite Iff.rfl (fun _ => x_bt ?_) (fun _ => x_ite Iff.rfl (fun _ => ?_) (fun _ => x_ite Iff.rfl (fun _ => ?_) (fun _ => ?_)))) (fun _ => x_bt (x_find HK ha h 2 (by decide)))
  · obtain ⟨m1, e1, e2⟩ := x_cmp hn h.2.2.2.2.2.1 ou ⟨by decide, fun _ => rfl, fun q => absurd rfl q⟩
    unfold fJ_sign
    rw [e1, Option.bind_some, s_cmp0 ou]
    exact x_scrd HK ha h e2 _
  · rw [hn.2.2.2]; exact asI _
  · unfold fN_m; rw [hn.2.2.1]; exact asI _
  · unfold fN_p; rw [hn.1]; exact asI _
theorem y_taken (ha : s_Ok a) (h : y_Y a m) (s w : Int32) : y_does m (fM_taken s w m) (o_taken s w a) := by
  unfold fM_taken o_taken
  refine y_ite (by rw [y_isSpot]) (fun g1 => y_ite (by rw [← w_eq (v := w) (a := 0) (b := 3)]; rfl) (fun g2 => ?_) (fun _ => y_bt (y_find ha h 0 (by decide)))) (fun _ => y_bt (y_find ha h 0 (by decide)))
  obtain ⟨k, hk, rfl⟩ := s_spotI g1
  refine y_grd (i_ok hk (by omega)) ?_
  rw [i_nn (show k < 2147483648 by omega), (h.2.2.2.1 k hk).1]
  refine y_ite Iff.rfl (fun c1 => ?_) (fun _ => y_bt (y_find ha h 5 (by decide)))
  obtain ⟨u, hu⟩ := s_isN c1
  obtain ⟨n1, n2, n3, n4⟩ := (h.2.2.2.1 k hk).2 u hu
  have ou := ha.2.2.2.1 k u hu
  rw [s_gN_of hu, n2, n4]
  have hy0 : y_Y a (tk_u2 m.1 295 9 0, m.2.1, m.2.2.1, m.2.2.2) := y_scr_Y ha h (wd_nil_fr m)
  have fd2 : ∀ w : Int32, y_does m (fM_taken_93 w (452 + k) 0 m) (s_fd a 2) := by
    intro w
    unfold fM_taken_93
    rw [if_pos rfl]
    exact y_bt (y_find ha h 2 (by decide))
  have asI : ∀ v : Int64, y_does m ((fM_asInt v (tk_u2 m.1 295 9 0, m.2.1, m.2.2.1, m.2.2.2)).bind fun o => some (o.1, o.2)) (s_asI v a) := by
    intro v
    refine y_bt ?_
    unfold fM_asInt s_asI
    by_cases c : v = v.toInt32.toInt64
    · rw [if_pos c, if_pos c]
      exact y_scrd ha h (wd_nil_fr m) _
    · rw [if_neg c, if_neg c, tk_beta]
      obtain ⟨m2, e1, e2, e3⟩ := y_find ha hy0 7 (by decide)
      exact ⟨m2, e1, e2, tk_lo_tr (y_scr_lo (wd_nil_fr m)) e3⟩
  rcases s_w4 g2 with q | q | q | q <;> subst q
  · rw [if_pos rfl, show s_is u 0 = true from rfl, if_pos rfl, if_pos rfl]
    unfold fM_taken_93
    rw [if_neg (by decide), if_pos rfl, n1]
    obtain ⟨x1, e1, s1, f1⟩ := wd_widens (wd_nil m) (by decide) u.1
    obtain ⟨x2, e2, s2, f2⟩ := wd_widens s1 (by simp) u.2.1
    have E1 : x1.2.1 = m.2.1 := by rw [f1.1]
    have E2 : x2.2.1 = m.2.1 := by rw [f2.1]; exact E1
    have dd := s_nmd ou
    have b1 := wd_b6 u.1
    have b2 := wd_b6 u.2.1
    have b3 : u.2.2.1.toInt.natAbs ≤ 100000000 := by omega
    obtain ⟨x3, X, e3, s3, f3⟩ := wd_signOf s2 (by simp) (i := 0) (j := 1) u.2.2.1 rfl rfl dd.1 (Nat.lt_of_le_of_lt (wd_b2 b1 b1) (by decide)) (Nat.lt_of_le_of_lt (wd_b2 b2 b2) (by decide)) (Nat.lt_of_le_of_lt (wd_b2 (wd_b2 b2 b2) b3) (by decide))
    simp only [List.nil_append, List.cons_append, List.length_cons, List.length_nil, Nat.zero_add] at e1 e2
    rw [e1, Option.bind_some]
    dsimp only
    rw [E1, n2, e2, Option.bind_some]
    dsimp only
    rw [E2, n3, e3, Option.bind_some]
    exact y_scrd ha h (wd_fr_tr (wd_fr_tr (wd_fr_tr (wd_nil_fr m) f1) f2) f3) _
  · rw [if_neg (by decide), if_pos rfl]
    have his : s_is u 1 = decide (¬ u.2.1 = 0) := rfl
    rw [his]
    by_cases c : u.2.1 = 0
    · rw [if_pos c, if_neg (by simp [c])]; exact fd2 1
    · rw [if_neg c, if_pos (by simp [c]), if_neg (by decide), if_pos rfl]
      unfold fM_taken_93
      rw [if_neg (by decide), if_neg (by decide), if_pos rfl, n3]
      exact asI _
  · rw [if_neg (by decide), if_neg (by decide)]
    have his : s_is u 2 = decide (u.2.1 = 0) := rfl
    rw [his]
    by_cases c : u.2.1 = 0
    · rw [if_pos c, if_pos rfl, if_pos (by simp [c]), if_neg (by decide), if_neg (by decide), if_pos rfl]
      unfold fM_taken_93
      rw [if_neg (by decide), if_neg (by decide), if_neg (by decide), if_pos rfl, n4]
      exact asI _
    · rw [if_neg c, if_neg (by simp [c])]; exact fd2 2
  · rw [if_neg (by decide), if_neg (by decide)]
    have his : s_is u 3 = decide (u.2.1 = 0 ∧ u.2.2.2 = 1) := rfl
    rw [his]
    by_cases c : u.2.1 = 0
    · rw [if_pos c, if_neg (by decide)]
      by_cases c2 : u.2.2.2 = 1
      · rw [if_pos c2, if_pos (by simp [c, c2]), if_neg (by decide), if_neg (by decide), if_neg (by decide)]
        unfold fM_taken_93
        rw [if_neg (by decide), if_neg (by decide), if_neg (by decide), if_neg (by decide), n1]
        exact asI _
      · rw [if_neg c2, if_neg (by simp [c2])]; exact fd2 3
    · rw [if_neg c, if_neg (by simp [c])]; exact fd2 3
theorem o_taken_ok (ha : s_Ok a) (s w : Int32) : s_Ok (o_taken s w a).2 := by
  unfold o_taken s_asI
  repeat (first | exact ha | split)
end
