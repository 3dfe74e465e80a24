/-! ===== work: the class's side ===== -/
/-- what the four workings give: parts, denominator, over -/
def wk (w : Int32) (u v : s_nm) (d : Int64) : Int64 × Int64 × Int64 × Bool :=
  if w = 0 then (u.1 * v.2.2.2 + v.1 * u.2.2.2, u.2.1 * v.2.2.2 + v.2.1 * u.2.2.2, u.2.2.2 * v.2.2.2, ov_t u.1 v.2.2.2 || ov_t v.1 u.2.2.2 || ov_p (u.1 * v.2.2.2) (v.1 * u.2.2.2) || ov_t u.2.1 v.2.2.2 || ov_t v.2.1 u.2.2.2 || ov_p (u.2.1 * v.2.2.2) (v.2.1 * u.2.2.2) || ov_t u.2.2.2 v.2.2.2)
  else if w = 1 then (u.1 * v.2.2.2 - v.1 * u.2.2.2, u.2.1 * v.2.2.2 - v.2.1 * u.2.2.2, u.2.2.2 * v.2.2.2, ov_t u.1 v.2.2.2 || ov_t v.1 u.2.2.2 || ov_m (u.1 * v.2.2.2) (v.1 * u.2.2.2) || ov_t u.2.1 v.2.2.2 || ov_t v.2.1 u.2.2.2 || ov_m (u.2.1 * v.2.2.2) (v.2.1 * u.2.2.2) || ov_t u.2.2.2 v.2.2.2)
  else if w = 2 then (u.1 * v.1 + u.2.1 * v.2.1 * d, u.1 * v.2.1 + u.2.1 * v.1, u.2.2.2 * v.2.2.2, ov_t u.1 v.1 || ov_t u.2.1 v.2.1 || ov_t (u.2.1 * v.2.1) d || ov_p (u.1 * v.1) (u.2.1 * v.2.1 * d) || ov_t u.1 v.2.1 || ov_t u.2.1 v.1 || ov_p (u.1 * v.2.1) (u.2.1 * v.1) || ov_t u.2.2.2 v.2.2.2)
  else ((u.1 * v.1 - u.2.1 * v.2.1 * d) * v.2.2.2, (u.2.1 * v.1 - u.1 * v.2.1) * v.2.2.2, u.2.2.2 * (v.1 * v.1 - v.2.1 * v.2.1 * d), ov_t u.1 v.1 || ov_t u.2.1 v.2.1 || ov_t (u.2.1 * v.2.1) d || ov_m (u.1 * v.1) (u.2.1 * v.2.1 * d) || ov_t (u.1 * v.1 - u.2.1 * v.2.1 * d) v.2.2.2 || ov_t u.2.1 v.1 || ov_t u.1 v.2.1 || ov_m (u.2.1 * v.1) (u.1 * v.2.1) || ov_t (u.2.1 * v.1 - u.1 * v.2.1) v.2.2.2 || ov_t v.1 v.1 || ov_t v.2.1 v.2.1 || ov_t (v.2.1 * v.2.1) d || ov_m (v.1 * v.1) (v.2.1 * v.2.1 * d) || ov_t u.2.2.2 (v.1 * v.1 - v.2.1 * v.2.1 * d))
def wk_d (u v : s_nm) : Int64 := if u.2.2.1 = 0 then v.2.2.1 else u.2.2.1
theorem ov_X0 (m : tk_m) : (m.1, m.2.1, tk_u2 m.2.2.1 34 0 false, m.2.2.2) = ov_X m false := rfl
theorem wk_X (w : Int32) {r1 r2 : Nat} {u v : s_nm} {m : tk_m} (hu : x_num u r1 m) (hv : x_num v r2 m) : fK_workOut r1 r2 w m = fK_conclude (wk w u v (wk_d u v)).1 (wk w u v (wk_d u v)).2.1 (wk_d u v) (wk w u v (wk_d u v)).2.2.1 (ov_X m (wk w u v (wk_d u v)).2.2.2) := by
  obtain ⟨u1, u2, u4, u3⟩ := hu
  obtain ⟨v1, v2, v4, v3⟩ := hv
  have p1 : ∀ B, fN_p r1 (ov_X m B) = u.1 := fun B => u1
  have p2 : ∀ B, fN_p r2 (ov_X m B) = v.1 := fun B => v1
  have q1 : ∀ B, fN_q r1 (ov_X m B) = u.2.1 := fun B => u2
  have q2 : ∀ B, fN_q r2 (ov_X m B) = v.2.1 := fun B => v2
  have m1 : ∀ B, fN_m r1 (ov_X m B) = u.2.2.2 := fun B => u4
  have m2 : ∀ B, fN_m r2 (ov_X m B) = v.2.2.2 := fun B => v4
  have dd : ∀ B, fK_rootOfBoth r1 r2 (ov_X m B) = wk_d u v := fun B => by
    show (if m.2.1 r1 2 = 0 then m.2.1 r2 2 else m.2.1 r1 2) = _
    rw [u3, v3]; rfl
  have eta : ∀ o : Option (Bool × tk_m), (o.bind fun o2 => some (o2.1, o2.2)) = o := fun o => by cases o <;> rfl
  unfold fK_workOut
  rw [ov_X0, eta, eta, eta, eta]
  unfold fK_addUp fK_takeOff fK_multiply fK_divide wk
  simp only [p1, p2, q1, q2, m1, m2, dd, ov_Xt, ov_Xp, ov_Xm, Option.bind_some, tk_let, Bool.false_or, eta]
  by_cases c0 : w = 0
  · simp only [if_pos c0, Bool.or_assoc]
  · by_cases c1 : w = 1
    · simp only [if_neg c0, if_pos c1, Bool.or_assoc]
    · by_cases c2 : w = 2
      · simp only [if_neg c0, if_neg c1, if_pos c2, Bool.or_assoc]
      · simp only [if_neg c0, if_neg c1, if_neg c2, Bool.or_assoc]
/-! the reference's side -/
theorem ov_Yl (m : tk_m) (L L' : Nat → Nat → Int64) (B : Bool) : ((ov_Y m L B).1, L', (ov_Y m L B).2.2.1, (ov_Y m L B).2.2.2) = ov_Y m L' B := rfl
theorem ov_Y1 (m : tk_m) (L : Nat → Nat → Int64) (B : Bool) : (ov_Y m L B).2.1 = L := rfl
theorem ov_Y0 (m : tk_m) : (m.1, m.2.1, tk_u2 m.2.2.1 295 4 false, m.2.2.2) = ov_Y m m.2.1 false := rfl
theorem wk_ok0 : tk_ok (0 : Int32) 4 ∧ tk_ok (1 : Int32) 4 ∧ tk_ok (2 : Int32) 4 ∧ tk_ok (3 : Int32) 4 := by decide
theorem wk_dq {u v : s_nm} (ou : s_nmOk u) : (if u.2.1 = 0 then v.2.2.1 else u.2.2.1) = wk_d u v := by
  unfold wk_d
  by_cases c : u.2.1 = 0
  · rw [if_pos c, if_pos (ou.2.1 c)]
  · rw [if_neg c, if_neg]
    intro z
    have := (ou.2.2 c).1
    rw [z, show (0 : Int64).toInt = 0 from rfl] at this
    omega
def wk_L (L : Nat → Nat → Int64) (p q d w : Int64) : Nat → Nat → Int64 := tk_u2 (tk_u2 (tk_u2 (tk_u2 L 458 2 d) 458 0 p) 458 1 q) 458 3 w
theorem wk_Y (w : Int32) {r1 r2 : Nat} {u v : s_nm} {m : tk_m} (l1 : tk_al r1 = 4) (l2 : tk_al r2 = 4) (n1 : r1 ≠ 458) (n2 : r2 ≠ 458) (hu : m.2.1 r1 0 = u.1 ∧ m.2.1 r1 1 = u.2.1 ∧ m.2.1 r1 2 = u.2.2.1 ∧ m.2.1 r1 3 = u.2.2.2) (hv : m.2.1 r2 0 = v.1 ∧ m.2.1 r2 1 = v.2.1 ∧ m.2.1 r2 2 = v.2.2.1 ∧ m.2.1 r2 3 = v.2.2.2) (ou : s_nmOk u) (hw : w = 0 ∨ w = 1 ∨ w = 2 ∨ w = 3) : fM_works r1 r2 w (ov_Y m m.2.1 false) = some (ov_Y m (wk_L m.2.1 (wk w u v (wk_d u v)).1 (wk w u v (wk_d u v)).2.1 (wk_d u v) (wk w u v (wk_d u v)).2.2.1) (wk w u v (wk_d u v)).2.2.2) := by
  obtain ⟨u0, u1, u2, u3⟩ := hu
  obtain ⟨v0, v1, v2, v3⟩ := hv
  obtain ⟨k0, k1, k2, k3⟩ := wk_ok0
  have t0 : tk_n (0 : Int32) = 0 := rfl
  have t1 : tk_n (1 : Int32) = 1 := rfl
  have t2 : tk_n (2 : Int32) = 2 := rfl
  have t3 : tk_n (3 : Int32) = 3 := rfl
  have z1 : ∀ (L : Nat → Nat → Int64) (k : Nat) (x : Int64), tk_u2 L 458 k x r1 = L r1 := fun L k x => tk_u2_ne n1
  have z2 : ∀ (L : Nat → Nat → Int64) (k : Nat) (x : Int64), tk_u2 L 458 k x r2 = L r2 := fun L k x => tk_u2_ne n2
  have key : fM_works_17 r1 r2 w (wk_d u v) (ov_Y m m.2.1 false) = some (ov_Y m (wk_L m.2.1 (wk w u v (wk_d u v)).1 (wk w u v (wk_d u v)).2.1 (wk_d u v) (wk w u v (wk_d u v)).2.2.1) (wk w u v (wk_d u v)).2.2.2) := by
    generalize wk_d u v = d
    unfold fM_works_17 fM_works_108 fM_works_137 wk wk_L
    simp only [l1, l2, if_pos k0, if_pos k1, if_pos k2, if_pos k3, t0, t1, t2, t3, z1, z2, ov_Yl, ov_Y1, ov_Yt, ov_Yp, ov_Ym, Option.bind_some, tk_let, Bool.false_or, u0, u1, u2, u3, v0, v1, v2, v3]
    rcases hw with rfl | rfl | rfl | rfl
    · rw [if_neg (by decide), if_pos rfl, if_pos rfl, if_pos rfl]
      refine congrArg some (congrArg (ov_Y m _) ?_)
      ac_rfl
    · rw [if_neg (by decide), if_neg (by decide), if_neg (by decide), if_neg (by decide), if_pos rfl]
      refine congrArg some (congrArg (ov_Y m _) ?_)
      ac_rfl
    · rw [if_pos (by decide), if_pos rfl, if_neg (by decide), if_neg (by decide), if_pos rfl]
    · rw [if_pos (by decide), if_neg (by decide), if_neg (by decide), if_neg (by decide), if_neg (by decide)]
  unfold fM_works
  rw [l1, l2, if_pos k1, if_pos k2, if_pos k2, t1, t2, ov_Y1, u1, u2, v2]
  rw [← wk_dq (v := v) ou] at key
  by_cases c : u.2.1 = 0
  · rw [if_pos c]; rw [if_pos c] at key; rw [← wk_dq (v := v) ou, if_pos c]; exact key
  · rw [if_neg c]; rw [if_neg c] at key; rw [← wk_dq (v := v) ou, if_neg c]; exact key
