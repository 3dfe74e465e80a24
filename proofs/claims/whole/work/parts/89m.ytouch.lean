/-! ===== touches: the reference ===== -/
theorem tk_al395 : ∀ k, k < 16 → tk_al (416 + k) = 8 := by decide +kernel
section
variable {a : s_as} {m : tk_m} {L : List Int}
theorem y_adds (h : wd_S m L) (hl : L.length + 4 ≤ 40) {i : Nat} {u : Int} (hi : L[i]? = some u) (x y : Int64) (s : Int32) (hB : (u + x.toInt * y.toInt).natAbs < 10000 ^ 60 ∧ (u - x.toInt * y.toInt).natAbs < 10000 ^ 60) : ∃ m' L', fM_adds (Int32.ofNat i) x y s m = some (Int32.ofNat (L.length + 3), m') ∧ wd_S m' L' ∧ wd_fr m m' ∧ L'.length = L.length + 4 ∧ L'[L.length + 3]? = some (if s = 0 then u + x.toInt * y.toInt else u - x.toInt * y.toInt) := by
  have hil := wd_lt hi
  obtain ⟨m1, e1, e2, e3⟩ := wd_JJ h (by omega) x y
  have g1 : (L ++ [x.toInt, y.toInt, x.toInt * y.toInt])[i]? = some u := by rw [List.getElem?_append_left hil]; exact hi
  have g2 : (L ++ [x.toInt, y.toInt, x.toInt * y.toInt])[L.length + 2]? = some (x.toInt * y.toInt) := by rw [List.getElem?_append_right (by omega), Nat.add_sub_cancel_left]; rfl
  have hlen : (L ++ [x.toInt, y.toInt, x.toInt * y.toInt]).length = L.length + 3 := by rw [List.length_append]; rfl
  unfold fM_adds
  rw [e1, Option.bind_some]
  by_cases c : s = 0
  · rw [if_pos c, if_pos c]
    obtain ⟨m2, f1, f2, f3⟩ := wd_plus e2 (by rw [hlen]; omega) g1 g2 hB.1
    rw [hlen] at f1
    rw [f1, Option.bind_some]
    refine ⟨m2, _, rfl, f2, wd_fr_tr e3 f3, by rw [List.length_append, hlen]; rfl, ?_⟩
    rw [List.getElem?_append_right (by omega), hlen, Nat.sub_self]
    rfl
  · rw [if_neg c, if_neg c]
    obtain ⟨m2, f1, f2, f3⟩ := wd_turned e2 g2
    rw [f1, Option.bind_some]
    have hset : ((L ++ [x.toInt, y.toInt, x.toInt * y.toInt]).set (L.length + 2) (-(x.toInt * y.toInt))).length = L.length + 3 := by rw [List.length_set, hlen]
    have g3 : ((L ++ [x.toInt, y.toInt, x.toInt * y.toInt]).set (L.length + 2) (-(x.toInt * y.toInt)))[i]? = some u := by rw [List.getElem?_set_ne (by omega)]; exact g1
    have g4 : ((L ++ [x.toInt, y.toInt, x.toInt * y.toInt]).set (L.length + 2) (-(x.toInt * y.toInt)))[L.length + 2]? = some (-(x.toInt * y.toInt)) := by rw [List.getElem?_set_self (by omega)]
    obtain ⟨m3, p1, p2, p3⟩ := wd_plus f2 (by rw [hset]; omega) g3 g4 (by rw [← Int.sub_eq_add_neg]; exact hB.2)
    rw [hset] at p1
    rw [p1, Option.bind_some]
    refine ⟨m3, _, rfl, p2, wd_fr_tr e3 (wd_fr_tr f3 p3), by rw [List.length_append, hset]; rfl, ?_⟩
    rw [List.getElem?_append_right (by omega), hset, Nat.sub_self, ← Int.sub_eq_add_neg]
    rfl
theorem y_sgz (h : wd_S m L) {i : Nat} {u : Int} (hi : L[i]? = some u) : m.1 348 i = 0 ↔ u = 0 := by
  rw [(h.2.2 i u hi).2.2, nu_tz]
theorem y_tr {c : an_c} {k : Nat} (hk : k < 16) (hc : an_cok c) (hW : y_W c k m) {i : Int32} {s : s_sh} (ho : s_shOk s) (e : s.1 = false) (hs : fM_of0 i 1 m = some s.2.1 ∧ fM_of0 i 2 m = some s.2.2.1 ∧ fM_of0 i 3 m = some s.2.2.2) (b : Bool) : ∃ B m', fM_touchesRound (416 + k) i (if b = true then -1 else 1) m = some (B, m') ∧ wd_fr m m' ∧ (B = true ↔ an_tr c s b) := by
  have l8 := tk_al395 k hk
  obtain ⟨w1, w2, d0, d1, d2⟩ := an_trb hc ho e b
  obtain ⟨h1, h2, h3, _⟩ := hW
  have ho' := ho
  unfold s_shOk at ho'
  rw [e, if_neg (by decide)] at ho'
  have b3 : an_bd s.2.2.2.toInt 5 := an_in ho'.2.2 (by decide) (by decide)
  have z2 : (((if b = true then (-1 : Int32) else 1) * s.2.2.2)).toInt = an_z s b := i_bz b b3
  have hR : ∀ j, j < 6 → m.2.1 (416 + k) j = c.2.1 j := h1
  have x0 : (m.2.1 (416 + k) (tk_n (0 : Int32)) - Int32.toInt64 s.2.1 * m.2.1 (416 + k) (tk_n (7 : Int32))).toInt = an_dx c 0 s.2.1.toInt := by
    rw [show m.2.1 (416 + k) (tk_n (0 : Int32)) = c.2.1 0 from h1 0 (by decide), show m.2.1 (416 + k) (tk_n (7 : Int32)) = c.2.1 6 from h3, o_32, ← Int64.ofInt_toInt (c.2.1 0), ← Int64.ofInt_toInt (c.2.1 6), o_mul, o_sub]
    exact lo_i (bd_r d0 (by decide))
  have x1 : (m.2.1 (416 + k) (tk_n (1 : Int32)) - Int32.toInt64 s.2.2.1 * m.2.1 (416 + k) (tk_n (7 : Int32))).toInt = an_dx c 1 s.2.2.1.toInt := by
    rw [show m.2.1 (416 + k) (tk_n (1 : Int32)) = c.2.1 1 from h1 1 (by decide), show m.2.1 (416 + k) (tk_n (7 : Int32)) = c.2.1 6 from h3, o_32, ← Int64.ofInt_toInt (c.2.1 1), ← Int64.ofInt_toInt (c.2.1 6), o_mul, o_sub]
    exact lo_i (bd_r d1 (by decide))
  have x2 : (m.2.1 (416 + k) (tk_n (2 : Int32)) - Int32.toInt64 ((if b = true then (-1 : Int32) else 1) * s.2.2.2) * m.2.1 (416 + k) (tk_n (7 : Int32))).toInt = an_dx c 2 (an_z s b) := by
    rw [show m.2.1 (416 + k) (tk_n (2 : Int32)) = c.2.1 2 from h1 2 (by decide), show m.2.1 (416 + k) (tk_n (7 : Int32)) = c.2.1 6 from h3, o_32, z2, ← Int64.ofInt_toInt (c.2.1 2), ← Int64.ofInt_toInt (c.2.1 6), o_mul, o_sub]
    exact lo_i (bd_r d2 (by decide))
  have r3 := hc.2.1 3 (by decide)
  have r4 := hc.2.1 4 (by decide)
  have r5 := hc.2.1 5 (by decide)
  have bd : an_bd c.2.2.toInt 40000000 := by have := hc.2.2.1; unfold an_bd; omega
  unfold fM_touchesRound
  rw [l8, if_pos (by decide), hs.1, Option.bind_some, if_pos (by decide), if_pos (by decide), hs.2.1, Option.bind_some, if_pos (by decide), hs.2.2, Option.bind_some]
  -- names for what is read
  have hR3 : m.2.1 (416 + k) (tk_n (3 : Int32)) = c.2.1 3 := hR 3 (by decide)
  have hR4 : m.2.1 (416 + k) (tk_n (4 : Int32)) = c.2.1 4 := hR 4 (by decide)
  have hR5 : m.2.1 (416 + k) (tk_n (5 : Int32)) = c.2.1 5 := hR 5 (by decide)
  have hR6 : m.2.1 (416 + k) (tk_n (6 : Int32)) = c.2.2 := h2
  generalize m.2.1 (416 + k) (tk_n (0 : Int32)) - Int32.toInt64 s.2.1 * m.2.1 (416 + k) (tk_n (7 : Int32)) = X at *
  generalize m.2.1 (416 + k) (tk_n (1 : Int32)) - Int32.toInt64 s.2.2.1 * m.2.1 (416 + k) (tk_n (7 : Int32)) = Y at *
  generalize m.2.1 (416 + k) (tk_n (2 : Int32)) - Int32.toInt64 ((if b = true then (-1 : Int32) else 1) * s.2.2.2) * m.2.1 (416 + k) (tk_n (7 : Int32)) = Z at *
  unfold an_tr
  generalize an_dx c 0 s.2.1.toInt = dx at *
  generalize an_dx c 1 s.2.2.1.toInt = dy at *
  generalize an_dx c 2 (an_z s b) = dz at *
  generalize hq3 : (c.2.1 3).toInt = q3 at *
  generalize hq4 : (c.2.1 4).toInt = q4 at *
  generalize hq5 : (c.2.1 5).toInt = q5 at *
  generalize hqd : c.2.2.toInt = qd at *
  have b33 : an_bd (q3 * q3) 90000000000000000 := bd_mul r3 r3 (by decide)
  have b44 : an_bd (q4 * q4) 90000000000000000 := bd_mul r4 r4 (by decide)
  have b55 : an_bd (q5 * q5) 90000000000000000 := bd_mul r5 r5 (by decide)
  have bxx : an_bd (dx * dx) 3240000000000000000 := bd_mul d0 d0 (by decide)
  have byy : an_bd (dy * dy) 3240000000000000000 := bd_mul d1 d1 (by decide)
  have bzz : an_bd (dz * dz) 3240000000000000000 := bd_mul d2 d2 (by decide)
  have bx3 : an_bd (dx * q3) 540000000000000000 := bd_mul d0 r3 (by decide)
  have by4 : an_bd (dy * q4) 540000000000000000 := bd_mul d1 r4 (by decide)
  have bz5 : an_bd (dz * q5) 540000000000000000 := bd_mul d2 r5 (by decide)
  have lt : ∀ {x : Int} {n : Nat}, an_bd x n → n < 10000 ^ 60 → x.natAbs < 10000 ^ 60 := fun hx hn => Nat.lt_of_le_of_lt hx hn
  have pm : ∀ {u v : Int} {p q : Nat}, an_bd u p → an_bd v q → p + q < 10000 ^ 60 → (u + v).natAbs < 10000 ^ 60 ∧ (u - v).natAbs < 10000 ^ 60 := fun hu hv hn => ⟨lt (bd_add hu hv (Nat.le_refl _)) hn, lt (bd_sub hu hv (Nat.le_refl _)) hn⟩
  have b0 : an_bd (0 : Int) 0 := by unfold an_bd; decide
  -- the squares under the root
  obtain ⟨M0, s1, s2, s3⟩ := wd_widens (wd_nil m) (by decide) 0
  have t0 := wd_fr_tr (wd_nil_fr m) s3
  rw [s1, Option.bind_some, if_pos (by decide)]
  dsimp only
  rw [show M0.2.1 = m.2.1 by rw [t0.1], hR3]
  have i0 : ([] ++ [(0 : Int64).toInt])[0]? = some 0 := rfl
  obtain ⟨M1, L1, a1, a2, a3, a4, a5⟩ := y_adds s2 (by decide) (i := 0) i0 (c.2.1 3) (c.2.1 3) 0 (by rw [hq3]; exact pm b0 b33 (by decide))
  have t1 := wd_fr_tr t0 a3
  rw [show fM_adds (Int32.ofNat ([] : List Int).length) (c.2.1 3) (c.2.1 3) 0 M0 = _ from a1, Option.bind_some, if_pos (by decide)]
  dsimp only
  rw [if_pos rfl, hq3] at a5
  rw [show M1.2.1 = m.2.1 by rw [t1.1], hR4]
  have c1 : an_bd (0 + q3 * q3) 90000000000000000 := bd_add b0 b33 (by decide)
  obtain ⟨M2, ll2, b1, b2, b3', b4, b5⟩ := y_adds a2 (by rw [a4]; decide) a5 (c.2.1 4) (c.2.1 4) 0 (by rw [hq4]; exact pm c1 b44 (by decide))
  have t2 := wd_fr_tr t1 b3'
  rw [b1, Option.bind_some, if_pos (by decide)]
  dsimp only
  rw [if_pos rfl, hq4] at b5
  rw [show M2.2.1 = m.2.1 by rw [t2.1], hR5]
  have c2 : an_bd (0 + q3 * q3 + q4 * q4) 180000000000000000 := bd_add c1 b44 (by decide)
  obtain ⟨M3, ll3, p1, p2, p3, p4, p5⟩ := y_adds b2 (by rw [b4, a4]; decide) b5 (c.2.1 5) (c.2.1 5) 1 (by rw [hq5]; exact pm c2 b55 (by decide))
  have t3 := wd_fr_tr t2 p3
  rw [p1, Option.bind_some, if_pos (by decide)]
  dsimp only
  rw [if_neg (by decide), hq5] at p5
  rw [show M3.2.1 = m.2.1 by rw [t3.1], hR6]
  have c3 : an_bd (0 + q3 * q3 + q4 * q4 - q5 * q5) 270000000000000000 := bd_sub c2 b55 (by decide)
  have n3 : ll3.length = 13 := by rw [p4, b4, a4]; rfl
  obtain ⟨M4, e1, e2, e3⟩ := wd_widens p2 (by rw [n3]; decide) c.2.2
  have t4 := wd_fr_tr t3 e3
  rw [e1, Option.bind_some]
  dsimp only
  have j12 : ll2.length + 3 = 12 := by rw [b4, a4]; rfl
  rw [j12] at p5 ⊢
  rw [n3]
  have g12 : (ll3 ++ [c.2.2.toInt])[12]? = some (0 + q3 * q3 + q4 * q4 - q5 * q5) := by rw [List.getElem?_append_left (by omega)]; exact p5
  have g13 : (ll3 ++ [c.2.2.toInt])[13]? = some qd := by rw [List.getElem?_append_right (by omega), n3, hqd]; rfl
  have n4 : (ll3 ++ [c.2.2.toInt]).length = 14 := by rw [List.length_append, n3]; rfl
  have c4 : an_bd ((0 + q3 * q3 + q4 * q4 - q5 * q5) * qd) 100000000000000000000000000 := bd_mul c3 bd (by decide)
  obtain ⟨M5, f1, f2, f3⟩ := wd_times e2 (by rw [n4]; decide) g12 g13 (lt c4 (by decide))
  have t5 := wd_fr_tr t4 f3
  rw [n4] at f1
  rw [f1, Option.bind_some]
  dsimp only
  have g14 : (ll3 ++ [c.2.2.toInt] ++ [(0 + q3 * q3 + q4 * q4 - q5 * q5) * qd])[14]? = some ((0 + q3 * q3 + q4 * q4 - q5 * q5) * qd) := by rw [List.getElem?_append_right (by omega), n4]; rfl
  have n5 : (ll3 ++ [c.2.2.toInt] ++ [(0 + q3 * q3 + q4 * q4 - q5 * q5) * qd]).length = 15 := by rw [List.length_append, n4]; rfl
  obtain ⟨M6, L6, u1, u2, u3, u4, u5⟩ := y_adds f2 (by rw [n5]; decide) g14 X X 0 (by rw [x0]; exact pm c4 bxx (by decide))
  have t6 := wd_fr_tr t5 u3
  rw [u1, Option.bind_some]
  dsimp only
  rw [if_pos rfl, x0] at u5
  have c6 : an_bd ((0 + q3 * q3 + q4 * q4 - q5 * q5) * qd + dx * dx) 200000000000000000000000000 := bd_add c4 bxx (by decide)
  obtain ⟨M7, ll7, v1, v2, v3, v4, v5⟩ := y_adds u2 (by rw [u4, n5]; decide) u5 Y Y 0 (by rw [x1]; exact pm c6 byy (by decide))
  have t7 := wd_fr_tr t6 v3
  rw [v1, Option.bind_some]
  dsimp only
  rw [if_pos rfl, x1] at v5
  have c7 : an_bd ((0 + q3 * q3 + q4 * q4 - q5 * q5) * qd + dx * dx + dy * dy) 300000000000000000000000000 := bd_add c6 byy (by decide)
  obtain ⟨M8, L8, y1, y2, y3, y4, y5⟩ := y_adds v2 (by rw [v4, u4, n5]; decide) v5 Z Z 1 (by rw [x2]; exact pm c7 bzz (by decide))
  have t8 := wd_fr_tr t7 y3
  rw [y1, Option.bind_some]
  dsimp only
  rw [if_neg (by decide), x2] at y5
  have j26 : ll7.length + 3 = 26 := by rw [v4, u4, n5]
  rw [j26] at y5 ⊢
  rw [if_pos (by decide), show tk_n (Int32.ofNat 26) = 26 from rfl]
  have hz := y_sgz y2 y5
  have ev : (0 + q3 * q3 + q4 * q4 - q5 * q5) * qd + dx * dx + dy * dy - dz * dz = dx * dx + dy * dy - dz * dz + qd * (q3 * q3 + q4 * q4 - q5 * q5) := by grind
  rw [ev] at hz
  by_cases k1 : dx * dx + dy * dy - dz * dz + qd * (q3 * q3 + q4 * q4 - q5 * q5) = 0
  · rw [if_pos (hz.mpr k1)]
    -- what stands with the root
    obtain ⟨N0, o1, o2, o3⟩ := wd_widens (wd_nil M8) (by decide) 0
    have t9 := wd_fr_tr t8 (wd_fr_tr (wd_nil_fr M8) o3)
    rw [o1, Option.bind_some]
    dsimp only
    rw [show N0.2.1 = m.2.1 by rw [t9.1], hR3]
    obtain ⟨N1, K1, A1, A2, A3, A4, A5⟩ := y_adds o2 (by decide) (i := 0) i0 X (c.2.1 3) 0 (by rw [hq3, x0]; exact pm b0 bx3 (by decide))
    have t10 := wd_fr_tr t9 A3
    rw [show fM_adds (Int32.ofNat ([] : List Int).length) X (c.2.1 3) 0 N0 = _ from A1, Option.bind_some]
    dsimp only
    rw [if_pos rfl, hq3, x0] at A5
    rw [show N1.2.1 = m.2.1 by rw [t10.1], hR4]
    have C1 : an_bd (0 + dx * q3) 540000000000000000 := bd_add b0 bx3 (by decide)
    obtain ⟨N2, kk2, B1, B2, B3, B4, B5⟩ := y_adds A2 (by rw [A4]; decide) A5 Y (c.2.1 4) 0 (by rw [hq4, x1]; exact pm C1 by4 (by decide))
    have t11 := wd_fr_tr t10 B3
    rw [B1, Option.bind_some]
    dsimp only
    rw [if_pos rfl, hq4, x1] at B5
    rw [show N2.2.1 = m.2.1 by rw [t11.1], hR5]
    have C2 : an_bd (0 + dx * q3 + dy * q4) 1080000000000000000 := bd_add C1 by4 (by decide)
    obtain ⟨N3, K3, D1, D2, D3, D4, D5⟩ := y_adds B2 (by rw [B4, A4]; decide) B5 Z (c.2.1 5) 1 (by rw [hq5, x2]; exact pm C2 bz5 (by decide))
    have t12 := wd_fr_tr t11 D3
    rw [D1, Option.bind_some]
    dsimp only
    rw [if_neg (by decide), hq5, x2] at D5
    have j12' : kk2.length + 3 = 12 := by rw [B4, A4]; rfl
    rw [j12'] at D5 ⊢
    rw [show N3.2.1 = m.2.1 by rw [t12.1], hR6, if_pos (show tk_ok (Int32.ofNat 12) 40 by decide), show tk_n (Int32.ofNat 12) = 12 from rfl]
    have hz2 := y_sgz D2 D5
    have ev2 : 0 + dx * q3 + dy * q4 - dz * q5 = dx * q3 + dy * q4 - dz * q5 := by omega
    rw [ev2] at hz2
    by_cases k2 : c.2.2 = 0
    · rw [if_pos k2]
      refine ⟨true, N3, rfl, t12, fun _ => ⟨k1, ?_⟩, fun _ => rfl⟩
      have qd0 : qd = 0 := by rw [← hqd, k2]; rfl
      have zz : ∀ j, j < 3 → (c.2.1 (3 + j)).toInt = 0 := fun j hj => by
        by_cases q : (c.2.1 (3 + j)).toInt = 0
        · exact q
        · have := (hc.2.2.2.2 j hj q).1
          omega
      have y3' := zz 0 (by decide)
      have y4' := zz 1 (by decide)
      have y5' := zz 2 (by decide)
      rw [← hq3, ← hq4, ← hq5, show (c.2.1 3).toInt = 0 from y3', show (c.2.1 4).toInt = 0 from y4', show (c.2.1 5).toInt = 0 from y5', Int.mul_zero, Int.mul_zero, Int.mul_zero]
      rfl
    · rw [if_neg k2]
      by_cases k3 : dx * q3 + dy * q4 - dz * q5 = 0
      · rw [if_pos (hz2.mpr k3)]
        exact ⟨true, N3, rfl, t12, fun _ => ⟨k1, k3⟩, fun _ => rfl⟩
      · rw [if_neg (fun q => k3 (hz2.mp q))]
        exact ⟨false, N3, rfl, t12, fun q => Bool.noConfusion q, fun q => absurd q.2 k3⟩
  · rw [if_neg (fun q => k1 (hz.mp q))]
    exact ⟨false, M8, rfl, t8, fun q => Bool.noConfusion q, fun q => absurd q.1 k1⟩
end
