/-! ===== the reference weighs numbers ===== -/
theorem nu_t1 {x : Int} (h : x = 1 ∨ x = 0 ∨ x = -1) : (Int32.ofInt x).toInt = x := by rcases h with h | h | h <;> rw [h] <;> rfl
theorem nu_s1_cs (a b d : Int) : nu_s1 a b d = 1 ∨ nu_s1 a b d = 0 ∨ nu_s1 a b d = -1 := by
  unfold nu_s1
  split
  · exact nu_sg_cs a
  split
  · exact nu_sg_cs a
  split
  · exact nu_sg_cs b
  split
  · exact .inr (.inl rfl)
  split
  · exact nu_sg_cs a
  · exact nu_sg_cs b
theorem wd_b2 {x y : Int} {A B : Nat} (hx : x.natAbs ≤ A) (hy : y.natAbs ≤ B) : (x * y).natAbs ≤ A * B := by rw [Int.natAbs_mul]; exact Nat.mul_le_mul hx hy
theorem wd_ba {x y : Int} {A B : Nat} (hx : x.natAbs ≤ A) (hy : y.natAbs ≤ B) : (x + y).natAbs ≤ A + B := by omega
theorem wd_b6 (x : Int64) : x.toInt.natAbs ≤ 2 ^ 63 := by have := lo_rng x; omega
section
variable {m : tk_m} {L : List Int}
theorem wd_JJ (h : wd_S m L) (hl : L.length + 3 ≤ 40) (a b : Int64) : ∃ m', fM_timesWide_JJ a b m = some (Int32.ofNat (L.length + 2), m') ∧ wd_S m' (L ++ [a.toInt, b.toInt, a.toInt * b.toInt]) ∧ wd_fr m m' := by
  obtain ⟨m1, e1, s1, f1⟩ := wd_widens h (by omega) a
  obtain ⟨m2, e2, s2, f2⟩ := wd_widens s1 (by rw [List.length_append]; simp; omega) b
  have h1 : (L ++ [a.toInt] ++ [b.toInt])[L.length]? = some a.toInt := by simp
  have h2 : (L ++ [a.toInt] ++ [b.toInt])[L.length + 1]? = some b.toInt := by simp
  obtain ⟨m3, e3, s3, f3⟩ := wd_times s2 (by simp; omega) h1 h2 (Nat.lt_of_le_of_lt (wd_b2 (wd_b6 a) (wd_b6 b)) (by decide))
  refine ⟨m3, ?_, ?_, wd_fr_tr (wd_fr_tr f1 f2) f3⟩
  · unfold fM_timesWide_JJ
    rw [e1, Option.bind_some, e2, Option.bind_some]
    dsimp only
    rw [show (L ++ [a.toInt]).length = L.length + 1 by simp, e3, Option.bind_some]
    dsimp only
    rw [show (L ++ [a.toInt] ++ [b.toInt]).length = L.length + 2 by simp]
  · have : L ++ [a.toInt] ++ [b.toInt] ++ [a.toInt * b.toInt] = L ++ [a.toInt, b.toInt, a.toInt * b.toInt] := by simp
    rw [← this]
    exact s3
theorem wd_signOf (h : wd_S m L) (hl : L.length + 4 ≤ 40) {i j : Nat} {a b : Int} (d : Int64) (hi : L[i]? = some a) (hj : L[j]? = some b) (hd : 0 ≤ d.toInt) (hA : (a * a).natAbs < 10000 ^ 60) (hB : (b * b).natAbs < 10000 ^ 60) (hB2 : (b * b * d.toInt).natAbs < 10000 ^ 60) : ∃ m' X, fM_signOf (Int32.ofNat i) (Int32.ofNat j) d m = some (Int32.ofInt (nu_s1 a b d.toInt), m') ∧ wd_S m' (L ++ X) ∧ wd_fr m m' := by
  have hil := wd_lt hi
  have hjl := wd_lt hj
  obtain ⟨a1, a2, a3⟩ := h.2.2 i a hi
  obtain ⟨b1, b2, b3⟩ := h.2.2 j b hj
  have g1 : tk_ok (Int32.ofNat i) 40 := i_ok (by omega) (by omega)
  have g2 : tk_ok (Int32.ofNat j) 40 := i_ok (by omega) (by omega)
  have n1 := i_nn (show i < 2147483648 by omega)
  have n2 := i_nn (show j < 2147483648 by omega)
  unfold fM_signOf nu_s1
  rw [if_pos g2, if_pos g1, if_pos g1, n1, n2, a3, b3]
  by_cases hb0 : b = 0
  · rw [if_pos (nu_tz.mpr hb0), if_pos hb0]
    exact ⟨m, [], rfl, by simpa using h, wd_fr_rf m⟩
  rw [if_neg (fun q => hb0 (nu_tz.mp q)), if_neg hb0]
  by_cases hs : nu_sg a = nu_sg b
  · rw [if_pos (nu_tq.mpr hs), if_pos hs]
    exact ⟨m, [], rfl, by simpa using h, wd_fr_rf m⟩
  rw [if_neg (fun q => hs (nu_tq.mp q)), if_neg hs]
  by_cases ha0 : a = 0
  · rw [if_pos (nu_tz.mpr ha0), if_pos ha0]
    exact ⟨m, [], rfl, by simpa using h, wd_fr_rf m⟩
  rw [if_neg (fun q => ha0 (nu_tz.mp q)), if_neg ha0]
  obtain ⟨m1, e1, s1, f1⟩ := wd_times h (by omega) hi hi hA
  have hj1 : (L ++ [a * a])[j]? = some b := by rw [List.getElem?_append_left hjl]; exact hj
  obtain ⟨m2, e2, s2, f2⟩ := wd_times s1 (by simp; omega) hj1 hj1 hB
  obtain ⟨m3, e3, s3, f3⟩ := wd_widens s2 (by simp; omega) d
  have k1 : (L ++ [a * a] ++ [b * b] ++ [d.toInt])[L.length + 1]? = some (b * b) := by simp
  have k2 : (L ++ [a * a] ++ [b * b] ++ [d.toInt])[L.length + 2]? = some d.toInt := by simp
  obtain ⟨m4, e4, s4, f4⟩ := wd_times s3 (by simp; omega) k1 k2 hB2
  have k3 : (L ++ [a * a] ++ [b * b] ++ [d.toInt] ++ [b * b * d.toInt])[L.length]? = some (a * a) := by simp
  have k4 : (L ++ [a * a] ++ [b * b] ++ [d.toInt] ++ [b * b * d.toInt])[L.length + 3]? = some (b * b * d.toInt) := by simp
  have e5 := wd_cmp s4 k3 k4
  have ki : (L ++ [a * a] ++ [b * b] ++ [d.toInt] ++ [b * b * d.toInt])[i]? = some a := by
    rw [List.append_assoc, List.append_assoc, List.append_assoc, List.getElem?_append_left hil]; exact hi
  have kj : (L ++ [a * a] ++ [b * b] ++ [d.toInt] ++ [b * b * d.toInt])[j]? = some b := by
    rw [List.append_assoc, List.append_assoc, List.append_assoc, List.getElem?_append_left hjl]; exact hj
  have ra := (s4.2.2 i a ki).2.2
  have rb := (s4.2.2 j b kj).2.2
  rw [e1, Option.bind_some]
  dsimp only
  rw [e2, Option.bind_some]
  dsimp only
  rw [e3, Option.bind_some]
  dsimp only
  rw [show (L ++ [a * a]).length = L.length + 1 by simp, show (L ++ [a * a] ++ [b * b]).length = L.length + 2 by simp, e4, Option.bind_some]
  dsimp only
  rw [show (L ++ [a * a] ++ [b * b] ++ [d.toInt]).length = L.length + 3 by simp, e5, Option.bind_some, ra, rb]
  have q1 : ((a * a).natAbs : Int) = a * a := by
    have : 0 ≤ a * a := by rcases Int.le_total 0 a with q | q; exact Int.mul_nonneg q q; exact Int.mul_nonneg_of_nonpos_of_nonpos q q
    omega
  have q2 : ((b * b * d.toInt).natAbs : Int) = b * b * d.toInt := by
    have h1 : 0 ≤ b * b := by rcases Int.le_total 0 b with q | q; exact Int.mul_nonneg q q; exact Int.mul_nonneg_of_nonpos_of_nonpos q q
    have := Int.mul_nonneg h1 hd
    omega
  rw [q1, q2]
  have hfr := wd_fr_tr (wd_fr_tr (wd_fr_tr f1 f2) f3) f4
  have hS : wd_S m4 (L ++ [a * a, b * b, d.toInt, b * b * d.toInt]) := by
    have : L ++ [a * a] ++ [b * b] ++ [d.toInt] ++ [b * b * d.toInt] = L ++ [a * a, b * b, d.toInt, b * b * d.toInt] := by simp
    rw [← this]
    exact s4
  by_cases hz : a * a = b * b * d.toInt
  · rw [if_pos (nu_tz.mpr (by omega)), if_pos hz]
    exact ⟨m4, _, rfl, hS, hfr⟩
  rw [if_neg (fun q => hz (by have := nu_tz.mp q; omega)), if_neg hz]
  by_cases hg : b * b * d.toInt < a * a
  · rw [if_neg (fun q => by have := nu_tle.mp q; omega), if_pos hg]
    exact ⟨m4, _, rfl, hS, hfr⟩
  · rw [if_pos (nu_tle.mpr (by omega)), if_neg hg]
    exact ⟨m4, _, rfl, hS, hfr⟩
end
theorem wd_S_ext {m : tk_m} {L X : List Int} {i : Nat} {v : Int} (h : wd_S m (L ++ X)) (hi : L[i]? = some v) : m.1 348 i = nu_t v := by
  refine (h.2.2 i v ?_).2.2
  rw [List.getElem?_append_left (wd_lt hi)]
  exact hi
set_option maxHeartbeats 4000000 in
theorem y_218 {r1 r2 : Nat} (hr1 : tk_al r1 = 4) (hr2 : tk_al r2 = 4) {m : tk_m} {L : List Int} (h : wd_S m L) (hL : L.length = 19) {a b c F S R : Int} {d e : Int64} (k3 : m.2.1 r1 2 = d) (k7 : m.2.1 r2 2 = e) (h6 : L[6]? = some a) (h9 : L[9]? = some b) (h12 : L[12]? = some c) (h15 : L[15]? = some F) (h18 : L[18]? = some S) (hR : R = 1 ∨ R = 0 ∨ R = -1) (hd : 0 ≤ d.toInt ∧ d.toInt ≤ 100000000) (he : 0 ≤ e.toInt ∧ e.toInt ≤ 100000000) (ba : a.natAbs ≤ 2 ^ 127) (bb : b.natAbs ≤ 2 ^ 126) (bc : c.natAbs ≤ 2 ^ 126) (bF : F.natAbs ≤ 2 ^ 279) (bS : S.natAbs ≤ 2 ^ 279) : ∃ m', fM_compares_218 r1 r2 (Int32.ofNat 6) (Int32.ofNat 9) (Int32.ofNat 12) (Int32.ofNat 15) (Int32.ofNat 18) (Int32.ofInt R) m = some (Int32.ofInt (if a = 0 ∨ nu_sg a = R then R else if 0 < nu_s1 (a * a - (F + S)) (-(b * c * 2)) (d.toInt * e.toInt) then nu_sg a else R), m') ∧ wd_fr m m' := by
  have ra := (h.2.2 6 a h6).2.2
  unfold fM_compares_218
  simp only [if_pos (show tk_ok (Int32.ofNat 6) 40 by decide), show tk_n (Int32.ofNat 6) = 6 from rfl, ra]
  by_cases ha : a = 0
  · rw [if_pos (nu_tz.mpr ha), if_pos (.inl ha)]
    exact ⟨m, rfl, wd_fr_rf m⟩
  rw [if_neg (fun q => ha (nu_tz.mp q))]
  have hRi : (nu_t a = Int32.ofInt R) ↔ nu_sg a = R := by rw [← Int32.toInt_inj, nu_ti, nu_t1 hR]
  by_cases hs : nu_sg a = R
  · rw [if_pos (hRi.mpr hs), if_pos (.inr hs)]
    exact ⟨m, rfl, wd_fr_rf m⟩
  rw [if_neg (fun q => hs (hRi.mp q)), if_neg (fun q => q.elim ha hs)]
  have baa : (a * a).natAbs ≤ 2 ^ 127 * 2 ^ 127 := wd_b2 ba ba
  have bFS : (F + S).natAbs ≤ 2 ^ 279 + 2 ^ 279 := wd_ba bF bS
  have bof : (a * a + -(F + S)).natAbs ≤ 2 ^ 127 * 2 ^ 127 + (2 ^ 279 + 2 ^ 279) := wd_ba baa (by rw [Int.natAbs_neg]; exact bFS)
  have bbc : (b * c).natAbs ≤ 2 ^ 126 * 2 ^ 126 := wd_b2 bb bc
  have b2 : (2 : Int64).toInt.natAbs ≤ 2 := by decide
  have bbc2 : (b * c * (2 : Int64).toInt).natAbs ≤ 2 ^ 126 * 2 ^ 126 * 2 := wd_b2 bbc b2
  obtain ⟨x4, e4, s4, f4⟩ := wd_times h (by omega) h6 h6 (Nat.lt_of_le_of_lt baa (by decide))
  have ap : ∀ {i : Nat} {v w : Int}, L[i]? = some v → (L ++ [w])[i]? = some v := fun hi => by rw [List.getElem?_append_left (wd_lt hi)]; exact hi
  obtain ⟨x5, e5, s5, f5⟩ := wd_plus s4 (by simp; omega) (ap h15) (ap h18) (Nat.lt_of_le_of_lt bFS (by decide))
  have i20 : (L ++ [a * a] ++ [F + S])[20]? = some (F + S) := by rw [List.getElem?_append_right (by simp; omega)]; simp [hL]
  obtain ⟨x6, e6, s6, f6⟩ := wd_turned s5 i20
  have hset : (L ++ [a * a] ++ [F + S]).set 20 (-(F + S)) = L ++ [a * a, -(F + S)] := by
    rw [List.append_assoc, List.set_append_right _ _ (by omega)]
    simp [hL]
  rw [hset] at s6
  have i19 : (L ++ [a * a, -(F + S)])[19]? = some (a * a) := by rw [List.getElem?_append_right (by omega)]; simp [hL]
  have i20b : (L ++ [a * a, -(F + S)])[20]? = some (-(F + S)) := by rw [List.getElem?_append_right (by omega)]; simp [hL]
  obtain ⟨x7, e7, s7, f7⟩ := wd_plus s6 (by simp; omega) i19 i20b (Nat.lt_of_le_of_lt bof (by decide))
  have ap3 : ∀ {i : Nat} {v : Int} {X : List Int}, L[i]? = some v → (L ++ X)[i]? = some v := fun hi => by rw [List.getElem?_append_left (wd_lt hi)]; exact hi
  rw [List.append_assoc] at s7
  obtain ⟨x8, e8, s8, f8⟩ := wd_times s7 (by simp; omega) (ap3 h9) (ap3 h12) (Nat.lt_of_le_of_lt bbc (by decide))
  obtain ⟨x9, e9, s9, f9⟩ := wd_widens s8 (by simp; omega) 2
  rw [List.append_assoc, List.append_assoc] at s9
  have i22 : (L ++ ([a * a, -(F + S)] ++ [a * a + -(F + S)] ++ ([b * c] ++ [(2 : Int64).toInt])))[22]? = some (b * c) := by rw [List.getElem?_append_right (by omega)]; simp [hL]
  have i23 : (L ++ ([a * a, -(F + S)] ++ [a * a + -(F + S)] ++ ([b * c] ++ [(2 : Int64).toInt])))[23]? = some (2 : Int64).toInt := by rw [List.getElem?_append_right (by omega)]; simp [hL]
  obtain ⟨x10, e10, s10, f10⟩ := wd_times s9 (by simp; omega) i22 i23 (Nat.lt_of_le_of_lt bbc2 (by decide))
  have i24 : (L ++ ([a * a, -(F + S)] ++ [a * a + -(F + S)] ++ ([b * c] ++ [(2 : Int64).toInt])) ++ [b * c * (2 : Int64).toInt])[24]? = some (b * c * (2 : Int64).toInt) := by rw [List.getElem?_append_right (by simp; omega)]; simp [hL]
  obtain ⟨x11, e11, s11, f11⟩ := wd_turned s10 i24
  have hset2 : (L ++ ([a * a, -(F + S)] ++ [a * a + -(F + S)] ++ ([b * c] ++ [(2 : Int64).toInt])) ++ [b * c * (2 : Int64).toInt]).set 24 (-(b * c * (2 : Int64).toInt)) = L ++ [a * a, -(F + S), a * a + -(F + S), b * c, (2 : Int64).toInt, -(b * c * (2 : Int64).toInt)] := by
    rw [List.append_assoc, List.set_append_right _ _ (by omega)]
    simp [hL]
  rw [hset2] at s11
  have Fr := wd_fr_tr (wd_fr_tr (wd_fr_tr (wd_fr_tr (wd_fr_tr (wd_fr_tr (wd_fr_tr f4 f5) f6) f7) f8) f9) f10) f11
  have E11 : x11.2.1 = m.2.1 := by rw [Fr.1]
  have hde : (d * e).toInt = d.toInt * e.toInt := by
    apply lo_mul
    have h1 : 0 ≤ d.toInt * e.toInt := Int.mul_nonneg hd.1 he.1
    have h2 : d.toInt * e.toInt ≤ 100000000 * 100000000 := Int.mul_le_mul hd.2 he.2 he.1 (by decide)
    constructor <;> omega
  have hde0 : 0 ≤ (d * e).toInt := by rw [hde]; exact Int.mul_nonneg hd.1 he.1
  have bde : (d * e).toInt.natAbs ≤ 100000000 * 100000000 := by
    rw [hde]; exact wd_b2 (by omega) (by omega)
  have i21 : (L ++ [a * a, -(F + S), a * a + -(F + S), b * c, (2 : Int64).toInt, -(b * c * (2 : Int64).toInt)])[21]? = some (a * a + -(F + S)) := by rw [List.getElem?_append_right (by omega)]; simp [hL]
  have i24b : (L ++ [a * a, -(F + S), a * a + -(F + S), b * c, (2 : Int64).toInt, -(b * c * (2 : Int64).toInt)])[24]? = some (-(b * c * (2 : Int64).toInt)) := by rw [List.getElem?_append_right (by omega)]; simp [hL]
  have btw : (-(b * c * (2 : Int64).toInt)).natAbs ≤ 2 ^ 126 * 2 ^ 126 * 2 := by rw [Int.natAbs_neg]; exact bbc2
  obtain ⟨x14, X, e14, s14, f14⟩ := wd_signOf s11 (by simp; omega) (d * e) i21 i24b hde0 (Nat.lt_of_le_of_lt (wd_b2 bof bof) (by decide)) (Nat.lt_of_le_of_lt (wd_b2 btw btw) (by decide)) (Nat.lt_of_le_of_lt (wd_b2 (wd_b2 btw btw) bde) (by decide))
  rw [List.append_assoc] at s14
  have r14 := wd_S_ext s14 h6
  simp only [List.length_append, List.length_cons, List.length_nil, hL, Nat.zero_add, Nat.reduceAdd] at e4 e5 e6 e7 e8 e9 e10 e11
  simp only [e4, e5, e6, e7, e8, e9, e10, e11, Option.bind_some, hr1, hr2, if_pos (show tk_ok (2 : Int32) 4 by decide), show tk_n (2 : Int32) = 2 from rfl, E11, k3, k7, e14, r14]
  have hsub : a * a + -(F + S) = a * a - (F + S) := by omega
  rw [hsub, hde, show (2 : Int64).toInt = 2 from rfl]
  have hcs := nu_s1_cs (a * a - (F + S)) (-(b * c * 2)) (d.toInt * e.toInt)
  have hti := nu_t1 hcs
  by_cases hp : 0 < nu_s1 (a * a - (F + S)) (-(b * c * 2)) (d.toInt * e.toInt)
  · rw [if_neg (by rw [Int32.le_iff_toInt_le, hti, show (0 : Int32).toInt = 0 from rfl]; omega), if_pos hp]
    exact ⟨x14, rfl, wd_fr_tr Fr f14⟩
  · rw [if_pos (by rw [Int32.le_iff_toInt_le, hti, show (0 : Int32).toInt = 0 from rfl]; omega), if_neg hp]
    exact ⟨x14, rfl, wd_fr_tr Fr f14⟩
set_option maxHeartbeats 4000000 in
/-- the sign of one number less another -/
theorem y_compares {r1 r2 : Nat} (hr1 : tk_al r1 = 4) (hr2 : tk_al r2 = 4) (m : tk_m) {p1 q1 d1 m1 p2 q2 d2 m2 : Int64} (k1 : m.2.1 r1 0 = p1) (k2 : m.2.1 r1 1 = q1) (k3 : m.2.1 r1 2 = d1) (k4 : m.2.1 r1 3 = m1) (k5 : m.2.1 r2 0 = p2) (k6 : m.2.1 r2 1 = q2) (k7 : m.2.1 r2 2 = d2) (k8 : m.2.1 r2 3 = m2) (hd1 : 0 ≤ d1.toInt ∧ d1.toInt ≤ 100000000) (hd2 : 0 ≤ d2.toInt ∧ d2.toInt ≤ 100000000) : ∃ m', fM_compares r1 r2 m = some (Int32.ofInt (nu_cmpM (p1.toInt * m2.toInt + -(p2.toInt * m1.toInt)) (q1.toInt * m2.toInt) (-(q2.toInt * m1.toInt)) d1.toInt d2.toInt), m') ∧ wd_fr m m' := by
  have ba : (p1.toInt * m2.toInt + -(p2.toInt * m1.toInt)).natAbs ≤ 2 ^ 63 * 2 ^ 63 + 2 ^ 63 * 2 ^ 63 := wd_ba (wd_b2 (wd_b6 _) (wd_b6 _)) (by rw [Int.natAbs_neg]; exact wd_b2 (wd_b6 _) (wd_b6 _))
  have bb : (q1.toInt * m2.toInt).natAbs ≤ 2 ^ 63 * 2 ^ 63 := wd_b2 (wd_b6 _) (wd_b6 _)
  have bc : (-(q2.toInt * m1.toInt)).natAbs ≤ 2 ^ 63 * 2 ^ 63 := by rw [Int.natAbs_neg]; exact wd_b2 (wd_b6 _) (wd_b6 _)
  have bd : d1.toInt.natAbs ≤ 100000000 := by omega
  have be : d2.toInt.natAbs ≤ 100000000 := by omega
  obtain ⟨x3, e3, s3, f3⟩ := wd_JJ (wd_nil m) (by decide) p1 m2
  obtain ⟨x6, e6, s6, f6⟩ := wd_JJ s3 (by simp) p2 m1
  obtain ⟨x7, e7, s7, f7⟩ := wd_turned s6 (i := 5) rfl
  obtain ⟨x8, e8, s8, f8⟩ := wd_plus s7 (by simp) (i := 2) (j := 5) rfl rfl (Nat.lt_of_le_of_lt ba (by decide))
  obtain ⟨x10, e10, s10, f10⟩ := wd_JJ s8 (by simp) q1 m2
  obtain ⟨x12, e12, s12, f12⟩ := wd_JJ s10 (by simp) q2 m1
  obtain ⟨x13, e13, s13, f13⟩ := wd_turned s12 (i := 12) rfl
  have F13 := wd_fr_tr (wd_fr_tr (wd_fr_tr (wd_fr_tr (wd_fr_tr (wd_fr_tr (wd_fr_tr (wd_nil_fr m) f3) f6) f7) f8) f10) f12) f13
  have E3 : x3.2.1 = m.2.1 := by rw [f3.1]
  have E8 : x8.2.1 = m.2.1 := by rw [f8.1, f7.1, f6.1]; exact E3
  have E10 : x10.2.1 = m.2.1 := by rw [f10.1]; exact E8
  have E13 : x13.2.1 = m.2.1 := by rw [F13.1]
  have rb := (s13.2.2 9 _ rfl).2.2
  have rc := (s13.2.2 12 _ rfl).2.2
  simp only [List.nil_append, List.cons_append, List.length_cons, List.length_nil, Nat.zero_add, Nat.reduceAdd, List.set_cons_succ, List.set_cons_zero] at e3 e6 e7 e8 e10 e12 e13 s13 rb rc
  unfold fM_compares
  simp only [hr1, hr2, if_pos (show tk_ok (0 : Int32) 4 by decide), if_pos (show tk_ok (1 : Int32) 4 by decide), if_pos (show tk_ok (2 : Int32) 4 by decide), if_pos (show tk_ok (3 : Int32) 4 by decide), show tk_n (0 : Int32) = 0 from rfl, show tk_n (1 : Int32) = 1 from rfl, show tk_n (2 : Int32) = 2 from rfl, show tk_n (3 : Int32) = 3 from rfl, k1, k2, k3, k4, k5, k6, k7, k8, e3, E3, e6, e7, e8, E8, e10, E10, e12, e13, E13, Option.bind_some, rb, rc, if_pos (show tk_ok (Int32.ofNat 9) 40 by decide), if_pos (show tk_ok (Int32.ofNat 12) 40 by decide), show tk_n (Int32.ofNat 9) = 9 from rfl, show tk_n (Int32.ofNat 12) = 12 from rfl, nu_tz]
  have hL13 := s13
  generalize p1.toInt * m2.toInt + -(p2.toInt * m1.toInt) = a at *
  generalize -(q2.toInt * m1.toInt) = c at *
  generalize q1.toInt * m2.toInt = b at *
  have ba' : a.natAbs ≤ 2 ^ 127 := Nat.le_trans ba (by decide)
  have bb' : b.natAbs ≤ 2 ^ 126 := Nat.le_trans bb (by decide)
  have bc' : c.natAbs ≤ 2 ^ 126 := Nat.le_trans bc (by decide)
  unfold nu_cmpM
  by_cases hb0 : b = 0
  · rw [if_pos hb0, if_pos hb0]
    obtain ⟨x, X, e, s, f⟩ := wd_signOf s13 (by simp) (i := 6) (j := 12) d2 rfl rfl hd2.1 (Nat.lt_of_le_of_lt (wd_b2 ba ba) (by decide)) (Nat.lt_of_le_of_lt (wd_b2 bc bc) (by decide)) (Nat.lt_of_le_of_lt (wd_b2 (wd_b2 bc bc) be) (by decide))
    rw [e, Option.bind_some]
    exact ⟨x, rfl, wd_fr_tr F13 f⟩
  rw [if_neg hb0, if_neg hb0]
  by_cases hc0 : c = 0
  · rw [if_pos hc0, if_pos hc0]
    obtain ⟨x, X, e, s, f⟩ := wd_signOf s13 (by simp) (i := 6) (j := 9) d1 rfl rfl hd1.1 (Nat.lt_of_le_of_lt (wd_b2 ba ba) (by decide)) (Nat.lt_of_le_of_lt (wd_b2 bb bb) (by decide)) (Nat.lt_of_le_of_lt (wd_b2 (wd_b2 bb bb) bd) (by decide))
    rw [e, Option.bind_some]
    exact ⟨x, rfl, wd_fr_tr F13 f⟩
  rw [if_neg hc0, if_neg hc0]
  by_cases hde : d1 = d2
  · rw [if_pos hde, if_pos (by rw [hde])]
    have bs : (b + c).natAbs ≤ 2 ^ 63 * 2 ^ 63 + 2 ^ 63 * 2 ^ 63 := wd_ba bb bc
    obtain ⟨y, g1, g2, g3⟩ := wd_plus s13 (by simp) (i := 9) (j := 12) rfl rfl (Nat.lt_of_le_of_lt bs (by decide))
    obtain ⟨x, X, e, s, f⟩ := wd_signOf g2 (by simp) (i := 6) (j := 13) d1 rfl rfl hd1.1 (Nat.lt_of_le_of_lt (wd_b2 ba ba) (by decide)) (Nat.lt_of_le_of_lt (wd_b2 bs bs) (by decide)) (Nat.lt_of_le_of_lt (wd_b2 (wd_b2 bs bs) bd) (by decide))
    have Ey : y.2.1 = m.2.1 := by rw [g3.1]; exact E13
    simp only [List.length_cons, List.length_nil, Nat.zero_add, Nat.reduceAdd] at g1
    simp only [g1, Option.bind_some, Ey, k3, e]
    exact ⟨x, rfl, wd_fr_tr (wd_fr_tr F13 g3) f⟩
  rw [if_neg hde, if_neg (fun q => hde (lo_ext q))]
  obtain ⟨y27, e27, s27, f27⟩ := wd_times s13 (by simp) (i := 9) (j := 9) rfl rfl (Nat.lt_of_le_of_lt (wd_b2 bb bb) (by decide))
  obtain ⟨y28, e28, s28, f28⟩ := wd_widens s27 (by simp) d1
  obtain ⟨y29, e29, s29, f29⟩ := wd_times s28 (by simp) (i := 13) (j := 14) rfl rfl (Nat.lt_of_le_of_lt (wd_b2 (wd_b2 bb bb) bd) (by decide))
  obtain ⟨y30, e30, s30, f30⟩ := wd_times s29 (by simp) (i := 12) (j := 12) rfl rfl (Nat.lt_of_le_of_lt (wd_b2 bc bc) (by decide))
  obtain ⟨y31, e31, s31, f31⟩ := wd_widens s30 (by simp) d2
  obtain ⟨y32, e32, s32, f32⟩ := wd_times s31 (by simp) (i := 16) (j := 17) rfl rfl (Nat.lt_of_le_of_lt (wd_b2 (wd_b2 bc bc) be) (by decide))
  have F32 := wd_fr_tr (wd_fr_tr (wd_fr_tr (wd_fr_tr (wd_fr_tr (wd_fr_tr F13 f27) f28) f29) f30) f31) f32
  have E27 : y27.2.1 = m.2.1 := by rw [f27.1]; exact E13
  have E30 : y30.2.1 = m.2.1 := by rw [f30.1, f29.1, f28.1]; exact E27
  have E32 : y32.2.1 = m.2.1 := by rw [F32.1]
  have tb := (s32.2.2 9 _ rfl).2.2
  have tc := (s32.2.2 12 _ rfl).2.2
  have tcm := wd_cmp s32 (i := 15) (j := 18) rfl rfl
  simp only [List.nil_append, List.cons_append, List.length_cons, List.length_nil, Nat.zero_add, Nat.reduceAdd] at e27 e28 e29 e30 e31 e32 tb tc
  simp only [e27, E27, e28, e29, e30, E30, e31, e32, k3, k7, Option.bind_some, tb, tc, tcm, nu_tq]
  have g218 : ∀ R : Int, (R = 1 ∨ R = 0 ∨ R = -1) → ∃ m', fM_compares_218 r1 r2 (Int32.ofNat 6) (Int32.ofNat 9) (Int32.ofNat 12) (Int32.ofNat 15) (Int32.ofNat 18) (Int32.ofInt R) y32 = some (Int32.ofInt (if a = 0 ∨ nu_sg a = R then R else if 0 < nu_s1 (a * a - (b * b * d1.toInt + c * c * d2.toInt)) (-(b * c * 2)) (d1.toInt * d2.toInt) then nu_sg a else R), m') ∧ wd_fr y32 m' := fun R hR => y_218 hr1 hr2 s32 rfl (by rw [E32]; exact k3) (by rw [E32]; exact k7) rfl rfl rfl rfl rfl hR hd1 hd2 ba' bb' bc' (Nat.le_trans (wd_b2 (wd_b2 bb bb) bd) (by decide)) (Nat.le_trans (wd_b2 (wd_b2 bc bc) be) (by decide))
  have nn : ∀ z : Int, 0 ≤ z * z := fun z => by rcases Int.le_total 0 z with q | q; exact Int.mul_nonneg q q; exact Int.mul_nonneg_of_nonpos_of_nonpos q q
  have w1 : ((b * b * d1.toInt).natAbs : Int) = b * b * d1.toInt := by have := Int.mul_nonneg (nn b) hd1.1; omega
  have w2 : ((c * c * d2.toInt).natAbs : Int) = c * c * d2.toInt := by have := Int.mul_nonneg (nn c) hd2.1; omega
  rw [w1, w2]
  by_cases hbc : nu_sg b = nu_sg c
  · have hR : (if nu_sg b = nu_sg c ∨ c * c * d2.toInt < b * b * d1.toInt then nu_sg b else nu_sg c) = nu_sg b := if_pos (.inl hbc)
    rw [if_pos hbc, hR]
    obtain ⟨x, e, f⟩ := g218 (nu_sg b) (nu_sg_cs b)
    exact ⟨x, e, wd_fr_tr F32 f⟩
  · rw [if_neg hbc]
    by_cases hlt : c * c * d2.toInt < b * b * d1.toInt
    · have hR : (if nu_sg b = nu_sg c ∨ c * c * d2.toInt < b * b * d1.toInt then nu_sg b else nu_sg c) = nu_sg b := if_pos (.inr hlt)
      rw [if_neg (fun q => by have := nu_tle.mp q; omega), hR]
      obtain ⟨x, e, f⟩ := g218 (nu_sg b) (nu_sg_cs b)
      exact ⟨x, e, wd_fr_tr F32 f⟩
    · have hR : (if nu_sg b = nu_sg c ∨ c * c * d2.toInt < b * b * d1.toInt then nu_sg b else nu_sg c) = nu_sg c := if_neg (fun q => q.elim hbc hlt)
      rw [if_pos (nu_tle.mpr (by omega)), hR]
      obtain ⟨x, e, f⟩ := g218 (nu_sg c) (nu_sg_cs c)
      exact ⟨x, e, wd_fr_tr F32 f⟩
