/-! ===== numbers in spots ===== -/
theorem s_sfto {d : Int} (h : ∀ k : Int, k * k ∣ d → k * k = 1) : nu_sf d.natAbs := by
  intro k hk
  have h1 : (k : Int) * k ∣ d := by rw [← Int.natCast_mul]; exact Int.ofNat_dvd_left.mpr hk
  have h2 := h k h1
  have h3 : k * k = 1 := by rw [← Int.natCast_mul] at h2; exact Int.ofNat_inj.mp h2
  exact Nat.eq_one_of_mul_eq_one_left h3
theorem s_sfof {d : Int} (h : nu_sf d.natAbs) : ∀ k : Int, k * k ∣ d → k * k = 1 := by
  intro k hk
  have h1 : k.natAbs * k.natAbs ∣ d.natAbs := by rw [← Int.natAbs_mul]; exact Int.natAbs_dvd_natAbs.mpr hk
  have h2 := h _ h1
  rw [← Int.natAbs_mul_self' k, h2]; rfl
theorem s_nmd {n : s_nm} (h : s_nmOk n) : 0 ≤ n.2.2.1.toInt ∧ n.2.2.1.toInt ≤ 100000000 := by
  obtain ⟨h1, h2, h3⟩ := h
  by_cases e : n.2.1 = 0
  · rw [h2 e]; exact ⟨by decide, by decide⟩
  · have := h3 e; omega
section
variable {K : List s_sh → Int32 × Int32 × Int32 → tk_m → Prop} {a : s_as} {m m' : tk_m} {α : Type}
theorem x_putN (HK : x_K K) (ha : s_Ok a) (h : x_X K a m) {f : Nat → Option s_nm} (hr : ∀ r, ¬ (275 ≤ r ∧ r ≤ 286) → ¬ ((16 ≤ r ∧ r ≤ 38) ∨ (40 ≤ r ∧ r ≤ 60)) → tk_row m m' r) (hN : x_N f m') (v : α) : x_does K m (some (v, m')) (v, (a.1, a.2.1, f, a.2.2.2)) := by
  obtain ⟨h1, h2, h3, h4, h5, h6, h7⟩ := h
  refine ⟨m', rfl, ⟨x_F_k h1 (hr 202 (by omega) (by omega)), x_S_k h2 (fun r a b => hr r (by omega) (by omega)), x_P_k ha.2.1 h3 (tk_rowi (hr 0 (by omega) (by omega))) (fun r a b => hr r (by omega) (by omega)), hN, x_T_k h5 (fun r a b => hr r (by omega) (by omega)), x_Z_k h6 (hr 14 (by omega) (by omega)) (hr 15 (by omega) (by omega)), fun hc => ?_⟩, fun r q => hr r (by omega) (by omega)⟩
  rw [(hr 1 (by omega) (by omega)).2.2.1] at hc
  exact HK _ _ _ _ (fun r a b => hr r (by omega) (by omega)) (h7 hc)
theorem y_putN (ha : s_Ok a) (h : y_Y a m) {f : Nat → Option s_nm} (hr : ∀ r, (r < 307 ∨ (442 ≤ r ∧ r < 449)) → (r = 295 → m'.1 295 2 = m.1 295 2) ∧ (r ≠ 295 → tk_row m m' r)) (hN : y_N f m') (v : α) : y_does m (some (v, m')) (v, (a.1, a.2.1, f, a.2.2.2)) := by
  obtain ⟨h1, h2, h3, h4, h5⟩ := h
  exact ⟨m', rfl, ⟨y_F_k h1 ((hr 306 (by omega)).2 (by omega)), y_S_k h2 ((hr 296 (by omega)).2 (by omega)), y_P_k ha.2.1 h3 ((hr 295 (by omega)).1 rfl) (fun r a b => (hr r (by omega)).2 (by omega)), hN, y_T_k h5 (fun r a b => (hr r (by omega)).2 (by omega))⟩, fun r q => (hr r (by omega)).2 (by omega)⟩
def s_setN (f : Nat → Option s_nm) (i : Nat) (v : Option s_nm) : Nat → Option s_nm := fun j => if j = i then v else f j
theorem s_setN_ok (ha : s_Ok a) {i : Nat} {v : Option s_nm} (h : ∀ n, v = some n → s_nmOk n) : s_Ok (a.1, a.2.1, s_setN a.2.2.1 i v, a.2.2.2) := by
  refine ⟨ha.1, ha.2.1, ha.2.2.1, fun j n hn => ?_, ha.2.2.2.2⟩
  have hn' : s_setN a.2.2.1 i v j = some n := hn
  unfold s_setN at hn'
  split at hn'
  · exact h n hn'
  · exact ha.2.2.2.1 j n hn'
theorem x_N_set {f : Nat → Option s_nm} {i : Nat} {v : Option s_nm} (h : x_N f m) (hi : i < 6) (hr : ∀ r, 275 ≤ r → r < 287 → r ≠ 275 + 2 * i → r ≠ 275 + 2 * i + 1 → tk_row m m' r) (e1 : m'.2.2.1 (275 + 2 * i) 0 = v.isSome) (e2 : ∀ n, v = some n → x_num n (275 + 2 * i) m') : x_N (s_setN f i v) m' := by
  intro j hj
  unfold s_setN
  by_cases e : j = i
  · subst e
    simp only [if_pos]
    exact ⟨e1, e2⟩
  · simp only [if_neg e]
    obtain ⟨q1, q2⟩ := h j hj
    have r0 := hr (275 + 2 * j) (by omega) (by omega) (by omega) (by omega)
    have r1 := hr (275 + 2 * j + 1) (by omega) (by omega) (by omega) (by omega)
    exact ⟨by rw [r0.2.2.1]; exact q1, fun n hn => x_num_k (q2 n hn) r0 r1⟩
theorem y_N_set {f : Nat → Option s_nm} {i : Nat} {v : Option s_nm} (h : y_N f m) (hi : i < 6) (r1 : ∀ j, j ≠ i → m'.2.2.1 450 j = m.2.2.1 450 j) (r2 : ∀ j, j < 6 → j ≠ i → m'.2.1 (452 + j) = m.2.1 (452 + j)) (e1 : m'.2.2.1 450 i = v.isSome) (e2 : ∀ n, v = some n → m'.2.1 (452 + i) 0 = n.1 ∧ m'.2.1 (452 + i) 1 = n.2.1 ∧ m'.2.1 (452 + i) 2 = n.2.2.1 ∧ m'.2.1 (452 + i) 3 = n.2.2.2) : y_N (s_setN f i v) m' := by
  intro j hj
  unfold s_setN
  by_cases e : j = i
  · subst e
    simp only [if_pos]
    exact ⟨e1, e2⟩
  · simp only [if_neg e]
    obtain ⟨q1, q2⟩ := h j hj
    rw [r1 j e, r2 j hj e]
    exact ⟨q1, q2⟩
theorem s_spotI {s : Int32} (h : fX_isSpot s = true) : ∃ k, k < 6 ∧ s = Int32.ofNat k := by
  have hw : fX_isWithin s 0 5 = true := h
  have hw := w_i hw
  have t0 : (0 : Int32).toInt = 0 := rfl
  have t5 : (5 : Int32).toInt = 5 := rfl
  refine ⟨s.toInt.toNat, by omega, ?_⟩
  apply i_ext
  rw [i_to (by omega)]
  omega
theorem y_isSpot (s : Int32) : fM_isSpot s = fX_isSpot s := w_eq (v := s) (a := 0) (b := 5)
/-! clear -/
def o_clear (s : Int32) (a : s_as) : Int32 × s_as := if fX_isSpot s = true then ((if (a.2.2.1 (tk_n s)).isSome = true then 1 else 0), (a.1, a.2.1, s_setN a.2.2.1 (tk_n s) none, a.2.2.2)) else s_fd a 0
theorem x_clear (HK : x_K K) (ha : s_Ok a) (h : x_X K a m) (s : Int32) : x_does K m (fX_clear s m) (o_clear s a) := by
  unfold fX_clear o_clear
  refine x_ite Iff.rfl (fun g1 => ?_) (fun _ => x_bt (x_find HK ha h 0 (by decide)))
  obtain ⟨k, hk, rfl⟩ := s_spotI g1
  refine x_grd (i_ok hk (by omega)) ?_
  rw [i_nn (by omega), (h.2.2.2.1 k hk).1]
  have go : ∀ v : Int32, x_does K m (some (v, (m.1, m.2.1, tk_u2 m.2.2.1 (275 + 2 * k) 0 false, m.2.2.2))) (v, (a.1, a.2.1, s_setN a.2.2.1 k none, a.2.2.2)) := by
    intro v
    refine x_putN HK ha h ?_ ?_ v
    · intro r q _
      exact ⟨rfl, rfl, by dsimp only; rw [tk_u2_ne (by omega)], rfl⟩
    · refine x_N_set h.2.2.2.1 hk ?_ (by dsimp only; rw [tk_u2_eq]; rfl) (fun n hn => by cases hn)
      intro r _ _ q1 q2
      exact ⟨rfl, rfl, by dsimp only; rw [tk_u2_ne q1], rfl⟩
  by_cases e : (a.2.2.1 k).isSome = true
  · rw [if_pos e, if_pos e]; exact go 1
  · rw [if_neg e, if_neg e]; exact go 0
theorem y_clear (ha : s_Ok a) (h : y_Y a m) (s : Int32) : y_does m (fM_clear s m) (o_clear s a) := by
  unfold fM_clear o_clear
  refine y_ite (by rw [y_isSpot]) (fun g1 => ?_) (fun _ => y_bt (y_find ha h 0 (by decide)))
  obtain ⟨k, hk, rfl⟩ := s_spotI g1
  refine y_grd (i_ok hk (by omega)) ?_
  rw [i_nn (by omega), (h.2.2.2.1 k hk).1]
  have go : ∀ v : Int32, y_does m (some (v, (m.1, m.2.1, tk_u2 m.2.2.1 450 k false, m.2.2.2))) (v, (a.1, a.2.1, s_setN a.2.2.1 k none, a.2.2.2)) := by
    intro v
    refine y_putN ha h ?_ ?_ v
    · intro r q
      exact ⟨fun _ => rfl, fun _ => ⟨rfl, rfl, by dsimp only; rw [tk_u2_ne (by omega)], rfl⟩⟩
    · refine y_N_set h.2.2.2.1 hk ?_ (fun _ _ _ => rfl) (by dsimp only; rw [tk_u2_eq]; rfl) (fun n hn => by cases hn)
      intro j hj
      dsimp only
      rw [tk_u2_nk hj]
  by_cases e : (a.2.2.1 k).isSome = true
  · rw [if_pos e, if_pos e]; exact go 1
  · rw [if_neg e, if_neg e]; exact go 0
theorem o_clear_ok (ha : s_Ok a) (s : Int32) : s_Ok (o_clear s a).2 := by
  unfold o_clear
  split
  · exact s_setN_ok ha (fun n hn => by cases hn)
  · exact ha
/-! number -/
def s_part (n : s_nm) (w : Int32) : Int64 := if w = 0 then n.1 else if w = 1 then n.2.1 else if w = 2 then n.2.2.1 else n.2.2.2
def s_gN (f : Nat → Option s_nm) (k : Nat) : s_nm := (f k).getD (0, 0, 0, 1)
theorem s_gN_of {f : Nat → Option s_nm} {k : Nat} {n : s_nm} (h : f k = some n) : s_gN f k = n := by unfold s_gN; rw [h]; rfl
theorem s_isN {f : Nat → Option s_nm} {k : Nat} (h : (f k).isSome = true) : ∃ n, f k = some n := by
  cases e : f k with
  | none => rw [e] at h; cases h
  | some n => exact ⟨n, rfl⟩
def o_number (s w : Int32) (a : s_as) : Int64 × s_as := if fX_isSpot s = true then (if fX_isWithin w 0 3 = true then (if (a.2.2.1 (tk_n s)).isSome = true then (s_part (s_gN a.2.2.1 (tk_n s)) w, a) else s_fdl a 5) else s_fdl a 0) else s_fdl a 0
theorem s_w4 {k : Int32} (h : fX_isWithin k 0 3 = true) : k = 0 ∨ k = 1 ∨ k = 2 ∨ k = 3 := by
  have hw := w_i h
  have t0 : (0 : Int32).toInt = 0 := rfl
  have t3 : (3 : Int32).toInt = 3 := rfl
  rcases (show k.toInt = 0 ∨ k.toInt = 1 ∨ k.toInt = 2 ∨ k.toInt = 3 by omega) with q | q | q | q
  · exact .inl (i_ext q)
  · exact .inr (.inl (i_ext q))
  · exact .inr (.inr (.inl (i_ext q)))
  · exact .inr (.inr (.inr (i_ext q)))
theorem x_number (HK : x_K K) (ha : s_Ok a) (h : x_X K a m) (s w : Int32) : x_does K m (fX_number s w m) (o_number s w a) := by
  unfold fX_number o_number
  refine x_ite Iff.rfl (fun g1 => x_ite Iff.rfl (fun g2 => ?_) (fun _ => x_bt (x_findl HK ha h 0 (by decide)))) (fun _ => x_bt (x_findl HK ha h 0 (by decide)))
  obtain ⟨k, hk, rfl⟩ := s_spotI g1
  refine x_grd (i_ok hk (by omega)) ?_
  rw [i_nn (by omega), (h.2.2.2.1 k hk).1]
  refine x_ite Iff.rfl (fun e => ?_) (fun _ => x_bt (x_findl HK ha h 5 (by decide)))
  obtain ⟨n, hn⟩ := s_isN e
  obtain ⟨b1, b2, b3, b4⟩ := (h.2.2.2.1 k hk).2 n hn
  rw [s_gN_of hn]
  have : fN_part (275 + 2 * k) w m = s_part n w := by
    unfold fN_part s_part fN_p fN_q fN_m
    rw [b1, b2, b3, b4]
  rw [this]
  exact x_same h _
theorem y_number (ha : s_Ok a) (h : y_Y a m) (s w : Int32) : y_does m (fM_number s w m) (o_number s w a) := by
  unfold fM_number o_number
  refine y_ite (by rw [y_isSpot]) (fun g1 => y_ite (by rw [← w_eq (v := w) (a := 0) (b := 3)]; rfl) (fun g2 => ?_) (fun _ => y_bt (y_findl ha h 0 (by decide)))) (fun _ => y_bt (y_findl ha h 0 (by decide)))
  obtain ⟨k, hk, rfl⟩ := s_spotI g1
  refine y_grd (i_ok hk (by omega)) ?_
  rw [i_nn (show k < 2147483648 by omega), (h.2.2.2.1 k hk).1]
  refine y_ite Iff.rfl (fun e => ?_) (fun _ => y_bt (y_findl ha h 5 (by decide)))
  obtain ⟨n, hn⟩ := s_isN e
  obtain ⟨b1, b2, b3, b4⟩ := (h.2.2.2.1 k hk).2 n hn
  rw [s_gN_of hn]
  rcases s_w4 g2 with q | q | q | q <;> subst q
  · refine y_grd (by decide) ?_
    rw [show m.2.1 (452 + k) (tk_n 0) = n.1 from b1]; exact y_same h _
  · refine y_grd (by decide) ?_
    rw [show m.2.1 (452 + k) (tk_n 1) = n.2.1 from b2]; exact y_same h _
  · refine y_grd (by decide) ?_
    rw [show m.2.1 (452 + k) (tk_n 2) = n.2.2.1 from b3]; exact y_same h _
  · refine y_grd (by decide) ?_
    rw [show m.2.1 (452 + k) (tk_n 3) = n.2.2.2 from b4]; exact y_same h _
theorem o_number_ok (ha : s_Ok a) (s w : Int32) : s_Ok (o_number s w a).2 := by
  unfold o_number
  repeat (first | exact ha | split)
/-! keeps -/
theorem y_kp9 (s r : Nat) (hs : s < 6) (hr : tk_al r = 4) (hne : r ≠ 452 + s) : ∀ (c p n : Nat) (m : tk_m), p + c = 4 → c < n → (∀ q, q < p → m.2.1 (452 + s) q = m.2.1 r q) → ∃ L, fM_keeps_9 n (Int32.ofNat s) r (Int32.ofNat p) m = some (m.1, L, m.2.2.1, m.2.2.2) ∧ (∀ j, j ≠ 452 + s → L j = m.2.1 j) ∧ (∀ q, q < 4 → L (452 + s) q = m.2.1 r q) := by
  intro c
  induction c with
  | zero =>
    intro p n m h1 h2 h3
    obtain ⟨n, rfl⟩ : ∃ k, n = k + 1 := ⟨n - 1, by omega⟩
    have hp : p = 4 := by omega
    subst hp
    unfold fM_keeps_9
    rw [if_pos (by decide)]
    exact ⟨m.2.1, rfl, fun _ _ => rfl, h3⟩
  | succ c ih =>
    intro p n m h1 h2 h3
    obtain ⟨n, rfl⟩ : ∃ k, n = k + 1 := ⟨n - 1, by omega⟩
    unfold fM_keeps_9
    rw [if_neg (show ¬ (4 : Int32) ≤ Int32.ofNat p from fun z => absurd ((i_le (a := 4) (by omega) (by omega)).mp z) (by omega)), if_pos (i_ok hs (by omega)), hr, if_pos (i_ok (show p < 4 by omega) (by omega)), if_pos (i_ok (show p < 4 by omega) (by omega)), i_nn (show s < 2147483648 by omega), i_nn (show p < 2147483648 by omega), show Int32.ofNat p + 1 = Int32.ofNat (p + 1) from i_add p 1]
    obtain ⟨L, e1, e2, e3⟩ := ih (p + 1) n (m.1, tk_u2 m.2.1 (452 + s) p (m.2.1 r p), m.2.2.1, m.2.2.2) (by omega) (by omega) (by
      intro q hq
      dsimp only
      rw [tk_u2_ne hne]
      by_cases e : q = p
      · rw [e, tk_u2_eq]
      · rw [tk_u2_nk e]; exact h3 q (by omega))
    refine ⟨L, e1, fun j hj => by rw [e2 j hj]; exact tk_u2_ne hj, fun q hq => ?_⟩
    rw [e3 q hq]
    dsimp only
    rw [tk_u2_ne hne]
/-- a number of row r comes into a spot -/
theorem y_keep (ha : s_Ok a) (h : y_Y a m) {m1 : tk_m} {s r : Nat} (hs : s < 6) (hr : tk_al r = 4) (hne : r ≠ 452 + s) (h431 : ∀ j, j < 6 → m1.2.1 (452 + j) = m.2.1 (452 + j)) (h429 : m1.2.2.1 450 = m.2.2.1 450) (hfr : ∀ q, (q < 307 ∨ (442 ≤ q ∧ q < 449)) → (q = 295 → m1.1 295 2 = m.1 295 2) ∧ (q ≠ 295 → tk_row m m1 q)) {n : s_nm} (e0 : m1.2.1 r 0 = n.1) (e1 : m1.2.1 r 1 = n.2.1) (e2 : m1.2.1 r 2 = n.2.2.1) (e3 : m1.2.1 r 3 = n.2.2.2) (v : α) : y_does m ((fM_keeps (Int32.ofNat s) r m1).bind fun o => some (v, o)) (v, (a.1, a.2.1, s_setN a.2.2.1 s (some n), a.2.2.2)) := by
  unfold fM_keeps
  rw [if_pos (i_ok hs (by omega)), i_nn (show s < 2147483648 by omega)]
  obtain ⟨L, g1, g2, g3⟩ := y_kp9 s r hs hr hne 4 0 tk_F (m1.1, m1.2.1, tk_u2 m1.2.2.1 450 s true, m1.2.2.2) (by omega) (by unfold tk_F; omega) (fun q hq => by omega)
  rw [show (0 : Int32) = Int32.ofNat 0 from rfl, g1, Option.bind_some]
  dsimp only at g2 g3 ⊢
  refine y_putN ha h ?_ (y_N_set h.2.2.2.1 hs ?_ ?_ ?_ ?_) v
  · intro q hq
    obtain ⟨f1, f2⟩ := hfr q hq
    refine ⟨f1, fun e => ?_⟩
    obtain ⟨z1, z2, z3, z4⟩ := f2 e
    exact ⟨z1, by dsimp only; rw [g2 q (by omega)]; exact z2, by dsimp only; rw [tk_u2_ne (by omega)]; exact z3, z4⟩
  · intro j hj; dsimp only; rw [tk_u2_nk hj, h429]
  · intro j hj hj2; dsimp only; rw [g2 _ (by omega)]; exact h431 j hj
  · dsimp only; rw [tk_u2_eq]; rfl
  · intro n' hn'
    have : n = n' := Option.some.inj hn'
    subst this
    dsimp only
    rw [g3 0 (by decide), g3 1 (by decide), g3 2 (by decide), g3 3 (by decide)]
    exact ⟨e0, e1, e2, e3⟩
end
