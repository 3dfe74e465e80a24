/-! ===== tell ===== -/
theorem tk_al40 : ∀ k, k < 4 → tk_al (287 + 2 * k + 1) = 40 := by decide +kernel
def s_tl (A B C D : Int64) : Int32 := if A = 0 then (if B = 0 then (if C = 0 then 0 else 2) else 2) else (if B.toInt * B.toInt + C.toInt * C.toInt - 4 * (A.toInt * D.toInt) = 0 then 3 else if 0 < B.toInt * B.toInt + C.toInt * C.toInt - 4 * (A.toInt * D.toInt) then 1 else 0)
def o_tell (s : Int32) (a : s_as) : Int32 × s_as := if fX_isSheet s = true then (if (a.2.2.2.1 (tk_n s)).1 = -1 then s_fd a 5 else (if 4 ≤ (a.2.2.2.1 (tk_n s)).2.1 then (s_tl ((a.2.2.2.1 (tk_n s)).2.2 0) ((a.2.2.2.1 (tk_n s)).2.2 1) ((a.2.2.2.1 (tk_n s)).2.2 2) ((a.2.2.2.1 (tk_n s)).2.2 3), a) else s_fd a 6)) else s_fd a 0
section
variable {K : List s_sh → Int32 × Int32 × Int32 → tk_m → Prop} {a : s_as} {m m' : tk_m} {α : Type}
set_option maxHeartbeats 4000000 in
theorem x_kindF {r : Nat} (hr : tk_al r = 40) {A B C D : Int64} (e0 : m.2.1 r 0 = A) (e1 : m.2.1 r 1 = B) (e2 : m.2.1 r 2 = C) (e3 : m.2.1 r 3 = D) : ∃ m', fJ_kindOfForm r m = some (s_tl A B C D, m') ∧ bg_J m m' := by
  unfold fJ_kindOfForm s_tl
  simp only [hr, if_pos (show (4 : Int32) ≤ Int32.ofNat 40 by decide), if_pos (show tk_ok (0 : Int32) 40 by decide), if_pos (show tk_ok (1 : Int32) 40 by decide), if_pos (show tk_ok (2 : Int32) 40 by decide), if_pos (show tk_ok (3 : Int32) 40 by decide), show tk_n (0 : Int32) = 0 from rfl, show tk_n (1 : Int32) = 1 from rfl, show tk_n (2 : Int32) = 2 from rfl, show tk_n (3 : Int32) = 3 from rfl, e0, e1, e2]
  by_cases c0 : A = 0
  · simp only [if_pos c0]
    by_cases c1 : B = 0
    · simp only [if_pos c1]
      by_cases c2 : C = 0
      · simp only [if_pos c2]; exact ⟨m, rfl, bg_J_rf m⟩
      · simp only [if_neg c2]; exact ⟨m, rfl, bg_J_rf m⟩
    · simp only [if_neg c1]; exact ⟨m, rfl, bg_J_rf m⟩
  · simp only [if_neg c0]
    have b4 : ∀ x y : Int64, (x.toInt * y.toInt).natAbs ≤ 2 ^ 126 := fun x y => Nat.le_trans (wd_b2 (wd_b6 x) (wd_b6 y)) (by decide)
    have b5 : ∀ x y : Int64, (x.toInt * y.toInt).natAbs < 4294967296 ^ 5 := fun x y => Nat.lt_of_le_of_lt (b4 x y) (by decide)
    obtain ⟨o9, g9, B9, F9, G9⟩ := bg_jp 18 (by decide) B B m
    obtain ⟨o11, g11, B11, F11, G11⟩ := bg_jp 20 (by decide) C C o9
    have B9' : bg_B o11 18 (B.toInt * B.toInt) := bg_B_k B9 (G11 18 (by decide) (by decide) (by decide)) (G11 19 (by decide) (by decide) (by decide))
    obtain ⟨o12, g12, B12, f12⟩ := bg_sum (t := 16) (s := 1) (.inl rfl) B9' B11 (k := 5) (by decide) (b5 _ _) (b5 _ _) (by decide) (by decide) (by decide) (by decide)
    obtain ⟨o14, g14, B14, F14, G14⟩ := bg_jp 32 (by decide) A D o12
    obtain ⟨o15, g15, B15, f15⟩ := bg_sum (t := 32) (s := 1) (.inl rfl) B14 B14 (k := 5) (by decide) (b5 _ _) (b5 _ _) (by decide) (by decide) (by decide) (by decide)
    have h1 := b4 A D
    have h2 := b4 B B
    have h3 := b4 C C
    have o1 : ∀ {z : Int} {n : Nat}, z.natAbs ≤ n → (1 * z).natAbs ≤ n := fun hz => by rw [Int.one_mul]; exact hz
    have s15a : (A.toInt * D.toInt + 1 * (A.toInt * D.toInt)).natAbs ≤ 2 ^ 126 + 2 ^ 126 := wd_ba h1 (o1 h1)
    have s15 : (A.toInt * D.toInt + 1 * (A.toInt * D.toInt)).natAbs < 4294967296 ^ 5 := Nat.lt_of_le_of_lt s15a (by decide)
    obtain ⟨o16, g16, B16, f16⟩ := bg_sum (t := 32) (s := 1) (.inl rfl) B15 B15 (k := 5) (by decide) s15 s15 (by decide) (by decide) (by decide) (by decide)
    have B12' : bg_B o16 16 (B.toInt * B.toInt + 1 * (C.toInt * C.toInt)) := bg_keep f16 (bg_keep f15 (bg_B_k B12 (G14 16 (by decide) (by decide) (by decide)) (G14 17 (by decide) (by decide) (by decide))) (by decide) (by decide) (by decide)) (by decide) (by decide) (by decide)
    obtain ⟨o17, g17, B17, f17⟩ := bg_sum (t := 26) (s := -1) (.inr rfl) B12' B16 (k := 5) (by decide) (Nat.lt_of_le_of_lt (wd_ba h2 (o1 h3)) (by decide)) (Nat.lt_of_le_of_lt (wd_ba s15a (o1 s15a)) (by decide)) (by decide) (by decide) (by decide) (by decide)
    have hs := bg_sg B17
    have hv : B.toInt * B.toInt + 1 * (C.toInt * C.toInt) + -1 * (A.toInt * D.toInt + 1 * (A.toInt * D.toInt) + 1 * (A.toInt * D.toInt + 1 * (A.toInt * D.toInt))) = B.toInt * B.toInt + C.toInt * C.toInt - 4 * (A.toInt * D.toInt) := by omega
    rw [hv] at hs
    have M9 : o9.2.1 = m.2.1 := by rw [F9]
    have M12 : o12.2.1 = m.2.1 := by rw [f12.1, F11]; exact M9
    have J17 : bg_J m o17 := by
      refine ⟨by rw [f17.1, f16.1, f15.1, F14, f12.1, F11, F9], fun q hq => ?_⟩
      rw [f17.2 q (by omega) (by omega), f16.2 q (by omega) (by omega), f15.2 q (by omega) (by omega), G14 q (by omega) (by omega) (by omega), f12.2 q (by omega) (by omega), G11 q (by omega) (by omega) (by omega), G9 q (by omega) (by omega) (by omega)]
    have g12' : fB_takeSum 16 18 1 20 o11 = some o12 := g12
    have g15' : fB_takeSum 32 32 1 32 o14 = some o15 := g15
    have g16' : fB_takeSum 32 32 1 32 o15 = some o16 := g16
    have g17' : fB_takeSum 26 16 (-1) 32 o16 = some o17 := g17
    simp only [g9, Option.bind_some, M9, e2, g11, g12', M12, e0, e3, g14, g15', g16', g17', hs]
    generalize B.toInt * B.toInt + C.toInt * C.toInt - 4 * (A.toInt * D.toInt) = G at *
    by_cases c : G = 0
    · rw [if_pos (nu_tz.mpr c), if_pos c]; exact ⟨o17, rfl, J17⟩
    · rw [if_neg (fun q => c (nu_tz.mp q)), if_neg c]
      by_cases c2 : 0 < G
      · rw [if_neg (fun q => by have := nu_tle.mp q; omega), if_pos c2]; exact ⟨o17, rfl, J17⟩
      · rw [if_pos (nu_tle.mpr (by omega)), if_neg c2]; exact ⟨o17, rfl, J17⟩
theorem x_tell (HK : x_K K) (ha : s_Ok a) (h : x_X K a m) (s : Int32) : x_does K m (fX_tell s m) (o_tell s a) := by
  unfold fX_tell o_tell
  refine x_ite Iff.rfl (fun g1 => ?_) (fun _ => x_bt (x_find HK ha h 0 (by decide)))
  obtain ⟨k, hk, rfl⟩ := s_sheetI g1
  have hT := h.2.2.2.2.1
  have hz := (ha.2.2.2.2 k).1
  refine x_grd (i_ok hk (by omega)) ?_
  rw [i_nn (show k < 2147483648 by omega), x_miss hT hk, (hT k hk).2.1]
  refine x_ite (by rw [decide_eq_true_eq]) (fun _ => x_bt (x_find HK ha h 5 (by decide))) (fun _ => x_ite (i_le (a := 4) (by omega) (by omega)) (fun c => x_bt ?_) (fun _ => x_bt (x_find HK ha h 6 (by decide))))
  have q := (hT k hk).2.2
  obtain ⟨m1, e1, e2⟩ := x_kindF (m := m) (tk_al40 k hk) (q 0 (by decide)) (q 1 (by decide)) (q 2 (by decide)) (q 3 (by decide))
  rw [e1]
  exact x_scrd HK ha h (bg_J_scr e2) _
/-- the reference's reckoning, with f for four -/
theorem y_tellW (f : Int64) (hf : f.toInt = 4) (A B C D : Int64) (m : tk_m) : ∃ (x8 x9 x10 x11 x12 x13 x14 x15 : tk_m), fM_widens f (tk_u2 m.1 295 9 0, m.2.1, m.2.2.1, m.2.2.2) = some (Int32.ofNat 0, x8) ∧ fM_timesWide_JJ A D x8 = some (Int32.ofNat 3, x9) ∧ fM_timesWide_II (Int32.ofNat 0) (Int32.ofNat 3) x9 = some (Int32.ofNat 4, x10) ∧ fM_timesWide_JJ B B x10 = some (Int32.ofNat 7, x11) ∧ fM_timesWide_JJ C C x11 = some (Int32.ofNat 10, x12) ∧ fM_plusWide (Int32.ofNat 7) (Int32.ofNat 10) x12 = some (Int32.ofNat 11, x13) ∧ fM_turned (Int32.ofNat 4) x13 = some (Int32.ofNat 4, x14) ∧ fM_plusWide (Int32.ofNat 11) (Int32.ofNat 4) x14 = some (Int32.ofNat 12, x15) ∧ x8.2.1 = m.2.1 ∧ x10.2.1 = m.2.1 ∧ x11.2.1 = m.2.1 ∧ wd_fr m x15 ∧ x15.1 348 12 = nu_t (B.toInt * B.toInt + C.toInt * C.toInt + -(f.toInt * (A.toInt * D.toInt))) := by
  have b4 : ∀ x y : Int64, (x.toInt * y.toInt).natAbs ≤ 2 ^ 126 := fun x y => Nat.le_trans (wd_b2 (wd_b6 x) (wd_b6 y)) (by decide)
  have h1 := b4 A D
  have h2 := b4 B B
  have h3 := b4 C C
  have h4 : (f.toInt * (A.toInt * D.toInt)).natAbs ≤ 4 * 2 ^ 126 := wd_b2 (by omega) h1
  obtain ⟨x8, e8, s8, f8⟩ := wd_widens (wd_nil m) (by decide) f
  obtain ⟨x9, e9, s9, f9⟩ := wd_JJ s8 (by simp) A D
  obtain ⟨x10, e10, s10, f10⟩ := wd_times s9 (by simp) (i := 0) (j := 3) rfl rfl (Nat.lt_of_le_of_lt h4 (by decide))
  obtain ⟨x11, e11, s11, f11⟩ := wd_JJ s10 (by simp) B B
  obtain ⟨x12, e12, s12, f12⟩ := wd_JJ s11 (by simp) C C
  obtain ⟨x13, e13, s13, f13⟩ := wd_plus s12 (by simp) (i := 7) (j := 10) rfl rfl (Nat.lt_of_le_of_lt (wd_ba h2 h3) (by decide))
  obtain ⟨x14, e14, s14, f14⟩ := wd_turned s13 (i := 4) rfl
  obtain ⟨x15, e15, s15, f15⟩ := wd_plus s14 (by simp) (i := 11) (j := 4) rfl rfl (Nat.lt_of_le_of_lt (wd_ba (wd_ba h2 h3) (show (-(f.toInt * (A.toInt * D.toInt))).natAbs ≤ 4 * 2 ^ 126 by rw [Int.natAbs_neg]; exact h4)) (by decide))
  have F15 := wd_fr_tr (wd_fr_tr (wd_fr_tr (wd_fr_tr (wd_fr_tr (wd_fr_tr (wd_fr_tr (wd_fr_tr (wd_nil_fr m) f8) f9) f10) f11) f12) f13) f14) f15
  have E8 : x8.2.1 = m.2.1 := by rw [f8.1]
  have E10 : x10.2.1 = m.2.1 := by rw [f10.1, f9.1]; exact E8
  have E11 : x11.2.1 = m.2.1 := by rw [f11.1]; exact E10
  have rs := (s15.2.2 12 _ rfl).2.2
  simp only [List.nil_append, List.cons_append, List.length_cons, List.length_nil, Nat.zero_add, Nat.reduceAdd, List.set_cons_succ, List.set_cons_zero] at e8 e9 e10 e11 e12 e13 e14 e15 rs
  exact ⟨x8, x9, x10, x11, x12, x13, x14, x15, e8, e9, e10, e11, e12, e13, e14, e15, E8, E10, E11, F15, rs⟩
theorem y_tellV (ha : s_Ok a) (h : y_Y a m) {r : Nat} {A B C D : Int64} (q0 : m.2.1 r 0 = A) (q1 : m.2.1 r 1 = B) (q2 : m.2.1 r 2 = C) (q3 : m.2.1 r 3 = D) (f : Int64) (hf : f.toInt = 4) : y_does m ((fM_widens f (tk_u2 m.1 295 9 0, m.2.1, m.2.2.1, m.2.2.2)).bind fun o8 =>
          (fM_timesWide_JJ (o8.2.2.1 r 0) (o8.2.2.1 r 3) o8.2).bind fun o9 =>
          (fM_timesWide_II o8.1 o9.1 o9.2).bind fun o10 =>
          (fM_timesWide_JJ (o10.2.2.1 r 1) (o10.2.2.1 r 1) o10.2).bind fun o11 =>
          (fM_timesWide_JJ (o11.2.2.1 r 2) (o11.2.2.1 r 2) o11.2).bind fun o12 =>
          (fM_plusWide o11.1 o12.1 o12.2).bind fun o13 =>
          (fM_turned o10.1 o13.2).bind fun o14 =>
          (fM_plusWide o13.1 o14.1 o14.2).bind fun o15 =>
          if tk_ok o15.1 40 then
          if (o15.2.1 348 (tk_n o15.1)) ≤ 0 then
            if (o15.2.1 348 (tk_n o15.1)) = 0 then
              some ((3 : Int32), o15.2)
            else
              some ((0 : Int32), o15.2)
          else
            some ((1 : Int32), o15.2)
          else none) ((if B.toInt * B.toInt + C.toInt * C.toInt - 4 * (A.toInt * D.toInt) = 0 then 3 else if 0 < B.toInt * B.toInt + C.toInt * C.toInt - 4 * (A.toInt * D.toInt) then 1 else 0), a) := by
  obtain ⟨x8, x9, x10, x11, x12, x13, x14, x15, e8, e9, e10, e11, e12, e13, e14, e15, E8, E10, E11, F15, rs⟩ := y_tellW f hf A B C D m
  rw [e8, Option.bind_some]
  dsimp only
  rw [E8, q0, q3, e9, Option.bind_some]
  dsimp only
  rw [e10, Option.bind_some]
  dsimp only
  rw [E10, q1, e11, Option.bind_some]
  dsimp only
  rw [E11, q2, e12, Option.bind_some]
  dsimp only
  rw [e13, Option.bind_some]
  dsimp only
  rw [e14, Option.bind_some]
  dsimp only
  rw [e15, Option.bind_some]
  dsimp only
  rw [if_pos (show tk_ok (Int32.ofNat 12) 40 from i_ok (by decide) (by decide)), i_nn (by decide), rs, hf]
  have hv : B.toInt * B.toInt + C.toInt * C.toInt + -(4 * (A.toInt * D.toInt)) = B.toInt * B.toInt + C.toInt * C.toInt - 4 * (A.toInt * D.toInt) := by omega
  rw [hv]
  generalize B.toInt * B.toInt + C.toInt * C.toInt - 4 * (A.toInt * D.toInt) = G at *
  by_cases d : G = 0
  · rw [if_pos (nu_tle.mpr (by omega)), if_pos (nu_tz.mpr d), if_pos d]; exact y_scrd ha h F15 _
  · rw [if_neg d]
    by_cases d2 : 0 < G
    · rw [if_neg (fun q => by have := nu_tle.mp q; omega), if_pos d2]; exact y_scrd ha h F15 _
    · rw [if_pos (nu_tle.mpr (by omega)), if_neg (fun q => d (nu_tz.mp q)), if_neg d2]; exact y_scrd ha h F15 _
theorem y_tell (ha : s_Ok a) (h : y_Y a m) (s : Int32) : y_does m (fM_tell s m) (o_tell s a) := by
  unfold fM_tell o_tell
  refine y_ite (by rw [y_isSheet]) (fun g1 => ?_) (fun _ => y_bt (y_find ha h 0 (by decide)))
  obtain ⟨k, hk, rfl⟩ := s_sheetI g1
  have hT := h.2.2.2.2
  obtain ⟨hz, hzz⟩ := ha.2.2.2.2 k
  have hq := s_srt hzz
  refine y_grd (i_ok hk (by omega)) ?_
  rw [i_nn (show k < 2147483648 by omega), (hT k hk).1, (hT k hk).2.1]
  by_cases c0 : (a.2.2.2.1 k).1 = -1
  · rw [if_neg (fun q => (hq.1.mp q) c0), if_pos c0]
    exact y_bt (y_find ha h 5 (by decide))
  rw [if_pos (hq.1.mpr c0), if_neg c0]
  refine y_ite (i_le (a := 4) (by omega) (by omega)) (fun c => ?_) (fun _ => y_bt (y_find ha h 6 (by decide)))
  have q := (hT k hk).2.2
  have q0 := q 0 (by decide)
  have q1 := q 1 (by decide)
  have q2 := q 2 (by decide)
  have q3 := q 3 (by decide)
  have hV := y_tellV ha h q0 q1 q2 q3 4 rfl
  unfold s_tl
  by_cases c1 : (a.2.2.2.1 k).2.2 0 = 0
  · rw [if_pos (by rw [q0]; exact c1), if_pos c1]
    by_cases c2 : (a.2.2.2.1 k).2.2 1 = 0
    · rw [if_pos (by rw [q1]; exact c2), if_pos c2]
      by_cases c3 : (a.2.2.2.1 k).2.2 2 = 0
      · rw [if_pos (by rw [q2]; exact c3), if_pos c3]; exact y_same h _
      · rw [if_neg (by rw [q2]; exact c3), if_neg c3]; exact y_same h _
    · rw [if_neg (by rw [q1]; exact c2), if_neg c2]; exact y_same h _
  rw [if_neg (by rw [q0]; exact c1), if_neg c1]
  exact hV
theorem o_tell_ok (ha : s_Ok a) (s : Int32) : s_Ok (o_tell s a).2 := by
  unfold o_tell
  repeat (first | exact ha | split)
end
