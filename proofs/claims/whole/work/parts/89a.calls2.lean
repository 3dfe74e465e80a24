/-! ===== best, rank, put: the class ===== -/
theorem nu_cmpM_cs (a b c d e : Int) : nu_cmpM a b c d e = 1 ∨ nu_cmpM a b c d e = 0 ∨ nu_cmpM a b c d e = -1 := by
  unfold nu_cmpM
  repeat' split
  all_goals first | exact nu_sg_cs _ | exact nu_s1_cs _ _ _
theorem s_cmp_cs (u v : s_nm) : s_cmp u v = 1 ∨ s_cmp u v = 0 ∨ s_cmp u v = -1 := by
  unfold s_cmp
  rcases nu_cmpM_cs (u.1.toInt * v.2.2.2.toInt + -(v.1.toInt * u.2.2.2.toInt)) (u.2.1.toInt * v.2.2.2.toInt) (-(v.2.1.toInt * u.2.2.2.toInt)) u.2.2.1.toInt v.2.2.1.toInt with h | h | h
  · rw [h]; exact .inl rfl
  · rw [h]; exact .inr (.inl rfl)
  · rw [h]; exact .inr (.inr rfl)
theorem an_num_ok {c : an_c} (h : an_cok c) {i : Nat} (hi : i < 3) : s_nmOk (an_num c i) := by
  obtain ⟨o1, o2, o3, o4, o5⟩ := h
  have b1 := o2 i (by omega)
  have b2 := o2 (3 + i) (by omega)
  have b3 := o2 6 (by omega)
  unfold an_num
  refine s_val_ok (by omega) (bd_r b2 (by decide)) (bd_r b3 (by decide)) ?_ (fun hq => ⟨(o5 i hi hq).1, by omega, (o5 i hi hq).2⟩)
  unfold an_bd at b1 b2 b3
  exact lo_small (by omega) (by omega) (by omega)
def an_nth (l : List an_c) (k : Nat) : an_c := (l[k]?).getD (0, fun _ => 0, 0)
theorem an_nth_of {l : List an_c} {k : Nat} (h : k < l.length) : l[k]? = some (an_nth l k) ∧ an_nth l k ∈ l := by
  unfold an_nth
  rw [List.getElem?_eq_getElem h]
  exact ⟨rfl, List.getElem_mem h⟩
def an_kp (w c : Int32) : Bool := if w = 0 then decide (c ≤ 0) else decide (0 ≤ c)
def an_ut (w : Int32) (l : List an_c) : Nat → Nat → Nat → Nat
  | 0, fd, _ => fd
  | j + 1, fd, k => an_ut w l j (if an_kp w (s_cmp (an_num (an_nth l k) 2) (an_num (an_nth l fd) 2)) = true then fd else k) (k + 1)
def an_rk (l : List an_c) (u : s_nm) : Nat → Nat → Nat → Nat
  | 0, n, _ => n
  | j + 1, n, k => an_rk l u j (if s_cmp (an_num (an_nth l k) 2) u < 0 then n + 1 else n) (k + 1)
noncomputable def o_best (w : Int32) (a : s_as) : Int32 × s_as := if fX_isWithin w 0 1 = true then (match s_3 a with
  | none => s_fd a 4
  | some f => if an_why 0 f < 0 then (Int32.ofNat (an_ut w f.2 (f.2.length - 1) 0 1), a) else s_fd a 3) else s_fd a 0
noncomputable def o_rank (k : Int32) (a : s_as) : Int32 × s_as := match s_3 a with
  | none => s_fd a 4
  | some f => if an_why k f < 0 then (Int32.ofNat (an_rk f.2 (an_num (an_get f k) 2) f.2.length 0 0), a) else s_fd a 3
noncomputable def o_put (s k p : Int32) (a : s_as) : Int32 × s_as := if fX_isSpot s = true then (if fX_isWithin p 0 2 = true then (match s_3 a with
  | none => s_fd a 4
  | some f => if an_why k f < 0 then (1, (a.1, a.2.1, s_setN a.2.2.1 (tk_n s) (some (an_num (an_get f k) (tk_n p))), a.2.2.2)) else s_fd a 3) else s_fd a 0) else s_fd a 0
theorem i_nle {a b : Nat} (h : a < b) (hb : b < 2147483648) : ¬ Int32.ofNat b ≤ Int32.ofNat a := by
  rw [i_le (by omega) (by omega)]
  omega
section
variable {a : s_as} {m : tk_m} {α : Type}
theorem x_ut {f : an_F} (hf : an_fok f) (w : Int32) {s : Int32} (hs : (w = 0 ∧ s = 1) ∨ (¬ w = 0 ∧ s = -1)) : ∀ (j k fd n : Nat) (m : tk_m), k + j = f.2.length → j < n → fd < f.2.length → x_Fd f m → ∃ m1, fF_utmost_4 n s (Int32.ofNat fd) (Int32.ofNat k) m = some (Int32.ofNat (an_ut w f.2 j fd k), m1) ∧ x_scr m m1 := by
  intro j
  induction j with
  | zero =>
    intro k fd n m h1 h2 h3 h4
    obtain ⟨n, rfl⟩ : ∃ k, n = k + 1 := ⟨n - 1, by omega⟩
    unfold fF_utmost_4
    rw [h4.1, if_pos (by rw [i_le (by have := hf.1; omega) (by have := hf.1; omega)]; omega)]
    exact ⟨m, rfl, fun r _ => tk_row_rf m r⟩
  | succ j ih =>
    intro k fd n m h1 h2 h3 h4
    obtain ⟨n, rfl⟩ : ∃ k, n = k + 1 := ⟨n - 1, by omega⟩
    have hl := hf.1
    obtain ⟨k1, k2⟩ := an_nth_of (l := f.2) (k := k) (by omega)
    obtain ⟨f1, f2⟩ := an_nth_of (l := f.2) (k := fd) (by omega)
    have xk := (h4.2.2.2 k _ k1).2.2.2 2 (by decide)
    have xf := (h4.2.2.2 fd _ f1).2.2.2 2 (by decide)
    obtain ⟨m1, e1, e2⟩ := x_cmpq (r1 := 71 + 8 * k + 6) (r2 := 71 + 8 * fd + 6) xk.1 xf.1 (an_num_ok (hf.2 _ k2) (by decide)) (an_num_ok (hf.2 _ f2) (by decide))
    have h4' : x_Fd f m1 := x_Fd_k hl h4 (fun r q1 q2 => e2 r (by omega))
    unfold fF_utmost_4
    rw [h4.1, if_neg (i_nle (by omega) (by omega)), if_pos (i_ok (show k < 16 by omega) (by omega)), if_pos (i_ok (show fd < 16 by omega) (by omega)), i_nn (show k < 2147483648 by omega), i_nn (show fd < 2147483648 by omega), e1, Option.bind_some, show Int32.ofNat k + 1 = Int32.ofNat (k + 1) from i_add k 1]
    have hc := s_cmp_cs (an_num (an_nth f.2 k) 2) (an_num (an_nth f.2 fd) 2)
    have hk : (s * s_cmp (an_num (an_nth f.2 k) 2) (an_num (an_nth f.2 fd) 2) ≤ 0) ↔ an_kp w (s_cmp (an_num (an_nth f.2 k) 2) (an_num (an_nth f.2 fd) 2)) = true := by
      unfold an_kp
      rcases hs with ⟨w0, rfl⟩ | ⟨w0, rfl⟩
      · rw [if_pos w0]
        rcases hc with c | c | c <;> rw [c] <;> decide
      · rw [if_neg w0]
        rcases hc with c | c | c <;> rw [c] <;> decide
    unfold an_ut
    by_cases c : an_kp w (s_cmp (an_num (an_nth f.2 k) 2) (an_num (an_nth f.2 fd) 2)) = true
    · rw [if_pos (hk.mpr c), if_pos c]
      obtain ⟨m2, a1, a2⟩ := ih (k + 1) fd n m1 (by omega) (by omega) h3 h4'
      exact ⟨m2, a1, fun r hr => tk_row_tr (e2 r hr) (a2 r hr)⟩
    · rw [if_neg (fun z => c (hk.mp z)), if_neg c]
      obtain ⟨m2, a1, a2⟩ := ih (k + 1) k n m1 (by omega) (by omega) (by omega) h4'
      exact ⟨m2, a1, fun r hr => tk_row_tr (e2 r hr) (a2 r hr)⟩
theorem x_best (ha : s_Ok a) (h : x_X an_K a m) (w : Int32) : x_does an_K m (fX_best w m) (o_best w a) := by
  unfold fX_best o_best
  refine x_ite Iff.rfl (fun g1 => ?_) (fun _ => x_bt (x_find an_HK ha h 0 (by decide)))
  obtain ⟨q1, q2⟩ := x_misses ha h 0
  cases e : s_3 a with
  | none =>
    rw [q1 e, Option.bind_some, if_neg (show ¬ (4 : Int32) < 0 by decide)]
    exact x_bt (x_find an_HK ha h 4 (by decide))
  | some f =>
    obtain ⟨m1, e1, e2, e3, e4⟩ := q2 f e
    rw [e1, Option.bind_some]
    dsimp only
    refine x_go e3 (x_ite Iff.rfl (fun c => ?_) (fun c => ?_))
    · obtain ⟨i, c', _, hi, hi2, hc, hg, _⟩ := an_why_n c (s_3ok ha e).1
      unfold fF_utmost
      have go : ∀ s : Int32, ((w = 0 ∧ s = 1) ∨ (¬ w = 0 ∧ s = -1)) → x_does an_K m1 ((fF_utmost_4 tk_F s 0 1 m1).bind fun o5 => some (o5.1, o5.2)) (Int32.ofNat (an_ut w f.2 (f.2.length - 1) 0 1), a) := by
        intro s hs
        obtain ⟨m2, a1, a2⟩ := x_ut (s_3ok ha e) w hs (f.2.length - 1) 1 0 tk_F m1 (by omega) (by have := (s_3ok ha e).1; unfold tk_F; omega) (by omega) e4
        refine x_bt ?_
        rw [show (0 : Int32) = Int32.ofNat 0 from rfl, show (1 : Int32) = Int32.ofNat 1 from rfl, a1]
        exact x_scrd an_HK ha e2 a2 _
      by_cases w0 : w = 0
      · rw [if_pos w0]; exact go 1 (.inl ⟨w0, rfl⟩)
      · rw [if_neg w0]; exact go (-1) (.inr ⟨w0, rfl⟩)
    · rw [an_why_p c]
      exact x_bt (x_find an_HK ha e2 3 (by decide))
theorem x_rk {f : an_F} (hf : an_fok f) {u : s_nm} {r : Nat} (hr : 61 ≤ r ∧ r + 1 ≤ 201) (hu : s_nmOk u) : ∀ (j k c n : Nat) (m : tk_m), k + j = f.2.length → j < n → x_num u r m → x_Fd f m → ∃ m1, fF_howManyLess_4 n r (Int32.ofNat c) (Int32.ofNat k) m = some (Int32.ofNat (an_rk f.2 u j c k), m1) ∧ x_scr m m1 := by
  intro j
  induction j with
  | zero =>
    intro k fd n m h1 h2 h3 h4
    obtain ⟨n, rfl⟩ : ∃ k, n = k + 1 := ⟨n - 1, by omega⟩
    unfold fF_howManyLess_4
    rw [h4.1, if_pos (by rw [i_le (by have := hf.1; omega) (by have := hf.1; omega)]; omega)]
    exact ⟨m, rfl, fun r _ => tk_row_rf m r⟩
  | succ j ih =>
    intro k c n m h1 h2 h3 h4
    obtain ⟨n, rfl⟩ : ∃ k, n = k + 1 := ⟨n - 1, by omega⟩
    have hl := hf.1
    obtain ⟨k1, k2⟩ := an_nth_of (l := f.2) (k := k) (by omega)
    have xk := (h4.2.2.2 k _ k1).2.2.2 2 (by decide)
    obtain ⟨m1, e1, e2⟩ := x_cmpq (r1 := 71 + 8 * k + 6) (r2 := r) xk.1 h3 (an_num_ok (hf.2 _ k2) (by decide)) hu
    have h4' : x_Fd f m1 := x_Fd_k hl h4 (fun r q1 q2 => e2 r (by omega))
    have h3' : x_num u r m1 := x_num_k h3 (e2 r (by omega)) (e2 (r + 1) (by omega))
    unfold fF_howManyLess_4
    rw [h4.1, if_neg (i_nle (by omega) (by omega)), if_pos (i_ok (show k < 16 by omega) (by omega)), i_nn (show k < 2147483648 by omega), e1, Option.bind_some, show Int32.ofNat k + 1 = Int32.ofNat (k + 1) from i_add k 1, show Int32.ofNat c + 1 = Int32.ofNat (c + 1) from i_add c 1]
    have hc := s_cmp_cs (an_num (an_nth f.2 k) 2) u
    have hk : (0 ≤ s_cmp (an_num (an_nth f.2 k) 2) u) ↔ ¬ s_cmp (an_num (an_nth f.2 k) 2) u < 0 := by
      rcases hc with c | c | c <;> rw [c] <;> decide
    unfold an_rk
    by_cases d : s_cmp (an_num (an_nth f.2 k) 2) u < 0
    · rw [if_neg (fun z => (hk.mp z) d), if_pos d]
      obtain ⟨m2, a1, a2⟩ := ih (k + 1) (c + 1) n m1 (by omega) (by omega) h3' h4'
      exact ⟨m2, a1, fun r hr => tk_row_tr (e2 r hr) (a2 r hr)⟩
    · rw [if_pos (hk.mpr d), if_neg d]
      obtain ⟨m2, a1, a2⟩ := ih (k + 1) c n m1 (by omega) (by omega) h3' h4'
      exact ⟨m2, a1, fun r hr => tk_row_tr (e2 r hr) (a2 r hr)⟩
theorem x_rank (ha : s_Ok a) (h : x_X an_K a m) (k : Int32) : x_does an_K m (fX_rank k m) (o_rank k a) := by
  unfold fX_rank o_rank
  obtain ⟨q1, q2⟩ := x_misses ha h k
  cases e : s_3 a with
  | none =>
    rw [q1 e, Option.bind_some, if_neg (show ¬ (4 : Int32) < 0 by decide)]
    exact x_bt (x_find an_HK ha h 4 (by decide))
  | some f =>
    obtain ⟨m1, e1, e2, e3, e4⟩ := q2 f e
    rw [e1, Option.bind_some]
    dsimp only
    refine x_go e3 (x_ite Iff.rfl (fun c => ?_) (fun c => ?_))
    · obtain ⟨i, c', rfl, hi, hi2, hc, hg, hm⟩ := an_why_n c (s_3ok ha e).1
      rw [hg]
      refine x_grd (i_ok hi2 (by omega)) ?_
      rw [i_nn (by omega)]
      unfold fF_howManyLess
      obtain ⟨m2, a1, a2⟩ := x_rk (s_3ok ha e) (u := an_num c' 2) (r := 71 + 8 * i + 6) (by omega) (an_num_ok ((s_3ok ha e).2 _ hm) (by decide)) f.2.length 0 0 tk_F m1 (by omega) (by have := (s_3ok ha e).1; unfold tk_F; omega) ((e4.2.2.2 i c' hc).2.2.2 2 (by decide)).1 e4
      refine x_bt ?_
      rw [show (0 : Int32) = Int32.ofNat 0 from rfl, a1]
      exact x_scrd an_HK ha e2 a2 _
    · rw [an_why_p c]
      exact x_bt (x_find an_HK ha e2 3 (by decide))
theorem x_put (ha : s_Ok a) (h : x_X an_K a m) (s k p : Int32) : x_does an_K m (fX_put s k p m) (o_put s k p a) := by
  unfold fX_put o_put
  refine x_ite Iff.rfl (fun g1 => x_ite Iff.rfl (fun g2 => ?_) (fun _ => x_bt (x_find an_HK ha h 0 (by decide)))) (fun _ => x_bt (x_find an_HK ha h 0 (by decide)))
  obtain ⟨q1, q2⟩ := x_misses ha h k
  cases e : s_3 a with
  | none =>
    rw [q1 e, Option.bind_some, if_neg (show ¬ (4 : Int32) < 0 by decide)]
    exact x_bt (x_find an_HK ha h 4 (by decide))
  | some f =>
    obtain ⟨m1, e1, e2, e3, e4⟩ := q2 f e
    rw [e1, Option.bind_some]
    dsimp only
    refine x_go e3 (x_ite Iff.rfl (fun c => ?_) (fun c => ?_))
    · obtain ⟨i, c', rfl, hi, hi2, hc, hg, hm⟩ := an_why_n c (s_3ok ha e).1
      obtain ⟨j, hj, _, hj2, hj3⟩ := s_w3p g2
      obtain ⟨q, hq, rfl⟩ := s_spotI g1
      rw [hg, hj2]
      refine x_grd (i_ok hq (by omega)) (x_grd (i_ok hi2 (by omega)) ?_)
      rw [i_nn (show i < 2147483648 by omega), i_nn (show q < 2147483648 by omega), hj3]
      obtain ⟨⟨n1, n2, n3, n4⟩, n5⟩ := (e4.2.2.2 i c' hc).2.2.2 j hj
      have hsrc : 71 + 8 * i + 2 + 2 * j + 1 < 275 := by omega
      generalize 71 + 8 * i + 2 + 2 * j = src at *
      unfold fN_become tk_let
      have a1 : 275 + 2 * q + 1 ≠ 275 + 2 * q := by omega
      have b1 : src + 1 ≠ 275 + 2 * q + 1 := by omega
      have b2 : src ≠ 275 + 2 * q + 1 := by omega
      refine x_putN an_HK ha e2 (fun r q1 q2 => ?_) (x_N_set e2.2.2.2.1 hq (fun r q1 q2 q3 q4 => ?_) ?_ (fun n hn => ?_)) _
      · refine ⟨rfl, ?_, ?_, rfl⟩
        · dsimp only
          rw [tk_u2_ne (by omega), tk_u2_ne (by omega), tk_u2_ne (by omega), tk_u2_ne (by omega)]
        · dsimp only
          rw [tk_u2_ne (by omega)]
      · refine ⟨rfl, ?_, ?_, rfl⟩
        · dsimp only
          rw [tk_u2_ne (by omega), tk_u2_ne (by omega), tk_u2_ne (by omega), tk_u2_ne (by omega)]
        · dsimp only
          rw [tk_u2_ne (by omega)]
      · dsimp only; rw [tk_u2_eq, n5]; rfl
      · have : an_num c' j = n := Option.some.inj hn
        rw [← this]
        refine ⟨?_, ?_, ?_, ?_⟩
        · dsimp only; rw [tk_u2_ne a1, tk_u2_nk (by decide), tk_u2_nk (by decide), tk_u2_eq]; exact n1
        · dsimp only; rw [tk_u2_ne a1, tk_u2_nk (by decide), tk_u2_eq, tk_u2_ne b1]; exact n2
        · dsimp only; rw [tk_u2_ne a1, tk_u2_eq, tk_u2_ne b1, tk_u2_ne b1]; exact n3
        · dsimp only; rw [tk_u2_eq, tk_u2_ne b2, tk_u2_ne b2, tk_u2_ne b2]; exact n4
    · rw [an_why_p c]
      exact x_bt (x_find an_HK ha e2 3 (by decide))
theorem o_best_ok (ha : s_Ok a) (w : Int32) : s_Ok (o_best w a).2 := by
  unfold o_best
  split
  · split
    · exact ha
    · split <;> exact ha
  · exact ha
theorem o_rank_ok (ha : s_Ok a) (k : Int32) : s_Ok (o_rank k a).2 := by
  unfold o_rank
  split
  · exact ha
  · split <;> exact ha
theorem o_put_ok (ha : s_Ok a) (s k p : Int32) : s_Ok (o_put s k p a).2 := by
  unfold o_put
  by_cases g1 : fX_isSpot s = true
  · rw [if_pos g1]
    by_cases g2 : fX_isWithin p 0 2 = true
    · rw [if_pos g2]
      cases e : s_3 a with
      | none => exact ha
      | some f =>
        dsimp only
        by_cases c : an_why k f < 0
        · rw [if_pos c]
          obtain ⟨i, c', _, hi, hi2, hc, hg, hm⟩ := an_why_n c (s_3ok ha e).1
          obtain ⟨j, hj, _, hj2, hj3⟩ := s_w3p g2
          rw [hg, hj2]
          exact s_setN_ok ha (fun n hn => by rw [← Option.some.inj hn]; exact an_num_ok ((s_3ok ha e).2 _ hm) hj)
        · rw [if_neg c]; exact ha
    · rw [if_neg g2]; exact ha
  · rw [if_neg g1]; exact ha
end
