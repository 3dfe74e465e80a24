/-! ===== numbers in lowest terms, on both sides ===== -/
def lo_f3 (p q m : Int) : Nat → Int := fun k => if k = 0 then p else if k = 1 then q else m
def lo_D3 (p q m : Int) : Int := lo_D (lo_g (lo_f3 p q m) 3) m
def lo_bad (p q m : Int) : Prop := lo_D3 p q m = -1 ∧ (p = -9223372036854775808 ∨ q = -9223372036854775808 ∨ m = -9223372036854775808)
def lo_val (p q : Int) (d : Int64) (m : Int) : s_nm := (Int64.ofInt (p / lo_D3 p q m), Int64.ofInt (q / lo_D3 p q m), if q = 0 then 0 else d, Int64.ofInt (m / lo_D3 p q m))
theorem lo_g3 (p q m : Int) : lo_g (lo_f3 p q m) 3 = Nat.gcd (Nat.gcd p.natAbs q.natAbs) m.natAbs := by
  show Nat.gcd (Nat.gcd (Nat.gcd 0 p.natAbs) q.natAbs) m.natAbs = _
  rw [Nat.gcd_zero_left]
theorem lo_g3p {p q m : Int} (h : m ≠ 0) : 0 < lo_g (lo_f3 p q m) 3 := lo_g_pos (k := 2) (by decide) h
theorem lo_D3n {p q m : Int} (h : m ≠ 0) : lo_D3 p q m ≠ 0 := lo_D_ne (lo_g3p h)
theorem lo_D3p (p q m : Int) : lo_D3 p q m ∣ p := lo_D_dvd (lo_g_dvd (lo_f3 p q m) 3 0 (by decide))
theorem lo_D3q (p q m : Int) : lo_D3 p q m ∣ q := lo_D_dvd (lo_g_dvd (lo_f3 p q m) 3 1 (by decide))
theorem lo_D3m (p q m : Int) : lo_D3 p q m ∣ m := lo_D_dvd (lo_g_dvd (lo_f3 p q m) 3 2 (by decide))
theorem lo_D3r {p q m : Int} (h : m ≠ 0) (hm : lo_r m) : lo_r (lo_D3 p q m) := by
  have h1 := Nat.le_of_dvd (show 0 < (lo_f3 p q m 2).natAbs by show 0 < m.natAbs; omega) (lo_g_dvd (lo_f3 p q m) 3 2 (by decide))
  have h2 : lo_f3 p q m 2 = m := rfl
  rw [h2] at h1
  unfold lo_D3 lo_D
  have := hm.1
  have := hm.2
  split <;> (constructor <;> omega)
theorem lo_ex3 {p q m : Int} : (∃ k, k < 3 ∧ lo_f3 p q m k = -9223372036854775808) ↔ (p = -9223372036854775808 ∨ q = -9223372036854775808 ∨ m = -9223372036854775808) := by
  constructor
  · rintro ⟨k, hk, h⟩
    rcases (show k = 0 ∨ k = 1 ∨ k = 2 by omega) with rfl | rfl | rfl
    · exact .inl h
    · exact .inr (.inl h)
    · exact .inr (.inr h)
  · rintro (h | h | h)
    · exact ⟨0, by decide, h⟩
    · exact ⟨1, by decide, h⟩
    · exact ⟨2, by decide, h⟩
theorem lo_qz {D q : Int} (h0 : D ≠ 0) (hd : D ∣ q) : q / D = 0 ↔ q = 0 := by
  obtain ⟨k, hk⟩ := hd
  rw [hk, Int.mul_ediv_cancel_left _ h0]
  constructor
  · intro h; rw [h, Int.mul_zero]
  · intro h
    rcases Int.mul_eq_zero.mp h with h | h
    · exact absurd h h0
    · exact h
theorem lo_qr {D q : Int} (hd : D ∣ q) (hq : lo_r q) (h : q ≠ -9223372036854775808 ∨ D ≠ -1) : lo_r (q / D) := by
  rw [← Int.tdiv_eq_ediv_of_dvd hd]
  have h1 := lo_ab q D
  have := hq.1
  have := hq.2
  by_cases e : q = -9223372036854775808
  · rcases h with h | h
    · exact absurd e h
    · obtain ⟨k, hk⟩ := hd
      by_cases h0 : D = 0
      · subst h0; rw [Int.tdiv_zero]; exact ⟨by decide, by decide⟩
      · rw [hk, Int.mul_tdiv_cancel_left _ h0]
        by_cases h2 : k = 9223372036854775808
        · subst h2
          exact absurd (show D = -1 by omega) h
        · have h3 : k.natAbs ≤ q.natAbs := by rw [hk, Int.natAbs_mul]; exact Nat.le_mul_of_pos_left _ (by omega)
          constructor <;> omega
  · constructor <;> omega
theorem tk_u2_rw {α : Type} {f : Nat → Nat → α} {i k : Nat} {v w : α} : tk_u2 (tk_u2 f i k v) i k w = tk_u2 f i k w := by
  funext a b
  unfold tk_u2
  by_cases h : a = i ∧ b = k
  · rw [if_pos h, if_pos h]
  · rw [if_neg h, if_neg h, if_neg h]
/-- the class: a Num holds p, q by m -/
theorem x_hold {t : Nat} (ht : tk_al (t + 1) = 3) (p q d m : Int64) (M : tk_m) (hm : m ≠ 0) : ∃ (b : Bool) (M1 : tk_m), fN_hold t p q d m M = some (b, M1) ∧ (b = true ↔ ¬ lo_bad p.toInt q.toInt m.toInt) ∧ (∀ r, r ≠ t → r ≠ t + 1 → tk_row M M1 r) ∧ M1.1 = M.1 ∧ M1.2.2.2 = M.2.2.2 ∧ M1.2.2.1 t 0 = b ∧ (b = true → x_num (lo_val p.toInt q.toInt d m.toInt) t M1) := by
  have hm0 : m.toInt ≠ 0 := fun q => hm (lo_z.mpr q)
  have hl := lo_low (v0 := t + 1) (L := 3) (ld := 2) (m := (M.1, tk_u2 (tk_u2 (tk_u2 M.2.1 (t + 1) 0 p) (t + 1) 1 q) (t + 1) 2 m, M.2.2.1, M.2.2.2)) (f := lo_f3 p.toInt q.toInt m.toInt) ht (by decide) (by decide) (by
    intro k hk
    rcases (show k = 0 ∨ k = 1 ∨ k = 2 by omega) with rfl | rfl | rfl
    · simp [tk_u2, lo_f3]
    · simp [tk_u2, lo_f3]
    · simp [tk_u2, lo_f3]) hm0
  rw [show Int32.ofNat 2 = 2 from rfl, show lo_f3 p.toInt q.toInt m.toInt 2 = m.toInt from rfl, show lo_D (lo_g (lo_f3 p.toInt q.toInt m.toInt) 3) m.toInt = lo_D3 p.toInt q.toInt m.toInt from rfl] at hl
  unfold fN_hold
  rw [hl]
  by_cases hb : lo_bad p.toInt q.toInt m.toInt
  · have hb2 : lo_D3 p.toInt q.toInt m.toInt = -1 ∧ ∃ k, k < 3 ∧ lo_f3 p.toInt q.toInt m.toInt k = -9223372036854775808 := ⟨hb.1, lo_ex3.mpr hb.2⟩
    rw [if_pos hb2, Option.bind_some]
    dsimp only
    by_cases hq : tk_u2 (tk_u2 (tk_u2 M.2.1 (t + 1) 0 p) (t + 1) 1 q) (t + 1) 2 m (t + 1) 1 = 0
    · rw [if_pos hq]
      refine ⟨_, _, rfl, ⟨fun e => absurd e (by rw [tk_u2_eq]; decide), fun e => absurd hb e⟩, ?_, rfl, rfl, rfl, fun e => absurd e (by rw [tk_u2_eq]; decide)⟩
      intro r h1 h2
      exact ⟨rfl, by dsimp only; rw [tk_u2_ne h1, tk_u2_ne h2, tk_u2_ne h2, tk_u2_ne h2], by dsimp only; rw [tk_u2_ne h1], rfl⟩
    · rw [if_neg hq]
      refine ⟨_, _, rfl, ⟨fun e => absurd e (by rw [tk_u2_eq]; decide), fun e => absurd hb e⟩, ?_, rfl, rfl, rfl, fun e => absurd e (by rw [tk_u2_eq]; decide)⟩
      intro r h1 h2
      exact ⟨rfl, by dsimp only; rw [tk_u2_ne h1, tk_u2_ne h2, tk_u2_ne h2, tk_u2_ne h2], by dsimp only; rw [tk_u2_ne h1], rfl⟩
  · have hb2 : ¬ (lo_D3 p.toInt q.toInt m.toInt = -1 ∧ ∃ k, k < 3 ∧ lo_f3 p.toInt q.toInt m.toInt k = -9223372036854775808) := fun e => hb ⟨e.1, lo_ex3.mp e.2⟩
    rw [if_neg hb2, Option.bind_some]
    unfold lo_up
    dsimp only
    have hrow : ∀ (x : Int64) (r : Nat), r ≠ t → r ≠ t + 1 → tk_u2 (fun a b => if a = t + 1 ∧ b < 3 then Int64.ofInt (lo_f3 p.toInt q.toInt m.toInt b / lo_D3 p.toInt q.toInt m.toInt) else tk_u2 (tk_u2 (tk_u2 M.2.1 (t + 1) 0 p) (t + 1) 1 q) (t + 1) 2 m a b) t 2 x r = M.2.1 r := by
      intro x r h1 h2
      rw [tk_u2_ne h1]
      funext b
      rw [if_neg (fun e => h2 e.1), tk_u2_ne h2, tk_u2_ne h2, tk_u2_ne h2]
    have hov : q.toInt ≠ -9223372036854775808 ∨ lo_D3 p.toInt q.toInt m.toInt ≠ -1 := by
      by_cases e : q.toInt = -9223372036854775808
      · exact .inr (fun e2 => hb ⟨e2, .inr (.inl e)⟩)
      · exact .inl e
    have hqz : Int64.ofInt (q.toInt / lo_D3 p.toInt q.toInt m.toInt) = 0 ↔ q.toInt = 0 := by
      rw [lo_z, lo_i (lo_qr (lo_D3q _ _ _) (lo_rng q) hov), lo_qz (lo_D3n hm0) (lo_D3q _ _ _)]
    by_cases hq : q.toInt = 0
    · rw [if_pos (by rw [if_pos ⟨rfl, by decide⟩]; exact hqz.mpr hq)]
      refine ⟨_, _, rfl, ⟨fun _ => hb, fun _ => by rw [tk_u2_eq]⟩, fun r h1 h2 => ⟨rfl, hrow 0 r h1 h2, tk_u2_ne h1, rfl⟩, rfl, rfl, rfl, fun _ => ⟨?_, ?_, ?_, ?_⟩⟩
      · dsimp only; rw [tk_u2_ne (by omega), if_pos ⟨rfl, by decide⟩]; rfl
      · dsimp only; rw [tk_u2_ne (by omega), if_pos ⟨rfl, by decide⟩]; rfl
      · dsimp only; rw [tk_u2_ne (by omega), if_pos ⟨rfl, by decide⟩]; rfl
      · dsimp only; rw [tk_u2_eq]; unfold lo_val; dsimp only; rw [if_pos hq]
    · rw [if_neg (by rw [if_pos ⟨rfl, by decide⟩]; exact fun e => hq (hqz.mp e))]
      refine ⟨_, _, rfl, ⟨fun _ => hb, fun _ => by rw [tk_u2_eq]⟩, fun r h1 h2 => ⟨rfl, hrow d r h1 h2, tk_u2_ne h1, rfl⟩, rfl, rfl, rfl, fun _ => ⟨?_, ?_, ?_, ?_⟩⟩
      · dsimp only; rw [tk_u2_ne (by omega), if_pos ⟨rfl, by decide⟩]; rfl
      · dsimp only; rw [tk_u2_ne (by omega), if_pos ⟨rfl, by decide⟩]; rfl
      · dsimp only; rw [tk_u2_ne (by omega), if_pos ⟨rfl, by decide⟩]; rfl
      · dsimp only; rw [tk_u2_eq]; unfold lo_val; dsimp only; rw [if_neg hq]
theorem y_by {v g : Int64} {M : tk_m} (hg : g ≠ 0) : fM_by v g M = some (v / g, (M.1, M.2.1, tk_u2 M.2.2.1 295 4 (M.2.2.1 295 4 || decide (v.toInt = -9223372036854775808 ∧ g.toInt = -1)), M.2.2.2)) := by
  unfold fM_by
  by_cases h1 : v = -9223372036854775808
  · rw [if_pos h1]
    have e1 : v.toInt = -9223372036854775808 := by rw [h1]; rfl
    by_cases h2 : g = -1
    · have e2 : g.toInt = -1 := by rw [h2]; rfl
      rw [if_pos h2, if_neg hg, decide_eq_true ⟨e1, e2⟩]
    · have e2 : ¬ g.toInt = -1 := fun e => h2 (lo_ext e)
      rw [if_neg h2, if_neg hg, decide_eq_false (fun e => e2 e.2)]
  · have e1 : ¬ v.toInt = -9223372036854775808 := fun e => h1 (lo_ext e)
    rw [if_neg h1, if_neg hg, decide_eq_false (fun e => e1 e.1)]
/-- the reference: a number comes in lowest terms into row r -/
theorem y_lowest {r : Nat} (hr : tk_al r = 4) (p q d m : Int64) (M : tk_m) (hm : m ≠ 0) : ∃ (b : Bool) (L : Nat → Nat → Int64), fM_lowest p q d m r M = some (M.1, L, tk_u2 M.2.2.1 295 4 (M.2.2.1 295 4 || b), M.2.2.2) ∧ (b = true ↔ lo_bad p.toInt q.toInt m.toInt) ∧ (∀ j, j ≠ r → L j = M.2.1 j) ∧ (L r 0 = (lo_val p.toInt q.toInt d m.toInt).1 ∧ L r 1 = (lo_val p.toInt q.toInt d m.toInt).2.1 ∧ L r 2 = (lo_val p.toInt q.toInt d m.toInt).2.2.1 ∧ L r 3 = (lo_val p.toInt q.toInt d m.toInt).2.2.2) := by
  have hm0 : m.toInt ≠ 0 := fun q => hm (lo_z.mpr q)
  have hmr := lo_rng m
  have h0 : (0 : Int64).toInt = 0 := rfl
  have hg1 : lo_r (-(Int.gcd p.toInt q.toInt : Int)) := by
    have hp := lo_rng p
    have hq := lo_rng q
    by_cases hp0 : p.toInt = 0
    · rw [hp0, Int.gcd_zero_left]; constructor <;> omega
    · have := Nat.le_of_dvd (by omega) (Nat.gcd_dvd_left p.toInt.natAbs q.toInt.natAbs)
      unfold Int.gcd
      constructor <;> omega
  have hG : Int.gcd (-(Int.gcd p.toInt q.toInt : Int)) m.toInt = lo_g (lo_f3 p.toInt q.toInt m.toInt) 3 := by
    rw [lo_g3, Int.neg_gcd]; rfl
  have hDr := lo_D3r (p := p.toInt) (q := q.toInt) hm0 hmr
  have hD0 := lo_D3n (p := p.toInt) (q := q.toInt) hm0
  have hDi := lo_i hDr
  have hDz : Int64.ofInt (lo_D3 p.toInt q.toInt m.toInt) ≠ 0 := by intro e; rw [lo_z, hDi] at e; exact hD0 e
  have e24 : fM_lowest p q d m r M = fM_lowest_24 p q d m r (Int64.ofInt (lo_D3 p.toInt q.toInt m.toInt)) M := by
    unfold fM_lowest
    rw [lo_below, Option.bind_some, lo_below, Option.bind_some, lo_i hg1, hG]
    unfold lo_D3 lo_D
    by_cases hs : m.toInt < 0
    · rw [if_pos (by rw [Int64.le_iff_toInt_le, h0]; omega), if_pos hs]
    · rw [if_neg (by rw [Int64.le_iff_toInt_le, h0]; omega), if_neg hs, ← Int64.ofInt_neg, Int.neg_neg]
  rw [e24]
  unfold fM_lowest_24
  rw [hr]
  simp only [y_by hDz, Option.bind_some, if_pos (show tk_ok (0 : Int32) 4 by decide), if_pos (show tk_ok (1 : Int32) 4 by decide), if_pos (show tk_ok (2 : Int32) 4 by decide), if_pos (show tk_ok (3 : Int32) 4 by decide), tk_u2_eq, tk_u2_rw, hDi, show tk_n (0 : Int32) = 0 from rfl, show tk_n (1 : Int32) = 1 from rfl, show tk_n (2 : Int32) = 2 from rfl, show tk_n (3 : Int32) = 3 from rfl]
  have hdv : ∀ x : Int64, lo_D3 p.toInt q.toInt m.toInt ∣ x.toInt → x / Int64.ofInt (lo_D3 p.toInt q.toInt m.toInt) = Int64.ofInt (x.toInt / lo_D3 p.toInt q.toInt m.toInt) := fun x hx => by
    rw [lo_dvo, hDi, Int.tdiv_eq_ediv_of_dvd hx]
  rw [hdv p (lo_D3p _ _ _), hdv q (lo_D3q _ _ _), hdv m (lo_D3m _ _ _)]
  have hfl : ∀ (b0 b1 b2 b3 : Bool), (((b0 || b1) || b2) || b3) = (b0 || ((b1 || b2) || b3)) := by decide
  have hbb : (((decide (p.toInt = -9223372036854775808 ∧ lo_D3 p.toInt q.toInt m.toInt = -1) || decide (q.toInt = -9223372036854775808 ∧ lo_D3 p.toInt q.toInt m.toInt = -1)) || decide (m.toInt = -9223372036854775808 ∧ lo_D3 p.toInt q.toInt m.toInt = -1)) = true) ↔ lo_bad p.toInt q.toInt m.toInt := by
    unfold lo_bad
    simp only [Bool.or_eq_true, decide_eq_true_eq]
    grind
  by_cases hq : q = 0
  · have hq0 : q.toInt = 0 := lo_z.mp hq
    rw [if_pos hq]
    refine ⟨_, _, by rw [hfl], hbb, ?_, ?_, ?_, ?_, ?_⟩
    · intro j hj
      rw [tk_u2_ne hj, tk_u2_ne hj, tk_u2_ne hj, tk_u2_ne hj]
    · rw [tk_u2_nk (by decide), tk_u2_nk (by decide), tk_u2_nk (by decide), tk_u2_eq]; rfl
    · rw [tk_u2_nk (by decide), tk_u2_nk (by decide), tk_u2_eq]; rfl
    · rw [tk_u2_nk (by decide), tk_u2_eq]; unfold lo_val; dsimp only; rw [if_pos hq0]
    · rw [tk_u2_eq]; rfl
  · have hq0 : ¬ q.toInt = 0 := fun e => hq (lo_z.mpr e)
    rw [if_neg hq]
    refine ⟨_, _, by rw [hfl], hbb, ?_, ?_, ?_, ?_, ?_⟩
    · intro j hj
      rw [tk_u2_ne hj, tk_u2_ne hj, tk_u2_ne hj, tk_u2_ne hj]
    · rw [tk_u2_nk (by decide), tk_u2_nk (by decide), tk_u2_nk (by decide), tk_u2_eq]; rfl
    · rw [tk_u2_nk (by decide), tk_u2_nk (by decide), tk_u2_eq]; rfl
    · rw [tk_u2_nk (by decide), tk_u2_eq]; unfold lo_val; dsimp only; rw [if_neg hq0]
    · rw [tk_u2_eq]; rfl
