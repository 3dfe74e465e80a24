/-! ===== invert: the reference's divisor ===== -/
theorem iv_gle {G : Nat} (hG : G ≤ 9223372036854775808) (b : Int64) : Nat.gcd G b.toInt.natAbs ≤ 9223372036854775808 := by
  have hb := lo_rng b
  by_cases c : G = 0
  · rw [c, Nat.gcd_zero_left]; omega
  · have := Nat.le_of_dvd (by omega) (Nat.gcd_dvd_left G b.toInt.natAbs)
    omega
theorem iv_7 {m : tk_m} (n : Nat) (v3 c c' : Int32) (i : Nat) (hc : ¬ c < 0) (ho : tk_ok c 4) (hn : tk_n c = i) (hc' : c + (-1 : Int32) = c') {G : Nat} (hG : G ≤ 9223372036854775808) : fM_laysLowest_7 (n + 1) (Int64.ofInt (-(G : Int))) v3 c m = fM_laysLowest_7 n (Int64.ofInt (-((Nat.gcd G (m.2.1 449 i).toInt.natAbs : Nat) : Int))) (if m.2.1 449 i = 0 then v3 else c) c' m := by
  have e : fM_below (Int64.ofInt (-(G : Int))) (m.2.1 449 i) = some (Int64.ofInt (-((Nat.gcd G (m.2.1 449 i).toInt.natAbs : Nat) : Int))) := by
    rw [lo_below, lo_i ⟨by omega, by omega⟩]
    unfold Int.gcd
    rw [Int.natAbs_neg, Int.natAbs_natCast]
  conv => lhs; unfold fM_laysLowest_7
  rw [if_neg hc, if_pos ho, hn, e, Option.bind_some, hc']
  by_cases q : m.2.1 449 i = 0
  · rw [if_pos q, if_pos q]
  · rw [if_neg q, if_neg q]
theorem iv_low {m : tk_m} (h : iv_z (m.2.1 449) = false) : fM_laysLowest m = fM_laysLowest_49 (Int64.ofInt (-(lo_g (fun k => (m.2.1 449 k).toInt) 4 : Int))) (Int32.ofNat (iv_ld (m.2.1 449))) m := by
  have e5 : ∀ (n : Nat) (v : Int64) (c : Int32), fM_laysLowest_7 (n + 1) v c (-1) m = fM_laysLowest_49 v c m := fun n v c => by
    conv => lhs; unfold fM_laysLowest_7
    rw [if_pos (by decide)]
  have hg : Nat.gcd (Nat.gcd (Nat.gcd (Nat.gcd 0 (m.2.1 449 3).toInt.natAbs) (m.2.1 449 2).toInt.natAbs) (m.2.1 449 1).toInt.natAbs) (m.2.1 449 0).toInt.natAbs = lo_g (fun k => (m.2.1 449 k).toInt) 4 := by
    show _ = Nat.gcd (Nat.gcd (Nat.gcd (Nat.gcd 0 (m.2.1 449 0).toInt.natAbs) (m.2.1 449 1).toInt.natAbs) (m.2.1 449 2).toInt.natAbs) (m.2.1 449 3).toInt.natAbs
    rw [Nat.gcd_zero_left, Nat.gcd_zero_left]
    generalize (m.2.1 449 0).toInt.natAbs = a
    generalize (m.2.1 449 1).toInt.natAbs = b
    generalize (m.2.1 449 2).toInt.natAbs = c
    generalize (m.2.1 449 3).toInt.natAbs = d
    rw [Nat.gcd_comm _ a, Nat.gcd_comm _ b, Nat.gcd_comm d c, ← Nat.gcd_assoc, ← Nat.gcd_assoc]
  have g0 : (0 : Nat) ≤ 9223372036854775808 := by decide
  unfold fM_laysLowest
  rw [iv_F, show (0 : Int64) = Int64.ofInt (-((0 : Nat) : Int)) from rfl, iv_7 _ _ 3 2 3 (by decide) (by decide) rfl (by decide) g0, iv_7 _ _ 2 1 2 (by decide) (by decide) rfl (by decide) (iv_gle g0 _), iv_7 _ _ 1 0 1 (by decide) (by decide) rfl (by decide) (iv_gle (iv_gle g0 _) _), iv_7 _ _ 0 (-1) 0 (by decide) (by decide) rfl (by decide) (iv_gle (iv_gle (iv_gle g0 _) _) _), e5, hg]
  refine congrArg (fun c => fM_laysLowest_49 _ c m) ?_
  unfold iv_z at h
  unfold iv_ld
  by_cases c0 : m.2.1 449 0 = 0
  · rw [if_pos c0, if_pos c0]
    by_cases c1 : m.2.1 449 1 = 0
    · rw [if_pos c1, if_pos c1]
      by_cases c2 : m.2.1 449 2 = 0
      · rw [if_pos c2, if_pos c2]
        by_cases c3 : m.2.1 449 3 = 0
        · simp [c0, c1, c2, c3] at h
        · rw [if_neg c3]; rfl
      · rw [if_neg c2, if_neg c2]; rfl
    · rw [if_neg c1, if_neg c1]; rfl
  · rw [if_neg c0, if_neg c0]; rfl
