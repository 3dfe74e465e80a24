/-! ===== invert: the reference's lowest terms ===== -/
theorem iv_71s {m : tk_m} (n i : Nat) (hi : i < 4) {v : Int64} (hv : v ≠ 0) (L : Nat → Nat → Int64) (B : Bool) : fM_laysLowest_71 (n + 1) v (Int32.ofNat i) (ov_Y m L B) = fM_laysLowest_71 n v (Int32.ofNat (i + 1)) (ov_Y m (tk_u2 L 449 i (L 449 i / v)) (B || decide ((L 449 i).toInt = -9223372036854775808 ∧ v.toInt = -1))) := by
  conv => lhs; unfold fM_laysLowest_71
  rw [if_neg (show ¬ (4 : Int32) ≤ Int32.ofNat i from iv_n4 hi), if_pos (i_ok hi (by omega)), i_nn (show i < 2147483648 by omega), y_by hv, Option.bind_some, show Int32.ofNat i + 1 = Int32.ofNat (i + 1) from i_add i 1, ov_Y274]
  refine congrArg (fun c => fM_laysLowest_71 n v (Int32.ofNat (i + 1)) c) ?_
  unfold ov_Y
  dsimp only
  rw [tk_u2_rw]
theorem iv_71 {m : tk_m} {v : Int64} (hv : v ≠ 0) (L : Nat → Nat → Int64) (B : Bool) : fM_laysLowest_71 tk_F v 0 (ov_Y m L B) = some (ov_Y m (iv_L L 449 (fun i => L 449 i / v)) (B || decide ((L 449 0).toInt = -9223372036854775808 ∧ v.toInt = -1) || decide ((L 449 1).toInt = -9223372036854775808 ∧ v.toInt = -1) || decide ((L 449 2).toInt = -9223372036854775808 ∧ v.toInt = -1) || decide ((L 449 3).toInt = -9223372036854775808 ∧ v.toInt = -1))) := by
  have e4 : ∀ (n : Nat) (M : tk_m), fM_laysLowest_71 (n + 1) v (Int32.ofNat (0 + 1 + 1 + 1 + 1)) M = some M := fun n M => by
    conv => lhs; unfold fM_laysLowest_71
    rw [if_pos (by decide)]
  rw [show (0 : Int32) = Int32.ofNat 0 from rfl, iv_F, iv_71s _ 0 (by decide) hv, iv_71s _ (0 + 1) (by decide) hv, iv_71s _ (0 + 1 + 1) (by decide) hv, iv_71s _ (0 + 1 + 1 + 1) (by decide) hv, e4]
  have n1 : ∀ (L : Nat → Nat → Int64) (a b : Nat) (x : Int64), b ≠ a → tk_u2 L 449 a x 449 b = L 449 b := fun L a b x h => tk_u2_nk h
  rw [n1 _ 0 (0 + 1) _ (by decide), n1 _ (0 + 1) (0 + 1 + 1) _ (by decide), n1 _ 0 (0 + 1 + 1) _ (by decide), n1 _ (0 + 1 + 1) (0 + 1 + 1 + 1) _ (by decide), n1 _ (0 + 1) (0 + 1 + 1 + 1) _ (by decide), n1 _ 0 (0 + 1 + 1 + 1) _ (by decide)]
  rfl
