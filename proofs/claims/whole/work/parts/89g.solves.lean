/-! ===== the reference: where line and cone meet ===== -/
/-- what solving leaves alone -/
def w_F (m m' : tk_m) : Prop := (∀ r, (r < 295 ∨ (295 < r ∧ r < 351) ∨ (431 < r ∧ r < 440) ∨ 441 < r) → m'.2.1 r = m.2.1 r) ∧ (∀ r k, (r < 308 ∨ 349 < r) → ¬ (r = 295 ∧ (k = 9 ∨ k = 10)) → m'.1 r k = m.1 r k) ∧ (∀ r, r ≠ 295 → m'.2.2.1 r = m.2.2.1 r) ∧ m'.2.2.2 = m.2.2.2
theorem w_rf (m : tk_m) : w_F m m := ⟨fun _ _ => rfl, fun _ _ _ _ => rfl, fun _ _ => rfl, rfl⟩
theorem w_tr {m m1 m2 : tk_m} (h : w_F m m1) (h2 : w_F m1 m2) : w_F m m2 := ⟨fun r hr => (h2.1 r hr).trans (h.1 r hr), fun r k a b => (h2.2.1 r k a b).trans (h.2.1 r k a b), fun r hr => (h2.2.2.1 r hr).trans (h.2.2.1 r hr), h2.2.2.2.trans h.2.2.2⟩
theorem w_z {m m' : tk_m} (h : z_F m m') : w_F m m' := ⟨fun r hr => h.1 r (by omega), h.2.1, h.2.2.1, h.2.2.2⟩
theorem y_Fd_l {F : an_F} {m : tk_m} {L : Nat → Nat → Int64} (hl : F.2.length ≤ 16) (h : y_Fd F m) (q : ∀ r, 351 ≤ r → r ≤ 431 → L r = m.2.1 r) : y_Fd F (m.1, L, m.2.2.1, m.2.2.2) := by
  obtain ⟨h1, h2, h3⟩ := h
  refine ⟨h1, h2, fun k c hk => ⟨(h3 k c hk).1, y_W_k (h3 k c hk).2 (q _ (by omega) ?_) (fun i hi => q _ (by omega) ?_)⟩⟩
  · have := (List.getElem?_eq_some_iff.mp hk).1
    omega
  · have := (List.getElem?_eq_some_iff.mp hk).1
    omega
/-- whole parts, rooted parts, what all is divided by -/
def an_r2 (n q : an_V) (M : Int) : Nat → Int := fun j => if j < 3 then n j else if j < 6 then q (j - 3) else M
theorem r2_lo {n q : an_V} {M : Int} {j : Nat} (h : j < 3) : an_r2 n q M j = n j := by unfold an_r2; rw [if_pos h]
theorem r2_hi {n q : an_V} {M : Int} {j : Nat} (h : j < 3) : an_r2 n q M (3 + j) = q j := by
  unfold an_r2
  rw [if_neg (by omega), if_pos (by omega), show 3 + j - 3 = j by omega]
theorem r2_6 {n q : an_V} {M : Int} : an_r2 n q M 6 = M := rfl
theorem an_sm3 {f g : Nat → Int} {c d : Int} (hc : c ≠ 0) (hd : d ≠ 0) (h : ∀ k, k < 7 → c * f k = d * g k) (h1 : ∀ k, k < 7 → an_bd (d * g k) 1000000000000000000) (h2 : an_small g) : an_small f ∧ an_lw f = an_lw g := by
  have f6 : f 6 ≠ 0 := fun z => by
    have := h 6 (by decide)
    rw [z, Int.mul_zero] at this
    exact h2.1.1 ((Int.mul_eq_zero.mp this.symm).resolve_left hd)
  have e : an_lw f = an_lw g := by
    rw [← an_lw_mul hc f6, ← an_lw_mul hd h2.1.1]
    exact an_lw_ext h
  refine ⟨⟨⟨f6, fun k hk => an_ab (h k hk).symm hc (h1 k hk)⟩, ?_⟩, e⟩
  rw [e]
  exact h2.2
section
variable {m : tk_m} {g : Int32}
theorem y_s9 (a b c d : Int64) (v10 : Int32) (n k : Nat) (hk : k < 3) : fM_solves_9 (n + 1) g a b c d v10 (Int32.ofNat k) m = fM_solves_9 n g a b c d v10 (Int32.ofNat (k + 1)) (m.1, tk_u2 m.2.1 441 k 0, m.2.2.1, m.2.2.2) := by
  conv => lhs; unfold fM_solves_9
  rw [if_neg (an_n3 hk), if_pos (i_ok hk (by omega)), i_nn (show k < 2147483648 by omega), show Int32.ofNat k + 1 = Int32.ofNat (k + 1) from i_add k 1]
theorem y_s (a b c d : Int64) : ∃ m1, fM_solves g a b c d m = fM_solves_29 g a b c d (m.1 295 10) m1 ∧ v_fr 441 m m1 ∧ an_at m1 441 (fun _ => 0) := by
  have e4 : ∀ (n : Nat) (M : tk_m) (v : Int32), fM_solves_9 (n + 1) g a b c d v (Int32.ofNat (0 + 1 + 1 + 1)) M = fM_solves_29 g a b c d v M := fun n M v => by
    unfold fM_solves_9
    rw [if_pos (by decide)]
  unfold fM_solves
  rw [show (0 : Int32) = Int32.ofNat 0 from rfl, iv_F, y_s9 a b c d _ _ 0 (by decide), y_s9 a b c d _ _ (0 + 1) (by decide), y_s9 a b c d _ _ (0 + 1 + 1) (by decide), e4]
  refine ⟨_, rfl, ⟨rfl, rfl, fun r hr => ?_, fun k hk => ?_⟩, an_3 ?_ ?_ ?_⟩
  · dsimp only; rw [tk_u2_ne hr, tk_u2_ne hr, tk_u2_ne hr]
  · dsimp only; rw [tk_u2_nk (by omega), tk_u2_nk (by omega), tk_u2_nk (by omega)]
  · dsimp only; rw [tk_u2_nk (by decide), tk_u2_nk (by decide), tk_u2_eq]; rfl
  · dsimp only; rw [tk_u2_nk (by decide), tk_u2_eq]; rfl
  · dsimp only; rw [tk_u2_eq]; rfl
theorem y_s38 (b c d : Int64) (n k : Nat) (hk : k < 3) : fM_solves_38 (n + 1) g b c d (Int32.ofNat k) m = fM_solves_38 n g b c d (Int32.ofNat (k + 1)) (m.1, tk_u2 m.2.1 440 k (b * m.2.1 437 k - c * m.2.1 436 k), m.2.2.1, m.2.2.2) := by
  conv => lhs; unfold fM_solves_38
  rw [if_neg (an_n3 hk), if_pos (i_ok hk (by omega)), i_nn (show k < 2147483648 by omega), show Int32.ofNat k + 1 = Int32.ofNat (k + 1) from i_add k 1]
theorem y_38 {w Fv : an_V} {B C U : Int} (h5 : an_at m 436 w) (h6 : an_at m 437 Fv) : ∃ m1, fM_solves_38 tk_F g (Int64.ofInt B) (Int64.ofInt C) (Int64.ofInt U) 0 m = fM_takes g 0 (Int64.ofInt (B * U)) m1 ∧ v_fr 440 m m1 ∧ an_at m1 440 (fun k => B * Fv k - C * w k) := by
  have e4 : ∀ (n : Nat) (M : tk_m), fM_solves_38 (n + 1) g (Int64.ofInt B) (Int64.ofInt C) (Int64.ofInt U) (Int32.ofNat (0 + 1 + 1 + 1)) M = fM_takes g 0 (Int64.ofInt (B * U)) M := fun n M => by
    unfold fM_solves_38 fM_solves_78
    rw [if_pos (by decide), o_mul]
    cases fM_takes g 0 (Int64.ofInt (B * U)) M <;> rfl
  rw [show (0 : Int32) = Int32.ofNat 0 from rfl, iv_F, y_s38 _ _ _ _ 0 (by decide), y_s38 _ _ _ _ (0 + 1) (by decide), y_s38 _ _ _ _ (0 + 1 + 1) (by decide), e4]
  refine ⟨_, rfl, ⟨rfl, rfl, fun r hr => ?_, fun k hk => ?_⟩, an_3 ?_ ?_ ?_⟩
  · dsimp only; rw [tk_u2_ne hr, tk_u2_ne hr, tk_u2_ne hr]
  · dsimp only; rw [tk_u2_nk (by omega), tk_u2_nk (by omega), tk_u2_nk (by omega)]
  · dsimp only
    rw [tk_u2_nk (by decide), tk_u2_nk (by decide), tk_u2_eq, h5 0 (by decide), h6 0 (by decide), o_mul, o_mul, o_sub]
  · dsimp only
    rw [tk_u2_nk (by decide), tk_u2_eq, tk_u2_ne (by decide), tk_u2_ne (by decide), h5 1 (by decide), h6 1 (by decide), o_mul, o_mul, o_sub]
  · dsimp only
    rw [tk_u2_eq, tk_u2_ne (by decide), tk_u2_ne (by decide), tk_u2_ne (by decide), tk_u2_ne (by decide), h5 2 (by decide), h6 2 (by decide), o_mul, o_mul, o_sub]
/-! both sides, one after the other -/
/-- what is added to the whole part, and the rooted part, on side e -/
def ps_p (z : Bool) (d : Nat) (e s : Int) : Int := if z = true then 0 else if d = 1 then e * s else 0
def ps_q (z : Bool) (d : Nat) (e s : Int) : Int := if z = true then 0 else if d = 1 then 0 else e * s
def ps_d (z : Bool) (d : Nat) : Int64 := if z = true then 0 else if d = 1 then 0 else rt_o d
theorem y_150 {w Fv : an_V} {A B : Int} {s d : Nat} {e : Int} {z : Bool} {R : Int64} (hR : R = 0 ↔ z = true) (h5 : an_at m 436 w) (h6 : an_at m 437 Fv) (he : e = 1 ∨ e = -1) (hs : z = false → m.2.1 295 5 = rt_o s ∧ m.2.1 295 6 = rt_o d ∧ d < 9223372036854775808) (r : Int32 → Int64 → Int64 → Int64 → Int32 → Int64 → Int32 → tk_m → Option tk_m) (U : Int64) (v10 : Int32) (n k : Nat) (hk : k < 3) : fM_solves_150 r (n + 1) g (Int64.ofInt A) (Int64.ofInt B) U v10 R (Int32.ofInt e) (Int32.ofNat k) m = fM_solves_150 r n g (Int64.ofInt A) (Int64.ofInt B) U v10 R (Int32.ofInt e) (Int32.ofNat (k + 1)) (m.1, tk_u2 (tk_u2 m.2.1 440 k (Int64.ofInt (2 * A * Fv k - B * w k + ps_p z d e s * w k))) 441 k (Int64.ofInt (ps_q z d e s * w k)), m.2.2.1, m.2.2.2) := by
  have ee : Int32.toInt64 (Int32.ofInt e) = Int64.ofInt e := by rcases he with rfl | rfl <;> decide
  have kk := i_nn (show k < 2147483648 by omega)
  have k1 : Int32.ofNat k + 1 = Int32.ofNat (k + 1) := i_add k 1
  have base : ((2 : Int64) * Int64.ofInt A) * m.2.1 437 k - Int64.ofInt B * m.2.1 436 k = Int64.ofInt (2 * A * Fv k - B * w k) := by rw [h5 k hk, h6 k hk, o_two, o_mul, o_mul, o_mul, o_sub]
  have r6 : ∀ (i : Nat) (v : Int64), tk_u2 m.2.1 440 i v 295 6 = m.2.1 295 6 := fun i v => congrFun (tk_u2_ne (by decide)) 6
  conv => lhs; unfold fM_solves_150
  rw [if_neg (an_n3 hk)]
  cases z with
  | true =>
    have hR0 := hR.mpr rfl
    unfold fM_solves_183 fM_solves_230 ps_p ps_q
    rw [if_pos hR0, if_pos (i_ok hk (by omega)), if_pos (i_ok hk (by omega)), if_pos hR0, if_pos (i_ok hk (by omega)), kk, base, k1, if_pos rfl, if_pos rfl, Int.zero_mul, Int.add_zero]
    have e0 : Int64.ofInt (2 * A * Fv k - B * w k) + 0 = Int64.ofInt (2 * A * Fv k - B * w k) := by
      show _ + Int64.ofInt 0 = _
      rw [o_add, Int.add_zero]
    rw [e0]
    split <;> rfl
  | false =>
    have hR0 : ¬ R = 0 := fun y => Bool.noConfusion (hR.mp y)
    obtain ⟨q1, q2, q3⟩ := hs rfl
    have es : rt_o s = Int64.ofInt (s : Int) := by
      show Int64.ofNat s = Int64.ofInt (s : Int)
      rw [Int64.ofInt_eq_ofNat]
    have em : (Int64.ofInt e * m.2.1 436 k) * m.2.1 295 5 = Int64.ofInt (e * s * w k) := by
      rw [h5 k hk, q1, es, o_mul, o_mul]
      refine congrArg Int64.ofInt ?_
      grind
    have hd1 : (m.2.1 295 6 = 1) ↔ d = 1 := by
      rw [q2, show (1 : Int64) = rt_o 1 from rfl]
      exact rt_eq q3 (by decide)
    unfold fM_solves_183 fM_solves_230 ps_p ps_q
    rw [if_neg hR0, if_pos (i_ok hk (by omega)), if_pos (i_ok hk (by omega))]
    by_cases c : d = 1
    · rw [if_pos (hd1.mpr c), if_pos (i_ok hk (by omega)), if_neg hR0, r6, if_pos (hd1.mpr c), if_pos (i_ok hk (by omega)), kk, ee, em, base, k1, if_neg (fun y => Bool.noConfusion y), if_neg (fun y => Bool.noConfusion y), if_pos c, if_pos c, o_add, Int.zero_mul]
      rfl
    · rw [if_neg (fun y => c (hd1.mp y)), if_pos (i_ok hk (by omega)), if_neg hR0, r6, if_neg (fun y => c (hd1.mp y)), if_pos (i_ok hk (by omega)), kk, ee, em, base, k1, if_neg (fun y => Bool.noConfusion y), if_neg (fun y => Bool.noConfusion y), if_neg c, if_neg c, Int.zero_mul, Int.add_zero]
      have e0 : Int64.ofInt (2 * A * Fv k - B * w k) + 0 = Int64.ofInt (2 * A * Fv k - B * w k) := by
        show _ + Int64.ofInt 0 = _
        rw [o_add, Int.add_zero]
      rw [e0]
/-- one side taken -/
theorem y_pass {w Fv : an_V} {A B U : Int} {s d : Nat} {e : Int} {z : Bool} {R : Int64} {F : an_F} (hR : R = 0 ↔ z = true) (h5 : an_at m 436 w) (h6 : an_at m 437 Fv) (he : e = 1 ∨ e = -1) (hs : z = false → m.2.1 295 5 = rt_o s ∧ m.2.1 295 6 = rt_o d ∧ d < 9223372036854775808) (r : Int32 → Int64 → Int64 → Int64 → Int32 → Int64 → Int32 → tk_m → Option tk_m) (v10 : Int32) (hF : y_Fd F m) (hl : F.2.length < 16) (hsm : an_small (an_r2 (fun k => 2 * A * Fv k - B * w k + ps_p z d e s * w k) (fun k => ps_q z d e s * w k) (2 * A * U))) (hc : an_cok (g, an_lw (an_r2 (fun k => 2 * A * Fv k - B * w k + ps_p z d e s * w k) (fun k => ps_q z d e s * w k) (2 * A * U)), ps_d z d)) : ∃ m1, fM_solves_150 r tk_F g (Int64.ofInt A) (Int64.ofInt B) (Int64.ofInt U) v10 R (Int32.ofInt e) 0 m = r g (Int64.ofInt A) (Int64.ofInt B) (Int64.ofInt U) v10 R (Int32.ofInt e + 2) m1 ∧ w_F m m1 ∧ m1.2.1 295 = m.2.1 295 ∧ y_Fd (F.1, F.2 ++ [((g, an_lw (an_r2 (fun k => 2 * A * Fv k - B * w k + ps_p z d e s * w k) (fun k => ps_q z d e s * w k) (2 * A * U)), ps_d z d) : an_c)].filter an_rad) m1 := by
  have step := fun (M : tk_m) (h5 : an_at M 436 w) (h6 : an_at M 437 Fv) (hs : z = false → M.2.1 295 5 = rt_o s ∧ M.2.1 295 6 = rt_o d ∧ d < 9223372036854775808) => y_150 (m := M) (g := g) (A := A) (B := B) hR h5 h6 he hs r (Int64.ofInt U) v10
  have keep : ∀ (L : Nat → Nat → Int64) (k : Nat) (x y : Int64) (q : Nat), q ≠ 440 → q ≠ 441 → tk_u2 (tk_u2 L 440 k x) 441 k y q = L q := fun L k x y q q1 q2 => by rw [tk_u2_ne q2, tk_u2_ne q1]
  rw [show (0 : Int32) = Int32.ofNat 0 from rfl, iv_F, step m h5 h6 hs _ 0 (by decide)]
  have f1 : ∀ q, q ≠ 440 → q ≠ 441 → tk_u2 (tk_u2 m.2.1 440 0 (Int64.ofInt (2 * A * Fv 0 - B * w 0 + ps_p z d e s * w 0))) 441 0 (Int64.ofInt (ps_q z d e s * w 0)) q = m.2.1 q := fun q q1 q2 => keep _ _ _ _ q q1 q2
  have v1 : tk_u2 (tk_u2 m.2.1 440 0 (Int64.ofInt (2 * A * Fv 0 - B * w 0 + ps_p z d e s * w 0))) 441 0 (Int64.ofInt (ps_q z d e s * w 0)) 440 0 = Int64.ofInt (2 * A * Fv 0 - B * w 0 + ps_p z d e s * w 0) ∧ tk_u2 (tk_u2 m.2.1 440 0 (Int64.ofInt (2 * A * Fv 0 - B * w 0 + ps_p z d e s * w 0))) 441 0 (Int64.ofInt (ps_q z d e s * w 0)) 441 0 = Int64.ofInt (ps_q z d e s * w 0) := ⟨by rw [tk_u2_ne (by decide), tk_u2_eq], tk_u2_eq⟩
  generalize tk_u2 (tk_u2 m.2.1 440 0 (Int64.ofInt (2 * A * Fv 0 - B * w 0 + ps_p z d e s * w 0))) 441 0 (Int64.ofInt (ps_q z d e s * w 0)) = L1 at *
  rw [step (m.1, L1, m.2.2.1, m.2.2.2) (fun k hk => by show L1 436 k = _; rw [f1 436 (by decide) (by decide)]; exact h5 k hk) (fun k hk => by show L1 437 k = _; rw [f1 437 (by decide) (by decide)]; exact h6 k hk) (fun hz => by show L1 295 5 = _ ∧ L1 295 6 = _ ∧ _; rw [f1 295 (by decide) (by decide)]; exact hs hz) _ (0 + 1) (by decide)]
  dsimp only
  have f2 : ∀ q, q ≠ 440 → q ≠ 441 → tk_u2 (tk_u2 L1 440 (0 + 1) (Int64.ofInt (2 * A * Fv (0 + 1) - B * w (0 + 1) + ps_p z d e s * w (0 + 1)))) 441 (0 + 1) (Int64.ofInt (ps_q z d e s * w (0 + 1))) q = m.2.1 q := fun q q1 q2 => (keep _ _ _ _ q q1 q2).trans (f1 q q1 q2)
  have v2 : tk_u2 (tk_u2 L1 440 (0 + 1) (Int64.ofInt (2 * A * Fv (0 + 1) - B * w (0 + 1) + ps_p z d e s * w (0 + 1)))) 441 (0 + 1) (Int64.ofInt (ps_q z d e s * w (0 + 1))) 440 1 = Int64.ofInt (2 * A * Fv 1 - B * w 1 + ps_p z d e s * w 1) ∧ tk_u2 (tk_u2 L1 440 (0 + 1) (Int64.ofInt (2 * A * Fv (0 + 1) - B * w (0 + 1) + ps_p z d e s * w (0 + 1)))) 441 (0 + 1) (Int64.ofInt (ps_q z d e s * w (0 + 1))) 441 1 = Int64.ofInt (ps_q z d e s * w 1) ∧ tk_u2 (tk_u2 L1 440 (0 + 1) (Int64.ofInt (2 * A * Fv (0 + 1) - B * w (0 + 1) + ps_p z d e s * w (0 + 1)))) 441 (0 + 1) (Int64.ofInt (ps_q z d e s * w (0 + 1))) 440 0 = L1 440 0 ∧ tk_u2 (tk_u2 L1 440 (0 + 1) (Int64.ofInt (2 * A * Fv (0 + 1) - B * w (0 + 1) + ps_p z d e s * w (0 + 1)))) 441 (0 + 1) (Int64.ofInt (ps_q z d e s * w (0 + 1))) 441 0 = L1 441 0 := ⟨by rw [tk_u2_ne (by decide)]; exact tk_u2_eq, tk_u2_eq, by rw [tk_u2_ne (by decide), tk_u2_nk (by decide)], by rw [tk_u2_nk (by decide), tk_u2_ne (by decide)]⟩
  generalize tk_u2 (tk_u2 L1 440 (0 + 1) (Int64.ofInt (2 * A * Fv (0 + 1) - B * w (0 + 1) + ps_p z d e s * w (0 + 1)))) 441 (0 + 1) (Int64.ofInt (ps_q z d e s * w (0 + 1))) = L2 at *
  rw [step (m.1, L2, m.2.2.1, m.2.2.2) (fun k hk => by show L2 436 k = _; rw [f2 436 (by decide) (by decide)]; exact h5 k hk) (fun k hk => by show L2 437 k = _; rw [f2 437 (by decide) (by decide)]; exact h6 k hk) (fun hz => by show L2 295 5 = _ ∧ L2 295 6 = _ ∧ _; rw [f2 295 (by decide) (by decide)]; exact hs hz) _ (0 + 1 + 1) (by decide)]
  dsimp only
  have f3 : ∀ q, q ≠ 440 → q ≠ 441 → tk_u2 (tk_u2 L2 440 (0 + 1 + 1) (Int64.ofInt (2 * A * Fv (0 + 1 + 1) - B * w (0 + 1 + 1) + ps_p z d e s * w (0 + 1 + 1)))) 441 (0 + 1 + 1) (Int64.ofInt (ps_q z d e s * w (0 + 1 + 1))) q = m.2.1 q := fun q q1 q2 => (keep _ _ _ _ q q1 q2).trans (f2 q q1 q2)
  have v3 : tk_u2 (tk_u2 L2 440 (0 + 1 + 1) (Int64.ofInt (2 * A * Fv (0 + 1 + 1) - B * w (0 + 1 + 1) + ps_p z d e s * w (0 + 1 + 1)))) 441 (0 + 1 + 1) (Int64.ofInt (ps_q z d e s * w (0 + 1 + 1))) 440 2 = Int64.ofInt (2 * A * Fv 2 - B * w 2 + ps_p z d e s * w 2) ∧ tk_u2 (tk_u2 L2 440 (0 + 1 + 1) (Int64.ofInt (2 * A * Fv (0 + 1 + 1) - B * w (0 + 1 + 1) + ps_p z d e s * w (0 + 1 + 1)))) 441 (0 + 1 + 1) (Int64.ofInt (ps_q z d e s * w (0 + 1 + 1))) 441 2 = Int64.ofInt (ps_q z d e s * w 2) ∧ (∀ k, k < 2 → tk_u2 (tk_u2 L2 440 (0 + 1 + 1) (Int64.ofInt (2 * A * Fv (0 + 1 + 1) - B * w (0 + 1 + 1) + ps_p z d e s * w (0 + 1 + 1)))) 441 (0 + 1 + 1) (Int64.ofInt (ps_q z d e s * w (0 + 1 + 1))) 440 k = L2 440 k) ∧ ∀ k, k < 2 → tk_u2 (tk_u2 L2 440 (0 + 1 + 1) (Int64.ofInt (2 * A * Fv (0 + 1 + 1) - B * w (0 + 1 + 1) + ps_p z d e s * w (0 + 1 + 1)))) 441 (0 + 1 + 1) (Int64.ofInt (ps_q z d e s * w (0 + 1 + 1))) 441 k = L2 441 k := ⟨by rw [tk_u2_ne (by decide)]; exact tk_u2_eq, tk_u2_eq, fun k hk => by rw [tk_u2_ne (by decide), tk_u2_nk (by omega)], fun k hk => by rw [tk_u2_nk (by omega), tk_u2_ne (by decide)]⟩
  generalize tk_u2 (tk_u2 L2 440 (0 + 1 + 1) (Int64.ofInt (2 * A * Fv (0 + 1 + 1) - B * w (0 + 1 + 1) + ps_p z d e s * w (0 + 1 + 1)))) 441 (0 + 1 + 1) (Int64.ofInt (ps_q z d e s * w (0 + 1 + 1))) = L3 at *
  have hn : ∀ i, i < 3 → ((m.1, L3, m.2.2.1, m.2.2.2) : tk_m).2.1 440 i = Int64.ofInt (an_r2 (fun k => 2 * A * Fv k - B * w k + ps_p z d e s * w k) (fun k => ps_q z d e s * w k) (2 * A * U) i) ∧ ((m.1, L3, m.2.2.1, m.2.2.2) : tk_m).2.1 441 i = Int64.ofInt (an_r2 (fun k => 2 * A * Fv k - B * w k + ps_p z d e s * w k) (fun k => ps_q z d e s * w k) (2 * A * U) (3 + i)) := by
    intro i hi
    rw [r2_lo hi, r2_hi hi]
    dsimp only
    rcases (show i = 0 ∨ i = 1 ∨ i = 2 by omega) with rfl | rfl | rfl
    · exact ⟨(v3.2.2.1 0 (by decide)).trans (v2.2.2.1.trans v1.1), (v3.2.2.2 0 (by decide)).trans (v2.2.2.2.trans v1.2)⟩
    · exact ⟨(v3.2.2.1 1 (by decide)).trans v2.1, (v3.2.2.2 1 (by decide)).trans v2.2.1⟩
    · exact ⟨v3.1, v3.2.1⟩
  have hF3 : y_Fd F (m.1, L3, m.2.2.1, m.2.2.2) := y_Fd_l (by omega) hF (fun r r1 r2 => f3 r (by omega) (by omega))
  obtain ⟨m1, t1, t2, t3⟩ := y_takes (g := g) (d := ps_d z d) hn hsm hF3 hl hc
  rw [r2_6] at t1
  have eU : ((2 : Int64) * Int64.ofInt A) * Int64.ofInt U = Int64.ofInt (2 * A * U) := by rw [o_two, o_mul, o_mul]
  refine ⟨m1, ?_, w_tr (m1 := (m.1, L3, m.2.2.1, m.2.2.2)) ⟨fun r hr => f3 r (by omega) (by omega), fun _ _ _ _ => rfl, fun _ _ => rfl, rfl⟩ (w_z t3), (t3.1 295 (by decide)).trans (f3 295 (by decide) (by decide)), t2⟩
  unfold fM_solves_150
  rw [if_pos (by decide)]
  unfold fM_solves_267
  rw [eU]
  cases z with
  | true =>
    rw [if_pos (hR.mpr rfl)]
    have t1' : fM_takes g 0 (Int64.ofInt (2 * A * U)) (m.1, L3, m.2.2.1, m.2.2.2) = some m1 := t1
    rw [t1', Option.bind_some]
  | false =>
    obtain ⟨q1, q2, q3⟩ := hs rfl
    have hd1 : (L3 295 6 = 1) ↔ d = 1 := by
      rw [f3 295 (by decide) (by decide), q2, show (1 : Int64) = rt_o 1 from rfl]
      exact rt_eq q3 (by decide)
    rw [if_neg (fun y => Bool.noConfusion (hR.mp y))]
    unfold ps_d at t1
    rw [if_neg (fun y => Bool.noConfusion y)] at t1
    by_cases c : d = 1
    · rw [if_pos c] at t1
      rw [if_pos (hd1.mpr c), t1, Option.bind_some]
    · rw [if_neg c] at t1
      rw [if_neg (fun y => c (hd1.mp y))]
      dsimp only
      rw [f3 295 (by decide) (by decide), q2, t1, Option.bind_some]
end
