/-! ===== ANSWERS: a line as steep as the cone, in small numbers ===== -/
theorem an_ab {x y z : Int} (h : x = y * z) (hy : y ≠ 0) {n : Nat} (hx : an_bd x n) : an_bd z n := by
  unfold an_bd at *
  rw [h, Int.natAbs_mul] at hx
  have : 1 * z.natAbs ≤ y.natAbs * z.natAbs := Nat.mul_le_mul_right _ (by omega)
  omega
theorem an_cop {a b c : Int} (h : a ∣ b * c) (hc : Int.gcd a b = 1) : a ∣ c := Int.natAbs_dvd_natAbs.mp (Nat.Coprime.dvd_of_dvd_mul_left hc (by rw [← Int.natAbs_mul]; exact Int.natAbs_dvd_natAbs.mpr h))
/-- a line on the cone, by two numbers; what is square to it, by two more -/
theorem an_spin {w N : an_V} (hw : ¬ (w 0 = 0 ∧ w 1 = 0 ∧ w 2 = 0)) (hB : an_B w w = 0) (hN : an_S N w = 0) (bN : an_vb N 4000) : ∃ u v o A B : Int, w 2 + w 0 = u * u * o ∧ w 1 = u * v * o ∧ w 2 - w 0 = v * v * o ∧ N 2 - N 0 = u * B ∧ N 2 + N 0 = v * A ∧ 2 * N 1 = -(u * A + v * B) ∧ an_bd A 8000 ∧ an_bd B 8000 ∧ o ≠ 0 ∧ 0 < u * u + v * v := by
  have b0 := bN 0 (by decide)
  have b1 := bN 1 (by decide)
  have b2 := bN 2 (by decide)
  have bs : an_bd (N 2 + N 0) 8000 := bd_add b2 b0 (by decide)
  have bm : an_bd (N 2 - N 0) 8000 := bd_sub b2 b0 (by decide)
  have bt : an_bd (-2 * N 1) 8000 := bd_mul (a := 2) (by unfold an_bd; decide) b1 (by decide)
  have hq : w 1 * w 1 = (w 2 + w 0) * (w 2 - w 0) := by unfold an_B at hB; grind
  have hn : (N 2 + N 0) * (w 2 + w 0) + 2 * N 1 * w 1 + (N 2 - N 0) * (w 2 - w 0) = 0 := by unfold an_S at hN; grind
  clear hB hN
  generalize hp : w 2 + w 0 = p at *
  generalize hr : w 2 - w 0 = r at *
  generalize w 1 = q at *
  generalize hs : N 2 + N 0 = S at *
  generalize hm : N 2 - N 0 = D at *
  generalize N 1 = n at *
  by_cases p0 : p = 0
  · have q0 : q = 0 := by
      rw [p0, Int.zero_mul] at hq
      rcases Int.mul_eq_zero.mp hq with z | z <;> exact z
    have r0 : r ≠ 0 := fun z => hw ⟨by omega, q0, by omega⟩
    have d0 : D = 0 := by
      rw [p0, q0, Int.mul_zero, Int.mul_zero, Int.zero_add, Int.zero_add] at hn
      exact (Int.mul_eq_zero.mp hn).resolve_right r0
    refine ⟨0, 1, r, S, -2 * n, ?_, ?_, ?_, ?_, ?_, ?_, bs, bt, r0, by decide⟩
    · rw [p0]; omega
    · rw [q0]; omega
    · omega
    · omega
    · omega
    · omega
  · have g0 : 0 < Int.gcd p q := Int.gcd_pos_of_ne_zero_left _ p0
    obtain ⟨u, hu⟩ : (Int.gcd p q : Int) ∣ p := Int.gcd_dvd_left ..
    obtain ⟨v, hv⟩ : (Int.gcd p q : Int) ∣ q := Int.gcd_dvd_right ..
    have hc : Int.gcd u v = 1 := by
      have h := Int.gcd_mul_left (Int.gcd p q : Int) u v
      rw [← hu, ← hv] at h
      have h2 : Int.gcd p q * Int.gcd u v = Int.gcd p q * 1 := by rw [Nat.mul_one]; exact h.symm
      exact Nat.eq_of_mul_eq_mul_left g0 h2
    have g1 : (Int.gcd p q : Int) ≠ 0 := by omega
    generalize (Int.gcd p q : Int) = g at *
    have u0 : u ≠ 0 := fun z => p0 (by rw [hu, z, Int.mul_zero])
    have e1 : g * (v * v) = u * r := by
      have : g * (g * (v * v)) = g * (u * r) := by rw [hu, hv] at hq; grind
      exact Int.eq_of_mul_eq_mul_left g1 this
    have hd : u ∣ g := by
      have h1 : u ∣ v * (v * g) := ⟨r, by grind⟩
      have h2 : u ∣ v * g := an_cop h1 hc
      exact an_cop h2 hc
    obtain ⟨o, ho⟩ := hd
    have o0 : o ≠ 0 := fun z => g1 (by rw [ho, z, Int.mul_zero])
    have e2 : r = v * v * o := by
      have : u * r = u * (v * v * o) := by rw [← e1, ho]; grind
      exact Int.eq_of_mul_eq_mul_left u0 this
    have e3 : S * (u * u) + 2 * n * (u * v) + D * (v * v) = 0 := by
      have : o * (S * (u * u) + 2 * n * (u * v) + D * (v * v)) = o * 0 := by rw [hu, hv, ho, e2] at hn; grind
      exact Int.eq_of_mul_eq_mul_left o0 this
    obtain ⟨B, hB⟩ : u ∣ D := by
      have h1 : u ∣ v * (v * D) := ⟨-(S * u + 2 * n * v), by grind⟩
      have h2 : u ∣ v * D := an_cop h1 hc
      exact an_cop h2 hc
    have uu : 0 < u * u := by
      rcases Int.lt_or_gt_of_ne u0 with z | z
      · exact Int.mul_pos_of_neg_of_neg z z
      · exact Int.mul_pos z z
    have vv : 0 ≤ v * v := by
      rcases Int.le_total 0 v with z | z
      · exact Int.mul_nonneg z z
      · exact Int.mul_nonneg_of_nonpos_of_nonpos z z
    by_cases v0 : v = 0
    · have hu1 : u * u = 1 := by
        rw [v0, Int.gcd_zero_right] at hc
        have := Int.natAbs_mul_self (a := u)
        rw [hc] at this
        omega
      have s0 : S = 0 := by
        rw [v0, hu1] at e3
        omega
      refine ⟨u, v, o, -2 * n * u, B, ?_, ?_, e2, hB, ?_, ?_, ?_, an_ab hB u0 bm, o0, by omega⟩
      · rw [hu, ho]; grind
      · rw [hv, v0]; grind
      · rw [s0, v0]; grind
      · rw [v0]; grind
      · refine bd_mul (b := 1) bt ?_ (by decide)
        unfold an_bd
        have := Int.natAbs_mul_self (a := u)
        rcases Nat.lt_or_ge u.natAbs 2 with z | z
        · omega
        · have := Nat.mul_le_mul z z
          omega
    · obtain ⟨A, hA⟩ : v ∣ S := by
        have h1 : v ∣ u * (u * S) := ⟨-(2 * n * u + D * v), by grind⟩
        have hc2 : Int.gcd v u = 1 := by rw [Int.gcd_comm]; exact hc
        have h2 : v ∣ u * S := an_cop h1 hc2
        exact an_cop h2 hc2
      refine ⟨u, v, o, A, B, ?_, ?_, e2, hB, hA, ?_, an_ab hA v0 bs, an_ab hB u0 bm, o0, by omega⟩
      · rw [hu, ho]; grind
      · rw [hv, ho]; grind
      · have : u * v * (2 * n) = u * v * (-(u * A + v * B)) := by rw [hA, hB] at e3; grind
        exact Int.eq_of_mul_eq_mul_left (fun z => by rcases Int.mul_eq_zero.mp z with y | y; exact u0 y; exact v0 y) this
/-- where it meets the cone -/
def an_ed (w N : an_V) (k : Nat) : Int := 2 * an_B (an_X w N) w * an_X w N k - an_B (an_X w N) (an_X w N) * w k
theorem an_ed32 (w N x y : an_V) (hx : ∀ k, k < 3 → x k = 2 * w k) (hy : ∀ k, k < 3 → y k = 2 * N k) : (∀ k, k < 3 → an_ed x y k = 32 * an_ed w N k) ∧ an_B (an_X x y) x * an_S x x = 32 * (an_B (an_X w N) w * an_S w w) := by
  have x0 := hx 0 (by decide)
  have x1 := hx 1 (by decide)
  have x2 := hx 2 (by decide)
  have y0 := hy 0 (by decide)
  have y1 := hy 1 (by decide)
  have y2 := hy 2 (by decide)
  have c : ∀ k, k < 3 → an_X x y k = 4 * an_X w N k := by
    refine an_3 ?_ ?_ ?_
    · rw [an_X0, an_X0, x1, x2, y1, y2]; grind
    · rw [an_X1, an_X1, x0, x2, y0, y2]; grind
    · rw [an_X2, an_X2, x0, x1, y0, y1]; grind
  have l : an_B (an_X x y) x = 8 * an_B (an_X w N) w := by
    unfold an_B
    rw [c 0 (by decide), c 1 (by decide), c 2 (by decide), x0, x1, x2]; grind
  have f : an_B (an_X x y) (an_X x y) = 16 * an_B (an_X w N) (an_X w N) := by
    unfold an_B
    rw [c 0 (by decide), c 1 (by decide), c 2 (by decide)]; grind
  have s : an_S x x = 4 * an_S w w := by
    unfold an_S
    rw [x0, x1, x2]; grind
  refine ⟨fun k hk => ?_, ?_⟩
  · unfold an_ed
    rw [l, f, c k hk, hx k hk]; grind
  · rw [l, s]; grind
theorem an_edx (u v o A B : Int) : (∀ k, k < 3 → an_ed (an_v (o * (u * u - v * v)) (2 * (u * v * o)) (o * (u * u + v * v))) (an_v (v * A - u * B) (-(u * A + v * B)) (v * A + u * B)) k = -(4 * (o * o * o) * ((u * u + v * v) * (u * u + v * v) * ((u * u + v * v) * (u * u + v * v)))) * an_v (B * B - A * A) (2 * A * B) (A * A + B * B) k) ∧ an_B (an_X (an_v (o * (u * u - v * v)) (2 * (u * v * o)) (o * (u * u + v * v))) (an_v (v * A - u * B) (-(u * A + v * B)) (v * A + u * B))) (an_v (o * (u * u - v * v)) (2 * (u * v * o)) (o * (u * u + v * v))) * an_S (an_v (o * (u * u - v * v)) (2 * (u * v * o)) (o * (u * u + v * v))) (an_v (o * (u * u - v * v)) (2 * (u * v * o)) (o * (u * u + v * v))) = -((o * o * o) * ((u * u + v * v) * (u * u + v * v) * ((u * u + v * v) * (u * u + v * v)))) * (4 * (v * B - u * A) * o) := by
  refine ⟨an_3 ?_ ?_ ?_, ?_⟩
  · simp only [an_ed, an_B, an_X0, an_X1, an_X2, an_v0, an_v1, an_v2]
    grind
  · simp only [an_ed, an_B, an_X0, an_X1, an_X2, an_v0, an_v1, an_v2]
    grind
  · simp only [an_ed, an_B, an_X0, an_X1, an_X2, an_v0, an_v1, an_v2]
    grind
  · simp only [an_S, an_B, an_X0, an_X1, an_X2, an_v0, an_v1, an_v2]
    grind
