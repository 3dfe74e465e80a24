/-! ===== the law is true if every pair of calls answers alike and keeps R ===== -/
def tk_okop {α : Type} (x : Option (α × tk_m)) (f : tk_m → Option (α × tk_m)) (R : tk_m → Prop) : Prop := ∃ (v : α) (m1 m2 : tk_m), x = some (v, m1) ∧ f m1 = some (v, m2) ∧ R m2
theorem tk_lstep {α : Type} [DecidableEq α] {x : Option (α × tk_m)} {f : tk_m → Option (α × tk_m)} {R : tk_m → Prop} {k : tk_m → Option (Bool × tk_m)} (h : tk_okop x f R) (hk : ∀ m2, R m2 → ∃ m', k m2 = some (true, m')) : ∃ m', (x.bind fun o => (f o.2).bind fun o2 => if o.1 = o2.1 then k o2.2 else some (false, o2.2)) = some (true, m') := by
  obtain ⟨v, m1, m2, e1, e2, r⟩ := h
  obtain ⟨m', e3⟩ := hk m2 r
  refine ⟨m', ?_⟩
  rw [e1, Option.bind_some]
  dsimp only
  rw [e2, Option.bind_some]
  dsimp only
  rw [if_pos rfl]
  exact e3
theorem tk_lcmp {L k : Nat} (hL : L ≤ 4000) (hk : k ≤ 4000) : (Int32.ofNat L - 6 < Int32.ofNat k) ↔ L < k + 6 := by
  have h1 : (Int32.ofNat L).toInt = L := Int32.toInt_ofNat_of_lt (by omega)
  have h2 : (Int32.ofNat k).toInt = k := Int32.toInt_ofNat_of_lt (by omega)
  rw [Int32.lt_iff_toInt_lt, Int32.toInt_sub, h1, h2, show (6 : Int32).toInt = 6 from rfl, Int.bmod_eq_of_le (by omega) (by omega)]
  omega
theorem tk_lok {x n : Nat} (h : x < n) (hn : n ≤ 4000) : tk_ok (Int32.ofNat x) n := by
  refine ⟨?_, ?_⟩
  · rw [Int32.lt_iff_toInt_lt, Int32.toInt_ofNat_of_lt (by omega), show (0 : Int32).toInt = 0 from rfl]
    omega
  · show (Int32.ofNat x).toNatClampNeg < n
    rw [Int32.toNatClampNeg_ofNat_of_lt (by omega)]
    exact h
theorem tk_ladd (x k : Nat) : Int32.ofNat x + Int32.ofNat k = Int32.ofNat (x + k) := (Int32.ofNat_add x k).symm
def tk_OPS (R : tk_m → Prop) : Prop := (∀ (m : tk_m) (a0 : Int32) (a1 : Int32) (a2 : Int32), R m → tk_okop (fX_round a0 a1 a2 m) (fM_round a0 a1 a2) R) ∧ (∀ (m : tk_m) (a0 : Int32) (a1 : Int32), R m → tk_okop (fX_straight a0 a1 m) (fM_straight a0 a1) R) ∧ (∀ (m : tk_m) (a0 : Int32) (a1 : Int32), R m → tk_okop (fX_of a0 a1 m) (fM_of a0 a1) R) ∧ (∀ (m : tk_m) (a0 : Int32) (a1 : Int32) (a2 : Int32), R m → tk_okop (fX_change a0 a1 a2 m) (fM_change a0 a1 a2) R) ∧ (∀ (m : tk_m) (a0 : Int32) (a1 : Int32), R m → tk_okop (fX_as a0 a1 m) (fM_as a0 a1) R) ∧ (∀ (m : tk_m), R m → tk_okop (fX_drop m) (fM_drop) R) ∧ (∀ (m : tk_m) (a0 : Int32), R m → tk_okop (fX_prune a0 m) (fM_prune a0) R) ∧ (∀ (m : tk_m) (a0 : Int32) (a1 : Int32), R m → tk_okop (fX_swap a0 a1 m) (fM_swap a0 a1) R) ∧ (∀ (m : tk_m), R m → tk_okop (fX_turn m) (fM_turn) R) ∧ (∀ (m : tk_m) (a0 : Int32) (a1 : Int32), R m → tk_okop (fX_lie a0 a1 m) (fM_lie a0 a1) R) ∧ (∀ (m : tk_m) (a0 : Int32) (a1 : Int32) (a2 : Int32), R m → tk_okop (fX_power a0 a1 a2 m) (fM_power a0 a1 a2) R) ∧ (∀ (m : tk_m) (a0 : Int32) (a1 : Int32) (a2 : Int32), R m → tk_okop (fX_radical a0 a1 a2 m) (fM_radical a0 a1 a2) R) ∧ (∀ (m : tk_m) (a0 : Int32) (a1 : Int32), R m → tk_okop (fX_ring a0 a1 m) (fM_ring a0 a1) R) ∧ (∀ (m : tk_m) (a0 : Int32) (a1 : Int32) (a2 : Int32), R m → tk_okop (fX_three a0 a1 a2 m) (fM_three_III a0 a1 a2) R) ∧ (∀ (m : tk_m) (a0 : Int32), R m → tk_okop (fX_ofThree a0 m) (fM_ofThree a0) R) ∧ (∀ (m : tk_m), R m → tk_okop (fX_draw m) (fM_draw) R) ∧ (∀ (m : tk_m) (a0 : Int32), R m → tk_okop (fX_answers a0 m) (fM_answers_I a0) R) ∧ (∀ (m : tk_m) (a0 : Int32), R m → tk_okop (fX_signs a0 m) (fM_signs a0) R) ∧ (∀ (m : tk_m) (a0 : Int32) (a1 : Int32) (a2 : Int32), R m → tk_okop (fX_answer a0 a1 a2 m) (fM_answer a0 a1 a2) R) ∧ (∀ (m : tk_m) (a0 : Int32), R m → tk_okop (fX_best a0 m) (fM_best a0) R) ∧ (∀ (m : tk_m) (a0 : Int32), R m → tk_okop (fX_rank a0 m) (fM_rank a0) R) ∧ (∀ (m : tk_m) (a0 : Int32) (a1 : Int32), R m → tk_okop (fX_touches a0 a1 m) (fM_touches a0 a1) R) ∧ (∀ (m : tk_m) (a0 : Int32) (a1 : Int32), R m → tk_okop (fX_lays a0 a1 m) (fM_lays a0 a1) R) ∧ (∀ (m : tk_m) (a0 : Int32) (a1 : Int32) (a2 : Int32) (a3 : Int32), R m → tk_okop (fX_invert a0 a1 a2 a3 m) (fM_invert a0 a1 a2 a3) R) ∧ (∀ (m : tk_m) (a0 : Int32), R m → tk_okop (fX_tell a0 m) (fM_tell a0) R) ∧ (∀ (m : tk_m) (a0 : Int32) (a1 : Int32) (a2 : Int32), R m → tk_okop (fX_put a0 a1 a2 m) (fM_put a0 a1 a2) R) ∧ (∀ (m : tk_m) (a0 : Int32) (a1 : Int32) (a2 : Int32), R m → tk_okop (fX_ratio a0 a1 a2 m) (fM_ratio a0 a1 a2) R) ∧ (∀ (m : tk_m) (a0 : Int32) (a1 : Int32), R m → tk_okop (fX_root a0 a1 m) (fM_root a0 a1) R) ∧ (∀ (m : tk_m) (a0 : Int32) (a1 : Int32) (a2 : Int32) (a3 : Int32), R m → tk_okop (fX_work a0 a1 a2 a3 m) (fM_work a0 a1 a2 a3) R) ∧ (∀ (m : tk_m) (a0 : Int32) (a1 : Int32), R m → tk_okop (fX_compare a0 a1 m) (fM_compare a0 a1) R) ∧ (∀ (m : tk_m) (a0 : Int32) (a1 : Int32), R m → tk_okop (fX_number a0 a1 m) (fM_number a0 a1) R) ∧ (∀ (m : tk_m) (a0 : Int32) (a1 : Int32), R m → tk_okop (fX_taken a0 a1 m) (fM_taken a0 a1) R) ∧ (∀ (m : tk_m) (a0 : Int32), R m → tk_okop (fX_clear a0 m) (fM_clear a0) R) ∧ (∀ (m : tk_m) (a0 : Int32) (a1 : Int32) (a2 : Int32), R m → tk_okop (fX_sheet a0 a1 a2 m) (fM_sheet a0 a1 a2) R) ∧ (∀ (m : tk_m) (a0 : Int32) (a1 : Int32) (a2 : Int64), R m → tk_okop (fX_write a0 a1 a2 m) (fM_write a0 a1 a2) R) ∧ (∀ (m : tk_m) (a0 : Int32) (a1 : Int32), R m → tk_okop (fX_item a0 a1 m) (fM_item a0 a1) R) ∧ (∀ (m : tk_m) (a0 : Int32) (a1 : Int32) (a2 : Int32) (a3 : Int32) (a4 : Int32), R m → tk_okop (fX_copy a0 a1 a2 a3 a4 m) (fM_copy a0 a1 a2 a3 a4) R) ∧ (∀ (m : tk_m), R m → tk_okop (fX_image m) (fM_image) R) ∧ (∀ (m : tk_m), R m → tk_okop (fX_back m) (fM_back) R) ∧ (∀ (m : tk_m) (a0 : Int32), R m → tk_okop (some (fX_seed a0 m)) (fun m => some (fM_seed a0 m)) R) ∧ (∀ (m : tk_m) (a0 : Int32), R m → tk_okop (fX_count a0 m) (fM_count a0) R) ∧ (∀ (m : tk_m) (a0 : Int32), R m → tk_okop (fX_status a0 m) (fM_status a0) R)
set_option maxRecDepth 50000 in
set_option maxHeartbeats 4000000 in
theorem tk_law_true {R : tk_m → Prop} (HR : tk_OPS R) (sc : tk_X) (hsc : sc.1 ≤ 3072) : ∀ (n i : Nat) (m : tk_m), R m → sc.1 < 6 * i + 6 * n → 6 * i ≤ sc.1 → ∃ m', fL_law_18 sc n (Int32.ofNat (6 * i)) m = some (true, m') := by
  obtain ⟨H0, H1, H2, H3, H4, H5, H6, H7, H8, H9, H10, H11, H12, H13, H14, H15, H16, H17, H18, H19, H20, H21, H22, H23, H24, H25, H26, H27, H28, H29, H30, H31, H32, H33, H34, H35, H36, H37, H38, H39, H40, H41⟩ := HR
  intro n
  induction n with
  | zero =>
    intro i m hR h1 h2
    exact absurd h1 (by omega)
  | succ n ih =>
    intro i m hR h1 h2
    unfold fL_law_18
    by_cases hc : Int32.ofNat sc.1 - 6 < Int32.ofNat (6 * i)
    · exact ⟨m, by rw [if_pos hc]⟩
    rw [if_neg hc]
    have hc2 : ¬ sc.1 < 6 * i + 6 := fun q => hc ((tk_lcmp (by omega) (by omega)).mpr q)
    have e6 : Int32.ofNat (6 * i) + 6 = Int32.ofNat (6 * (i + 1)) := tk_ladd (6 * i) 6
    have hn : ∀ m2, R m2 → ∃ m', fL_law_18 sc n (Int32.ofNat (6 * i) + 6) m2 = some (true, m') := fun m2 h => by
      rw [e6]
      exact ih (i + 1) m2 h (by omega) (by omega)
    have k0 : tk_ok (Int32.ofNat (6 * i)) sc.1 := tk_lok (by omega) (by omega)
    have k1 : tk_ok (Int32.ofNat (6 * i) + 1) sc.1 := by rw [show Int32.ofNat (6 * i) + 1 = Int32.ofNat (6 * i + 1) from tk_ladd (6 * i) 1]; exact tk_lok (by omega) (by omega)
    have k2 : tk_ok (Int32.ofNat (6 * i) + 2) sc.1 := by rw [show Int32.ofNat (6 * i) + 2 = Int32.ofNat (6 * i + 2) from tk_ladd (6 * i) 2]; exact tk_lok (by omega) (by omega)
    have k3 : tk_ok (Int32.ofNat (6 * i) + 3) sc.1 := by rw [show Int32.ofNat (6 * i) + 3 = Int32.ofNat (6 * i + 3) from tk_ladd (6 * i) 3]; exact tk_lok (by omega) (by omega)
    have k4 : tk_ok (Int32.ofNat (6 * i) + 4) sc.1 := by rw [show Int32.ofNat (6 * i) + 4 = Int32.ofNat (6 * i + 4) from tk_ladd (6 * i) 4]; exact tk_lok (by omega) (by omega)
    have k5 : tk_ok (Int32.ofNat (6 * i) + 5) sc.1 := by rw [show Int32.ofNat (6 * i) + 5 = Int32.ofNat (6 * i + 5) from tk_ladd (6 * i) 5]; exact tk_lok (by omega) (by omega)
    rw [if_pos k0]
    generalize sc.2 (tk_n (Int32.ofNat (6 * i))) &&& 63 = w
    generalize sc.2 (tk_n (Int32.ofNat (6 * i) + 1)) = x1
    generalize sc.2 (tk_n (Int32.ofNat (6 * i) + 2)) = x2
    generalize sc.2 (tk_n (Int32.ofNat (6 * i) + 3)) = x3
    generalize sc.2 (tk_n (Int32.ofNat (6 * i) + 4)) = x4
    generalize sc.2 (tk_n (Int32.ofNat (6 * i) + 5)) = x5
    generalize Int32.ofNat (6 * i) + 1 = y1 at k1 ⊢
    generalize Int32.ofNat (6 * i) + 2 = y2 at k2 ⊢
    generalize Int32.ofNat (6 * i) + 3 = y3 at k3 ⊢
    generalize Int32.ofNat (6 * i) + 4 = y4 at k4 ⊢
    generalize Int32.ofNat (6 * i) + 5 = y5 at k5 ⊢
    generalize Int32.ofNat (6 * i) + 6 = y6 at hn ⊢
    by_cases w0 : w = 0
    · rw [if_pos w0, if_pos k1, if_pos k2, if_pos k3]
      exact tk_lstep (H0 m _ _ _ hR) hn
    rw [if_neg w0]
    by_cases w1 : w = 1
    · rw [if_pos w1, if_pos k1, if_pos k2]
      exact tk_lstep (H1 m _ _ hR) hn
    rw [if_neg w1]
    by_cases w2 : w = 2
    · rw [if_pos w2, if_pos k1, if_pos k2]
      exact tk_lstep (H2 m _ _ hR) hn
    rw [if_neg w2]
    by_cases w3 : w = 3
    · rw [if_pos w3, if_pos k1, if_pos k2, if_pos k3]
      exact tk_lstep (H3 m _ _ _ hR) hn
    rw [if_neg w3]
    by_cases w4 : w = 4
    · rw [if_pos w4, if_pos k1, if_pos k2]
      exact tk_lstep (H4 m _ _ hR) hn
    rw [if_neg w4]
    by_cases w5 : w = 5
    · rw [if_pos w5]
      exact tk_lstep (H5 m hR) hn
    rw [if_neg w5]
    by_cases w6 : w = 6
    · rw [if_pos w6, if_pos k1]
      exact tk_lstep (H6 m _ hR) hn
    rw [if_neg w6]
    by_cases w7 : w = 7
    · rw [if_pos w7, if_pos k1, if_pos k2]
      exact tk_lstep (H7 m _ _ hR) hn
    rw [if_neg w7]
    by_cases w8 : w = 8
    · rw [if_pos w8]
      exact tk_lstep (H8 m hR) hn
    rw [if_neg w8]
    by_cases w9 : w = 9
    · rw [if_pos w9, if_pos k1, if_pos k2]
      exact tk_lstep (H9 m _ _ hR) hn
    rw [if_neg w9]
    by_cases w10 : w = 10
    · rw [if_pos w10, if_pos k1, if_pos k2, if_pos k3]
      exact tk_lstep (H10 m _ _ _ hR) hn
    rw [if_neg w10]
    by_cases w11 : w = 11
    · rw [if_pos w11, if_pos k1, if_pos k2, if_pos k3]
      exact tk_lstep (H11 m _ _ _ hR) hn
    rw [if_neg w11]
    by_cases w12 : w = 12
    · rw [if_pos w12, if_pos k1, if_pos k2]
      exact tk_lstep (H12 m _ _ hR) hn
    rw [if_neg w12]
    by_cases w13 : w = 13
    · rw [if_pos w13, if_pos k1, if_pos k2, if_pos k3]
      exact tk_lstep (H13 m _ _ _ hR) hn
    rw [if_neg w13]
    by_cases w14 : w = 14
    · rw [if_pos w14, if_pos k1]
      exact tk_lstep (H14 m _ hR) hn
    rw [if_neg w14]
    by_cases w15 : w = 15
    · rw [if_pos w15]
      exact tk_lstep (H15 m hR) hn
    rw [if_neg w15]
    by_cases w16 : w = 16
    · rw [if_pos w16, if_pos k1]
      exact tk_lstep (H16 m _ hR) hn
    rw [if_neg w16]
    by_cases w17 : w = 17
    · rw [if_pos w17, if_pos k1]
      exact tk_lstep (H17 m _ hR) hn
    rw [if_neg w17]
    by_cases w18 : w = 18
    · rw [if_pos w18, if_pos k1, if_pos k2, if_pos k3]
      exact tk_lstep (H18 m _ _ _ hR) hn
    rw [if_neg w18]
    by_cases w19 : w = 19
    · rw [if_pos w19, if_pos k1]
      exact tk_lstep (H19 m _ hR) hn
    rw [if_neg w19]
    by_cases w20 : w = 20
    · rw [if_pos w20, if_pos k1]
      exact tk_lstep (H20 m _ hR) hn
    rw [if_neg w20]
    by_cases w21 : w = 21
    · rw [if_pos w21, if_pos k1, if_pos k2]
      exact tk_lstep (H21 m _ _ hR) hn
    rw [if_neg w21]
    by_cases w22 : w = 22
    · rw [if_pos w22, if_pos k1, if_pos k2]
      exact tk_lstep (H22 m _ _ hR) hn
    rw [if_neg w22]
    by_cases w23 : w = 23
    · rw [if_pos w23, if_pos k1, if_pos k2, if_pos k3, if_pos k4]
      exact tk_lstep (H23 m _ _ _ _ hR) hn
    rw [if_neg w23]
    by_cases w24 : w = 24
    · rw [if_pos w24, if_pos k1]
      exact tk_lstep (H24 m _ hR) hn
    rw [if_neg w24]
    by_cases w25 : w = 25
    · rw [if_pos w25, if_pos k1, if_pos k2, if_pos k3]
      exact tk_lstep (H25 m _ _ _ hR) hn
    rw [if_neg w25]
    by_cases w26 : w = 26
    · rw [if_pos w26, if_pos k1, if_pos k2, if_pos k3]
      exact tk_lstep (H26 m _ _ _ hR) hn
    rw [if_neg w26]
    by_cases w27 : w = 27
    · rw [if_pos w27, if_pos k1, if_pos k2]
      exact tk_lstep (H27 m _ _ hR) hn
    rw [if_neg w27]
    by_cases w28 : w = 28
    · rw [if_pos w28, if_pos k1, if_pos k2, if_pos k3, if_pos k4]
      exact tk_lstep (H28 m _ _ _ _ hR) hn
    rw [if_neg w28]
    by_cases w29 : w = 29
    · rw [if_pos w29, if_pos k1, if_pos k2]
      exact tk_lstep (H29 m _ _ hR) hn
    rw [if_neg w29]
    by_cases w30 : w = 30
    · rw [if_pos w30, if_pos k1, if_pos k2]
      exact tk_lstep (H30 m _ _ hR) hn
    rw [if_neg w30]
    by_cases w31 : w = 31
    · rw [if_pos w31, if_pos k1, if_pos k2]
      exact tk_lstep (H31 m _ _ hR) hn
    rw [if_neg w31]
    by_cases w32 : w = 32
    · rw [if_pos w32, if_pos k1]
      exact tk_lstep (H32 m _ hR) hn
    rw [if_neg w32]
    by_cases w33 : w = 33
    · rw [if_pos w33, if_pos k1, if_pos k2, if_pos k3]
      exact tk_lstep (H33 m _ _ _ hR) hn
    rw [if_neg w33]
    by_cases w34 : w = 34
    · rw [if_pos w34, if_pos k1, if_pos k2, if_pos k3, if_pos k4]
      exact tk_lstep (H34 m _ _ _ hR) hn
    rw [if_neg w34]
    by_cases w35 : w = 35
    · rw [if_pos w35, if_pos k1, if_pos k2]
      exact tk_lstep (H35 m _ _ hR) hn
    rw [if_neg w35]
    by_cases w36 : w = 36
    · rw [if_pos w36, if_pos k1, if_pos k2, if_pos k3, if_pos k4, if_pos k5]
      exact tk_lstep (H36 m _ _ _ _ _ hR) hn
    rw [if_neg w36]
    by_cases w37 : w = 37
    · rw [if_pos w37]
      exact tk_lstep (H37 m hR) hn
    rw [if_neg w37]
    by_cases w38 : w = 38
    · rw [if_pos w38]
      exact tk_lstep (H38 m hR) hn
    rw [if_neg w38]
    by_cases w39 : w = 39
    · rw [if_pos w39, if_pos k1]
      exact tk_lstep (x := some (fX_seed x1 m)) (f := fun m => some (fM_seed x1 m)) (H39 m x1 hR) hn
    rw [if_neg w39]
    by_cases w40 : w = 40
    · rw [if_pos w40, if_pos k1]
      exact tk_lstep (H40 m _ hR) hn
    rw [if_neg w40]
    by_cases w41 : w = 41
    · rw [if_pos w41, if_pos k1]
      exact tk_lstep (H41 m _ hR) hn
    rw [if_neg w41]
    exact hn m hR
