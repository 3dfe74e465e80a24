/-! ===== the reference: equations of the first degree ===== -/
/-- only the reference's vectors have changed, and how many equations there are -/
def q_fr (m m' : tk_m) : Prop := (∀ r, (r < 433 ∨ 441 < r) → m'.2.1 r = m.2.1 r) ∧ (∀ r k, ¬ (r = 295 ∧ k = 16) → m'.1 r k = m.1 r k) ∧ m'.2.2 = m.2.2
theorem q_rf (m : tk_m) : q_fr m m := ⟨fun _ _ => rfl, fun _ _ _ => rfl, rfl⟩
theorem q_tr {m m1 m2 : tk_m} (h : q_fr m m1) (h2 : q_fr m1 m2) : q_fr m m2 := ⟨fun r hr => (h2.1 r hr).trans (h.1 r hr), fun r k a => (h2.2.1 r k a).trans (h.2.1 r k a), h2.2.2.trans h.2.2⟩
theorem q_v {t : Nat} {m m' : tk_m} (h : v_fr t m m') (ht : 433 ≤ t ∧ t ≤ 441) : q_fr m m' := ⟨fun r hr => h.2.2.1 r (by omega), fun r k _ => by rw [h.1], h.2.1⟩
theorem an_irem : ∀ k, k < 3 → tk_irem (Int32.ofNat k + 1) 3 = Int32.ofNat ((k + 1) % 3) ∧ tk_irem (Int32.ofNat k + 2) 3 = Int32.ofNat ((k + 2) % 3) := by decide +kernel
theorem y_cr1 {a b t : Nat} {m : tk_m} (la : 3 ≤ tk_al a ∧ tk_al a ≤ 40) (lb : 3 ≤ tk_al b ∧ tk_al b ≤ 40) (lt : 3 ≤ tk_al t ∧ tk_al t ≤ 40) (n k : Nat) (hk : k < 3) : fM_crosses_2 (n + 1) a b t (Int32.ofNat k) m = fM_crosses_2 n a b t (Int32.ofNat (k + 1)) (m.1, tk_u2 m.2.1 t k (m.2.1 a ((k + 1) % 3) * m.2.1 b ((k + 2) % 3) - m.2.1 a ((k + 2) % 3) * m.2.1 b ((k + 1) % 3)), m.2.2.1, m.2.2.2) := by
  obtain ⟨e1, e2⟩ := an_irem k hk
  have m1 : (k + 1) % 3 < 3 := Nat.mod_lt _ (by decide)
  have m2 : (k + 2) % 3 < 3 := Nat.mod_lt _ (by decide)
  conv => lhs; unfold fM_crosses_2
  rw [if_neg (an_n3 hk), e1, e2, if_pos (i_ok (by omega) (by omega)), if_pos (i_ok (by omega) (by omega)), if_pos (i_ok (by omega) (by omega)), if_pos (i_ok (by omega) (by omega)), if_pos (i_ok (by omega) (by omega)), i_nn (show (k + 1) % 3 < 2147483648 by omega), i_nn (show (k + 2) % 3 < 2147483648 by omega), i_nn (show k < 2147483648 by omega), show Int32.ofNat k + 1 = Int32.ofNat (k + 1) from i_add k 1]
theorem y_cross {a b t : Nat} {m : tk_m} {v w : an_V} (la : 3 ≤ tk_al a ∧ tk_al a ≤ 40) (lb : 3 ≤ tk_al b ∧ tk_al b ≤ 40) (lt : 3 ≤ tk_al t ∧ tk_al t ≤ 40) (ha : an_at m a v) (hb : an_at m b w) (ta : a ≠ t) (tb : b ≠ t) : ∃ m1, fM_crosses a b t m = some m1 ∧ v_fr t m m1 ∧ an_at m1 t (an_X v w) := by
  have e4 : ∀ (n : Nat) (M : tk_m), fM_crosses_2 (n + 1) a b t (Int32.ofNat (0 + 1 + 1 + 1)) M = some M := fun n M => by
    unfold fM_crosses_2
    rw [if_pos (by decide)]
  unfold fM_crosses
  rw [show (0 : Int32) = Int32.ofNat 0 from rfl, iv_F, y_cr1 la lb lt _ 0 (by decide), y_cr1 la lb lt _ (0 + 1) (by decide), y_cr1 la lb lt _ (0 + 1 + 1) (by decide), e4]
  refine ⟨_, rfl, ⟨rfl, rfl, fun r hr => ?_, fun k hk => ?_⟩, an_3 ?_ ?_ ?_⟩
  · dsimp only; rw [tk_u2_ne hr, tk_u2_ne hr, tk_u2_ne hr]
  · dsimp only; rw [tk_u2_nk (by omega), tk_u2_nk (by omega), tk_u2_nk (by omega)]
  · dsimp only
    rw [tk_u2_nk (by decide), tk_u2_nk (by decide), tk_u2_eq]
    show m.2.1 a 1 * m.2.1 b 2 - m.2.1 a 2 * m.2.1 b 1 = _
    rw [ha 1 (by decide), ha 2 (by decide), hb 1 (by decide), hb 2 (by decide), o_mul, o_mul, o_sub]; rfl
  · dsimp only
    rw [tk_u2_nk (by decide), tk_u2_eq, tk_u2_ne ta, tk_u2_ne tb]
    show m.2.1 a 2 * m.2.1 b 0 - m.2.1 a 0 * m.2.1 b 2 = _
    rw [ha 0 (by decide), ha 2 (by decide), hb 0 (by decide), hb 2 (by decide), o_mul, o_mul, o_sub]; rfl
  · dsimp only
    rw [tk_u2_eq, tk_u2_ne ta, tk_u2_ne tb, tk_u2_ne ta, tk_u2_ne tb]
    show m.2.1 a 0 * m.2.1 b 1 - m.2.1 a 1 * m.2.1 b 0 = _
    rw [ha 0 (by decide), ha 1 (by decide), hb 0 (by decide), hb 1 (by decide), o_mul, o_mul, o_sub]; rfl
/-- the three shapes, as the reference reads them -/
def y_G (c : s_sn) (t : Nat → s_sh) (m : tk_m) : Prop := y_S c 296 m ∧ s_snOk c ∧ ∀ n, n < 3 → ∃ i, fM_three_I (Int32.ofNat n) m = some i ∧ s_at c.1 i = some (t n)
theorem y_G_k {c : s_sn} {t : Nat → s_sh} {m m' : tk_m} (h : y_G c t m) (q : m'.1 296 = m.1 296) : y_G c t m' := by
  obtain ⟨h1, h2, h3⟩ := h
  refine ⟨?_, h2, fun n hn => ?_⟩
  · unfold y_S y_H at *
    rw [q]
    exact h1
  · obtain ⟨i, a1, a2⟩ := h3 n hn
    refine ⟨i, ?_, a2⟩
    unfold fM_three_I at *
    rw [q]
    exact a1
theorem y_G_of {c : s_sn} {t : Nat → s_sh} {m : tk_m} (h : y_S c 296 m) (hc : s_snOk c) (h0 : s_at c.1 c.2.1.1 = some (t 0)) (h1 : s_at c.1 c.2.1.2.1 = some (t 1)) (h2 : s_at c.1 c.2.1.2.2 = some (t 2)) : y_G c t m := by
  refine ⟨h, hc, fun n hn => ?_⟩
  rcases (show n = 0 ∨ n = 1 ∨ n = 2 by omega) with rfl | rfl | rfl
  · exact ⟨c.2.1.1, by unfold fM_three_I; rw [if_pos (by decide)]; exact congrArg some h.2.2.1.1, h0⟩
  · exact ⟨c.2.1.2.1, by unfold fM_three_I; rw [if_pos (by decide)]; exact congrArg some h.2.2.1.2.1, h1⟩
  · exact ⟨c.2.1.2.2, by unfold fM_three_I; rw [if_pos (by decide)]; exact congrArg some h.2.2.1.2.2, h2⟩
theorem y_G_ok {c : s_sn} {t : Nat → s_sh} {m : tk_m} (h : y_G c t m) {n : Nat} (hn : n < 3) : s_shOk (t n) := by
  obtain ⟨i, a1, a2⟩ := h.2.2 n hn
  exact s_at_ok h.2.1 a2
def an_T (B : an_V) (s : s_sh) (b : Bool) : Int := an_t B s b + 2 * an_S (an_n B s b) B
theorem an_yb : ∀ g, g < 8 → ∀ n, n < 3 → fM_bit (Int32.ofNat g) (Int32.ofNat n) = if an_bit g n = true then -1 else 1 := by decide +kernel
theorem i_mul {x y : Int32} {a b : Nat} (hx : an_bd x.toInt a) (hy : an_bd y.toInt b) (h : a * b < 2147483648) : (x * y).toInt = x.toInt * y.toInt := by
  have := bd_mul hx hy (Nat.le_refl _)
  unfold an_bd at this
  rw [Int32.toInt_mul]
  exact Int.bmod_eq_of_le (by omega) (by omega)
theorem i_minus {x y : Int32} {a b : Nat} (hx : an_bd x.toInt a) (hy : an_bd y.toInt b) (h : a + b < 2147483648) : (x - y).toInt = x.toInt - y.toInt := by
  unfold an_bd at hx hy
  rw [Int32.toInt_sub]
  exact Int.bmod_eq_of_le (by omega) (by omega)
theorem i_pls {x y : Int32} {a b : Nat} (hx : an_bd x.toInt a) (hy : an_bd y.toInt b) (h : a + b < 2147483648) : (x + y).toInt = x.toInt + y.toInt := by
  unfold an_bd at hx hy
  rw [Int32.toInt_add]
  exact Int.bmod_eq_of_le (by omega) (by omega)
theorem i_bz (b : Bool) {r : Int32} (hr : an_bd r.toInt 5) : ((if b = true then (-1 : Int32) else 1) * r).toInt = if b = true then -r.toInt else r.toInt := by
  cases b
  · rw [if_neg (by decide), if_neg (by decide), i_mul (a := 1) (b := 5) (by unfold an_bd; decide) hr (by decide), show (1 : Int32).toInt = 1 from rfl, Int.one_mul]
  · rw [if_pos rfl, if_pos rfl, i_mul (a := 1) (b := 5) (by unfold an_bd; decide) hr (by decide), show (-1 : Int32).toInt = -1 from rfl, Int.neg_mul, Int.one_mul]
section
variable {m : tk_m} {c : s_sn} {t : Nat → s_sh} {g : Nat}
theorem y_tkS (hg : g < 8) (h : y_G c t m) {j N : Nat} (hj : j < 3) (hN : N < 3) (hm : m.1 295 16 = Int32.ofNat N) (e : (t j).1 = true) (B : an_V) : ∃ m1, fM_takesStraight (Int32.ofNat g) (Int32.ofNat j) m = some m1 ∧ q_fr m m1 ∧ m1.1 295 16 = Int32.ofNat (N + 1) ∧ (∀ r, r ≠ 433 + N → m1.2.1 r = m.2.1 r) ∧ an_at m1 (433 + N) (an_n B (t j) (an_bit g j)) ∧ m1.2.1 (433 + N) 3 = Int64.ofInt (an_T B (t j) (an_bit g j)) := by
  obtain ⟨i, a1, a2⟩ := h.2.2 j hj
  have hy : ∀ L : Nat → Nat → Int64, y_S c 296 (m.1, L, m.2.2.1, m.2.2.2) := fun L => h.1
  have ho := y_G_ok h hj
  have o1 : ∀ L : Nat → Nat → Int64, fM_of0 i 1 (m.1, L, m.2.2.1, m.2.2.2) = some (t j).2.1 := fun L => (y_at (hy L) h.2.1.1 a2).2.1
  have o2 : ∀ L : Nat → Nat → Int64, fM_of0 i 2 (m.1, L, m.2.2.1, m.2.2.2) = some (t j).2.2.1 := fun L => (y_at (hy L) h.2.1.1 a2).2.2.1
  have sl := fun L : Nat → Nat → Int64 => y_slant (m := (m.1, L, m.2.2.1, m.2.2.2)) (o1 L) ho e
  have ho' := ho
  unfold s_shOk at ho'
  rw [e, if_pos rfl] at ho'
  obtain ⟨A, C, Lw, q1, q2, q3, q4⟩ := an_slv ho'.1
  have b2 : an_bd (t j).2.2.1.toInt 30 := an_in ho'.2 (by decide) (by decide)
  have en : an_n B (t j) (an_bit g j) = an_v (s_A (t j).2.1).toInt (s_B (t j).2.1).toInt (if an_bit g j = true then (s_L (t j).2.1).toInt else -(s_L (t j).2.1).toInt) := by unfold an_n; rw [e, if_pos rfl]
  have eT : an_T B (t j) (an_bit g j) = 2 * (t j).2.2.1.toInt := by
    unfold an_T an_t
    rw [e, if_pos rfl]
    omega
  have ez : ((-(if an_bit g j = true then (-1 : Int32) else 1)) * s_L (t j).2.1).toInt = if an_bit g j = true then (s_L (t j).2.1).toInt else -(s_L (t j).2.1).toInt := by
    have bl : an_bd (s_L (t j).2.1).toInt 5 := by unfold an_bd; omega
    cases an_bit g j
    · rw [if_neg (by decide), if_neg (by decide), i_mul (a := 1) (b := 5) (by unfold an_bd; decide) bl (by decide), show (-(1 : Int32)).toInt = -1 from rfl, Int.neg_mul, Int.one_mul]
    · rw [if_pos rfl, if_pos rfl, i_mul (a := 1) (b := 5) (by unfold an_bd; decide) bl (by decide), show (-(-1 : Int32)).toInt = 1 from rfl, Int.one_mul]
  have e2 : ((2 : Int32) * (t j).2.2.1).toInt = 2 * (t j).2.2.1.toInt := i_mul (a := 2) (b := 30) (by unfold an_bd; decide) b2 (by decide)
  have ml : m = (m.1, m.2.1, m.2.2.1, m.2.2.2) := rfl
  unfold fM_takesStraight
  rw [a1, Option.bind_some, hm, if_pos (i_ok hN (by omega)), i_nn (show N < 2147483648 by omega)]
  rw [show fM_slant 1003 i m = some (s_A (t j).2.1) from (sl m.2.1).1, Option.bind_some, (sl _).2.1, Option.bind_some, (sl _).2.2, Option.bind_some, o2, Option.bind_some, an_yb g hg j hj, o_32, o_32, o_32, o_32, ez, e2]
  refine ⟨_, rfl, ⟨fun r hr => ?_, fun r k hk => ?_, rfl⟩, ?_, fun r hr => ?_, an_3 ?_ ?_ ?_, ?_⟩
  · dsimp only; rw [tk_u2_ne (by omega), tk_u2_ne (by omega), tk_u2_ne (by omega), tk_u2_ne (by omega)]
  · dsimp only; unfold tk_u2; rw [if_neg hk]
  · dsimp only; rw [tk_u2_eq]; exact i_add N 1
  · dsimp only; rw [tk_u2_ne hr, tk_u2_ne hr, tk_u2_ne hr, tk_u2_ne hr]
  · dsimp only; rw [tk_u2_nk (by decide), tk_u2_nk (by decide), tk_u2_nk (by decide), tk_u2_eq, en]; rfl
  · dsimp only; rw [tk_u2_nk (by decide), tk_u2_nk (by decide), tk_u2_eq, en]; rfl
  · dsimp only; rw [tk_u2_nk (by decide), tk_u2_eq, en]; rfl
  · dsimp only; rw [tk_u2_eq, eT]
theorem an_Tr (x y r a b s : Int) : (x - a) * (x - a) + (y - b) * (y - b) - (s - r) * (s - r) + 2 * ((x - a) * a + (y - b) * b + (s - r) * s) = (x * x + y * y - r * r) - (a * a + b * b - s * s) := by grind
theorem y_fm {s : s_sh} (ho : s_shOk s) (e : s.1 = false) (b : Bool) : (s_form s 3).toInt = s.2.1.toInt * s.2.1.toInt + s.2.2.1.toInt * s.2.2.1.toInt - an_z s b * an_z s b ∧ an_bd (s_form s 3).toInt 75 := by
  unfold s_shOk at ho
  rw [e, if_neg (by decide)] at ho
  have b1 : an_bd s.2.1.toInt 5 := an_in ho.1 (by decide) (by decide)
  have b2 : an_bd s.2.2.1.toInt 5 := an_in ho.2.1 (by decide) (by decide)
  have b3 : an_bd s.2.2.2.toInt 5 := an_in ho.2.2 (by decide) (by decide)
  have c1 : an_bd (s.2.1.toInt * s.2.1.toInt) 25 := bd_mul b1 b1 (by decide)
  have c2 : an_bd (s.2.2.1.toInt * s.2.2.1.toInt) 25 := bd_mul b2 b2 (by decide)
  have c3 : an_bd (s.2.2.2.toInt * s.2.2.2.toInt) 25 := bd_mul b3 b3 (by decide)
  have e1 := i_mul b1 b1 (by decide)
  have e2 := i_mul b2 b2 (by decide)
  have e3 := i_mul b3 b3 (by decide)
  have ez : an_z s b * an_z s b = s.2.2.2.toInt * s.2.2.2.toInt := by
    unfold an_z
    split
    · rw [Int.neg_mul_neg]
    · rfl
  have e4 : (s.2.1 * s.2.1 + s.2.2.1 * s.2.2.1).toInt = s.2.1.toInt * s.2.1.toInt + s.2.2.1.toInt * s.2.2.1.toInt := by rw [i_pls (a := 25) (b := 25) (by rw [e1]; exact c1) (by rw [e2]; exact c2) (by decide), e1, e2]
  have e5 : (s_form s 3).toInt = s.2.1.toInt * s.2.1.toInt + s.2.2.1.toInt * s.2.2.1.toInt - s.2.2.2.toInt * s.2.2.2.toInt := by
    unfold s_form
    rw [if_neg (by decide), if_neg (by decide), if_neg (by decide), e, if_neg (by decide)]
    rw [i_minus (a := 50) (b := 25) (by rw [e4]; exact bd_add c1 c2 (by decide)) (by rw [e3]; exact c3) (by decide), e4, e3]
  rw [ez]
  exact ⟨e5, by rw [e5]; exact bd_sub (bd_add c1 c2 (Nat.le_refl _)) c3 (by decide)⟩
theorem y_tkR (hg : g < 8) (h : y_G c t m) {j N f : Nat} (hj : j < 3) (hf : f < 3) (hN : N < 3) (hm : m.1 295 16 = Int32.ofNat N) (e : (t j).1 = false) (ef : (t f).1 = false) : ∃ m1, fM_takesRound (Int32.ofNat g) (Int32.ofNat j) (Int32.ofNat f) m = some m1 ∧ q_fr m m1 ∧ m1.1 295 16 = Int32.ofNat (N + 1) ∧ (∀ r, r ≠ 433 + N → m1.2.1 r = m.2.1 r) ∧ an_at m1 (433 + N) (an_n (an_base (t f) (an_bit g f)) (t j) (an_bit g j)) ∧ m1.2.1 (433 + N) 3 = Int64.ofInt (an_T (an_base (t f) (an_bit g f)) (t j) (an_bit g j)) := by
  obtain ⟨i, a1, a2⟩ := h.2.2 j hj
  obtain ⟨o, d1, d2⟩ := h.2.2 f hf
  have hy : ∀ L : Nat → Nat → Int64, y_S c 296 (m.1, L, m.2.2.1, m.2.2.2) := fun L => h.1
  have ho := y_G_ok h hj
  have hof := y_G_ok h hf
  have oi := fun L : Nat → Nat → Int64 => y_at (hy L) h.2.1.1 a2
  have oo := fun L : Nat → Nat → Int64 => y_at (hy L) h.2.1.1 d2
  have fi := fun L : Nat → Nat → Int64 => y_form (k := 3) (hy L) h.2.1 a2
  have fo := fun L : Nat → Nat → Int64 => y_form (k := 3) (hy L) h.2.1 d2
  obtain ⟨p1, p2⟩ := y_fm ho e (an_bit g j)
  obtain ⟨p3, p4⟩ := y_fm hof ef (an_bit g f)
  have ho' := ho
  have hof' := hof
  unfold s_shOk at ho' hof'
  rw [e, if_neg (by decide)] at ho'
  rw [ef, if_neg (by decide)] at hof'
  have b1 : an_bd (t j).2.1.toInt 5 := an_in ho'.1 (by decide) (by decide)
  have b2 : an_bd (t j).2.2.1.toInt 5 := an_in ho'.2.1 (by decide) (by decide)
  have b3 : an_bd (t j).2.2.2.toInt 5 := an_in ho'.2.2 (by decide) (by decide)
  have c1 : an_bd (t f).2.1.toInt 5 := an_in hof'.1 (by decide) (by decide)
  have c2 : an_bd (t f).2.2.1.toInt 5 := an_in hof'.2.1 (by decide) (by decide)
  have c3 : an_bd (t f).2.2.2.toInt 5 := an_in hof'.2.2 (by decide) (by decide)
  have en : an_n (an_base (t f) (an_bit g f)) (t j) (an_bit g j) = an_v ((t j).2.1.toInt - (t f).2.1.toInt) ((t j).2.2.1.toInt - (t f).2.2.1.toInt) (an_z (t f) (an_bit g f) - an_z (t j) (an_bit g j)) := by unfold an_n; rw [e, if_neg (by decide)]; rfl
  have eT : an_T (an_base (t f) (an_bit g f)) (t j) (an_bit g j) = (s_form (t j) 3).toInt - (s_form (t f) 3).toInt := by
    rw [p1, p3]
    unfold an_T an_t
    rw [e, if_neg (by decide), en]
    exact an_Tr _ _ _ _ _ _
  have z1 : ((if an_bit g f = true then (-1 : Int32) else 1) * (t f).2.2.2).toInt = an_z (t f) (an_bit g f) := i_bz _ c3
  have z2 : ((if an_bit g j = true then (-1 : Int32) else 1) * (t j).2.2.2).toInt = an_z (t j) (an_bit g j) := i_bz _ b3
  have bz : ∀ (s : s_sh) (b : Bool), an_bd s.2.2.2.toInt 5 → an_bd (an_z s b) 5 := fun s b hs => by
    unfold an_z
    split
    · exact bd_neg hs
    · exact hs
  have ez := i_minus (x := (if an_bit g f = true then (-1 : Int32) else 1) * (t f).2.2.2) (y := (if an_bit g j = true then (-1 : Int32) else 1) * (t j).2.2.2) (a := 5) (b := 5) (by rw [z1]; exact bz _ _ c3) (by rw [z2]; exact bz _ _ b3) (by decide)
  rw [z1, z2] at ez
  unfold fM_takesRound
  rw [a1, Option.bind_some, d1, Option.bind_some, hm, if_pos (i_ok hN (by omega)), i_nn (show N < 2147483648 by omega)]
  rw [show fM_of0 i 1 m = some (t j).2.1 from (oi m.2.1).2.1, Option.bind_some, show fM_of0 o 1 m = some (t f).2.1 from (oo m.2.1).2.1, Option.bind_some, (oi _).2.2.1, Option.bind_some, (oo _).2.2.1, Option.bind_some, (oo _).2.2.2, Option.bind_some, (oi _).2.2.2, Option.bind_some, fi, Option.bind_some, fo, Option.bind_some, an_yb g hg j hj, an_yb g hg f hf, o_32, o_32, o_32, o_32, ez, i_minus b1 c1 (by decide), i_minus b2 c2 (by decide), i_minus p2 p4 (by decide)]
  refine ⟨_, rfl, ⟨fun r hr => ?_, fun r k hk => ?_, rfl⟩, ?_, fun r hr => ?_, an_3 ?_ ?_ ?_, ?_⟩
  · dsimp only; rw [tk_u2_ne (by omega), tk_u2_ne (by omega), tk_u2_ne (by omega), tk_u2_ne (by omega)]
  · dsimp only; unfold tk_u2; rw [if_neg hk]
  · dsimp only; rw [tk_u2_eq]; exact i_add N 1
  · dsimp only; rw [tk_u2_ne hr, tk_u2_ne hr, tk_u2_ne hr, tk_u2_ne hr]
  · dsimp only; rw [tk_u2_nk (by decide), tk_u2_nk (by decide), tk_u2_nk (by decide), tk_u2_eq, en]; rfl
  · dsimp only; rw [tk_u2_nk (by decide), tk_u2_nk (by decide), tk_u2_eq, en]; rfl
  · dsimp only; rw [tk_u2_nk (by decide), tk_u2_eq, en]; rfl
  · dsimp only; rw [tk_u2_eq, eT]
end
