/-! ===== the class's vectors ===== -/
def an_at (m : tk_m) (r : Nat) (v : an_V) : Prop := ∀ k, k < 3 → m.2.1 r k = Int64.ofInt (v k)
/-- only vector t has changed -/
def v_fr (t : Nat) (m m' : tk_m) : Prop := m'.1 = m.1 ∧ m'.2.2 = m.2.2 ∧ (∀ r, r ≠ t → m'.2.1 r = m.2.1 r) ∧ ∀ k, 3 ≤ k → m'.2.1 t k = m.2.1 t k
theorem o_add (a b : Int) : Int64.ofInt a + Int64.ofInt b = Int64.ofInt (a + b) := (Int64.ofInt_add a b).symm
theorem o_mul (a b : Int) : Int64.ofInt a * Int64.ofInt b = Int64.ofInt (a * b) := (Int64.ofInt_mul a b).symm
theorem o_sub (a b : Int) : Int64.ofInt a - Int64.ofInt b = Int64.ofInt (a - b) := (Int64.ofInt_sub a b).symm
theorem o_neg (a : Int) : -Int64.ofInt a = Int64.ofInt (-a) := (Int64.ofInt_neg a).symm
theorem o_32 (x : Int32) : Int32.toInt64 x = Int64.ofInt x.toInt := lo_of (Int32.toInt_toInt64 x)
theorem at_fr {t r : Nat} {v : an_V} {m m' : tk_m} (h : an_at m r v) (hr : r ≠ t) (q : v_fr t m m') : an_at m' r v := fun k hk => by rw [q.2.2.1 r hr]; exact h k hk
section
variable {m : tk_m} {t : Nat}
theorem v_set {v : an_V} {x y z : Int64} (hx : x = Int64.ofInt (v 0)) (hy : y = Int64.ofInt (v 1)) (hz : z = Int64.ofInt (v 2)) : v_fr t m (fV_set t x y z m) ∧ an_at (fV_set t x y z m) t v := by
  unfold fV_set
  refine ⟨⟨rfl, rfl, fun r hr => ?_, fun k hk => ?_⟩, an_3 ?_ ?_ ?_⟩
  · dsimp only; rw [tk_u2_ne hr, tk_u2_ne hr, tk_u2_ne hr]
  · dsimp only; rw [tk_u2_nk (by omega), tk_u2_nk (by omega), tk_u2_nk (by omega)]
  · dsimp only; rw [tk_u2_nk (by decide), tk_u2_nk (by decide), tk_u2_eq]; exact hx
  · dsimp only; rw [tk_u2_nk (by decide), tk_u2_eq]; exact hy
  · dsimp only; rw [tk_u2_eq]; exact hz
theorem v_cross {a b : Nat} {v w : an_V} (ha : an_at m a v) (hb : an_at m b w) : v_fr t m (fV_takeCross t a b m) ∧ an_at (fV_takeCross t a b m) t (an_X v w) := by
  unfold fV_takeCross tk_let
  refine v_set ?_ ?_ ?_
  · rw [ha 1 (by decide), ha 2 (by decide), hb 1 (by decide), hb 2 (by decide), o_mul, o_mul, o_sub]; rfl
  · rw [ha 0 (by decide), ha 2 (by decide), hb 0 (by decide), hb 2 (by decide), o_mul, o_mul, o_sub]; rfl
  · rw [ha 0 (by decide), ha 1 (by decide), hb 0 (by decide), hb 1 (by decide), o_mul, o_mul, o_sub]; rfl
theorem v_add_eq {c : Int64} {a : Nat} (h : a ≠ t) : fV_add t c a m = fV_set t (m.2.1 t 0 + c * m.2.1 a 0) (m.2.1 t 1 + c * m.2.1 a 1) (m.2.1 t 2 + c * m.2.1 a 2) m := by
  have e0 : ∀ (x : Int64), tk_u2 m.2.1 t 0 x t 1 = m.2.1 t 1 := fun x => tk_u2_nk (by decide)
  have e1 : ∀ (x : Int64) k, tk_u2 m.2.1 t 0 x a k = m.2.1 a k := fun x k => congrFun (tk_u2_ne h) k
  have e2 : ∀ (x y : Int64), tk_u2 (tk_u2 m.2.1 t 0 x) t 1 y t 2 = m.2.1 t 2 := fun x y => by rw [tk_u2_nk (by decide), tk_u2_nk (by decide)]
  have e3 : ∀ (x y : Int64) k, tk_u2 (tk_u2 m.2.1 t 0 x) t 1 y a k = m.2.1 a k := fun x y k => by rw [tk_u2_ne h, tk_u2_ne h]
  unfold fV_add fV_set
  rw [e0, e1, e2, e3]
theorem v_add {c : Int} {a : Nat} {f : Int64} {v w : an_V} (h : a ≠ t) (hf : f = Int64.ofInt c) (hv : an_at m t v) (hw : an_at m a w) : v_fr t m (fV_add t f a m) ∧ an_at (fV_add t f a m) t (fun k => v k + c * w k) := by
  rw [v_add_eq h, hf]
  refine v_set ?_ ?_ ?_
  · rw [hv 0 (by decide), hw 0 (by decide), o_mul, o_add]
  · rw [hv 1 (by decide), hw 1 (by decide), o_mul, o_add]
  · rw [hv 2 (by decide), hw 2 (by decide), o_mul, o_add]
theorem v_addB_eq {c : Int64} {a : Nat} (h : a ≠ t) : fV_addBent t c a m = fV_set t (m.2.1 t 0 + c * m.2.1 a 0) (m.2.1 t 1 + c * m.2.1 a 1) (m.2.1 t 2 - c * m.2.1 a 2) m := by
  have e0 : ∀ (x : Int64), tk_u2 m.2.1 t 0 x t 1 = m.2.1 t 1 := fun x => tk_u2_nk (by decide)
  have e1 : ∀ (x : Int64) k, tk_u2 m.2.1 t 0 x a k = m.2.1 a k := fun x k => congrFun (tk_u2_ne h) k
  have e2 : ∀ (x y : Int64), tk_u2 (tk_u2 m.2.1 t 0 x) t 1 y t 2 = m.2.1 t 2 := fun x y => by rw [tk_u2_nk (by decide), tk_u2_nk (by decide)]
  have e3 : ∀ (x y : Int64) k, tk_u2 (tk_u2 m.2.1 t 0 x) t 1 y a k = m.2.1 a k := fun x y k => by rw [tk_u2_ne h, tk_u2_ne h]
  unfold fV_addBent fV_set
  rw [e0, e1, e2, e3]
theorem v_addB {c : Int} {a : Nat} {f : Int64} {v w : an_V} (h : a ≠ t) (hf : f = Int64.ofInt c) (hv : an_at m t v) (hw : an_at m a w) : v_fr t m (fV_addBent t f a m) ∧ an_at (fV_addBent t f a m) t (fun k => v k + c * an_J w k) := by
  rw [v_addB_eq h, hf]
  refine v_set ?_ ?_ ?_
  · rw [hv 0 (by decide), hw 0 (by decide), o_mul, o_add]; rfl
  · rw [hv 1 (by decide), hw 1 (by decide), o_mul, o_add]; rfl
  · rw [hv 2 (by decide), hw 2 (by decide), o_mul, o_sub, an_J2, Int.mul_neg]; rfl
theorem v_S {a b : Nat} {v w : an_V} (hv : an_at m a v) (hw : an_at m b w) : fV_straightProduct a b m = Int64.ofInt (an_S v w) := by
  unfold fV_straightProduct
  rw [hv 0 (by decide), hv 1 (by decide), hv 2 (by decide), hw 0 (by decide), hw 1 (by decide), hw 2 (by decide), o_mul, o_mul, o_mul, o_add, o_add]
  rfl
theorem v_B {a b : Nat} {v w : an_V} (hv : an_at m a v) (hw : an_at m b w) : fV_bentProduct a b m = Int64.ofInt (an_B v w) := by
  unfold fV_bentProduct
  rw [hv 0 (by decide), hv 1 (by decide), hv 2 (by decide), hw 0 (by decide), hw 1 (by decide), hw 2 (by decide), o_mul, o_mul, o_mul, o_add, o_sub]
  rfl
theorem o_z {x : Int} {n : Nat} (h : an_bd x n) (hn : n < 9223372036854775808) : Int64.ofInt x = 0 ↔ x = 0 := by
  rw [lo_z, lo_i (bd_r h hn)]
theorem v_zero {a : Nat} {v : an_V} (hv : an_at m a v) (hb : an_vb v 1000000) : fV_isZero a m = true ↔ (v 0 = 0 ∧ v 1 = 0 ∧ v 2 = 0) := by
  have z : ∀ k, k < 3 → (m.2.1 a k = 0 ↔ v k = 0) := fun k hk => by rw [hv k hk]; exact o_z (hb k hk) (by decide)
  unfold fV_isZero
  by_cases c0 : m.2.1 a 0 = 0
  · rw [if_pos c0]
    by_cases c1 : m.2.1 a 1 = 0
    · rw [if_pos c1]
      by_cases c2 : m.2.1 a 2 = 0
      · rw [if_pos c2]
        exact ⟨fun _ => ⟨(z 0 (by decide)).mp c0, (z 1 (by decide)).mp c1, (z 2 (by decide)).mp c2⟩, fun _ => rfl⟩
      · rw [if_neg c2]
        exact ⟨fun q => Bool.noConfusion q, fun q => absurd ((z 2 (by decide)).mpr q.2.2) c2⟩
    · rw [if_neg c1]
      exact ⟨fun q => Bool.noConfusion q, fun q => absurd ((z 1 (by decide)).mpr q.2.1) c1⟩
  · rw [if_neg c0]
    exact ⟨fun q => Bool.noConfusion q, fun q => absurd ((z 0 (by decide)).mpr q.1) c0⟩
end
