/-! ===== ANSWERS: a circle's row ===== -/
def an_lw (f : Nat → Int) : Nat → Int64 := fun k => if k < 7 then Int64.ofInt (f k / lo_D (lo_g f 7) (f 6)) else 0
theorem an_lw_ext {f g : Nat → Int} (h : ∀ k, k < 7 → f k = g k) : an_lw f = an_lw g := by
  funext k
  unfold an_lw
  by_cases hk : k < 7
  · rw [if_pos hk, if_pos hk, lo_g_ext 7 h, h k hk, h 6 (by decide)]
  · rw [if_neg hk, if_neg hk]
theorem an_lw_mul {c : Int} {f : Nat → Int} (hc : c ≠ 0) (h6 : f 6 ≠ 0) : an_lw (fun k => c * f k) = an_lw f := by
  funext k
  unfold an_lw
  by_cases hk : k < 7
  · rw [if_pos hk, if_pos hk, lo_g_mul, lo_scale hc (lo_g_pos (k := 6) (by decide) h6) h6 (lo_g_dvd f 7 k hk)]
  · rw [if_neg hk, if_neg hk]
theorem lo_val_mul {c p q m : Int} {d : Int64} (hc : c ≠ 0) (hm : m ≠ 0) : lo_val (c * p) (c * q) d (c * m) = lo_val p q d m := by
  have e : lo_D3 (c * p) (c * q) (c * m) = lo_D (c.natAbs * lo_g (lo_f3 p q m) 3) (c * m) := by
    unfold lo_D3
    rw [lo_g_ext (f' := fun k => c * lo_f3 p q m k) 3 (fun k hk => by
      rcases (show k = 0 ∨ k = 1 ∨ k = 2 by omega) with rfl | rfl | rfl <;> rfl), lo_g_mul]
  have hg := lo_g3p (p := p) (q := q) hm
  unfold lo_val
  rw [e, lo_scale (x := p) hc hg hm (lo_g_dvd (lo_f3 p q m) 3 0 (by decide)), lo_scale (x := q) hc hg hm (lo_g_dvd (lo_f3 p q m) 3 1 (by decide)), lo_scale (x := m) hc hg hm (lo_g_dvd (lo_f3 p q m) 3 2 (by decide))]
  have hq : (c * q = 0) ↔ (q = 0) := ⟨fun z => (Int.mul_eq_zero.mp z).resolve_left hc, fun z => by rw [z, Int.mul_zero]⟩
  have hi : (if c * q = 0 then (0 : Int64) else d) = if q = 0 then 0 else d := by
    by_cases z : q = 0
    · rw [if_pos z, if_pos (hq.mpr z)]
    · rw [if_neg z, if_neg (fun y => z (hq.mp y))]
  rw [hi]
  rfl
/-- a row small enough -/
def an_rb1 (f : Nat → Int) : Prop := f 6 ≠ 0 ∧ ∀ k, k < 7 → an_bd (f k) 1000000000000000000
theorem an_lw_D {f : Nat → Int} (h : an_rb1 f) : ∃ D, D ≠ 0 ∧ (∀ k, k < 7 → f k = D * (an_lw f k).toInt) ∧ 0 < (an_lw f 6).toInt ∧ lo_D (lo_g f 7) (f 6) = D ∧ lo_r D ∧ ∀ k, k < 7 → (an_lw f k).toInt = f k / D := by
  have hg : 0 < lo_g f 7 := lo_g_pos (k := 6) (by decide) h.1
  have hn : lo_D (lo_g f 7) (f 6) ≠ 0 := lo_D_ne hg
  have hd : ∀ k, k < 7 → lo_D (lo_g f 7) (f 6) ∣ f k := fun k hk => lo_D_dvd (lo_g_dvd f 7 k hk)
  have hr : ∀ k, k < 7 → lo_r (f k / lo_D (lo_g f 7) (f 6)) := fun k hk => by
    have hb := h.2 k hk
    unfold an_bd at hb
    exact lo_qr (hd k hk) (bd_r (h.2 k hk) (by decide)) (.inl (by omega))
  have hv : ∀ k, k < 7 → (an_lw f k).toInt = f k / lo_D (lo_g f 7) (f 6) := fun k hk => by
    unfold an_lw
    rw [if_pos hk, lo_i (hr k hk)]
  have hgl : lo_g f 7 ≤ (f 6).natAbs := Nat.le_of_dvd (by have := h.1; omega) (lo_g_dvd f 7 6 (by decide))
  have hb6 := h.2 6 (by decide)
  unfold an_bd at hb6
  refine ⟨_, hn, fun k hk => ?_, ?_, rfl, ?_, hv⟩
  · rw [hv k hk, Int.mul_ediv_cancel' (hd k hk)]
  · rw [hv 6 (by decide)]
    have e := Int.mul_ediv_cancel' (hd 6 (by decide))
    have h6 := h.1
    unfold lo_D at *
    by_cases c : f 6 < 0
    · rw [if_pos c] at *
      generalize f 6 / -(lo_g f 7 : Int) = z at *
      rcases Int.lt_trichotomy z 0 with hz | hz | hz
      · have := Int.mul_pos_of_neg_of_neg (show -(lo_g f 7 : Int) < 0 by omega) hz
        omega
      · rw [hz, Int.mul_zero] at e; omega
      · exact hz
    · rw [if_neg c] at *
      generalize f 6 / (lo_g f 7 : Int) = z at *
      rcases Int.lt_trichotomy z 0 with hz | hz | hz
      · have := Int.mul_neg_of_pos_of_neg (show 0 < (lo_g f 7 : Int) by omega) hz
        omega
      · rw [hz, Int.mul_zero] at e; omega
      · exact hz
  · unfold lo_D
    split <;> (constructor <;> omega)
/-- the numbers of a row are those of the row lowered -/
theorem an_val {f : Nat → Int} (h : an_rb1 f) {k : Nat} (hk : k < 3) (d : Int64) : lo_val (an_lw f k).toInt (an_lw f (3 + k)).toInt d (an_lw f 6).toInt = lo_val (f k) (f (3 + k)) d (f 6) := by
  obtain ⟨D, h0, h1, h2, h3, h4, h5⟩ := an_lw_D h
  rw [h1 k (by omega), h1 (3 + k) (by omega), h1 6 (by decide), lo_val_mul h0 (by omega)]
def an_row (S W B : an_V) (M p q : Int) : Nat → Int := fun j => if j < 3 then S j + p * W j + B j * M else if j < 6 then q * W (j - 3) else M
theorem an_row_lo {S W B : an_V} {M p q : Int} {j : Nat} (h : j < 3) : an_row S W B M p q j = S j + p * W j + B j * M := by unfold an_row; rw [if_pos h]
theorem an_row_hi {S W B : an_V} {M p q : Int} {j : Nat} (h : j < 3) : an_row S W B M p q (3 + j) = q * W j := by
  unfold an_row
  rw [if_neg (by omega), if_pos (by omega), show 3 + j - 3 = j by omega]
theorem an_row_6 {S W B : an_V} {M p q : Int} : an_row S W B M p q 6 = M := rfl
theorem an_7 {P : Nat → Prop} (h : ∀ k, k < 3 → P k) (h2 : ∀ k, k < 3 → P (3 + k)) (h6 : P 6) : ∀ k, k < 7 → P k := fun k hk => by
  by_cases c : k < 3
  · exact h k c
  · by_cases c2 : k < 6
    · have := h2 (k - 3) (by omega)
      rw [show 3 + (k - 3) = k by omega] at this
      exact this
    · rw [show k = 6 by omega]; exact h6
/-! a circle: its SIGNS, its row, what is under the root -/
abbrev an_c : Type := Int32 × (Nat → Int64) × Int64
def an_num (c : an_c) (k : Nat) : s_nm := lo_val (c.2.1 k).toInt (c.2.1 (3 + k)).toInt c.2.2 (c.2.1 6).toInt
def an_rad (c : an_c) : Bool := decide (0 < nu_s1 (c.2.1 2).toInt (c.2.1 5).toInt c.2.2.toInt)
noncomputable def an_sd (n : Nat) : Nat × Nat := @dite _ (0 < n) (Classical.propDecidable _) (fun h => (Classical.choose (rt_parts n h), Classical.choose (Classical.choose_spec (rt_parts n h)))) (fun _ => (0, 0))
theorem an_sd_of {n : Nat} (h : 0 < n) : n = (an_sd n).1 * (an_sd n).1 * (an_sd n).2 ∧ nu_sf (an_sd n).2 := by
  unfold an_sd
  rw [dif_pos h]
  exact Classical.choose_spec (Classical.choose_spec (rt_parts n h))
def an_ls (M : Int) (W : an_V) : Int := if (0 < (if W 2 = 0 then (if W 0 = 0 then W 1 else W 0) else W 2)) ↔ 0 < M then -1 else 1
/-- what a line comes to: under the root; where it is nearest; its way; what all is divided by -/
abbrev an_R : Type := Int × an_V × an_V × Int
def an_mk (g : Int32) (B : an_V) (r : an_R) (p q : Int) (d : Int64) : an_c := (g, an_lw (an_row r.2.1 r.2.2.1 B r.2.2.2 p q), d)
/-- the place on side e of the line, where what is under the root is s times s times d -/
def an_e (g : Int32) (B : an_V) (r : an_R) (s d : Nat) (e : Int) : an_c := an_mk g B r (if d = 1 then e * s else 0) (if d = 1 then 0 else e * s) (if d = 1 then 0 else rt_o d)
noncomputable def an_cs (g : Int32) (B : an_V) (r : an_R) : List an_c := if r.1 < 0 then [] else if r.1 = 0 then [an_mk g B r 0 0 0].filter an_rad else [an_e g B r (an_sd r.1.natAbs).1 (an_sd r.1.natAbs).2 (an_ls r.2.2.2 r.2.2.1), an_e g B r (an_sd r.1.natAbs).1 (an_sd r.1.natAbs).2 (-an_ls r.2.2.2 r.2.2.1)].filter an_rad
/-! SIGNS: where planes and cone meet; none: LOOSE -/
def an_z (s : s_sh) (b : Bool) : Int := if b = true then -s.2.2.2.toInt else s.2.2.2.toInt
def an_base (s : s_sh) (b : Bool) : an_V := an_v s.2.1.toInt s.2.2.1.toInt (an_z s b)
def an_n (B : an_V) (s : s_sh) (b : Bool) : an_V := if s.1 = true then an_v (s_A s.2.1).toInt (s_B s.2.1).toInt (if b = true then (s_L s.2.1).toInt else -(s_L s.2.1).toInt) else an_v (s.2.1.toInt - B 0) (s.2.2.1.toInt - B 1) (B 2 - an_z s b)
def an_t (B : an_V) (s : s_sh) (b : Bool) : Int := if s.1 = true then 2 * (s.2.2.1.toInt - an_S (an_n B s b) B) else an_B (an_n B s b) (an_n B s b)
def an_m3 (a b c : an_V) (p q r : Int) : Option an_R := if an_S a (an_X b c) = 0 then none else some (0, (fun k => p * an_X b c k + q * an_X c a k + r * an_X a b k), (fun _ => 0), 2 * an_S a (an_X b c))
def an_m2 (a b : an_V) (s t : Int) : Option an_R := if an_X a b 0 = 0 ∧ an_X a b 1 = 0 ∧ an_X a b 2 = 0 then none else if an_B (an_X a b) (an_X a b) = 0 then (if an_B (an_W a b s t) (an_X a b) = 0 then (if an_B (an_W a b s t) (an_W a b s t) = 0 then none else some (-1, (fun _ => 0), (fun _ => 0), 1)) else some (0, an_L (2 * an_B (an_W a b s t) (an_X a b)) (an_W a b s t) (- an_B (an_W a b s t) (an_W a b s t)) (an_X a b), (fun _ => 0), 4 * an_B (an_W a b s t) (an_X a b) * an_S (an_X a b) (an_X a b))) else some (an_sq a b s t, an_st a b s t, an_X a b, 2 * an_B (an_X a b) (an_X a b))
/-- three shapes, their SIGNS' bits: the base and what the line comes to -/
def an_sol (x y z : s_sh) (a b c : Bool) : an_V × Option an_R :=
  if x.1 = false then (an_base x a, an_m2 (an_n (an_base x a) y b) (an_n (an_base x a) z c) (an_t (an_base x a) y b) (an_t (an_base x a) z c))
  else if y.1 = false then (an_base y b, an_m2 (an_n (an_base y b) x a) (an_n (an_base y b) z c) (an_t (an_base y b) x a) (an_t (an_base y b) z c))
  else if z.1 = false then (an_base z c, an_m2 (an_n (an_base z c) x a) (an_n (an_base z c) y b) (an_t (an_base z c) x a) (an_t (an_base z c) y b))
  else ((fun _ => 0), an_m3 (an_n (fun _ => 0) x a) (an_n (fun _ => 0) y b) (an_n (fun _ => 0) z c) (an_t (fun _ => 0) x a) (an_t (fun _ => 0) y b) (an_t (fun _ => 0) z c))
/-- SIGNS as their bits -/
def an_bit (g n : Nat) : Bool := g.testBit n
def an_cnt (x y z : s_sh) (g : Nat) : Bool := !((an_bit g 0 && decide (s_kind x = 3)) || (an_bit g 1 && decide (s_kind y = 3)) || (an_bit g 2 && decide (s_kind z = 3)))
/-- what is found: LOOSE SIGNS, circles -/
abbrev an_F : Type := Int32 × List an_c
noncomputable def an_one (x y z : s_sh) (g : Nat) (f : an_F) : an_F := if an_cnt x y z g = true then (match an_sol x y z (an_bit g 0) (an_bit g 1) (an_bit g 2) with
  | (_, none) => (f.1 ||| tk_ishl 1 (Int32.ofNat g), f.2)
  | (B, some r) => (f.1, f.2 ++ an_cs (Int32.ofNat g) B r)) else f
noncomputable def an_upto (x y z : s_sh) : Nat → an_F
  | 0 => (0, [])
  | g + 1 => an_one x y z g (an_upto x y z g)
