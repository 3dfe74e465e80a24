/-! ===== numbers alone: no square but 1 divides, signs of sums of roots ===== -/
def nu_sf (d : Nat) : Prop := ∀ k : Nat, k * k ∣ d → k = 1
theorem nu_sf_mul {a b : Nat} (ha : nu_sf a) (hb : nu_sf b) (h : Nat.Coprime a b) : nu_sf (a * b) := by
  intro k hk
  have h1 : Nat.gcd k a = 1 := by
    apply ha
    have e1 : Nat.gcd k a ∣ k := Nat.gcd_dvd_left k a
    have e2 : Nat.gcd k a ∣ a := Nat.gcd_dvd_right k a
    have e3 : Nat.Coprime (Nat.gcd k a) b := Nat.Coprime.coprime_dvd_left e2 h
    exact Nat.Coprime.dvd_of_dvd_mul_right (Nat.Coprime.mul_left e3 e3) (Nat.dvd_trans (Nat.mul_dvd_mul e1 e1) hk)
  have h2 : Nat.gcd k b = 1 := by
    apply hb
    have e1 : Nat.gcd k b ∣ k := Nat.gcd_dvd_left k b
    have e2 : Nat.gcd k b ∣ b := Nat.gcd_dvd_right k b
    have e3 : Nat.Coprime (Nat.gcd k b) a := Nat.Coprime.coprime_dvd_left e2 h.symm
    exact Nat.Coprime.dvd_of_dvd_mul_left (Nat.Coprime.mul_left e3 e3) (Nat.dvd_trans (Nat.mul_dvd_mul e1 e1) hk)
  have h3 : Nat.Coprime k (a * b) := Nat.Coprime.mul_right h1 h2
  exact Nat.Coprime.eq_one_of_dvd h3 (Nat.dvd_trans (Nat.dvd_mul_left k k) hk)
theorem nu_sf_pos {d : Nat} (h : nu_sf d) : 0 < d := by
  apply Nat.pos_of_ne_zero
  intro e
  subst e
  exact absurd (h 2 (Nat.dvd_zero _)) (by decide)
theorem nu_sf_uniq {b c d e : Nat} (hd : nu_sf d) (he : nu_sf e) (hb : 0 < b) (h : b * b * d = c * c * e) : d = e ∧ b = c := by
  have hg : 0 < Nat.gcd b c := Nat.gcd_pos_of_pos_left c hb
  obtain ⟨b', hb'⟩ := Nat.gcd_dvd_left b c
  obtain ⟨c', hc'⟩ := Nat.gcd_dvd_right b c
  have hco : Nat.Coprime b' c' := by
    have e1 : Nat.gcd (Nat.gcd b c * b') (Nat.gcd b c * c') = Nat.gcd b c * Nat.gcd b' c' := Nat.gcd_mul_left _ _ _
    rw [← hb', ← hc'] at e1
    exact Nat.eq_of_mul_eq_mul_left hg (by rw [← e1, Nat.mul_one])
  generalize Nat.gcd b c = g at *
  subst hb'
  subst hc'
  have h2 : b' * b' * d = c' * c' * e := by
    apply Nat.eq_of_mul_eq_mul_left (Nat.mul_pos hg hg)
    have : g * b' * (g * b') * d = g * c' * (g * c') * e := h
    grind
  have hcc : Nat.Coprime (b' * b') (c' * c') := Nat.Coprime.mul_left (Nat.Coprime.mul_right hco hco) (Nat.Coprime.mul_right hco hco)
  have b1 : b' = 1 := he b' (Nat.Coprime.dvd_of_dvd_mul_left hcc (by rw [← h2]; exact Nat.dvd_mul_right _ _))
  have c1 : c' = 1 := hd c' (Nat.Coprime.dvd_of_dvd_mul_left hcc.symm (by rw [h2]; exact Nat.dvd_mul_right _ _))
  subst b1
  subst c1
  exact ⟨by simpa using h2, rfl⟩
theorem nu_sf_one : nu_sf 1 := by
  intro k h
  have := Nat.eq_one_of_mul_eq_one_left (Nat.dvd_one.mp h)
  exact this
def nu_sg (x : Int) : Int := if 0 < x then 1 else if x < 0 then -1 else 0
theorem nu_sg_pos {x : Int} (h : 0 < x) : nu_sg x = 1 := by unfold nu_sg; rw [if_pos h]
theorem nu_sg_zero : nu_sg 0 = 0 := by decide
theorem nu_sg_neg1 {x : Int} (h : x < 0) : nu_sg x = -1 := by unfold nu_sg; rw [if_neg (by omega), if_pos h]
theorem nu_sg_mul (x y : Int) : nu_sg (x * y) = nu_sg x * nu_sg y := by
  rcases Int.lt_trichotomy x 0 with hx | hx | hx <;> rcases Int.lt_trichotomy y 0 with hy | hy | hy
  · rw [nu_sg_pos (Int.mul_pos_of_neg_of_neg hx hy), nu_sg_neg1 hx, nu_sg_neg1 hy]; rfl
  · subst hy; rw [Int.mul_zero, nu_sg_zero, Int.mul_zero]
  · rw [nu_sg_neg1 (Int.mul_neg_of_neg_of_pos hx hy), nu_sg_neg1 hx, nu_sg_pos hy]; rfl
  · subst hx; rw [Int.zero_mul, nu_sg_zero, Int.zero_mul]
  · subst hx; rw [Int.zero_mul, nu_sg_zero, Int.zero_mul]
  · subst hx; rw [Int.zero_mul, nu_sg_zero, Int.zero_mul]
  · rw [nu_sg_neg1 (Int.mul_neg_of_pos_of_neg hx hy), nu_sg_pos hx, nu_sg_neg1 hy]; rfl
  · subst hy; rw [Int.mul_zero, nu_sg_zero, Int.mul_zero]
  · rw [nu_sg_pos (Int.mul_pos hx hy), nu_sg_pos hx, nu_sg_pos hy]; rfl
theorem nu_sg_neg (x : Int) : nu_sg (-x) = - nu_sg x := by unfold nu_sg; grind
theorem nu_sg_iz {x : Int} : nu_sg x = 0 ↔ x = 0 := by unfold nu_sg; grind
theorem nu_sg_ip {x : Int} : 0 < nu_sg x ↔ 0 < x := by unfold nu_sg; grind
theorem nu_sg_in {x : Int} : nu_sg x < 0 ↔ x < 0 := by unfold nu_sg; grind
theorem nu_sg_cs (x : Int) : nu_sg x = 1 ∨ nu_sg x = 0 ∨ nu_sg x = -1 := by unfold nu_sg; grind
/-- the sign of a + b times the root of d, as the reference tells it -/
def nu_s1 (a b d : Int) : Int := if b = 0 then nu_sg a else if nu_sg a = nu_sg b then nu_sg a else if a = 0 then nu_sg b else if a * a = b * b * d then 0 else if b * b * d < a * a then nu_sg a else nu_sg b
def nu_cmpM (a b c d e : Int) : Int := if b = 0 then nu_s1 a c e else if c = 0 then nu_s1 a b d else if d = e then nu_s1 a (b + c) d else
  if a = 0 ∨ nu_sg a = (if nu_sg b = nu_sg c ∨ c * c * e < b * b * d then nu_sg b else nu_sg c) then (if nu_sg b = nu_sg c ∨ c * c * e < b * b * d then nu_sg b else nu_sg c) else
  if 0 < nu_s1 (a * a - (b * b * d + c * c * e)) (-(b * c * 2)) (d * e) then nu_sg a else (if nu_sg b = nu_sg c ∨ c * c * e < b * b * d then nu_sg b else nu_sg c)
def nu_rts (b c fs ss : Int) : Int := if nu_sg b * nu_sg c < 0 then nu_sg b * nu_sg (fs - ss) else if b = 0 then nu_sg c else nu_sg b
def nu_war (g p q : Int) : Int := if nu_sg g = p then p * nu_sg (g * g - q) else nu_sg (nu_sg g - p)
def nu_ordX (a b c d e : Int) : Int :=
  if a = 0 then nu_rts b c (b * b * d) (c * c * e) else if nu_rts b c (b * b * d) (c * c * e) = 0 then nu_sg a else if nu_sg a = nu_rts b c (b * b * d) (c * c * e) then nu_sg a else
  nu_sg a * nu_war (a * a - b * b * d - c * c * e) (nu_sg b * nu_sg c) (4 * (b * b * d * (c * c * e)))
/-- the class's weighing, where the double product is a whole number t -/
theorem nu_war_t {g t p : Int} (hp : nu_sg t = p) (h0 : t ≠ 0) : nu_war g p (t * t) = nu_sg (g - t) := by
  unfold nu_war
  subst hp
  rcases Int.lt_trichotomy t 0 with ht | ht | ht
  · rw [nu_sg_neg1 ht]
    rcases Int.lt_trichotomy g 0 with hg | hg | hg
    · rw [nu_sg_neg1 hg, if_pos rfl]
      have : g * g - t * t = (g - t) * (g + t) := by grind
      rw [this, nu_sg_mul, nu_sg_neg1 (show g + t < 0 by omega)]
      grind
    · subst hg; rw [nu_sg_zero, if_neg (by decide), nu_sg_pos (show 0 < 0 - t by omega)]; decide
    · rw [nu_sg_pos hg, if_neg (by decide), nu_sg_pos (show 0 < g - t by omega)]; decide
  · exact absurd ht h0
  · rw [nu_sg_pos ht]
    rcases Int.lt_trichotomy g 0 with hg | hg | hg
    · rw [nu_sg_neg1 hg, if_neg (by decide), nu_sg_neg1 (show g - t < 0 by omega)]; decide
    · subst hg; rw [nu_sg_zero, if_neg (by decide), nu_sg_neg1 (show 0 - t < 0 by omega)]; decide
    · rw [nu_sg_pos hg, if_pos rfl]
      have : g * g - t * t = (g - t) * (g + t) := by grind
      rw [this, nu_sg_mul, nu_sg_pos (show 0 < g + t by omega)]
      grind
/-- where the double product is no whole number: weighed by squares -/
theorem nu_war_q {g p q : Int} (hp : p = 1 ∨ p = -1) (h : nu_sg g = p → g * g ≠ q) : nu_war g p q = 1 ∨ nu_war g p q = -1 := by
  unfold nu_war
  by_cases e : nu_sg g = p
  · rw [if_pos e]
    have := h e
    have h3 : nu_sg (g * g - q) = 1 ∨ nu_sg (g * g - q) = -1 := by
      rcases nu_sg_cs (g * g - q) with a | a | a
      · exact .inl a
      · rw [nu_sg_iz] at a; exact absurd a (by omega)
      · exact .inr a
    rcases hp with rfl | rfl <;> rcases h3 with a | a <;> rw [a] <;> decide
  · rw [if_neg e]
    rcases nu_sg_cs g with a | a | a <;> rw [a] at e ⊢ <;> rcases hp with rfl | rfl <;> first | exact absurd rfl e | decide
theorem nu_s1_war {g p t D : Int} (hp : nu_sg t = -p) (h0 : t ≠ 0) (h : nu_sg g = p → g * g ≠ t * t * D) : nu_s1 g t D = nu_war g p (t * t * D) := by
  unfold nu_s1 nu_war
  rw [if_neg h0]
  have hpp : p = 1 ∨ p = -1 := by
    rcases nu_sg_cs t with a | a | a
    · right; omega
    · exact absurd (nu_sg_iz.mp a) h0
    · left; omega
  rw [hp]
  rcases Int.lt_trichotomy g 0 with hg | hg | hg
  · rw [nu_sg_neg1 hg] at h ⊢
    rcases hpp with rfl | rfl
    · rw [if_pos (by decide), if_neg (by decide)]; decide
    · rw [if_neg (by decide), if_neg (by omega), if_neg (h rfl), if_pos rfl]
      have := h rfl
      by_cases q : t * t * D < g * g
      · rw [if_pos q, nu_sg_pos (by omega)]; decide
      · rw [if_neg q, nu_sg_neg1 (by omega)]; decide
  · subst hg
    rw [nu_sg_zero]
    rcases hpp with rfl | rfl
    · rw [if_neg (by decide), if_pos rfl, if_neg (by decide)]; decide
    · rw [if_neg (by decide), if_pos rfl, if_neg (by decide)]; decide
  · rw [nu_sg_pos hg] at h ⊢
    rcases hpp with rfl | rfl
    · rw [if_neg (by decide), if_neg (by omega), if_neg (h rfl), if_pos rfl]
      have := h rfl
      by_cases q : t * t * D < g * g
      · rw [if_pos q, nu_sg_pos (by omega)]; decide
      · rw [if_neg q, nu_sg_neg1 (by omega)]; decide
    · rw [if_pos (by decide), if_neg (by decide)]; decide
theorem nu_opp {a c : Int} (ha : a ≠ 0) (hc : c ≠ 0) (hs : nu_sg a ≠ nu_sg c) : nu_sg c = - nu_sg a := by
  rcases nu_sg_cs a with x | x | x
  · rcases nu_sg_cs c with y | y | y
    · rw [x, y] at hs; exact absurd rfl hs
    · exact absurd (nu_sg_iz.mp y) hc
    · rw [x, y]
  · exact absurd (nu_sg_iz.mp x) ha
  · rcases nu_sg_cs c with y | y | y
    · rw [x, y]; decide
    · exact absurd (nu_sg_iz.mp y) hc
    · rw [x, y] at hs; exact absurd rfl hs
/-- one root alone -/
theorem nu_one {a c S : Int} (hc : c ≠ 0) (ha : a ≠ 0) (hs : nu_sg a ≠ nu_sg c) (Q : Int) : nu_sg a * nu_war (a * a - S) 0 Q = if a * a = S then 0 else if S < a * a then nu_sg a else nu_sg c := by
  unfold nu_war
  have hac : nu_sg c = - nu_sg a := nu_opp ha hc hs
  rw [hac]
  rcases Int.lt_trichotomy (a * a - S) 0 with h | h | h
  · rw [nu_sg_neg1 h, if_neg (by decide), if_neg (by omega), if_neg (by omega)]
    have : nu_sg (-1 - 0) = -1 := by decide
    rw [this]; omega
  · rw [h, nu_sg_zero, if_pos rfl, if_pos (by omega)]; omega
  · rw [nu_sg_pos h, if_neg (by decide), if_neg (by omega), if_pos (by omega)]
    have : nu_sg (1 - 0) = 1 := by decide
    rw [this]; omega
theorem nu_eq0 {a c d e : Int} : nu_ordX a 0 c d e = nu_s1 a c e := by
  have e1 : (0 : Int) * 0 * d = 0 := by grind
  have er : ∀ S, nu_rts 0 c 0 S = nu_sg c := fun S => by
    unfold nu_rts
    rw [nu_sg_zero, Int.zero_mul, if_neg (by decide), if_pos rfl]
  unfold nu_ordX nu_s1
  rw [e1, er, nu_sg_zero, Int.zero_mul, Int.sub_zero]
  by_cases ha : a = 0
  · subst ha
    rw [if_pos rfl]
    by_cases hc : c = 0
    · rw [if_pos hc, hc]
    · rw [if_neg hc, if_neg (by rw [nu_sg_zero]; exact fun q => hc (nu_sg_iz.mp q.symm)), if_pos rfl]
  rw [if_neg ha]
  by_cases hc : c = 0
  · subst hc
    rw [if_pos nu_sg_zero, if_pos rfl]
  rw [if_neg (fun q => hc (nu_sg_iz.mp q)), if_neg hc]
  by_cases hs : nu_sg a = nu_sg c
  · rw [if_pos hs, if_pos hs]
  rw [if_neg hs, if_neg hs, if_neg ha]
  exact nu_one hc ha hs _
theorem nu_eq1 {a b d e : Int} (hb : b ≠ 0) : nu_ordX a b 0 d e = nu_s1 a b d := by
  have e1 : (0 : Int) * 0 * e = 0 := by grind
  have er : ∀ S, nu_rts b 0 S 0 = nu_sg b := fun S => by
    unfold nu_rts
    rw [nu_sg_zero, Int.mul_zero, if_neg (by decide), if_neg hb]
  unfold nu_ordX nu_s1
  rw [e1, er, nu_sg_zero, Int.mul_zero, Int.sub_zero, if_neg hb]
  by_cases ha : a = 0
  · subst ha
    rw [if_pos rfl, if_neg (by rw [nu_sg_zero]; exact fun q => hb (nu_sg_iz.mp q.symm)), if_pos rfl]
  rw [if_neg ha, if_neg (fun q => hb (nu_sg_iz.mp q))]
  by_cases hs : nu_sg a = nu_sg b
  · rw [if_pos hs, if_pos hs]
  rw [if_neg hs, if_neg hs, if_neg ha]
  exact nu_one hb ha hs _
theorem nu_eq2 {a b c d : Int} (hb : b ≠ 0) (hc : c ≠ 0) (hd : 0 < d) : nu_ordX a b c d d = nu_s1 a (b + c) d := by
  have hr : nu_rts b c (b * b * d) (c * c * d) = nu_sg (b + c) := by
    unfold nu_rts
    have e1 : b * b * d - c * c * d = (b - c) * (b + c) * d := by grind
    rw [e1, nu_sg_mul, nu_sg_mul, nu_sg_pos hd]
    rcases Int.lt_trichotomy b 0 with h1 | h1 | h1
    · rcases Int.lt_trichotomy c 0 with h2 | h2 | h2
      · rw [nu_sg_neg1 h1, nu_sg_neg1 h2, if_neg (by decide), if_neg hb, nu_sg_neg1 (by omega)]
      · exact absurd h2 hc
      · rw [nu_sg_neg1 h1, nu_sg_pos h2, if_pos (by decide), nu_sg_neg1 (show b - c < 0 by omega)]; omega
    · exact absurd h1 hb
    · rcases Int.lt_trichotomy c 0 with h2 | h2 | h2
      · rw [nu_sg_pos h1, nu_sg_neg1 h2, if_pos (by decide), nu_sg_pos (show 0 < b - c by omega)]; omega
      · exact absurd h2 hc
      · rw [nu_sg_pos h1, nu_sg_pos h2, if_neg (by decide), if_neg hb, nu_sg_pos (by omega)]
  unfold nu_ordX nu_s1
  rw [hr]
  have ht : 2 * b * c * d ≠ 0 := by
    intro q
    rcases Int.mul_eq_zero.mp q with q | q
    · rcases Int.mul_eq_zero.mp q with q | q
      · omega
      · exact hc q
    · omega
  have hp : nu_sg (2 * b * c * d) = nu_sg b * nu_sg c := by rw [nu_sg_mul, nu_sg_mul, nu_sg_mul, nu_sg_pos hd, nu_sg_pos (by decide : (0 : Int) < 2), Int.one_mul, Int.mul_one]
  have eq4 : 4 * (b * b * d * (c * c * d)) = 2 * b * c * d * (2 * b * c * d) := by grind
  rw [eq4, nu_war_t hp ht]
  have eg : a * a - b * b * d - c * c * d - 2 * b * c * d = a * a - (b + c) * (b + c) * d := by grind
  rw [eg]
  by_cases ha : a = 0
  · subst ha
    rw [if_pos rfl, nu_sg_zero]
    by_cases hs : b + c = 0
    · rw [if_pos hs, hs, nu_sg_zero]
    · rw [if_neg hs, if_neg (fun q => hs (nu_sg_iz.mp q.symm)), if_pos rfl]
  rw [if_neg ha]
  by_cases hs : b + c = 0
  · rw [hs, nu_sg_zero, if_pos rfl, if_pos rfl]
  rw [if_neg (fun q => hs (nu_sg_iz.mp q)), if_neg hs]
  by_cases hq : nu_sg a = nu_sg (b + c)
  · rw [if_pos hq, if_pos hq]
  rw [if_neg hq, if_neg hq, if_neg ha]
  have hac : nu_sg (b + c) = - nu_sg a := nu_opp ha hs hq
  rw [hac]
  generalize (b + c) * (b + c) * d = S
  rcases Int.lt_trichotomy (a * a - S) 0 with h | h | h
  · rw [nu_sg_neg1 h, if_neg (by omega), if_neg (by omega)]; omega
  · rw [h, nu_sg_zero, if_pos (by omega)]; omega
  · rw [nu_sg_pos h, if_neg (by omega), if_pos (by omega)]; omega
theorem nu_sfi {b c d e : Int} (hb : b ≠ 0) (hd : nu_sf d.natAbs) (he : nu_sf e.natAbs) (hd0 : 0 ≤ d) (he0 : 0 ≤ e) (h : b * b * d = c * c * e) : d = e := by
  have h2 : b.natAbs * b.natAbs * d.natAbs = c.natAbs * c.natAbs * e.natAbs := by
    have := congrArg Int.natAbs h
    rw [Int.natAbs_mul, Int.natAbs_mul, Int.natAbs_mul, Int.natAbs_mul] at this
    exact this
  have := (nu_sf_uniq hd he (by omega) h2).1
  omega
theorem nu_eq3 {a b c d e : Int} (hb : b ≠ 0) (hc : c ≠ 0) (hd0 : 0 < d) (he0 : 0 < e) (hde : d ≠ e) (hd : nu_sf d.natAbs) (he : nu_sf e.natAbs) : nu_ordX a b c d e = nu_cmpM a b c d e := by
  have hne : b * b * d ≠ c * c * e := fun q => hde (nu_sfi hb hd he (by omega) (by omega) q)
  have hr : nu_rts b c (b * b * d) (c * c * e) = (if nu_sg b = nu_sg c ∨ c * c * e < b * b * d then nu_sg b else nu_sg c) := by
    unfold nu_rts
    generalize b * b * d = F at *
    generalize c * c * e = S at *
    rcases nu_sg_cs b with x | x | x
    · rcases nu_sg_cs c with y | y | y
      · rw [x, y, if_neg (by decide), if_neg hb, if_pos (.inl rfl)]
      · exact absurd (nu_sg_iz.mp y) hc
      · rw [x, y, if_pos (by decide)]
        by_cases q : S < F
        · rw [if_pos (.inr q), nu_sg_pos (by omega)]; decide
        · rw [if_neg (by rintro (q2 | q2); exact absurd q2 (by decide); exact q q2), nu_sg_neg1 (by omega)]; decide
    · exact absurd (nu_sg_iz.mp x) hb
    · rcases nu_sg_cs c with y | y | y
      · rw [x, y, if_pos (by decide)]
        by_cases q : S < F
        · rw [if_pos (.inr q), nu_sg_pos (by omega)]; decide
        · rw [if_neg (by rintro (q2 | q2); exact absurd q2 (by decide); exact q q2), nu_sg_neg1 (by omega)]; decide
      · exact absurd (nu_sg_iz.mp y) hc
      · rw [x, y, if_neg (by decide), if_neg hb, if_pos (.inl rfl)]
  unfold nu_ordX nu_cmpM
  rw [if_neg hb, if_neg hc, if_neg hde, ← hr]
  have hr0 : nu_rts b c (b * b * d) (c * c * e) = 1 ∨ nu_rts b c (b * b * d) (c * c * e) = -1 := by
    rw [hr]
    split
    · rcases nu_sg_cs b with x | x | x
      · exact .inl x
      · exact absurd (nu_sg_iz.mp x) hb
      · exact .inr x
    · rcases nu_sg_cs c with x | x | x
      · exact .inl x
      · exact absurd (nu_sg_iz.mp x) hc
      · exact .inr x
  have ht : -(b * c * 2) ≠ 0 := by
    intro q
    have q2 : b * c = 0 := by omega
    rcases Int.mul_eq_zero.mp q2 with q | q
    · exact hb q
    · exact hc q
  have hp : nu_sg (-(b * c * 2)) = - (nu_sg b * nu_sg c) := by rw [nu_sg_neg, nu_sg_mul, nu_sg_mul, nu_sg_pos (by decide : (0 : Int) < 2)]; omega
  have e4 : 4 * (b * b * d * (c * c * e)) = -(b * c * 2) * -(b * c * 2) * (d * e) := by grind
  have hq : (a * a - b * b * d - c * c * e) * (a * a - b * b * d - c * c * e) ≠ -(b * c * 2) * -(b * c * 2) * (d * e) := by
    intro q
    apply hde
    have h5 : (2 * b * c * d) * (2 * b * c * d) * e = (a * a - b * b * d - c * c * e) * (a * a - b * b * d - c * c * e) * d := by rw [q]; grind
    refine (nu_sfi ?_ he hd (by omega) (by omega) h5).symm
    intro z
    rcases Int.mul_eq_zero.mp z with z | z
    · rcases Int.mul_eq_zero.mp z with z | z
      · omega
      · exact hc z
    · omega
  have hg : a * a - (b * b * d + c * c * e) = a * a - b * b * d - c * c * e := by omega
  rw [hg, nu_s1_war hp ht (fun _ => hq), e4]
  generalize nu_rts b c (b * b * d) (c * c * e) = R at *
  have hpp : nu_sg b * nu_sg c = 1 ∨ nu_sg b * nu_sg c = -1 := by
    rcases nu_sg_cs b with x | x | x
    · rcases nu_sg_cs c with y | y | y
      · rw [x, y]; decide
      · exact absurd (nu_sg_iz.mp y) hc
      · rw [x, y]; decide
    · exact absurd (nu_sg_iz.mp x) hb
    · rcases nu_sg_cs c with y | y | y
      · rw [x, y]; decide
      · exact absurd (nu_sg_iz.mp y) hc
      · rw [x, y]; decide
  have hw := nu_war_q hpp (fun _ => hq)
  generalize nu_war (a * a - b * b * d - c * c * e) (nu_sg b * nu_sg c) (-(b * c * 2) * -(b * c * 2) * (d * e)) = V at *
  by_cases ha : a = 0
  · rw [if_pos ha, if_pos (.inl ha)]
  rw [if_neg ha, if_neg (by omega)]
  by_cases hs : nu_sg a = R
  · rw [if_pos hs, if_pos (.inr hs), hs]
  rw [if_neg hs, if_neg (by rintro (q | q); exact ha q; exact hs q)]
  have hA : nu_sg a = -R := by
    rcases nu_sg_cs a with x | x | x
    · omega
    · exact absurd (nu_sg_iz.mp x) ha
    · omega
  rw [hA]
  rcases hw with w | w <;> rw [w]
  · rw [if_pos (by decide)]; omega
  · rw [if_neg (by decide)]; omega
/-- both weighings agree -/
theorem nu_ord {a b c d e : Int} (hd : b ≠ 0 → 0 < d ∧ nu_sf d.natAbs) (he : c ≠ 0 → 0 < e ∧ nu_sf e.natAbs) : nu_ordX a b c d e = nu_cmpM a b c d e := by
  by_cases hb : b = 0
  · subst hb
    rw [nu_eq0]; unfold nu_cmpM; rw [if_pos rfl]
  by_cases hc : c = 0
  · subst hc
    rw [nu_eq1 hb]; unfold nu_cmpM; rw [if_neg hb, if_pos rfl]
  by_cases hde : d = e
  · subst hde
    rw [nu_eq2 hb hc (hd hb).1]; unfold nu_cmpM; rw [if_neg hb, if_neg hc, if_pos rfl]
  · exact nu_eq3 hb hc (hd hb).1 (he hc).1 hde (hd hb).2 (he hc).2
