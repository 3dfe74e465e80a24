/-! ===== how two shapes lie; rings ===== -/
def s_apart (s u : s_sh) : Int32 := ((s.2.1 - u.2.1) * (s.2.1 - u.2.1)) + ((s.2.2.1 - u.2.2.1) * (s.2.2.1 - u.2.2.1))
def s_meet (s u : s_sh) : Int32 := if s_apart s u = 0 ∧ s.2.2.2 = u.2.2.2 then 3 else fM_inCommon (s_apart s u) ((s.2.2.2 + u.2.2.2) * (s.2.2.2 + u.2.2.2)) ((s.2.2.2 - u.2.2.2) * (s.2.2.2 - u.2.2.2))
def s_off (s u : s_sh) : Int32 := ((s_A s.2.1 * u.2.1) + (s_B s.2.1 * u.2.2.1)) - s.2.2.1
def s_cross (s u : s_sh) : Int32 := fM_inCommon (s_off s u * s_off s u) ((s_L s.2.1 * u.2.2.2) * (s_L s.2.1 * u.2.2.2)) (-1)
def s_lie (s u : s_sh) : Int32 := if s.1 = true then (if u.1 = true then (if s.2.1 = u.2.1 then (if s.2.2.1 = u.2.2.1 then 3 else 0) else 1) else s_cross s u) else (if u.1 = true then s_cross u s else s_meet s u)
theorem i_subz {a b : Int32} : a - b = 0 ↔ a = b := by
  constructor
  · intro h
    have : a = (a - b) + b := by grind
    rw [this, h]; grind
  · intro h; rw [h]; grind
theorem s_ABL {k : Int32} (h : s_in k 0 5) : (s_A k).toInt.natAbs ≤ 4 ∧ (s_B k).toInt.natAbs ≤ 4 ∧ (s_L k).toInt.natAbs ≤ 5 := by
  have hk : k.toInt = 0 ∨ k.toInt = 1 ∨ k.toInt = 2 ∨ k.toInt = 3 ∨ k.toInt = 4 ∨ k.toInt = 5 := by have := h.1; have := h.2; omega
  rcases hk with q | q | q | q | q | q
  · have : k = 0 := i_ext q
    subst this; decide
  · have : k = 1 := i_ext q
    subst this; decide
  · have : k = 2 := i_ext q
    subst this; decide
  · have : k = 3 := i_ext q
    subst this; decide
  · have : k = 4 := i_ext q
    subst this; decide
  · have : k = 5 := i_ext q
    subst this; decide
theorem i_mulb {a b : Int32} {A B : Nat} (ha : a.toInt.natAbs ≤ A) (hb : b.toInt.natAbs ≤ B) (h : A * B < 2147483648) : (a * b).toInt = a.toInt * b.toInt ∧ (a * b).toInt.natAbs ≤ A * B := by
  have h1 := wd_b2 ha hb
  have h2 : (a * b).toInt = a.toInt * b.toInt := i_tmul (by omega)
  rw [h2]
  exact ⟨rfl, h1⟩
theorem s_off_nn {s u : s_sh} (hs : s_shOk s) (e : s.1 = true) (hu : s_shOk u) (e2 : ¬ u.1 = true) : 0 ≤ (s_off s u * s_off s u).toInt := by
  unfold s_shOk at hs hu
  rw [if_pos e] at hs
  rw [if_neg e2] at hu
  obtain ⟨b1, b2, b3⟩ := s_ABL hs.1
  have c1 := hs.2
  have x1 := hu.1
  have y1 := hu.2.1
  unfold s_in at c1 x1 y1
  obtain ⟨p1, p2⟩ := i_mulb b1 (show u.2.1.toInt.natAbs ≤ 5 by omega) (by decide)
  obtain ⟨p3, p4⟩ := i_mulb b2 (show u.2.2.1.toInt.natAbs ≤ 5 by omega) (by decide)
  have s1 : (s_A s.2.1 * u.2.1 + s_B s.2.1 * u.2.2.1).toInt = (s_A s.2.1 * u.2.1).toInt + (s_B s.2.1 * u.2.2.1).toInt := i_tadd (by omega)
  have s2 : (s_off s u).toInt = (s_A s.2.1 * u.2.1).toInt + (s_B s.2.1 * u.2.2.1).toInt - s.2.2.1.toInt := by
    unfold s_off
    rw [i_tsub (by omega), s1]
  have hb : (s_off s u).toInt.natAbs ≤ 100 := by omega
  rw [(i_mulb hb hb (by decide)).1]
  exact nu_nn _
section
variable {K : List s_sh → Int32 × Int32 × Int32 → tk_m → Prop} {a : s_as} {m m' : tk_m} {α : Type}
theorem x_crossings {s u : s_sh} {h g : Nat} (hs : x_H s h m) (hu : x_H u g m) (e : s.1 = true) (e2 : ¬ u.1 = true) (os : s_shOk s) (ou : s_shOk u) : fH_crossings h g m = s_cross s u := by
  have hnn := s_off_nn os e ou e2
  obtain ⟨h1, h2, h3⟩ := hs
  obtain ⟨g1, g2, g3⟩ := hu
  obtain ⟨a1, a2, a3, a4, a5⟩ := h3 e
  obtain ⟨b1, b2, b3⟩ := g2 (by simpa using e2)
  have hp : fH_powerIn h (m.1 g 1) (m.1 g 2) m = s_off s u := by
    unfold fH_powerIn
    rw [x_form ⟨h1, h2, h3⟩, x_form ⟨h1, h2, h3⟩, x_form ⟨h1, h2, h3⟩, x_form ⟨h1, h2, h3⟩, b1, b2]
    have f0 : s_form s 0 = 0 := by unfold s_form; rw [if_pos rfl, if_pos e]
    have f1 : s_form s 1 = s_A s.2.1 := by unfold s_form; rw [if_neg (by decide), if_pos rfl, if_pos e]
    have f2 : s_form s 2 = s_B s.2.1 := by unfold s_form; rw [if_neg (by decide), if_neg (by decide), if_pos rfl, if_pos e]
    have f3 : s_form s 3 = -s.2.2.1 := by unfold s_form; rw [if_neg (by decide), if_neg (by decide), if_neg (by decide), if_pos e]
    rw [f0, f1, f2, f3]
    unfold s_off
    grind
  unfold fH_crossings s_cross
  rw [hp, a5, b3]
  generalize s_off s u * s_off s u = S at *
  generalize s_L s.2.1 * u.2.2.2 * (s_L s.2.1 * u.2.2.2) = F at *
  unfold fZ_compare_I fM_inCommon
  have hm1 : (-1 : Int32) ≤ S := by rw [Int32.le_iff_toInt_le, show (-1 : Int32).toInt = -1 from rfl]; omega
  have hm2 : ¬ S = -1 := by intro q; rw [q] at hnn; exact absurd hnn (by decide)
  rw [if_pos hm1, if_neg hm2]
  by_cases c1 : F ≤ S
  · rw [if_pos c1]
    by_cases c2 : S = F
    · rw [if_pos c2, if_pos c2, if_neg (by rw [c2, Int32.lt_iff_toInt_lt]; omega)]; rfl
    · rw [if_neg c2, if_pos]
      · rfl
      · rw [Int32.lt_iff_toInt_lt]
        rw [Int32.le_iff_toInt_le] at c1
        have : S.toInt ≠ F.toInt := fun q => c2 (i_ext q)
        omega
  · rw [if_neg c1]
    have c2 : ¬ S = F := by intro q; exact c1 (by rw [q, Int32.le_iff_toInt_le]; omega)
    have c3 : ¬ F < S := by intro q; rw [Int32.lt_iff_toInt_lt] at q; rw [Int32.le_iff_toInt_le] at c1; omega
    rw [if_neg c3, if_neg c2]; rfl
theorem x_common {s u : s_sh} {h g : Nat} (hs : x_H s h m) (hu : x_H u g m) (os : s_shOk s) (ou : s_shOk u) : fH_commonWith h g m = s_lie s u := by
  unfold fH_commonWith fH_commonWith_46 s_lie
  rw [hs.1, hu.1]
  by_cases e : s.1 = true
  · rw [if_pos e, if_pos e, if_pos e]
    by_cases e2 : u.1 = true
    · rw [if_pos e2, if_pos e2, (hs.2.2 e).1, (hs.2.2 e).2.1, (hu.2.2 e2).1, (hu.2.2 e2).2.1]
    · rw [if_neg e2, if_neg e2]; exact x_crossings hs hu e e2 os ou
  · rw [if_neg e, if_neg e, if_neg e]
    by_cases e2 : u.1 = true
    · rw [if_pos e2, if_pos e2]; exact x_crossings hu hs e2 e ou os
    · rw [if_neg e2, if_neg e2]
      obtain ⟨a1, a2, a3⟩ := hs.2.1 (by simpa using e)
      obtain ⟨b1, b2, b3⟩ := hu.2.1 (by simpa using e2)
      have ha : fH_apartSquared h g m = s_apart s u := by unfold fH_apartSquared s_apart; rw [a1, a2, b1, b2]
      unfold fH_meetings s_meet
      rw [ha, a3, b3]
      have h38 : ∀ (p q r : Int32), fH_meetings_38 p q r m = fM_inCommon p (q * q) (r * r) := fun p q r => rfl
      rw [h38]
      by_cases c1 : s_apart s u = 0
      · rw [if_pos c1]
        by_cases c2 : s.2.2.2 = u.2.2.2
        · rw [if_pos (i_subz.mpr c2), if_pos ⟨c1, c2⟩]
        · rw [if_neg (fun q => c2 (i_subz.mp q)), if_neg (fun q => c2 q.2)]
      · rw [if_neg c1, if_neg (fun q => c1 q.1)]
theorem y_apart {c : s_sn} {i j : Int32} {s u : s_sh} (h : y_S c 296 m) (hl : c.1.length ≤ 6) (hs : s_at c.1 i = some s) (hu : s_at c.1 j = some u) : fM_apart i j m = some (s_apart s u) := by
  obtain ⟨h0, h1, h2, h3⟩ := y_at h hl hs
  obtain ⟨g0, g1, g2, g3⟩ := y_at h hl hu
  unfold fM_apart s_apart
  rw [h1, Option.bind_some, g1, Option.bind_some, h2, Option.bind_some, g2, Option.bind_some]
theorem y_lies {c : s_sn} {i j : Int32} {s u : s_sh} (h : y_S c 296 m) (hc : s_snOk c) (hs : s_at c.1 i = some s) (hu : s_at c.1 j = some u) : fM_lies i j m = some (s_lie s u) := by
  obtain ⟨h0, h1, h2, h3⟩ := y_at h hc.1 hs
  obtain ⟨g0, g1, g2, g3⟩ := y_at h hc.1 hu
  have hap := y_apart h hc.1 hs hu
  have r1 := y_round h0
  have r2 := y_round g0
  unfold fM_lies s_lie
  simp only [h3, g3, r1, r2, Option.bind_some, hap]
  cases e : s.1
  · cases e2 : u.1
    · simp only [Bool.not_false, if_true, Bool.false_eq_true, if_false]
      unfold s_meet fM_lies_50
      rw [hap, Option.bind_some]
      by_cases c1 : s_apart s u = 0
      · by_cases c2 : s.2.2.2 = u.2.2.2
        · rw [if_pos c1, if_pos c2, if_pos ⟨c1, c2⟩]
        · rw [if_pos c1, if_neg c2, if_neg (fun q => c2 q.2)]
      · rw [if_neg c1, if_neg (fun q => c1 q.1)]
    · obtain ⟨k1, k2, k3⟩ := y_slant g1 (s_at_ok hc hu) e2
      rw [e] at r1
      rw [e2] at r2
      simp only [Bool.not_false, if_true, Bool.not_true, Bool.false_eq_true, if_false]
      unfold fM_lies_79
      simp only [r1, Option.bind_some, Bool.not_false, if_true]
      unfold fM_lies_135
      simp only [r1, Option.bind_some, Bool.not_false, if_true, k1, k2, k3, h1, h2, g2]
      rfl
  · rw [e] at r1
    cases e2 : u.1
    · obtain ⟨k1, k2, k3⟩ := y_slant h1 (s_at_ok hc hs) e
      rw [e2] at r2
      simp only [Bool.not_false, if_true, Bool.not_true, Bool.false_eq_true, if_false]
      unfold fM_lies_79
      simp only [r1, r2, Option.bind_some, Bool.not_false, if_true, Bool.not_true, Bool.false_eq_true, if_false]
      unfold fM_lies_135
      simp only [r1, Option.bind_some, Bool.not_true, Bool.false_eq_true, if_false]
      unfold fM_lies1
      simp only [g3, h3, r1, r2, Option.bind_some, Bool.not_false, if_true, Bool.not_true, Bool.false_eq_true, if_false]
      unfold fM_lies1_79
      simp only [r2, Option.bind_some, Bool.not_false, if_true]
      unfold fM_lies1_135
      simp only [r2, Option.bind_some, Bool.not_false, if_true, k1, k2, k3, g1, g2, h2]
      rfl
    · rw [e2] at r2
      simp only [Bool.not_true, Bool.false_eq_true, if_false, if_true]
      unfold fM_lies_79
      simp only [r1, r2, Option.bind_some, Bool.not_true, Bool.false_eq_true, if_false, h1, g1, h2, g2]
      split
      · split <;> rfl
      · rfl
theorem s_two_get {l : List s_sh} {i j : Int32} (h : s_two l i j = true) : ∃ s u, s_at l i = some s ∧ s_at l j = some u := by
  unfold s_two at h
  simp only [Bool.and_eq_true] at h
  obtain ⟨s, hs⟩ := s_isS h.1.1
  obtain ⟨u, hu⟩ := s_isS h.1.2
  exact ⟨s, u, hs, hu⟩
def o_lie (i j : Int32) (a : s_as) : Int32 × s_as := if s_two a.1.1 i j = true then (s_lie (s_get a.1.1 i) (s_get a.1.1 j), a) else s_fd a 0
theorem x_lie (HK : x_K K) (ha : s_Ok a) (h : x_X K a m) (i j : Int32) : x_does K m (fX_lie i j m) (o_lie i j a) := by
  unfold fX_lie o_lie
  refine x_ite (by rw [x_two ha h]) (fun g => ?_) (fun _ => x_bt (x_find HK ha h 0 (by decide)))
  obtain ⟨s, u, hs, hu⟩ := s_two_get g
  obtain ⟨hk, hH⟩ := x_at h.2.1 (s_len ha) hs
  obtain ⟨gk, gH⟩ := x_at h.2.1 (s_len ha) hu
  rw [s_get_of hs, s_get_of hu]
  refine x_grd hk (x_grd gk ?_)
  rw [x_common hH gH (s_at_ok ha.1 hs) (s_at_ok ha.1 hu)]
  exact x_same h _
theorem y_lie (ha : s_Ok a) (h : y_Y a m) (i j : Int32) : y_does m (fM_lie i j m) (o_lie i j a) := by
  unfold fM_lie o_lie
  refine y_ite (by rw [y_two ha h]) (fun g => ?_) (fun _ => y_bt (y_find ha h 0 (by decide)))
  obtain ⟨s, u, hs, hu⟩ := s_two_get g
  rw [s_get_of hs, s_get_of hu, y_lies h.2.1 ha.1 hs hu, Option.bind_some]
  exact y_same h _
theorem o_lie_ok (ha : s_Ok a) (i j : Int32) : s_Ok (o_lie i j a).2 := by
  unfold o_lie
  split
  · exact ha
  · exact ha
/-! ring -/
def s_ringn (s u : s_sh) : Int32 := fZ_abs_I (((s.2.2.2 * s.2.2.2) + (u.2.2.2 * u.2.2.2)) - s_apart s u)
def s_ring (s u : s_sh) : Int32 := if (3 : Int32) * s_ringn s u = (5 : Int32) * (((2 : Int32) * s.2.2.2) * u.2.2.2) then 6 else if s_ringn s u = (3 : Int32) * (((2 : Int32) * s.2.2.2) * u.2.2.2) then 4 else if s_ringn s u = (7 : Int32) * (((2 : Int32) * s.2.2.2) * u.2.2.2) then 3 else 0
def o_ring (i j : Int32) (a : s_as) : Int32 × s_as := if s_two a.1.1 i j = true then (if s_kind (s_get a.1.1 i) = 1 then (if s_kind (s_get a.1.1 j) = 1 then (if s_lie (s_get a.1.1 i) (s_get a.1.1 j) = 0 then (if s_ring (s_get a.1.1 i) (s_get a.1.1 j) = 0 then s_fd a 3 else (s_ring (s_get a.1.1 i) (s_get a.1.1 j), a)) else s_fd a 4) else s_fd a 2) else s_fd a 2) else s_fd a 0
theorem s_kind1 {s : s_sh} (h : s_kind s = 1) : ¬ s.1 = true := by
  intro e
  unfold s_kind at h
  rw [if_pos e] at h
  split at h
  · exact absurd h (by decide)
  · exact absurd h (by decide)
theorem x_ring (HK : x_K K) (ha : s_Ok a) (h : x_X K a m) (i j : Int32) : x_does K m (fX_ring i j m) (o_ring i j a) := by
  unfold fX_ring o_ring
  refine x_ite (by rw [x_two ha h]) (fun g => ?_) (fun _ => x_bt (x_find HK ha h 0 (by decide)))
  obtain ⟨s, u, hs, hu⟩ := s_two_get g
  obtain ⟨hk, hH⟩ := x_at h.2.1 (s_len ha) hs
  obtain ⟨gk, gH⟩ := x_at h.2.1 (s_len ha) hu
  rw [s_get_of hs, s_get_of hu]
  refine x_grd hk (x_grd gk ?_)
  refine x_ite (by rw [x_kind hH]) (fun k1 => x_ite (by rw [x_kind gH]) (fun k2 => x_ite (by rw [x_common hH gH (s_at_ok ha.1 hs) (s_at_ok ha.1 hu)]) (fun _ => ?_) (fun _ => x_bt (x_find HK ha h 4 (by decide)))) (fun _ => x_bt (x_find HK ha h 2 (by decide)))) (fun _ => x_bt (x_find HK ha h 2 (by decide)))
  obtain ⟨a1, a2, a3⟩ := hH.2.1 (by simpa using s_kind1 k1)
  obtain ⟨b1, b2, b3⟩ := gH.2.1 (by simpa using s_kind1 k2)
  have hr : fH_ringWith (2 + 2 + (m.2.2.2 2 (tk_n i)).val) (2 + 2 + (m.2.2.2 2 (tk_n j)).val) m = s_ring s u := by
    unfold fH_ringWith s_ring s_ringn fH_apartSquared s_apart
    rw [a1, a2, a3, b1, b2, b3]
  rw [hr]
  exact x_ite Iff.rfl (fun _ => x_bt (x_find HK ha h 3 (by decide))) (fun _ => x_same h _)
theorem y_ring (ha : s_Ok a) (h : y_Y a m) (i j : Int32) : y_does m (fM_ring i j m) (o_ring i j a) := by
  unfold fM_ring o_ring
  refine y_ite (by rw [y_two ha h]) (fun g => ?_) (fun _ => y_bt (y_find ha h 0 (by decide)))
  obtain ⟨s, u, hs, hu⟩ := s_two_get g
  obtain ⟨h0, h1, h2, h3⟩ := y_at h.2.1 (s_len ha) hs
  obtain ⟨g0, g1, g2, g3⟩ := y_at h.2.1 (s_len ha) hu
  rw [s_get_of hs, s_get_of hu, y_kind h.2.1 (s_len ha) hs, Option.bind_some]
  refine y_ite Iff.rfl (fun k1 => ?_) (fun _ => y_bt (y_find ha h 2 (by decide)))
  rw [y_kind h.2.1 (s_len ha) hu, Option.bind_some]
  refine y_ite Iff.rfl (fun k2 => ?_) (fun _ => y_bt (y_find ha h 2 (by decide)))
  rw [y_lies h.2.1 ha.1 hs hu, Option.bind_some]
  refine y_ite Iff.rfl (fun _ => ?_) (fun _ => y_bt (y_find ha h 4 (by decide)))
  rw [h3, Option.bind_some, g3, Option.bind_some, y_apart h.2.1 (s_len ha) hs hu, Option.bind_some]
  unfold s_ring
  show y_does m (if (3 : Int32) * s_ringn s u = (5 : Int32) * (((2 : Int32) * s.2.2.2) * u.2.2.2) then _ else if s_ringn s u = (3 : Int32) * (((2 : Int32) * s.2.2.2) * u.2.2.2) then _ else if s_ringn s u = (7 : Int32) * (((2 : Int32) * s.2.2.2) * u.2.2.2) then _ else _) _
  by_cases c1 : (3 : Int32) * s_ringn s u = (5 : Int32) * (((2 : Int32) * s.2.2.2) * u.2.2.2)
  · simp only [if_pos c1]; exact y_same h _
  · simp only [if_neg c1]
    by_cases c2 : s_ringn s u = (3 : Int32) * (((2 : Int32) * s.2.2.2) * u.2.2.2)
    · simp only [if_pos c2]; exact y_same h _
    · simp only [if_neg c2]
      by_cases c3 : s_ringn s u = (7 : Int32) * (((2 : Int32) * s.2.2.2) * u.2.2.2)
      · simp only [if_pos c3]; exact y_same h _
      · simp only [if_neg c3]; exact y_bt (y_find ha h 3 (by decide))
theorem o_ring_ok (ha : s_Ok a) (i j : Int32) : s_Ok (o_ring i j a).2 := by
  unfold o_ring
  split
  · split
    · split
      · split
        · split
          · exact ha
          · exact ha
        · exact ha
      · exact ha
    · exact ha
  · exact ha
end
