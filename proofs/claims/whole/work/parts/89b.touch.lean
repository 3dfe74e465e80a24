/-! ===== touches: the class ===== -/
theorem o_zw {x : Int} {n : Nat} (h : an_bd x n) (hn : n < 18446744073709551616) : Int64.ofInt x = 0 ↔ x = 0 := by
  rw [lo_z, Int64.toInt_ofInt]
  unfold an_bd at h
  constructor
  · intro z
    have h2 := Int.dvd_of_bmod_eq_zero z
    obtain ⟨c, hc⟩ := h2
    have e : (((2 ^ 64 : Nat) : Int)) = 18446744073709551616 := by decide
    rw [e] at hc
    omega
  · intro z
    rw [z]
    decide
def an_ts (c : an_c) (s : s_sh) (b : Bool) : Prop := (s_A s.2.1).toInt * (c.2.1 0).toInt + (s_B s.2.1).toInt * (c.2.1 1).toInt + (if b = true then (s_L s.2.1).toInt else -(s_L s.2.1).toInt) * (c.2.1 2).toInt - s.2.2.1.toInt * (c.2.1 6).toInt = 0 ∧ (s_A s.2.1).toInt * (c.2.1 3).toInt + (s_B s.2.1).toInt * (c.2.1 4).toInt + (if b = true then (s_L s.2.1).toInt else -(s_L s.2.1).toInt) * (c.2.1 5).toInt = 0
def an_dx (c : an_c) (k : Nat) (v : Int) : Int := (c.2.1 k).toInt - v * (c.2.1 6).toInt
def an_tr (c : an_c) (s : s_sh) (b : Bool) : Prop := an_dx c 0 s.2.1.toInt * an_dx c 0 s.2.1.toInt + an_dx c 1 s.2.2.1.toInt * an_dx c 1 s.2.2.1.toInt - an_dx c 2 (an_z s b) * an_dx c 2 (an_z s b) + c.2.2.toInt * ((c.2.1 3).toInt * (c.2.1 3).toInt + (c.2.1 4).toInt * (c.2.1 4).toInt - (c.2.1 5).toInt * (c.2.1 5).toInt) = 0 ∧ an_dx c 0 s.2.1.toInt * (c.2.1 3).toInt + an_dx c 1 s.2.2.1.toInt * (c.2.1 4).toInt - an_dx c 2 (an_z s b) * (c.2.1 5).toInt = 0
def an_tw (c : an_c) (s : s_sh) (b : Bool) : Prop := if s.1 = true then an_ts c s b else an_tr c s b
noncomputable def an_to (c : an_c) (s : s_sh) : Int32 := @ite _ (an_tw c s false) (Classical.propDecidable _) 1 (if s_kind s = 3 then 0 else @ite _ (an_tw c s true) (Classical.propDecidable _) 2 0)
noncomputable def o_touches (k i : Int32) (a : s_as) : Int32 × s_as := if (s_at a.1.1 i).isSome = true then (match s_3 a with
  | none => s_fd a 4
  | some f => if an_why k f < 0 then (an_to (an_get f k) (s_get a.1.1 i), a) else s_fd a 3) else s_fd a 0
theorem an_dxb {c : an_c} (h : an_cok c) {k : Nat} (hk : k < 7) {v : Int} (hv : an_bd v 5) : an_bd (an_dx c k v) 1800000000 := bd_sub (h.2.1 k hk) (bd_mul hv (h.2.1 6 (by decide)) (Nat.le_refl _)) (by decide)
theorem an_trb {c : an_c} (h : an_cok c) {s : s_sh} (ho : s_shOk s) (e : s.1 = false) (b : Bool) : an_bd (an_dx c 0 s.2.1.toInt * an_dx c 0 s.2.1.toInt + an_dx c 1 s.2.2.1.toInt * an_dx c 1 s.2.2.1.toInt - an_dx c 2 (an_z s b) * an_dx c 2 (an_z s b) + c.2.2.toInt * ((c.2.1 3).toInt * (c.2.1 3).toInt + (c.2.1 4).toInt * (c.2.1 4).toInt - (c.2.1 5).toInt * (c.2.1 5).toInt)) 10000000000000000000 ∧ an_bd (an_dx c 0 s.2.1.toInt * (c.2.1 3).toInt + an_dx c 1 s.2.2.1.toInt * (c.2.1 4).toInt - an_dx c 2 (an_z s b) * (c.2.1 5).toInt) 10000000000000000000 ∧ (an_bd (an_dx c 0 s.2.1.toInt) 1800000000 ∧ an_bd (an_dx c 1 s.2.2.1.toInt) 1800000000 ∧ an_bd (an_dx c 2 (an_z s b)) 1800000000) := by
  have hb := an_base_b (b := b) ho e
  have d0 := an_dxb h (k := 0) (by decide) (hb 0 (by decide))
  have d1 := an_dxb h (k := 1) (by decide) (hb 1 (by decide))
  have d2 := an_dxb h (k := 2) (by decide) (hb 2 (by decide))
  have r : ∀ j, j < 3 → an_bd (c.2.2.toInt * ((c.2.1 (3 + j)).toInt * (c.2.1 (3 + j)).toInt)) 2000000000000 := fun j hj => by rw [Int.mul_comm]; exact h.2.2.2.1 j hj
  refine ⟨?_, ?_, d0, d1, d2⟩
  · rw [Int.mul_sub, Int.mul_add]
    exact bd_add (bd_sub (bd_add (bd_mul d0 d0 (Nat.le_refl _)) (bd_mul d1 d1 (Nat.le_refl _)) (Nat.le_refl _)) (bd_mul d2 d2 (Nat.le_refl _)) (Nat.le_refl _)) (bd_sub (bd_add (r 0 (by decide)) (r 1 (by decide)) (Nat.le_refl _)) (r 2 (by decide)) (Nat.le_refl _)) (by decide)
  · exact bd_sub (bd_add (bd_mul d0 (h.2.1 3 (by decide)) (Nat.le_refl _)) (bd_mul d1 (h.2.1 4 (by decide)) (Nat.le_refl _)) (Nat.le_refl _)) (bd_mul d2 (h.2.1 5 (by decide)) (Nat.le_refl _)) (by decide)
section
variable {a : s_as} {m : tk_m} {α : Type}
theorem x_ts {c : an_c} {r h : Nat} {s : s_sh} (hh : x_H s h m) (ho : s_shOk s) (e : s.1 = true) (hc : an_cok c) (hr : ∀ k, k < 7 → m.2.1 (r + 1) k = c.2.1 k) (b : Bool) : fC_touchesStraight r h (tk_b b) m = true ↔ an_ts c s b := by
  obtain ⟨a1, a2, a3, a4, a5⟩ := hh.2.2 e
  unfold s_shOk at ho
  rw [e, if_pos rfl] at ho
  obtain ⟨A, C, L, q1, q2, q3, q4⟩ := an_slv ho.1
  have bc : an_bd s.2.2.1.toInt 30 := an_in ho.2 (by decide) (by decide)
  have hsl : (fH_slope h (tk_b b) m).toInt = if b = true then (s_L s.2.1).toInt else -(s_L s.2.1).toInt := by
    unfold fH_slope
    rw [a5]
    cases b
    · rw [if_pos (by decide), if_neg (by decide)]
      exact i_ng (n := 10) (by unfold an_bd; omega) (by decide)
    · rw [if_neg (by decide), if_pos rfl]
  have bs : an_bd (if b = true then (s_L s.2.1).toInt else -(s_L s.2.1).toInt) 5 := by unfold an_bd; split <;> omega
  have bA : an_bd (s_A s.2.1).toInt 5 := by unfold an_bd; omega
  have bB : an_bd (s_B s.2.1).toInt 5 := by unfold an_bd; omega
  have hR : ∀ k, k < 7 → m.2.1 (r + 1) k = Int64.ofInt (c.2.1 k).toInt := fun k hk => (hr k hk).trans (Int64.ofInt_toInt _).symm
  have hb := hc.2.1
  unfold fC_touchesStraight an_ts
  rw [hR 0 (by decide), hR 1 (by decide), hR 2 (by decide), hR 3 (by decide), hR 4 (by decide), hR 5 (by decide), hR 6 (by decide), o_32, o_32, o_32, o_32, hsl, a2, a3, a4]
  rw [o_mul, o_mul, o_mul, o_mul, o_mul, o_mul, o_mul, o_add, o_add, o_sub, o_add, o_add]
  generalize (if b = true then (s_L s.2.1).toInt else -(s_L s.2.1).toInt) = sl at *
  have z1 := o_z (x := (s_A s.2.1).toInt * (c.2.1 0).toInt + (s_B s.2.1).toInt * (c.2.1 1).toInt + sl * (c.2.1 2).toInt - s.2.2.1.toInt * (c.2.1 6).toInt) (bd_sub (bd_add (bd_add (bd_mul bA (hb 0 (by decide)) (Nat.le_refl _)) (bd_mul bB (hb 1 (by decide)) (Nat.le_refl _)) (Nat.le_refl _)) (bd_mul bs (hb 2 (by decide)) (Nat.le_refl _)) (Nat.le_refl _)) (bd_mul bc (hb 6 (by decide)) (Nat.le_refl _)) (Nat.le_refl _)) (by decide)
  have z2 := o_z (x := (s_A s.2.1).toInt * (c.2.1 3).toInt + (s_B s.2.1).toInt * (c.2.1 4).toInt + sl * (c.2.1 5).toInt) (bd_add (bd_add (bd_mul bA (hb 3 (by decide)) (Nat.le_refl _)) (bd_mul bB (hb 4 (by decide)) (Nat.le_refl _)) (Nat.le_refl _)) (bd_mul bs (hb 5 (by decide)) (Nat.le_refl _)) (Nat.le_refl _)) (by decide)
  rw [← z1, ← z2]
  split
  · split
    · rename_i y1 y2; exact ⟨fun _ => ⟨y1, y2⟩, fun _ => rfl⟩
    · rename_i y1 y2; exact ⟨fun z => Bool.noConfusion z, fun z => absurd z.2 y2⟩
  · rename_i y1; exact ⟨fun z => Bool.noConfusion z, fun z => absurd z.1 y1⟩
theorem x_tr {c : an_c} {r h : Nat} {s : s_sh} (hh : x_H s h m) (ho : s_shOk s) (e : s.1 = false) (hc : an_cok c) (hr : ∀ k, k < 7 → m.2.1 (r + 1) k = c.2.1 k) (hd : m.2.1 r 2 = c.2.2) (b : Bool) : fC_touchesRound r h (Int32.toInt64 (fH_shift h (tk_b b) m)) m = true ↔ an_tr c s b := by
  obtain ⟨a1, a2, a3⟩ := hh.2.1 e
  obtain ⟨w1, w2, _⟩ := an_trb hc ho e b
  unfold s_shOk at ho
  rw [e, if_neg (by decide)] at ho
  have hsh : (fH_shift h (tk_b b) m).toInt = -an_z s b := by
    unfold fH_shift an_z
    rw [a3]
    cases b
    · rw [if_pos (by decide), if_neg (by decide)]
      exact i_ng (an_in (n := 5) ho.2.2 (by decide) (by decide)) (by decide)
    · rw [if_neg (by decide), if_pos rfl, Int.neg_neg]
  have hR : ∀ k, k < 7 → m.2.1 (r + 1) k = Int64.ofInt (c.2.1 k).toInt := fun k hk => (hr k hk).trans (Int64.ofInt_toInt _).symm
  have hD : m.2.1 r 2 = Int64.ofInt c.2.2.toInt := hd.trans (Int64.ofInt_toInt _).symm
  have e0 : Int64.ofInt (c.2.1 0).toInt - Int64.ofInt s.2.1.toInt * Int64.ofInt (c.2.1 6).toInt = Int64.ofInt (an_dx c 0 s.2.1.toInt) := by rw [o_mul, o_sub]; rfl
  have e1 : Int64.ofInt (c.2.1 1).toInt - Int64.ofInt s.2.2.1.toInt * Int64.ofInt (c.2.1 6).toInt = Int64.ofInt (an_dx c 1 s.2.2.1.toInt) := by rw [o_mul, o_sub]; rfl
  have e2 : Int64.ofInt (c.2.1 2).toInt + Int64.ofInt (-an_z s b) * Int64.ofInt (c.2.1 6).toInt = Int64.ofInt (an_dx c 2 (an_z s b)) := by rw [o_mul, o_add, Int.neg_mul]; rfl
  unfold fC_touchesRound an_tr
  rw [hR 0 (by decide), hR 1 (by decide), hR 2 (by decide), hR 3 (by decide), hR 4 (by decide), hR 5 (by decide), hR 6 (by decide), hD, o_32, o_32, o_32, hsh, a1, a2, e0, e1, e2]
  rw [← o_zw w1 (by decide), ← o_zw w2 (by decide)]
  rw [← o_add, ← o_sub, ← o_add, ← o_mul, ← o_mul, ← o_mul, ← o_mul, ← o_sub, ← o_add, ← o_mul, ← o_mul, ← o_mul, ← o_sub, ← o_add, ← o_mul, ← o_mul, ← o_mul]
  split
  · split
    · rename_i y1 y2; exact ⟨fun _ => ⟨y1, y2⟩, fun _ => rfl⟩
    · rename_i y1 y2; exact ⟨fun z => Bool.noConfusion z, fun z => absurd z.2 y2⟩
  · rename_i y1; exact ⟨fun z => Bool.noConfusion z, fun z => absurd z.1 y1⟩
theorem x_tw {c : an_c} {r h : Nat} {s : s_sh} (hh : x_H s h m) (ho : s_shOk s) (hc : an_cok c) (hr : ∀ k, k < 7 → m.2.1 (r + 1) k = c.2.1 k) (hd : m.2.1 r 2 = c.2.2) (b : Bool) : fC_touchesWith r h (tk_b b) m = true ↔ an_tw c s b := by
  unfold fC_touchesWith an_tw
  rw [hh.1]
  cases e : s.1 with
  | true =>
    rw [if_pos rfl, if_pos rfl]
    exact x_ts hh ho e hc hr b
  | false =>
    rw [if_neg (fun z => Bool.noConfusion z), if_neg (fun z => Bool.noConfusion z)]
    exact x_tr hh ho e hc hr hd b
theorem x_to {c : an_c} {r h : Nat} {s : s_sh} (hh : x_H s h m) (ho : s_shOk s) (hc : an_cok c) (hr : ∀ k, k < 7 → m.2.1 (r + 1) k = c.2.1 k) (hd : m.2.1 r 2 = c.2.2) : fC_touch r h m = an_to c s := by
  have h0 := x_tw hh ho hc hr hd false
  have h1 := x_tw hh ho hc hr hd true
  unfold fC_touch fC_touch_24 an_to
  rw [x_kind hh]
  by_cases c0 : an_tw c s false
  · rw [if_pos c0, if_pos (show fC_touchesWith r h 0 m = true from h0.mpr c0)]
  · rw [if_neg c0, if_neg (show ¬ fC_touchesWith r h 0 m = true from fun z => c0 (h0.mp z))]
    by_cases c3 : s_kind s = 3
    · rw [if_pos c3, if_pos c3, if_pos rfl]
    · rw [if_neg c3, if_neg c3, if_neg (by decide)]
      by_cases c1 : an_tw c s true
      · rw [if_pos c1, if_pos (show fC_touchesWith r h 1 m = true from h1.mpr c1)]
      · rw [if_neg c1, if_neg (show ¬ fC_touchesWith r h 1 m = true from fun z => c1 (h1.mp z))]
theorem x_touches (ha : s_Ok a) (h : x_X an_K a m) (k i : Int32) : x_does an_K m (fX_touches k i m) (o_touches k i a) := by
  unfold fX_touches o_touches
  refine x_ite (x_hasI ha h i) (fun g1 => ?_) (fun _ => x_bt (x_find an_HK ha h 0 (by decide)))
  obtain ⟨s, hs⟩ := s_isS g1
  obtain ⟨q1, q2⟩ := x_misses ha h k
  cases e : s_3 a with
  | none =>
    rw [q1 e, Option.bind_some, if_neg (show ¬ (4 : Int32) < 0 by decide)]
    exact x_bt (x_find an_HK ha h 4 (by decide))
  | some f =>
    obtain ⟨m1, e1, e2, e3, e4⟩ := q2 f e
    rw [e1, Option.bind_some]
    dsimp only
    refine x_go e3 (x_ite Iff.rfl (fun c => ?_) (fun c => ?_))
    · obtain ⟨j, c', rfl, hi, hi2, hc, hg, hm⟩ := an_why_n c (s_3ok ha e).1
      obtain ⟨t1, t2⟩ := x_at e2.2.1 (s_len ha) hs
      have e5 := e4.2.2.2 j c' hc
      rw [hg, s_get_of hs]
      refine x_grd (i_ok hi2 (by omega)) (x_grd t1 ?_)
      rw [i_nn (show j < 2147483648 by omega), x_to (s := s) (c := c') t2 (s_at_ok ha.1 hs) ((s_3ok ha e).2 _ hm) e5.2.1 e5.2.2.1]
      exact x_same e2 _
    · rw [an_why_p c]
      exact x_bt (x_find an_HK ha e2 3 (by decide))
theorem o_touches_ok (ha : s_Ok a) (k i : Int32) : s_Ok (o_touches k i a).2 := by
  unfold o_touches
  split
  · split
    · exact ha
    · split <;> exact ha
  · exact ha
end
