/-! THE CLAIM OUT OF ONE WALK OF THE LAW'S BODY. Your part is whole_start (and what it stands on); all else here is the same for every law, but numbers. -/
def R_law : String := "ThreeTouchedLaw"
def lw_P (b : Addr) (xs : List Int32) (args : Array Value) (s : State) : Prop := args = #[.ref b] ∧ s.IntsAt b xs ∧ xs.length ≤ 3072 ∧ (Jvm.Cond.and given_1 narrow_1).before args s = true
def lw_Q (_ : Array Value) (s : State) (o : Outcome) (t : State) : Prop := o = .returned (some (.int 1)) ∧ Framed s o t [] 600000 7302250
def lw_Z (below : List Frame) (a : Array Value) (s : State) : State → Prop := fun t => ∃ o, t.status = .running ∧ Ended t below o ∧ lw_Q a s o t
/-- the law's own end, with 1 on the stack, nothing written that was there before, its room as the claim has it -/
theorem lw_ret {p : Program} {l : Launch} {e : Env} {s : State} {m : MethodId} {below : List Frame} {meth : Method} {c : Code} {b : Nat} (hx : p.tables.exec = Jvm.exec) (hb : c.code = code) (hr : meth.sig.returnType = ret) (hlocks : meth.locks = false) {pc : Nat} {H : Heap} {ls : Array Slot} (hdg : decode code pc = .ok (.ireturn, 1)) : W p l e room_1 s m #[Value.ref b] below meth c H [] 600000 7302250 (lw_Z below #[Value.ref b] s) (F0 m pc ls [.int 1]) := by
  intro T hT X
  obtain ⟨fs, hret, hrun, hended, hW, hframe⟩ := X.leave (v := some (.int 1)) (hlocks := hlocks) (fun h => by rw [hr] at h; cases h)
  have hmeth' : T.vm.method? m = some meth := X.method'
  refine ⟨T.setFrames fs, ?_, .returned (some (.int 1)), hrun, hended, rfl, ⟨_, rfl⟩, hW, hframe⟩
  jvm_step X.here [X.here.top, hx, hb, hdg, hmeth', hr, ret, narrow_b1]
  (try refine ⟨rfl, ?_⟩); (try refine ⟨rfl, ?_⟩)
  first | (intro acts; rw [hret _ acts rfl rfl rfl]) | rw [hret _ _ rfl rfl rfl]
  exact Steps.refl _
/-- what holds at the law's entry: the machine, the code, the tables' words (any of lw_tbl by 'hts w (by decide +kernel)'), the script of L ints xs at the cell b, what the Statement gives of the start (any of its parts by flat_of_before) -/
def lw_At (p : Program) (s : State) (m : MethodId) (meth : Method) (c : Code) (b L : Nat) (xs : Nat → Int32) : Prop :=
  p.tables.exec = Jvm.exec ∧ c.code = code ∧ meth.sig.returnType = ret ∧ c.maxLocals = 4 ∧ s.vm.findClass R_law = some m.cls ∧ (∀ w ∈ lw_tbl, w.before #[Value.ref b] s = true) ∧ va_X b L xs s s.heap ∧ b < s.heap.size ∧ meth.locks = false ∧ (Jvm.Cond.and given_1 narrow_1).before #[Value.ref b] s = true ∧ meth.name = "law"
theorem tk_ret_bool {k : Nat} {st : List Value} {v : Int32} (hk : k = 3 ∨ k = 4 ∨ k = 5 ∨ k = 6) (h : tk_ret k (some .boolean) st = some (some (.int v))) : k = 3 ∧ st = [.int v] := by
  rcases hk with rfl | rfl | rfl | rfl
  · refine ⟨rfl, ?_⟩
    simp only [tk_ret] at h
    split at h
    · split at h
      · cases h; rfl
      · split at h
        · cases h; rfl
        · cases h
    · cases h
  · simp only [tk_ret] at h
    split at h
    · split at h
      · cases h
      · cases h
    · cases h
  · simp only [tk_ret] at h
    split at h
    · split at h <;> cases h
    · cases h
  · simp only [tk_ret] at h
    split at h
    · split at h <;> cases h
    · cases h
set_option maxHeartbeats 4000000 in
theorem tk_start (HM : ∀ sc : tk_X, sc.1 ≤ 3072 → ∃ m' : tk_m, fL_law_18 sc tk_F 0 tk_s0 = some (true, m')) {p : Program} {e : Env} {s : State} {m : MethodId} {below : List Frame} {meth : Method} {c : Code} (l : Launch) {b L : Nat} {xs : Nat → Int32} (hL : L ≤ 3072) (C0 : lw_At p s m meth c b L xs) : W p l e room_1 s m #[Value.ref b] below meth c s.heap [] 0 0 (lw_Z below #[Value.ref b] s) (entryFrame m ([Value.ref b] : List Value).toArray 4) := by
  obtain ⟨hx, hb, hr, hml, hown, hts, hX, hbl, hlocks, hgv, hnm⟩ := id C0
  obtain ⟨dA, dC, dI, hK, hKx⟩ := tk_entryK hts
  obtain ⟨ex0, hex0⟩ := tk_entryX hts hgv
  have hin : ∀ w ∈ tk_tbl, w.before #[Value.ref b] s = true := fun w hw => hts w (List.mem_filter.mp hw).1
  obtain ⟨ex1, hex1⟩ : ∃ f : Nat → Nat, f = fun k => if k = 6 then ex0 0 else if k = 7 then b else ex0 k := ⟨_, rfl⟩
  obtain ⟨ex, hex⟩ : ∃ f : Nat → Nat, f = fun k => if k = 6 then b else ex0 k := ⟨_, rfl⟩
  have hE1 : tk_exs s.heap.size ex1 tk_sc0 s s.heap := by
    refine tk_exs_of hex0 (fun k hk => ?_) ?_ ?_
    · rw [hex1]
      simp [show k ≠ 6 by omega, show k ≠ 7 by omega]
    · rw [hex1]
      exact (hex0 0 (by decide)).1.1
    · rw [hex1]
      exact (hex0 0 (by decide)).1.2
  have hE : tk_exs s.heap.size ex (L, xs) s s.heap := by
    refine tk_exs_of hex0 (fun k hk => ?_) ?_ ?_
    · rw [hex]
      simp [show k ≠ 6 by omega]
    · rw [hex]
      exact hX
    · rw [hex]
      exact hbl
  have e1 : tk_ad s.heap.size ex1 1007 = b := by rw [hex1]; rfl
  have e2 : tk_ad s.heap.size ex 1006 = b := by rw [hex]; rfl
  obtain ⟨hu, hu1, -⟩ := tk_u0_is
  have hs0 : ∀ H : Heap, tk_rep s.heap.size (tk_ad s.heap.size ex1) dA dC dI tk_M2 H → tk_rep s.heap.size (tk_ad s.heap.size ex) dA dC dI (tk_full tk_s0) H := fun H h => tk_rep_s0 h
  generalize tk_M2 = M2 at hu hu1 hs0
  obtain ⟨m', hm'⟩ := HM (L, xs) hL
  obtain ⟨n, hn⟩ := ok_fL_law_18 (L, xs) tk_F 0 tk_s0 (true, m') hm'
  have hss : tk_ss 460 ≤ 7302250 := by
    have h := tk_ss_room
    generalize tk_ss 460 = n at h ⊢
    first | exact Nat.ble_eq.mp h | exact Nat.le_of_ble_eq_true h | simpa using h
  have hl := lv_entry ([.ref b]) (n := 4) (Nat.le_of_ble_eq_true rfl)
  rw [lg_entry_eq]
  generalize (lg_sl ([.ref b]) ++ List.replicate (4 - (lg_sl ([.ref b])).length) Slot.unset).toArray = ls at hl ⊢
  have hl : lv_has ls 4 [(0, .ref b)] := hl
  have hl1 : lv_has ls 4 (tk_cl (tk_ad s.heap.size ex1) [(0, .ref 1007)]) := by
    show lv_has ls 4 [(0, .ref (tk_ad s.heap.size ex1 1007))]
    rw [e1]
    exact hl
  have hrep0 : tk_rep s.heap.size (tk_ad s.heap.size ex1) dA dC dI tk_mz s.heap := ⟨fun i hi => absurd hi (Nat.not_lt_zero i), fun _ => rfl, Nat.zero_le _⟩
  have hcf : 10 + 1 ≤ room_1.frames := by decide
  have hcl : 100 * (10 + 1) ≤ room_1.locals := by decide
  have hu2 : tk_until tk_sc0 (tk_run tk_sc0 tk_kp 9 4000) tk_rL 18 20 0 [(0, .ref 1007)] [] tk_mz = some ([(3, .int 0), (2, .ref 295), (1, .ref 0), (0, .ref 1007)], [], M2) := hu
  refine tk_soundU (B0 := s.heap.size) (ex := ex1) (dA := dA) (dC := dC) (dI := dI) (sc := tk_sc0) (d := 9) (call := tk_run tk_sc0 tk_kp 9 4000) (mr := tk_rL) (stop := 18) (CC := 460) (SS := tk_ss 460) (tk_soundR tk_allN tk_allQ 9 4000) tk_allN ckL hx hb hml hown hin hK hE1 hKx hnm (by omega) (by omega) (by decide) hss ?_ 20 0 [(0, .ref 1007)] [] tk_mz ls s.heap [] 0 0 hu2 hrep0 hl1 va_S.rf ?_ ?_
  · intro lsA H locs hrep hl2 hS
    have hrep2 : tk_rep s.heap.size (tk_ad s.heap.size ex) dA dC dI (tk_full tk_s0) H := hs0 H hrep
    have hl3 : lv_has lsA 4 (tk_cl (tk_ad s.heap.size ex) [(0, .ref 1006), (1, .ref 0), (2, .ref 295), (3, .int 0)]) := by
      refine ⟨hl2.1, hl2.2.1, fun q hq => hl2.2.2 q ?_⟩
      have f1 : tk_cl (tk_ad s.heap.size ex) [(0, .ref 1006), (1, .ref 0), (2, .ref 295), (3, .int 0)] = [(0, .ref b), (1, .ref (s.heap.size + 0)), (2, .ref (s.heap.size + 295)), (3, .int 0)] := by
        rw [← e2]
        rfl
      have f2 : tk_cl (tk_ad s.heap.size ex1) [(3, .int 0), (2, .ref 295), (1, .ref 0), (0, .ref 1007)] = [(3, .int 0), (2, .ref (s.heap.size + 295)), (1, .ref (s.heap.size + 0)), (0, .ref b)] := by
        rw [← e1]
        rfl
      rw [f1] at hq
      show q ∈ tk_cl (tk_ad s.heap.size ex1) [(3, .int 0), (2, .ref 295), (1, .ref 0), (0, .ref 1007)]
      rw [f2]
      simp only [List.mem_cons, List.not_mem_nil, or_false] at hq ⊢
      rcases hq with h | h | h | h
      · exact Or.inr (Or.inr (Or.inr h))
      · exact Or.inr (Or.inr (Or.inl h))
      · exact Or.inr (Or.inl h)
      · exact Or.inl h
    refine tk_soundE (B0 := s.heap.size) (ex := ex) (dA := dA) (dC := dC) (dI := dI) (sc := (L, xs)) (d := 10) (call := tk_run (L, xs) tk_kp 10 n) (kf := tk_kL) (mr := tk_rL) (CC := 460) (SS := tk_ss 460) (tk_soundR tk_allN tk_allQ 10 n) tk_allN ckL hx hb hml hown hin hK hE hKx hnm hcf hcl (by decide) hss ?_ n 18 _ [] (tk_full tk_s0) lsA H locs 460 (tk_ss 460) hn hrep2 hl3 hS ?_ ?_
    · intro k pc lsA2 H2 locs2 st2 hk hd hrt hrep3 hS2
      obtain ⟨rfl, rfl⟩ := tk_ret_bool hk hrt
      refine va_forget (fun q hq => hS2.2.2 q hq) ?_
      refine W.widen (k := 600000) (n := 7302250) (by decide) hss ?_
      exact lw_ret hx hb hr hlocks hd
    · show 460 + (460 - 460) = 460
      rfl
    · show tk_ss 460 + (tk_ss 460 - tk_ss 460) = tk_ss 460
      omega
  · show 0 + (M2.1 - 0) = 460
    rw [hu1]
  · show 0 + (tk_ss M2.1 - tk_ss 0) = tk_ss 460
    have hz0 : tk_ss 0 = 0 := by unfold tk_ss; rw [List.take_zero]; rfl
    rw [hu1, hz0]
    generalize tk_ss 460 = n
    omega
