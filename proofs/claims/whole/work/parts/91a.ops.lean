/-! ===== every pair of calls answers alike ===== -/
def tk_RR (m : tk_m) : Prop := ∃ a, s_Ok a ∧ x_X an_K a m ∧ y_Y a m
theorem tk_both {α : Type} {a : s_as} {m : tk_m} {x : Option (α × tk_m)} {f : tk_m → Option (α × tk_m)} {o : α × s_as} (ha : s_Ok a) (hy : y_Y a m) (h1 : x_does an_K m x o) (h2 : ∀ m1, y_Y a m1 → y_does m1 (f m1) o) (ho : s_Ok o.2) : tk_okop x f tk_RR := by
  obtain ⟨m1, e1, e2, e3⟩ := h1
  have hy1 : y_Y a m1 := y_Y_k ha.2.1 hy e3
  obtain ⟨m2, f1, f2, f3⟩ := h2 m1 hy1
  exact ⟨o.1, m1, m2, e1, f1, o.2, ho, x_X_k an_HK ho.2.1 e2 f3, f2⟩
theorem tk_ops_RR : tk_OPS tk_RR := by
  unfold tk_OPS
  exact ⟨fun m b0 b1 b2 ⟨a, ha, hx, hy⟩ => tk_both ha hy (x_round an_HK ha hx b0 b1 b2) (fun m1 h => y_round' ha h b0 b1 b2) (o_round_ok ha b0 b1 b2),
    fun m b0 b1 ⟨a, ha, hx, hy⟩ => tk_both ha hy (x_straight an_HK ha hx b0 b1) (fun m1 h => y_straight ha h b0 b1) (o_straight_ok ha b0 b1),
    fun m b0 b1 ⟨a, ha, hx, hy⟩ => tk_both ha hy (x_of an_HK ha hx b0 b1) (fun m1 h => y_of ha h b0 b1) (o_of_ok ha b0 b1),
    fun m b0 b1 b2 ⟨a, ha, hx, hy⟩ => tk_both ha hy (x_change an_HK ha hx b0 b1 b2) (fun m1 h => y_change ha h b0 b1 b2) (o_change_ok ha b0 b1 b2),
    fun m b0 b1 ⟨a, ha, hx, hy⟩ => tk_both ha hy (x_as an_HK ha hx b0 b1) (fun m1 h => y_as ha h b0 b1) (o_as_ok ha b0 b1),
    fun m ⟨a, ha, hx, hy⟩ => tk_both ha hy (x_drop an_HK ha hx) (fun m1 h => y_drop ha h) (o_drop_ok ha),
    fun m b0 ⟨a, ha, hx, hy⟩ => tk_both ha hy (x_prune an_HK ha hx b0) (fun m1 h => y_prune ha h b0) (o_prune_ok ha b0),
    fun m b0 b1 ⟨a, ha, hx, hy⟩ => tk_both ha hy (x_swap an_HK ha hx b0 b1) (fun m1 h => y_swap ha h b0 b1) (o_swap_ok ha b0 b1),
    fun m ⟨a, ha, hx, hy⟩ => tk_both ha hy (x_turn an_HK ha hx) (fun m1 h => y_turn ha h) (o_turn_ok ha),
    fun m b0 b1 ⟨a, ha, hx, hy⟩ => tk_both ha hy (x_lie an_HK ha hx b0 b1) (fun m1 h => y_lie ha h b0 b1) (o_lie_ok ha b0 b1),
    fun m b0 b1 b2 ⟨a, ha, hx, hy⟩ => tk_both ha hy (x_power an_HK ha hx b0 b1 b2) (fun m1 h => y_power ha h b0 b1 b2) (o_power_ok ha b0 b1 b2),
    fun m b0 b1 b2 ⟨a, ha, hx, hy⟩ => tk_both ha hy (x_radical an_HK ha hx b0 b1 b2) (fun m1 h => y_radical ha h b0 b1 b2) (o_radical_ok ha b0 b1 b2),
    fun m b0 b1 ⟨a, ha, hx, hy⟩ => tk_both ha hy (x_ring an_HK ha hx b0 b1) (fun m1 h => y_ring ha h b0 b1) (o_ring_ok ha b0 b1),
    fun m b0 b1 b2 ⟨a, ha, hx, hy⟩ => tk_both ha hy (x_three an_HK ha hx b0 b1 b2) (fun m1 h => y_three ha h b0 b1 b2) (o_three_ok ha b0 b1 b2),
    fun m b0 ⟨a, ha, hx, hy⟩ => tk_both ha hy (x_ofThree an_HK ha hx b0) (fun m1 h => y_ofThree ha h b0) (o_ofThree_ok ha b0),
    fun m ⟨a, ha, hx, hy⟩ => tk_both ha hy (x_draw an_HK ha hx) (fun m1 h => y_draw ha h) (o_draw_ok ha),
    fun m b0 ⟨a, ha, hx, hy⟩ => tk_both ha hy (x_answers ha hx b0) (fun m1 h => y_answers ha h b0) (o_answers_ok ha b0),
    fun m b0 ⟨a, ha, hx, hy⟩ => tk_both ha hy (x_signs ha hx b0) (fun m1 h => y_signs ha h b0) (o_signs_ok ha b0),
    fun m b0 b1 b2 ⟨a, ha, hx, hy⟩ => tk_both ha hy (x_answer ha hx b0 b1 b2) (fun m1 h => y_answer ha h b0 b1 b2) (o_answer_ok ha b0 b1 b2),
    fun m b0 ⟨a, ha, hx, hy⟩ => tk_both ha hy (x_best ha hx b0) (fun m1 h => y_best ha h b0) (o_best_ok ha b0),
    fun m b0 ⟨a, ha, hx, hy⟩ => tk_both ha hy (x_rank ha hx b0) (fun m1 h => y_rank ha h b0) (o_rank_ok ha b0),
    fun m b0 b1 ⟨a, ha, hx, hy⟩ => tk_both ha hy (x_touches ha hx b0 b1) (fun m1 h => y_touches ha h b0 b1) (o_touches_ok ha b0 b1),
    fun m b0 b1 ⟨a, ha, hx, hy⟩ => tk_both ha hy (x_lays an_HK ha hx b0 b1) (fun m1 h => y_lays ha h b0 b1) (o_lays_ok ha b0 b1),
    fun m b0 b1 b2 b3 ⟨a, ha, hx, hy⟩ => tk_both ha hy (x_invert an_HK ha hx b0 b1 b2 b3) (fun m1 h => y_invert ha h b0 b1 b2 b3) (o_invert_ok ha b0 b1 b2 b3),
    fun m b0 ⟨a, ha, hx, hy⟩ => tk_both ha hy (x_tell an_HK ha hx b0) (fun m1 h => y_tell ha h b0) (o_tell_ok ha b0),
    fun m b0 b1 b2 ⟨a, ha, hx, hy⟩ => tk_both ha hy (x_put ha hx b0 b1 b2) (fun m1 h => y_put ha h b0 b1 b2) (o_put_ok ha b0 b1 b2),
    fun m b0 b1 b2 ⟨a, ha, hx, hy⟩ => tk_both ha hy (x_ratio an_HK ha hx b0 b1 b2) (fun m1 h => y_ratio ha h b0 b1 b2) (o_ratio_ok ha b0 b1 b2),
    fun m b0 b1 ⟨a, ha, hx, hy⟩ => tk_both ha hy (x_root an_HK ha hx b0 b1) (fun m1 h => y_root ha h b0 b1) (o_root_ok ha b0 b1),
    fun m b0 b1 b2 b3 ⟨a, ha, hx, hy⟩ => tk_both ha hy (x_work an_HK ha hx b0 b1 b2 b3) (fun m1 h => y_work ha h b0 b1 b2 b3) (o_work_ok ha b0 b1 b2 b3),
    fun m b0 b1 ⟨a, ha, hx, hy⟩ => tk_both ha hy (x_compare an_HK ha hx b0 b1) (fun m1 h => y_compare ha h b0 b1) (o_compare_ok ha b0 b1),
    fun m b0 b1 ⟨a, ha, hx, hy⟩ => tk_both ha hy (x_number an_HK ha hx b0 b1) (fun m1 h => y_number ha h b0 b1) (o_number_ok ha b0 b1),
    fun m b0 b1 ⟨a, ha, hx, hy⟩ => tk_both ha hy (x_taken an_HK ha hx b0 b1) (fun m1 h => y_taken ha h b0 b1) (o_taken_ok ha b0 b1),
    fun m b0 ⟨a, ha, hx, hy⟩ => tk_both ha hy (x_clear an_HK ha hx b0) (fun m1 h => y_clear ha h b0) (o_clear_ok ha b0),
    fun m b0 b1 b2 ⟨a, ha, hx, hy⟩ => tk_both ha hy (x_sheet an_HK ha hx b0 b1 b2) (fun m1 h => y_sheet ha h b0 b1 b2) (o_sheet_ok ha b0 b1 b2),
    fun m b0 b1 b2 ⟨a, ha, hx, hy⟩ => tk_both ha hy (x_write an_HK ha hx b0 b1 b2) (fun m1 h => y_write ha h b0 b1 b2) (o_write_ok ha b0 b1 b2),
    fun m b0 b1 ⟨a, ha, hx, hy⟩ => tk_both ha hy (x_item an_HK ha hx b0 b1) (fun m1 h => y_item ha h b0 b1) (o_item_ok ha b0 b1),
    fun m b0 b1 b2 b3 b4 ⟨a, ha, hx, hy⟩ => tk_both ha hy (x_copy an_HK ha hx b0 b1 b2 b3 b4) (fun m1 h => y_copy ha h b0 b1 b2 b3 b4) (o_copy_ok ha b0 b1 b2 b3 b4),
    fun m ⟨a, ha, hx, hy⟩ => tk_both ha hy (x_image an_HK ha hx) (fun m1 h => y_image ha h) (o_image_ok ha),
    fun m ⟨a, ha, hx, hy⟩ => tk_both ha hy (x_back an_HK ha hx) (fun m1 h => y_back ha h) (o_back_ok ha),
    fun m b0 ⟨a, ha, hx, hy⟩ => tk_both ha hy (x_seed an_HK ha hx b0) (fun m1 h => y_seed ha h b0) (o_seed_ok ha b0),
    fun m b0 ⟨a, ha, hx, hy⟩ => tk_both ha hy (x_count an_HK ha hx b0) (fun m1 h => y_count ha h b0) (o_count_ok ha b0),
    fun m b0 ⟨a, ha, hx, hy⟩ => tk_both ha hy (x_status an_HK ha hx b0) (fun m1 h => y_status ha h b0) (o_status_ok ha b0)⟩
