/-! template and token -/
theorem tz_lm1 {v : Int32} (h : v < 0) (n : ¬ v < -1) : v = -1 := by
  rw [Int32.lt_iff_toInt_lt] at h n
  rw [show (0 : Int32).toInt = 0 from by decide] at h
  rw [show (-1 : Int32).toInt = -1 from by decide] at n
  apply Int32.toInt_inj.mp
  rw [show (-1 : Int32).toInt = -1 from by decide]
  omega
theorem tz_nm1 {n : Nat} (h : n < 2 ^ 31) : ¬ nI n < -1 := fun z => nI_pos h (Int32.lt_trans z tz_m1lt)
theorem wy_inm {post : Int32 → Prop} {v : Int32} (h1 : re_sl v → post 1) (h0 : ¬ re_sl v → post 0) : wpY_in post v (-1) 7 := by
  unfold wpY_in
  by_cases z : v < -1
  · refine br_t z (h0 (fun w => ?_))
    rcases w with w | ⟨s, hs, w⟩
    · rw [w] at z; exact absurd z (by decide)
    · rw [w] at z; exact tz_nm1 (by omega) z
  · by_cases y : 7 < v
    · refine br_f z (br_t y (h0 (fun w => ?_)))
      rcases w with w | ⟨s, hs, w⟩
      · rw [w] at y; exact absurd y (by decide)
      · rw [w] at y; exact nI_nlt (a := 7) (b := s) (by omega) (by omega) y
    · refine br_f z (br_f y (h1 ?_))
      by_cases x : v < 0
      · exact Or.inl (tz_lm1 x z)
      · obtain ⟨j, hj, rfl⟩ := nI_of x
        refine Or.inr ⟨j, ?_, rfl⟩
        rcases Nat.lt_or_ge j 8 with u | u
        · exact u
        · exact absurd (nI_lt (a := 7) (b := j) (by omega) hj) y
section
variable {f_nodeCount f_draftLength f_resultLength : Int32} {a_inUse a_parentOf a_rankOf a_nameOf a_valueOf a_order a_along a_draftKind a_draftValue a_draftEnd a_tokenKind a_tokenValue a_tokenEnd a_slotLength a_setAt a_amount a_reached a_agenda a_isTemplate a_matchSlot a_priorityOf a_outSlot a_onSlot a_waiting a_result : Nat → Int32} {c : Nat} {r d : Nat → Nat}
theorem wx_isSlot {post : Int32 → Prop} {v : Int32} (h1 : ∀ j, j < 8 → v = nI j → post 1) (h0 : (∀ j, j < 8 → v ≠ nI j) → post 0) : wpX_isSlot post (f_nodeCount, f_draftLength, f_resultLength, a_inUse, a_parentOf, a_rankOf, a_nameOf, a_valueOf, a_order, a_along, a_draftKind, a_draftValue, a_draftEnd, a_tokenKind, a_tokenValue, a_tokenEnd, a_slotLength, a_setAt, a_amount, a_reached, a_agenda, a_isTemplate, a_matchSlot, a_priorityOf, a_outSlot, a_onSlot, a_waiting, a_result) v := by
  unfold wpX_isSlot
  rcases pk_ix v (n := 8) (by omega) with z | z | ⟨j, hj, rfl⟩
  · exact br_t z (h0 (fun j hj e => nI_pos (n := j) (by omega) (by rw [← e]; exact z)))
  · exact br_f (tz_np z (by omega)) (br_t z (h0 (fun j hj e => nI_ge (a := j) (b := 8) hj (by omega) (by rw [← e]; exact z))))
  · exact br_f (nI_pos (by omega)) (br_f (nI_ge (a := j) (b := 8) hj (by omega)) (h1 j hj rfl))
end
def tp_G (v1 v2 v3 v4 v5 : Int32) : Prop := (∃ j, j < 6 ∧ v1 = nI j) ∧ (∃ s, s < 8 ∧ v2 = nI s) ∧ ¬ v3 < -9 ∧ v3 ≤ 9 ∧ re_sl v4 ∧ re_sl v5
section
variable {f_nodeCount f_draftLength f_resultLength : Int32} {a_inUse a_parentOf a_rankOf a_nameOf a_valueOf a_order a_along a_draftKind a_draftValue a_draftEnd a_tokenKind a_tokenValue a_tokenEnd a_slotLength a_setAt a_amount a_reached a_agenda a_isTemplate a_matchSlot a_priorityOf a_outSlot a_onSlot a_waiting a_result : Nat → Int32} {v1 v2 v3 v4 v5 : Int32}
theorem wx_template {post : Int32 → SX → Prop} (h1 : tp_G v1 v2 v3 v4 v5 → post 1 (f_nodeCount, f_draftLength, f_resultLength, a_inUse, a_parentOf, a_rankOf, a_nameOf, a_valueOf, a_order, a_along, a_draftKind, a_draftValue, a_draftEnd, a_tokenKind, a_tokenValue, a_tokenEnd, a_slotLength, a_setAt, a_amount, a_reached, a_agenda, upd a_isTemplate v1.toNatClampNeg (vp_nar .boolean 1), upd a_matchSlot v1.toNatClampNeg v2, upd a_priorityOf v1.toNatClampNeg v3, upd a_outSlot v1.toNatClampNeg v4, upd a_onSlot v1.toNatClampNeg v5, a_waiting, a_result)) (h0 : ¬ tp_G v1 v2 v3 v4 v5 → post 0 (f_nodeCount, f_draftLength, f_resultLength, a_inUse, a_parentOf, a_rankOf, a_nameOf, a_valueOf, a_order, a_along, a_draftKind, a_draftValue, a_draftEnd, a_tokenKind, a_tokenValue, a_tokenEnd, a_slotLength, a_setAt, a_amount, a_reached, a_agenda, a_isTemplate, a_matchSlot, a_priorityOf, a_outSlot, a_onSlot, a_waiting, a_result)) : wpX_template post (f_nodeCount, f_draftLength, f_resultLength, a_inUse, a_parentOf, a_rankOf, a_nameOf, a_valueOf, a_order, a_along, a_draftKind, a_draftValue, a_draftEnd, a_tokenKind, a_tokenValue, a_tokenEnd, a_slotLength, a_setAt, a_amount, a_reached, a_agenda, a_isTemplate, a_matchSlot, a_priorityOf, a_outSlot, a_onSlot, a_waiting, a_result) v1 v2 v3 v4 v5 := by
  unfold wpX_template
  rcases pk_ix v1 (n := 6) (by omega) with z | z | ⟨j, hj, e1⟩
  · exact br_t z (h0 (fun ⟨⟨j, hj, e⟩, _⟩ => nI_pos (n := j) (by omega) (by rw [← e]; exact z)))
  · exact br_f (tz_np z (by omega)) (br_t z (h0 (fun ⟨⟨j, hj, e⟩, _⟩ => nI_ge (a := j) (b := 6) hj (by omega) (by rw [← e]; exact z))))
  have vi : vp_in v1 6 := by rw [e1]; exact vp_in_nI hj (by omega)
  have c1 : ¬ v1 < 0 := by rw [e1]; exact nI_pos (by omega)
  have c2 : ¬ 6 ≤ v1 := by rw [e1]; exact nI_ge (a := j) (b := 6) hj (by omega)
  refine br_f c1 (br_f c2 (wx_isSlot (fun s hs es => ?_) (fun hn => br_t rfl (h0 (fun ⟨_, ⟨s, hs, e⟩, _⟩ => hn s hs e)))))
  refine br_f (by decide) ?_
  by_cases p : v3 < -9
  · exact br_t p (h0 (fun g => g.2.2.1 p))
  refine br_f p ?_
  by_cases p9 : v3 ≤ 9
  · refine br_t p9 ?_
    have K66 : re_sl v4 → re_sl v5 → wX_template_66 post v1 v2 v3 v4 v5 f_nodeCount f_draftLength f_resultLength a_inUse a_parentOf a_rankOf a_nameOf a_valueOf a_order a_along a_draftKind a_draftValue a_draftEnd a_tokenKind a_tokenValue a_tokenEnd a_slotLength a_setAt a_amount a_reached a_agenda a_isTemplate a_matchSlot a_priorityOf a_outSlot a_onSlot a_waiting a_result := fun g4 g5 =>
      ⟨vi, nm_e ⟨vi, nm_e ⟨vi, nm_e ⟨vi, nm_e ⟨vi, nm_e (h1 ⟨⟨j, hj, e1⟩, ⟨s, hs, es⟩, p, p9, g4, g5⟩)⟩⟩⟩⟩⟩
    have K49 : re_sl v4 → wX_template_49 post v1 v2 v3 v4 v5 f_nodeCount f_draftLength f_resultLength a_inUse a_parentOf a_rankOf a_nameOf a_valueOf a_order a_along a_draftKind a_draftValue a_draftEnd a_tokenKind a_tokenValue a_tokenEnd a_slotLength a_setAt a_amount a_reached a_agenda a_isTemplate a_matchSlot a_priorityOf a_outSlot a_onSlot a_waiting a_result := fun g4 => by
      unfold wX_template_49
      by_cases q : v5 = -1
      · exact br_t q (K66 g4 (Or.inl q))
      · refine br_f q (wx_isSlot (fun t ht et => br_f (by decide) (K66 g4 (Or.inr ⟨t, ht, et⟩))) (fun hn => br_t rfl (h0 (fun g => ?_))))
        rcases g.2.2.2.2.2 with w | ⟨t, ht, w⟩
        · exact q w
        · exact hn t ht w
    by_cases q : v4 = -1
    · exact br_t q (K49 (Or.inl q))
    · refine br_f q (wx_isSlot (fun t ht et => br_f (by decide) (K49 (Or.inr ⟨t, ht, et⟩))) (fun hn => br_t rfl (h0 (fun g => ?_))))
      rcases g.2.2.2.2.1 with w | ⟨t, ht, w⟩
      · exact q w
      · exact hn t ht w
  · exact br_f p9 (h0 (fun g => p9 g.2.2.2.1))
end
section
variable {f_count f_top f_listed f_outputs : Int32} {a_row a_depth a_name a_value a_moved a_kind a_with a_length a_sets a_fresh a_type a_number a_set a_list a_there a_match a_priority a_out a_on a_todo a_within a_output : Nat → Int32} {v1 v2 v3 v4 v5 : Int32}
theorem wy_template {post : Int32 → SY → Prop} (h1 : tp_G v1 v2 v3 v4 v5 → post 1 (f_count, f_top, f_listed, f_outputs, a_row, a_depth, a_name, a_value, a_moved, a_kind, a_with, a_length, a_sets, a_fresh, a_type, a_number, a_set, a_list, upd a_there v1.toNatClampNeg (vp_nar .boolean 1), upd a_match v1.toNatClampNeg v2, upd a_priority v1.toNatClampNeg v3, upd a_out v1.toNatClampNeg v4, upd a_on v1.toNatClampNeg v5, a_todo, a_within, a_output)) (h0 : ¬ tp_G v1 v2 v3 v4 v5 → post 0 (f_count, f_top, f_listed, f_outputs, a_row, a_depth, a_name, a_value, a_moved, a_kind, a_with, a_length, a_sets, a_fresh, a_type, a_number, a_set, a_list, a_there, a_match, a_priority, a_out, a_on, a_todo, a_within, a_output)) : wpY_template post (f_count, f_top, f_listed, f_outputs, a_row, a_depth, a_name, a_value, a_moved, a_kind, a_with, a_length, a_sets, a_fresh, a_type, a_number, a_set, a_list, a_there, a_match, a_priority, a_out, a_on, a_todo, a_within, a_output) v1 v2 v3 v4 v5 := by
  unfold wpY_template
  refine wy_in0 (n := 5) (by omega) (fun j hj e1 => ?_) (fun hn => br_t rfl (h0 (fun ⟨⟨j, hj, e⟩, _⟩ => hn j (by omega) e)))
  have vi : vp_in v1 6 := by rw [e1]; exact vp_in_nI (by omega) (by omega)
  refine br_f (by decide) (wy_in0 (n := 7) (by omega) (fun s hs es => ?_) (fun hn => br_t rfl (h0 (fun ⟨_, ⟨s, hs, e⟩, _⟩ => hn s (by omega) e))))
  refine br_f (by decide) ?_
  by_cases p : v3 < -9
  · exact br_t p (br_t rfl (h0 (fun g => g.2.2.1 p)))
  refine br_f p ?_
  by_cases p9 : 9 < v3
  · exact br_t p9 (br_t rfl (h0 (fun g => Int32.not_lt.mpr g.2.2.2.1 p9)))
  refine br_f p9 (br_f (by decide) (wy_inm (fun g4 => br_f (by decide) (wy_inm (fun g5 => br_f (by decide) ?_) (fun w => br_t rfl (h0 (fun g => w g.2.2.2.2.2))))) (fun w => br_t rfl (h0 (fun g => w g.2.2.2.2.1)))))
  exact ⟨vi, nm_e ⟨vi, nm_e ⟨vi, nm_e ⟨vi, nm_e ⟨vi, nm_e (h1 ⟨⟨j, by omega, e1⟩, ⟨s, by omega, es⟩, p, Int32.not_lt.mp p9, g4, g5⟩)⟩⟩⟩⟩⟩
end
theorem i_vc_template {k : Nat} {u : SX} {v : SY} (I : i_Rel k u v) (hk : k + 6 ≤ 3072) (v1 : Int32) (v2 : Int32) (v3 : Int32) (v4 : Int32) (v5 : Int32) : wpX_template (fun r u' => wpY_template (fun r' v' => r' = r ∧ i_Rel (k + 6) u' v') v v1 v2 v3 v4 v5) u v1 v2 v3 v4 v5 := by
  obtain ⟨f_nodeCount, f_draftLength, f_resultLength, a_inUse, a_parentOf, a_rankOf, a_nameOf, a_valueOf, a_order, a_along, a_draftKind, a_draftValue, a_draftEnd, a_tokenKind, a_tokenValue, a_tokenEnd, a_slotLength, a_setAt, a_amount, a_reached, a_agenda, a_isTemplate, a_matchSlot, a_priorityOf, a_outSlot, a_onSlot, a_waiting, a_result⟩ := u
  obtain ⟨f_count, f_top, f_listed, f_outputs, a_row, a_depth, a_name, a_value, a_moved, a_kind, a_with, a_length, a_sets, a_fresh, a_type, a_number, a_set, a_list, a_there, a_match, a_priority, a_out, a_on, a_todo, a_within, a_output⟩ := v
  have J := i_up I
  obtain ⟨c, n, m, r, d, len, T, X, Y, e1, e2, hdl, hK, hF, e3, e4, e5, e6, e7, hP, hm, hrl, hou, e8⟩ := I
  subst e3 e4 e5 e6 e7
  refine wx_template (fun g => wy_template (fun _ => ⟨rfl, c, n, m, r, d, len, T, X, Y, e1, e2, hdl, hK, hF, rfl, rfl, rfl, rfl, rfl, ?_, hm, hrl, hou, e8⟩) (fun w => absurd g w)) (fun w => wy_template (fun g => absurd g w) (fun _ => ⟨rfl, J⟩))
  obtain ⟨⟨j, hj, rfl⟩, ⟨s, hs, rfl⟩, -, -, g4, g5⟩ := g
  intro t ht
  obtain ⟨p1, p2, p3, p4⟩ := hP t ht
  rw [nI_clamp (by omega), tz_b1]
  by_cases tj : t = j
  · subst tj
    rw [pk_us, pk_us, pk_us, pk_us]
    exact ⟨Or.inr rfl, ⟨s, hs, rfl⟩, g4, g5⟩
  · rw [pk_un tj, pk_un tj, pk_un tj, pk_un tj]
    exact ⟨p1, p2, p3, p4⟩
