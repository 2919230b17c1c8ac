/-! token -/
section
variable {f_nodeCount f_draftLength f_resultLength : Int32} {a_inUse a_parentOf a_rankOf a_nameOf a_valueOf a_order a_along a_draftKind a_draftValue a_draftEnd a_tokenKind a_tokenValue a_tokenEnd a_slotLength a_setAt a_amount a_reached a_agenda a_isTemplate a_matchSlot a_priorityOf a_outSlot a_onSlot a_waiting a_result : Nat → Int32}
theorem wx_isStep {post : Int32 → Prop} {v : Int32} (h1 : tq_G v → post 1) (h0 : ¬ tq_G v → post 0) : wpX_isStepValue post (f_nodeCount, f_draftLength, f_resultLength, a_inUse, a_parentOf, a_rankOf, a_nameOf, a_valueOf, a_order, a_along, a_draftKind, a_draftValue, a_draftEnd, a_tokenKind, a_tokenValue, a_tokenEnd, a_slotLength, a_setAt, a_amount, a_reached, a_agenda, a_isTemplate, a_matchSlot, a_priorityOf, a_outSlot, a_onSlot, a_waiting, a_result) v := by
  unfold wpX_isStepValue
  by_cases z : v < 0
  · exact br_t z (h0 (fun ⟨w, hw, e, _⟩ => nI_pos (n := w) (by omega) (by rw [← e]; exact z)))
  obtain ⟨w, hw, rfl⟩ := nI_of z
  have a1 : nI w &&& 15 = nI (w % 16) := pk_andN (by omega) 4 (by decide)
  have a2 : (nI w >>> ((4 : Int32) &&& 31)) &&& 7 = nI (w / 16 % 8) := by
    rw [pk_shrN hw _ 4 (by decide)]
    exact pk_andN (by omega) 3 (by decide)
  have a3 : nI w >>> ((7 : Int32) &&& 31) = nI (w / 128) := pk_shrN hw _ 7 (by decide)
  have gi : tq_G (nI w) ↔ (w / 128 ≤ 2 ∧ w % 16 ≤ 10 ∧ w / 16 % 8 ≤ 6) := by
    constructor
    · rintro ⟨w', h, e, g⟩
      rw [nI_eq hw (by omega)] at e
      subst e
      exact ⟨by omega, g⟩
    · exact fun g => ⟨w, by omega, rfl, g.2⟩
  refine br_f z ?_
  by_cases y1 : w % 16 ≤ 10
  · refine br_f (by rw [a1]; exact nI_ge (b := 11) (by omega) (by omega)) ?_
    by_cases y2 : w / 16 % 8 ≤ 6
    · refine br_f (by rw [a2]; exact nI_nlt (a := 6) (by omega) (by omega)) ?_
      by_cases y3 : w / 128 ≤ 2
      · exact br_f (by rw [a3]; exact nI_nlt (a := 2) (by omega) (by omega)) (h1 (gi.mpr ⟨y3, y1, y2⟩))
      · exact br_t (by rw [a3]; exact nI_lt (a := 2) (by omega) (by omega)) (h0 (fun g => y3 (gi.mp g).1))
    · exact br_t (by rw [a2]; exact nI_lt (a := 6) (by omega) (by omega)) (h0 (fun g => y2 (gi.mp g).2.2))
  · exact br_t (by rw [a1]; exact nI_le (a := 11) (by omega) (by omega)) (h0 (fun g => y1 (gi.mp g).2.1))
def tq_T (n : Nat) (v1 v2 : Int32) : Prop := (∃ k, k < 18 ∧ v1 = nI k ∧ (k = 2 → tq_G v2)) ∧ n < 40
theorem wx_token {post : Int32 → SX → Prop} {n : Nat} {v1 v2 : Int32} (hl : f_draftLength = nI n) (hn : n ≤ 40)
    (h1 : tq_T n v1 v2 → post (nI (n + 1)) (f_nodeCount, nI (n + 1), f_resultLength, a_inUse, a_parentOf, a_rankOf, a_nameOf, a_valueOf, a_order, a_along, upd a_draftKind n v1, upd a_draftValue n v2, a_draftEnd, a_tokenKind, a_tokenValue, a_tokenEnd, a_slotLength, a_setAt, a_amount, a_reached, a_agenda, a_isTemplate, a_matchSlot, a_priorityOf, a_outSlot, a_onSlot, a_waiting, a_result)) (h0 : ¬ tq_T n v1 v2 → post (-1) (f_nodeCount, f_draftLength, f_resultLength, a_inUse, a_parentOf, a_rankOf, a_nameOf, a_valueOf, a_order, a_along, a_draftKind, a_draftValue, a_draftEnd, a_tokenKind, a_tokenValue, a_tokenEnd, a_slotLength, a_setAt, a_amount, a_reached, a_agenda, a_isTemplate, a_matchSlot, a_priorityOf, a_outSlot, a_onSlot, a_waiting, a_result)) : wpX_token post (f_nodeCount, f_draftLength, f_resultLength, a_inUse, a_parentOf, a_rankOf, a_nameOf, a_valueOf, a_order, a_along, a_draftKind, a_draftValue, a_draftEnd, a_tokenKind, a_tokenValue, a_tokenEnd, a_slotLength, a_setAt, a_amount, a_reached, a_agenda, a_isTemplate, a_matchSlot, a_priorityOf, a_outSlot, a_onSlot, a_waiting, a_result) v1 v2 := by
  subst hl
  unfold wpX_token
  rcases pk_ix v1 (n := 18) (by omega) with z | z | ⟨k, hk, e1⟩
  · exact br_t z (h0 (fun ⟨⟨j, hj, e, _⟩, _⟩ => nI_pos (n := j) (by omega) (by rw [← e]; exact z)))
  · refine br_f (tz_np z (by omega)) (br_t (Int32.lt_of_lt_of_le (nI_lt (a := 17) (b := 18) (by omega) (by omega)) z) (h0 (fun ⟨⟨j, hj, e, _⟩, _⟩ => nI_ge (a := j) (b := 18) hj (by omega) (by rw [← e]; exact z))))
  have en : (nI n).toNatClampNeg = n := nI_clamp (by omega)
  refine br_f (by rw [e1]; exact nI_pos (by omega)) (br_f (by rw [e1]; exact nI_nlt (a := 17) (b := k) (by omega) (by omega)) ?_)
  by_cases hn40 : n < 40
  · refine br_t (nI_lt (b := 40) hn40 (by omega)) ?_
    have K : tq_T n v1 v2 → wX_token_36 post v1 v2 f_nodeCount (nI n) f_resultLength a_inUse a_parentOf a_rankOf a_nameOf a_valueOf a_order a_along a_draftKind a_draftValue a_draftEnd a_tokenKind a_tokenValue a_tokenEnd a_slotLength a_setAt a_amount a_reached a_agenda a_isTemplate a_matchSlot a_priorityOf a_outSlot a_onSlot a_waiting a_result := fun g => by
      have vi : vp_in (nI n) 40 := vp_in_nI hn40 (by omega)
      exact ⟨vi, nm_r (e' := upd a_draftKind n v1) (by rw [en]) ⟨vi, nm_r (e' := upd a_draftValue n v2) (by rw [en]) (nm_r (nI_1 n) (h1 g))⟩⟩
    by_cases k2 : k = 2
    · refine br_t (by rw [e1, k2]; rfl) (wx_isStep (fun g => br_f (by decide) (K ⟨⟨k, hk, e1, fun _ => g⟩, hn40⟩)) (fun g => br_t rfl (h0 (fun ⟨⟨j, hj, e, h⟩, _⟩ => g (h ?_)))))
      rw [e1, nI_eq (by omega) (by omega)] at e
      omega
    · refine br_f (fun w => k2 ?_) (K ⟨⟨k, hk, e1, fun w => absurd w k2⟩, hn40⟩)
      rw [e1] at w
      exact (nI_eq (b := 2) (by omega) (by omega)).mp w
  · exact br_f (nI_nlt (b := 40) (by omega) (by omega)) (h0 (fun g => hn40 g.2))
end
section
variable {f_count f_top f_listed f_outputs : Int32} {a_row a_depth a_name a_value a_moved a_kind a_with a_length a_sets a_fresh a_type a_number a_set a_list a_there a_match a_priority a_out a_on a_todo a_within a_output : Nat → Int32}
theorem wy_tok54 {post : Int32 → SY → Prop} {n : Nat} {v1 v2 z0 : Int32} (hl : a_length 8 = nI n) (hn : n ≤ 40) (hz : z0 = 0 ∨ z0 = 1)
    (h1 : (∃ k, k < 18 ∧ v1 = nI k) → z0 = 1 → n < 40 → post (nI (n + 1)) (f_count, f_top, f_listed, f_outputs, a_row, a_depth, a_name, a_value, a_moved, upd a_kind (320 + n) v1, upd a_with (320 + n) v2, upd a_length 8 (nI (n + 1)), a_sets, a_fresh, a_type, a_number, a_set, a_list, a_there, a_match, a_priority, a_out, a_on, a_todo, a_within, a_output))
    (h0 : ¬ ((∃ k, k < 18 ∧ v1 = nI k) ∧ z0 = 1 ∧ n < 40) → post (-1) (f_count, f_top, f_listed, f_outputs, a_row, a_depth, a_name, a_value, a_moved, a_kind, a_with, a_length, a_sets, a_fresh, a_type, a_number, a_set, a_list, a_there, a_match, a_priority, a_out, a_on, a_todo, a_within, a_output)) : wY_token_54 post v1 v2 z0 f_count f_top f_listed f_outputs a_row a_depth a_name a_value a_moved a_kind a_with a_length a_sets a_fresh a_type a_number a_set a_list a_there a_match a_priority a_out a_on a_todo a_within a_output := by
  unfold wY_token_54
  refine wy_in0 (n := 17) (by omega) (fun k hk ek => br_f (by decide) ?_) (fun hno => br_t rfl (h0 (fun ⟨⟨k, hk, ek⟩, _⟩ => hno k (by omega) ek)))
  rcases hz with rfl | rfl
  · exact br_t rfl (h0 (fun g => absurd g.2.1 (by decide)))
  refine br_f (by decide) ?_
  by_cases n40 : n = 40
  · exact br_t (by rw [hl, n40]; rfl) (h0 (fun g => by omega))
  · have e0 : (320 : Int32) + a_length 8 = nI (320 + n) := by rw [hl, show (320 : Int32) = nI 320 from rfl, nI_add]
    have e1 : ((320 : Int32) + a_length 8).toNatClampNeg = 320 + n := by rw [e0]; exact nI_clamp (by omega)
    have vi : vp_in ((320 : Int32) + a_length 8) 360 := by rw [e0]; exact vp_in_nI (by omega) (by omega)
    refine br_f (fun w => n40 ?_) ⟨vi, nm_r (e' := upd a_kind (320 + n) v1) (by rw [e1]) ⟨vi, nm_r (e' := upd a_with (320 + n) v2) (by rw [e1]) (nm_r (e' := upd a_length 8 (nI (n + 1))) (by rw [hl, nI_1]) ?_)⟩⟩
    · rw [hl] at w
      exact (nI_eq (b := 40) (by omega) (by omega)).mp w
    · rw [pk_us]
      exact h1 ⟨k, by omega, ek⟩ rfl (by omega)
theorem wy_token {post : Int32 → SY → Prop} {n : Nat} {v1 v2 : Int32} (hl : a_length 8 = nI n) (hn : n ≤ 40)
    (h1 : tq_T n v1 v2 → post (nI (n + 1)) (f_count, f_top, f_listed, f_outputs, a_row, a_depth, a_name, a_value, a_moved, upd a_kind (320 + n) v1, upd a_with (320 + n) v2, upd a_length 8 (nI (n + 1)), a_sets, a_fresh, a_type, a_number, a_set, a_list, a_there, a_match, a_priority, a_out, a_on, a_todo, a_within, a_output)) (h0 : ¬ tq_T n v1 v2 → post (-1) (f_count, f_top, f_listed, f_outputs, a_row, a_depth, a_name, a_value, a_moved, a_kind, a_with, a_length, a_sets, a_fresh, a_type, a_number, a_set, a_list, a_there, a_match, a_priority, a_out, a_on, a_todo, a_within, a_output)) : wpY_token post (f_count, f_top, f_listed, f_outputs, a_row, a_depth, a_name, a_value, a_moved, a_kind, a_with, a_length, a_sets, a_fresh, a_type, a_number, a_set, a_list, a_there, a_match, a_priority, a_out, a_on, a_todo, a_within, a_output) v1 v2 := by
  have K1 : (v1 = nI 2 → tq_G v2) → wY_token_54 post v1 v2 1 f_count f_top f_listed f_outputs a_row a_depth a_name a_value a_moved a_kind a_with a_length a_sets a_fresh a_type a_number a_set a_list a_there a_match a_priority a_out a_on a_todo a_within a_output := fun g =>
    wy_tok54 hl hn (Or.inr rfl) (fun ⟨k, hk, ek⟩ _ n40 => h1 ⟨⟨k, hk, ek, fun k2 => g (by rw [ek, k2])⟩, n40⟩) (fun w => h0 (fun ⟨⟨k, hk, ek, _⟩, n40⟩ => w ⟨⟨k, hk, ek⟩, rfl, n40⟩))
  have K0 : v1 = nI 2 → ¬ tq_G v2 → wY_token_54 post v1 v2 0 f_count f_top f_listed f_outputs a_row a_depth a_name a_value a_moved a_kind a_with a_length a_sets a_fresh a_type a_number a_set a_list a_there a_match a_priority a_out a_on a_todo a_within a_output := fun e2 g =>
    wy_tok54 hl hn (Or.inl rfl) (fun _ w _ => absurd w (by decide)) (fun _ => h0 (fun ⟨⟨k, hk, ek, h⟩, n40⟩ => g (h (by
      rw [e2, nI_eq (by omega) (by omega)] at ek
      exact ek.symm))))
  unfold wpY_token
  by_cases z2 : v1 = 2
  · have z2' : v1 = nI 2 := z2
    refine br_t z2 ?_
    by_cases z : v2 < 0
    · exact br_t z (K0 z2' (fun ⟨w, hw, e, _⟩ => nI_pos (n := w) (by omega) (by rw [← e]; exact z)))
    obtain ⟨w, hw, rfl⟩ := nI_of z
    have a1 : nI w &&& 15 = nI (w % 16) := pk_andN (by omega) 4 (by decide)
    have a2 : (nI w >>> ((4 : Int32) &&& 31)) &&& 7 = nI (w / 16 % 8) := by
      rw [pk_shrN hw _ 4 (by decide)]
      exact pk_andN (by omega) 3 (by decide)
    have a3 : nI w >>> ((7 : Int32) &&& 31) = nI (w / 128) := pk_shrN hw _ 7 (by decide)
    have gi : tq_G (nI w) ↔ (w / 128 ≤ 2 ∧ w % 16 ≤ 10 ∧ w / 16 % 8 ≤ 6) := by
      constructor
      · rintro ⟨w', h, e, g⟩
        rw [nI_eq hw (by omega)] at e
        subst e
        exact ⟨by omega, g⟩
      · exact fun g => ⟨w, by omega, rfl, g.2⟩
    refine br_f z ?_
    rw [a1, a2, a3]
    refine wy_in0 (n := 10) (by omega) (fun j1 g1 q1 => br_f (by decide) (wy_in0 (n := 6) (by omega) (fun j2 g2 q2 => br_f (by decide) (wy_in0 (n := 2) (by omega) (fun j3 g3 q3 => br_f (by decide) ?_) (fun q => br_t rfl ?_))) (fun q => br_t rfl ?_))) (fun q => br_t rfl ?_)
    · rw [nI_eq (by omega) (by omega)] at q1 q2 q3
      exact K1 (fun _ => gi.mpr ⟨by omega, by omega, by omega⟩)
    · exact K0 z2' (fun g => q (w / 128) (gi.mp g).1 rfl)
    · exact K0 z2' (fun g => q (w / 16 % 8) (gi.mp g).2.2 rfl)
    · exact K0 z2' (fun g => q (w % 16) (gi.mp g).2.1 rfl)
  · exact br_f z2 (K1 (fun e => absurd e z2))
end
theorem i_vc_token {k : Nat} {u : SX} {v : SY} (I : i_Rel k u v) (hk : k + 6 ≤ 3072) (v1 : Int32) (v2 : Int32) : wpX_token (fun r u' => wpY_token (fun r' v' => r' = r ∧ i_Rel (k + 6) u' v') v v1 v2) u v1 v2 := by
  obtain ⟨f_nodeCount, f_draftLength, f_resultLength, a_inUse, a_parentOf, a_rankOf, a_nameOf, a_valueOf, a_order, a_along, a_draftKind, a_draftValue, a_draftEnd, a_tokenKind, a_tokenValue, a_tokenEnd, a_slotLength, a_setAt, a_amount, a_reached, a_agenda, a_isTemplate, a_matchSlot, a_priorityOf, a_outSlot, a_onSlot, a_waiting, a_result⟩ := u
  obtain ⟨f_count, f_top, f_listed, f_outputs, a_row, a_depth, a_name, a_value, a_moved, a_kind, a_with, a_length, a_sets, a_fresh, a_type, a_number, a_set, a_list, a_there, a_match, a_priority, a_out, a_on, a_todo, a_within, a_output⟩ := v
  have J := i_up I
  obtain ⟨c, n, m, r, d, len, T, X, Y, e1, e2, hdl, hK, hF, e3, e4, e5, e6, e7, hP, hm, hrl, hou, e8⟩ := I
  obtain ⟨k1, k2, k3, k4, k5, k6⟩ := hK
  refine wx_token hdl k1 (fun g => wy_token k2 k1 (fun _ => ⟨rfl, c, n + 1, m, r, d, len, T, X, Y, e1, e2, rfl, ?_, ?_, e3, e4, e5, e6, e7, hP, hm, hrl, hou, e8⟩) (fun w => absurd g w)) (fun w => wy_token k2 k1 (fun g => absurd g w) (fun _ => ⟨rfl, J⟩))
  · obtain ⟨⟨kn, g1, g2, g3⟩, g4⟩ := g
    refine ⟨by omega, pk_us, fun i hi => ?_, fun i hi => ?_, fun i hi => ?_, fun s hs => ?_⟩
    · by_cases z : i = n
      · subst z
        exact ⟨by rw [pk_us, pk_us], by rw [pk_us, pk_us]⟩
      · rw [pk_un z, pk_un z, pk_un (by omega), pk_un (by omega)]
        exact k3 i hi
    · rw [pk_un (by omega), pk_un (by omega)]
      exact k4 i hi
    · by_cases z : i = n
      · subst z
        exact ⟨kn, g1, by rw [pk_us]; exact g2, fun w => by rw [pk_us]; exact g3 w⟩
      · obtain ⟨kk, q1, q2, q3⟩ := k5 i (by omega)
        exact ⟨kk, q1, by rw [pk_un (by omega)]; exact q2, fun w => by rw [pk_un (by omega)]; exact q3 w⟩
    · obtain ⟨q1, q2, q3⟩ := k6 s hs
      have := q3.1
      exact ⟨q1, by rw [pk_un (by omega)]; exact q2, re_Slot_c q3 (fun i x y => ⟨pk_un (by omega), pk_un (by omega), rfl⟩)⟩
  · intro s hs
    obtain ⟨q1, q2⟩ := hF s hs
    have := (k6 s hs).2.2.1
    exact ⟨q1, fun w => re_F1_c (q2 w) (fun i x y => ⟨pk_un (by omega), pk_un (by omega), rfl⟩)⟩
