/-! the relation owed -/
def re_R (c n m : Nat) (r d len : Nat → Nat) (u : SX) (v : SY) : Prop :=
  match u, v with
  | (f_nodeCount, f_draftLength, f_resultLength, a_inUse, a_parentOf, a_rankOf, a_nameOf, a_valueOf, a_order, a_along, a_draftKind, a_draftValue, a_draftEnd, a_tokenKind, a_tokenValue, a_tokenEnd, a_slotLength, a_setAt, a_amount, a_reached, a_agenda, a_isTemplate, a_matchSlot, a_priorityOf, a_outSlot, a_onSlot, a_waiting, a_result), (f_count, f_top, f_listed, f_outputs, a_row, a_depth, a_name, a_value, a_moved, a_kind, a_with, a_length, a_sets, a_fresh, a_type, a_number, a_set, a_list, a_there, a_match, a_priority, a_out, a_on, a_todo, a_within, a_output) =>
    td_T c r d ∧ re_XT c r d f_nodeCount a_inUse a_parentOf a_rankOf a_order a_along ∧ re_YT c r d f_count a_row a_depth ∧ a_nameOf = a_name ∧ a_valueOf = a_value ∧
    f_draftLength = nI n ∧ re_K n len a_draftKind a_draftValue a_tokenKind a_tokenValue a_tokenEnd a_slotLength a_kind a_with a_length ∧
    re_F c r d len a_name a_value a_kind a_with a_tokenEnd a_sets a_fresh ∧ a_isTemplate = a_there ∧ a_matchSlot = a_match ∧ a_priorityOf = a_priority ∧ a_outSlot = a_out ∧ a_onSlot = a_on ∧
    re_P a_there a_match a_out a_on ∧ m ≤ 100 ∧ f_resultLength = nI m ∧ f_outputs = nI m ∧ a_result = a_output
def i_Rel (_ : Nat) (u : SX) (v : SY) : Prop := ∃ c n m r d len, re_R c n m r d len u v
