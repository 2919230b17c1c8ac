/-! size, at, number, holds -/
def tt_am (l : List Nat) (k : Int32) : Int32 := if k < 0 then -1 else tt_at l k.toNatClampNeg
theorem tt_am_n {l : List Nat} {k : Nat} (hk : k < 2 ^ 31) : tt_am l (nI k) = tt_at l k := by
  unfold tt_am
  rw [if_neg (nI_pos hk), nI_clamp hk]
section
variable {f_nodeCount f_draftLength f_resultLength : Int32} {a_inUse a_parentOf a_rankOf a_nameOf a_valueOf a_order a_along a_draftKind a_draftValue a_draftEnd a_tokenKind a_tokenValue a_tokenEnd a_slotLength a_setAt a_amount a_reached a_agenda a_isTemplate a_matchSlot a_priorityOf a_outSlot a_onSlot a_waiting a_result : Nat → Int32} {c : Nat} {r d : Nat → Nat}
theorem wx_member {post : Int32 → Prop} {x k : Int32} (T : td_T c r d) (hnc : f_nodeCount = nI c) (ho : ∀ i, i < c → a_order i = nI (r i)) (h : post (tt_am (tt_l r x c 0) k)) : wpX_memberOf post (f_nodeCount, f_draftLength, f_resultLength, a_inUse, a_parentOf, a_rankOf, a_nameOf, a_valueOf, a_order, a_along, a_draftKind, a_draftValue, a_draftEnd, a_tokenKind, a_tokenValue, a_tokenEnd, a_slotLength, a_setAt, a_amount, a_reached, a_agenda, a_isTemplate, a_matchSlot, a_priorityOf, a_outSlot, a_onSlot, a_waiting, a_result) x k := by
  have c24 := T.1
  subst hnc
  have key : ∀ u i p, i + u = c → p ≤ i → (k < 0 → post (-1)) → (∀ kk, kk < 2 ^ 31 → k = nI kk → p ≤ kk ∧ post (tt_at (tt_l r x u i) (kk - p))) → wX_memberOf_5 post x k (nI c) f_draftLength f_resultLength a_inUse a_parentOf a_rankOf a_nameOf a_valueOf a_order a_along a_draftKind a_draftValue a_draftEnd a_tokenKind a_tokenValue a_tokenEnd a_slotLength a_setAt a_amount a_reached a_agenda a_isTemplate a_matchSlot a_priorityOf a_outSlot a_onSlot a_waiting a_result (u + 1) (nI p) (nI i) := by
    intro u
    induction u with
    | zero =>
      intro i p hi hp g0 g1
      refine br_t (nI_le (by omega) (by omega)) ?_
      by_cases z : k < 0
      · exact g0 z
      · obtain ⟨kk, hkk, e⟩ := nI_of z
        exact (g1 kk hkk e).2
    | succ u iu =>
      intro i p hi hp g0 g1
      have ri := T.2.2.2.1 i (by omega)
      have ei : a_order (nI i).toNatClampNeg = nI (r i) := by rw [nI_clamp (by omega)]; exact ho i (by omega)
      refine br_f (nI_ge (by omega) (by omega)) ⟨vp_in_nI (by omega) (by omega), ?_⟩
      rw [ei]
      by_cases z : bt x (r i) = true
      · refine br_f (fun w => by rw [mk_f (by omega), z] at w; cases w) ?_
        by_cases y : nI p = k
        · refine br_t y ⟨vp_in_nI (by omega) (by omega), ?_⟩
          have g := (g1 p (by omega) y.symm).2
          rw [tt_l_s, if_pos z, Nat.sub_self] at g
          exact g
        · refine br_f y (nm_r (nI_1 p) (nm_r (nI_1 i) (iu (i + 1) (p + 1) (by omega) (by omega) g0 (fun kk hkk e => ?_))))
          obtain ⟨a1, a2⟩ := g1 kk hkk e
          have ne : p ≠ kk := fun w => y (by rw [w, e])
          refine ⟨by omega, ?_⟩
          rw [tt_l_s, if_pos z, show kk - p = kk - (p + 1) + 1 by omega] at a2
          exact a2
      · refine br_t ((mk_f (by omega)).mpr (tz_nb z)) (nm_r (nI_1 i) (iu (i + 1) p (by omega) (by omega) g0 (fun kk hkk e => ?_)))
        obtain ⟨a1, a2⟩ := g1 kk hkk e
        rw [tt_l_s, if_neg z] at a2
        exact ⟨a1, a2⟩
  refine ⟨c + 1, key c 0 0 (by omega) (Nat.le_refl _) (fun z => ?_) (fun kk hkk e => ⟨Nat.zero_le _, ?_⟩)⟩
  · unfold tt_am at h
    rw [if_pos z] at h
    exact h
  · rw [e, tt_am_n hkk] at h
    exact h
end
section
variable {f_count f_top f_listed f_outputs : Int32} {a_row a_depth a_name a_value a_moved a_kind a_with a_length a_sets a_fresh a_type a_number a_set a_list a_there a_match a_priority a_out a_on a_todo a_within a_output : Nat → Int32} {c : Nat} {r d : Nat → Nat}
theorem wy_at31 {post : Int32 → SY → Prop} {k : Int32} (T : td_T c r d) (Y : re_YT c r d f_count a_row a_depth) (h : post (tt_am (tt_l r (a_set 0) c 0) k) (f_count, f_top, f_listed, f_outputs, a_row, a_depth, a_name, a_value, a_moved, a_kind, a_with, a_length, a_sets, a_fresh, a_type, a_number, a_set, a_list, a_there, a_match, a_priority, a_out, a_on, a_todo, a_within, a_output)) : ∃ n, wY_at_31 post f_count f_top f_listed f_outputs a_row a_depth a_name a_value a_moved a_kind a_with a_length a_sets a_fresh a_type a_number a_set a_list a_there a_match a_priority a_out a_on a_todo a_within a_output n k 0 := by
  have c24 := T.1
  by_cases z : k < 0
  · unfold tt_am at h
    rw [if_pos z] at h
    by_cases y : f_count ≤ 0
    · exact ⟨1, br_t y h⟩
    · exact ⟨1, br_f y (br_t z h)⟩
  obtain ⟨kk, hkk, rfl⟩ := nI_of z
  rw [tt_am_n hkk] at h
  have key : ∀ u i kk, i + u = c → kk < 2 ^ 31 → post (tt_at (tt_l r (a_set 0) u i) kk) (f_count, f_top, f_listed, f_outputs, a_row, a_depth, a_name, a_value, a_moved, a_kind, a_with, a_length, a_sets, a_fresh, a_type, a_number, a_set, a_list, a_there, a_match, a_priority, a_out, a_on, a_todo, a_within, a_output) → wY_at_31 post f_count f_top f_listed f_outputs a_row a_depth a_name a_value a_moved a_kind a_with a_length a_sets a_fresh a_type a_number a_set a_list a_there a_match a_priority a_out a_on a_todo a_within a_output (u + 1) (nI kk) (nI i) := by
    intro u
    induction u with
    | zero =>
      intro i kk hi hkk g
      exact br_t (by rw [Y.1]; exact nI_le (by omega) (by omega)) g
    | succ u iu =>
      intro i kk hi hkk g
      have ri := T.2.2.2.1 i (by omega)
      have ei : a_row (nI i).toNatClampNeg = nI (r i) := by rw [nI_clamp (by omega)]; exact Y.2.1 i (by omega)
      refine br_f (by rw [Y.1]; exact nI_ge (by omega) (by omega)) (br_f (nI_pos hkk) ⟨vp_in_nI (by omega) (by omega), ?_⟩)
      rw [ei]
      rw [tt_l_s] at g
      by_cases w : bt (a_set 0) (r i) = true
      · rw [if_pos w] at g
        refine br_f (fun v => by rw [mk_f (by omega), w] at v; cases v) ?_
        cases kk with
        | zero => exact br_t (by decide) ⟨vp_in_nI (by omega) (by omega), g⟩
        | succ kk => exact br_f (nI_ne0 (by omega) hkk) (nm_r (pk_m1 kk) (nm_r (nI_1 i) (iu (i + 1) kk (by omega) (by omega) g)))
      · rw [if_neg w] at g
        exact br_t ((mk_f (by omega)).mpr (tz_nb w)) (nm_r (nI_1 i) (iu (i + 1) kk (by omega) hkk g))
  exact ⟨c + 1, key c 0 kk (by omega) hkk h⟩
end
theorem re_b24 {s m : Nat} {r : Nat → Nat} (hs : s < 8) (hr : r m < 24) : nI s * 40 * 24 + nI (r m) = nI (40 * s * 24 + r m) := by
  rw [show nI s * 40 = nI (40 * s) by rw [show (40 : Int32) = nI 40 from rfl, pk_mul, Nat.mul_comm], te_ix]
theorem re_e40 {s : Nat} : nI s * 40 = nI (40 * s) := by rw [show (40 : Int32) = nI 40 from rfl, pk_mul, Nat.mul_comm]
theorem i_vc_size {k : Nat} {u : SX} {v : SY} (I : i_Rel k u v) (hk : k + 6 ≤ 3072) (v1 : Int32) (v2 : Int32) : wpX_size (fun r u' => wpY_size (fun r' v' => r' = r ∧ i_Rel (k + 6) u' v') v v1 v2) u v1 v2 := by
  obtain ⟨f_nodeCount, f_draftLength, f_resultLength, a_inUse, a_parentOf, a_rankOf, a_nameOf, a_valueOf, a_order, a_along, a_draftKind, a_draftValue, a_draftEnd, a_tokenKind, a_tokenValue, a_tokenEnd, a_slotLength, a_setAt, a_amount, a_reached, a_agenda, a_isTemplate, a_matchSlot, a_priorityOf, a_outSlot, a_onSlot, a_waiting, a_result⟩ := u
  obtain ⟨f_count, f_top, f_listed, f_outputs, a_row, a_depth, a_name, a_value, a_moved, a_kind, a_with, a_length, a_sets, a_fresh, a_type, a_number, a_set, a_list, a_there, a_match, a_priority, a_out, a_on, a_todo, a_within, a_output⟩ := v
  have J := i_up I
  obtain ⟨c, n, mm, r, d, len, T, X, Y, e1, e2, hdl, hK, hF, e3, e4, e5, e6, e7, hP, hm, hrl, hou, e8⟩ := I
  subst e1 e2
  have no : ¬ ((∃ s, s < 8 ∧ v1 = nI s ∧ 0 < len s ∧ te_R (40 * s) (40 * s + len s) a_kind (40 * s) < 4) ∧ ∃ m, m < c ∧ v2 = nI (r m)) → wpY_size (fun r' v' => r' = -1 ∧ i_Rel (k + 6) (f_nodeCount, f_draftLength, f_resultLength, a_inUse, a_parentOf, a_rankOf, a_nameOf, a_valueOf, a_order, a_along, a_draftKind, a_draftValue, a_draftEnd, a_tokenKind, a_tokenValue, a_tokenEnd, a_slotLength, a_setAt, a_amount, a_reached, a_agenda, a_isTemplate, a_matchSlot, a_priorityOf, a_outSlot, a_onSlot, a_waiting, a_result) v') (f_count, f_top, f_listed, f_outputs, a_row, a_depth, a_nameOf, a_valueOf, a_moved, a_kind, a_with, a_length, a_sets, a_fresh, a_type, a_number, a_set, a_list, a_there, a_match, a_priority, a_out, a_on, a_todo, a_within, a_output) v1 v2 := by
    intro w
    unfold wpY_size
    refine wy_isExpr T Y hK (fun s m hs es hl hmc em => br_f (by decide) ?_) (fun _ => br_t rfl ⟨rfl, J⟩)
    subst es
    exact wy_isSet hK hs (fun _ g => absurd ⟨⟨s, hs, rfl, hl, g⟩, m, hmc, em⟩ w) (fun _ => br_t rfl ⟨rfl, J⟩)
  unfold wpX_size
  refine wx_gives hK (fun s hs es hl h4 => br_f (by decide) ?_) (fun w => br_t rfl (no (fun g => w g.1)))
  subst es
  refine wx_isNode T X.2.1 (fun m hmc em => br_f (by decide) ?_) (fun w => br_t rfl (no (fun ⟨_, m, a, b⟩ => w m a b)))
  subst em
  have rm := T.2.2.2.1 m hmc
  refine wx_prep T (by omega) X hK hs (fun A re am ag hA _ => ⟨by rw [re_b24 hs rm]; exact vp_in_nI (by omega) (by omega), wx_count ?_⟩)
  rw [re_b24 hs rm, nI_clamp (by omega)]
  unfold wpY_size
  refine wy_isExpr T Y hK (fun s' m' hs' es hl' hmc' em => br_f (by decide) ?_) (fun w => absurd ⟨⟨s, hs, rfl, hl⟩, m, hmc, rfl⟩ w)
  refine wy_isSet hK hs (fun _ _ => br_f (by decide) (wy_ask T Y hK hF hs hl hmc (fun B fr top li ty nb st la g1 g2 En => ?_))) (fun w => absurd ⟨hl, h4⟩ w)
  have same := (re_same (pos := 1) (last := 1) (re_sy hK hs).2.2.2.2 (re_sy hK hs).1 hA g2 (t := 40 * s) (Nat.le_refl _) (by omega) hmc).1 h4
  have e0 := En.2.1
  rw [if_pos h4, ← same] at e0
  refine wy_counted ⟨by rw [e0], c, n, mm, r, d, len, T, X, Y, rfl, rfl, hdl, hK, g1, e3, e4, e5, e6, e7, hP, hm, hrl, hou, e8⟩
theorem i_vc_at {k : Nat} {u : SX} {v : SY} (I : i_Rel k u v) (hk : k + 6 ≤ 3072) (v1 : Int32) (v2 : Int32) (v3 : Int32) : wpX_at (fun r u' => wpY_at (fun r' v' => r' = r ∧ i_Rel (k + 6) u' v') v v1 v2 v3) u v1 v2 v3 := by
  obtain ⟨f_nodeCount, f_draftLength, f_resultLength, a_inUse, a_parentOf, a_rankOf, a_nameOf, a_valueOf, a_order, a_along, a_draftKind, a_draftValue, a_draftEnd, a_tokenKind, a_tokenValue, a_tokenEnd, a_slotLength, a_setAt, a_amount, a_reached, a_agenda, a_isTemplate, a_matchSlot, a_priorityOf, a_outSlot, a_onSlot, a_waiting, a_result⟩ := u
  obtain ⟨f_count, f_top, f_listed, f_outputs, a_row, a_depth, a_name, a_value, a_moved, a_kind, a_with, a_length, a_sets, a_fresh, a_type, a_number, a_set, a_list, a_there, a_match, a_priority, a_out, a_on, a_todo, a_within, a_output⟩ := v
  have J := i_up I
  obtain ⟨c, n, mm, r, d, len, T, X, Y, e1, e2, hdl, hK, hF, e3, e4, e5, e6, e7, hP, hm, hrl, hou, e8⟩ := I
  subst e1 e2
  have no : ¬ ((∃ s, s < 8 ∧ v1 = nI s ∧ 0 < len s ∧ te_R (40 * s) (40 * s + len s) a_kind (40 * s) < 4) ∧ ∃ m, m < c ∧ v2 = nI (r m)) → wpY_at (fun r' v' => r' = -1 ∧ i_Rel (k + 6) (f_nodeCount, f_draftLength, f_resultLength, a_inUse, a_parentOf, a_rankOf, a_nameOf, a_valueOf, a_order, a_along, a_draftKind, a_draftValue, a_draftEnd, a_tokenKind, a_tokenValue, a_tokenEnd, a_slotLength, a_setAt, a_amount, a_reached, a_agenda, a_isTemplate, a_matchSlot, a_priorityOf, a_outSlot, a_onSlot, a_waiting, a_result) v') (f_count, f_top, f_listed, f_outputs, a_row, a_depth, a_nameOf, a_valueOf, a_moved, a_kind, a_with, a_length, a_sets, a_fresh, a_type, a_number, a_set, a_list, a_there, a_match, a_priority, a_out, a_on, a_todo, a_within, a_output) v1 v2 v3 := by
    intro w
    unfold wpY_at
    refine wy_isExpr T Y hK (fun s m hs es hl hmc em => br_f (by decide) ?_) (fun _ => br_t rfl ⟨rfl, J⟩)
    subst es
    exact wy_isSet hK hs (fun _ g => absurd ⟨⟨s, hs, rfl, hl, g⟩, m, hmc, em⟩ w) (fun _ => br_t rfl ⟨rfl, J⟩)
  unfold wpX_at
  refine wx_gives hK (fun s hs es hl h4 => br_f (by decide) ?_) (fun w => br_t rfl (no (fun g => w g.1)))
  subst es
  refine wx_isNode T X.2.1 (fun m hmc em => br_f (by decide) ?_) (fun w => br_t rfl (no (fun ⟨_, m, a, b⟩ => w m a b)))
  subst em
  have rm := T.2.2.2.1 m hmc
  refine wx_prep T (by omega) X hK hs (fun A re am ag hA _ => ⟨by rw [re_b24 hs rm]; exact vp_in_nI (by omega) (by omega), wx_member T X.1 X.2.2.2.1 ?_⟩)
  rw [re_b24 hs rm, nI_clamp (by omega)]
  have fin : wpY_at (fun r' v' => r' = tt_am (tt_l r (A (40 * s * 24 + r m)) c 0) v3 ∧ i_Rel (k + 6) (f_nodeCount, f_draftLength, f_resultLength, a_inUse, a_parentOf, a_rankOf, a_nameOf, a_valueOf, a_order, a_along, a_draftKind, a_draftValue, a_draftEnd, a_tokenKind, a_tokenValue, a_tokenEnd, a_slotLength, A, am, re, ag, a_isTemplate, a_matchSlot, a_priorityOf, a_outSlot, a_onSlot, a_waiting, a_result) v') (f_count, f_top, f_listed, f_outputs, a_row, a_depth, a_nameOf, a_valueOf, a_moved, a_kind, a_with, a_length, a_sets, a_fresh, a_type, a_number, a_set, a_list, a_there, a_match, a_priority, a_out, a_on, a_todo, a_within, a_output) (nI s) (nI (r m)) v3 := by
    unfold wpY_at
    refine wy_isExpr T Y hK (fun s' m' hs' es hl' hmc' em => br_f (by decide) ?_) (fun w => absurd ⟨⟨s, hs, rfl, hl⟩, m, hmc, rfl⟩ w)
    refine wy_isSet hK hs (fun _ _ => br_f (by decide) (wy_ask T Y hK hF hs hl hmc (fun B fr top li ty nb st la g1 g2 En => ?_))) (fun w => absurd ⟨hl, h4⟩ w)
    have same := (re_same (pos := 1) (last := 1) (re_sy hK hs).2.2.2.2 (re_sy hK hs).1 hA g2 (t := 40 * s) (Nat.le_refl _) (by omega) hmc).1 h4
    have e0 := En.2.1
    rw [if_pos h4, ← same] at e0
    refine wy_at31 T Y ⟨by rw [e0], c, n, mm, r, d, len, T, X, Y, rfl, rfl, hdl, hK, g1, e3, e4, e5, e6, e7, hP, hm, hrl, hou, e8⟩
  by_cases z : tt_am (tt_l r (A (40 * s * 24 + r m)) c 0) v3 = -1
  · refine br_t z ?_
    rw [z] at fin
    exact fin
  · exact br_f z fin
theorem i_vc_number {k : Nat} {u : SX} {v : SY} (I : i_Rel k u v) (hk : k + 6 ≤ 3072) (v1 : Int32) (v2 : Int32) : wpX_number (fun r u' => wpY_number (fun r' v' => r' = r ∧ i_Rel (k + 6) u' v') v v1 v2) u v1 v2 := by
  obtain ⟨f_nodeCount, f_draftLength, f_resultLength, a_inUse, a_parentOf, a_rankOf, a_nameOf, a_valueOf, a_order, a_along, a_draftKind, a_draftValue, a_draftEnd, a_tokenKind, a_tokenValue, a_tokenEnd, a_slotLength, a_setAt, a_amount, a_reached, a_agenda, a_isTemplate, a_matchSlot, a_priorityOf, a_outSlot, a_onSlot, a_waiting, a_result⟩ := u
  obtain ⟨f_count, f_top, f_listed, f_outputs, a_row, a_depth, a_name, a_value, a_moved, a_kind, a_with, a_length, a_sets, a_fresh, a_type, a_number, a_set, a_list, a_there, a_match, a_priority, a_out, a_on, a_todo, a_within, a_output⟩ := v
  have J := i_up I
  obtain ⟨c, n, mm, r, d, len, T, X, Y, e1, e2, hdl, hK, hF, e3, e4, e5, e6, e7, hP, hm, hrl, hou, e8⟩ := I
  subst e1 e2
  have no : ¬ ((∃ s, s < 8 ∧ v1 = nI s ∧ 0 < len s) ∧ ∃ m, m < c ∧ v2 = nI (r m)) → wpY_number (fun r' v' => r' = 0 ∧ i_Rel (k + 6) (f_nodeCount, f_draftLength, f_resultLength, a_inUse, a_parentOf, a_rankOf, a_nameOf, a_valueOf, a_order, a_along, a_draftKind, a_draftValue, a_draftEnd, a_tokenKind, a_tokenValue, a_tokenEnd, a_slotLength, a_setAt, a_amount, a_reached, a_agenda, a_isTemplate, a_matchSlot, a_priorityOf, a_outSlot, a_onSlot, a_waiting, a_result) v') (f_count, f_top, f_listed, f_outputs, a_row, a_depth, a_nameOf, a_valueOf, a_moved, a_kind, a_with, a_length, a_sets, a_fresh, a_type, a_number, a_set, a_list, a_there, a_match, a_priority, a_out, a_on, a_todo, a_within, a_output) v1 v2 := by
    intro w
    unfold wpY_number
    exact wy_isExpr T Y hK (fun s m hs es hl hmc em => absurd ⟨⟨s, hs, es, hl⟩, m, hmc, em⟩ w) (fun _ => br_t rfl ⟨rfl, J⟩)
  unfold wpX_number
  refine wx_isFilled hK (fun s hs es hl => br_f (by decide) ?_) (fun w => br_t rfl (no (fun g => w g.1)))
  subst es
  refine wx_isNode T X.2.1 (fun m hmc em => br_f (by decide) ?_) (fun w => br_t rfl (no (fun ⟨_, m, a, b⟩ => w m a b)))
  subst em
  have rm := T.2.2.2.1 m hmc
  rw [re_e40]
  refine wx_prep T (by omega) X hK hs (fun A re am ag hA _ => wx_work (re_sx hK hs) T X.1 X.2.2.2.1 (Nat.le_refl _) (by omega) rm (fun am2 ag2 ham => ⟨vp_in_nI (by omega) (by omega), ?_⟩))
  rw [nI_clamp (by omega), ham]
  unfold wpY_number
  refine wy_isExpr T Y hK (fun s' m' hs' es hl' hmc' em => br_f (by decide) (wy_ask T Y hK hF hs hl hmc (fun B fr top li ty nb st la g1 g2 En => ?_))) (fun w => absurd ⟨⟨s, hs, rfl, hl⟩, m, hmc, rfl⟩ w)
  have same := (re_same (pos := 1) (last := 1) (re_sy hK hs).2.2.2.2 (re_sy hK hs).1 hA g2 (t := 40 * s) (Nat.le_refl _) (by omega) hmc).2
  refine wy_plain (p := 0) T Y En (by omega) ⟨(tn_pl_c same).symm, c, n, mm, r, d, len, T, X, Y, rfl, rfl, hdl, hK, g1, e3, e4, e5, e6, e7, hP, hm, hrl, hou, e8⟩
theorem i_vc_holds {k : Nat} {u : SX} {v : SY} (I : i_Rel k u v) (hk : k + 6 ≤ 3072) (v1 : Int32) (v2 : Int32) : wpX_holds (fun r u' => wpY_holds (fun r' v' => r' = r ∧ i_Rel (k + 6) u' v') v v1 v2) u v1 v2 := by
  obtain ⟨f_nodeCount, f_draftLength, f_resultLength, a_inUse, a_parentOf, a_rankOf, a_nameOf, a_valueOf, a_order, a_along, a_draftKind, a_draftValue, a_draftEnd, a_tokenKind, a_tokenValue, a_tokenEnd, a_slotLength, a_setAt, a_amount, a_reached, a_agenda, a_isTemplate, a_matchSlot, a_priorityOf, a_outSlot, a_onSlot, a_waiting, a_result⟩ := u
  obtain ⟨f_count, f_top, f_listed, f_outputs, a_row, a_depth, a_name, a_value, a_moved, a_kind, a_with, a_length, a_sets, a_fresh, a_type, a_number, a_set, a_list, a_there, a_match, a_priority, a_out, a_on, a_todo, a_within, a_output⟩ := v
  have J := i_up I
  obtain ⟨c, n, mm, r, d, len, T, X, Y, e1, e2, hdl, hK, hF, e3, e4, e5, e6, e7, hP, hm, hrl, hou, e8⟩ := I
  subst e1 e2
  have no : ¬ ((∃ s, s < 8 ∧ v1 = nI s ∧ 0 < len s) ∧ ∃ m, m < c ∧ v2 = nI (r m)) → wpY_holds (fun r' v' => r' = 0 ∧ i_Rel (k + 6) (f_nodeCount, f_draftLength, f_resultLength, a_inUse, a_parentOf, a_rankOf, a_nameOf, a_valueOf, a_order, a_along, a_draftKind, a_draftValue, a_draftEnd, a_tokenKind, a_tokenValue, a_tokenEnd, a_slotLength, a_setAt, a_amount, a_reached, a_agenda, a_isTemplate, a_matchSlot, a_priorityOf, a_outSlot, a_onSlot, a_waiting, a_result) v') (f_count, f_top, f_listed, f_outputs, a_row, a_depth, a_nameOf, a_valueOf, a_moved, a_kind, a_with, a_length, a_sets, a_fresh, a_type, a_number, a_set, a_list, a_there, a_match, a_priority, a_out, a_on, a_todo, a_within, a_output) v1 v2 := by
    intro w
    unfold wpY_holds
    exact wy_isExpr T Y hK (fun s m hs es hl hmc em => absurd ⟨⟨s, hs, es, hl⟩, m, hmc, em⟩ w) (fun _ => br_t rfl ⟨rfl, J⟩)
  unfold wpX_holds
  refine wx_isFilled hK (fun s hs es hl => br_f (by decide) ?_) (fun w => br_t rfl (no (fun g => w g.1)))
  subst es
  refine wx_isNode T X.2.1 (fun m hmc em => br_f (by decide) ?_) (fun w => br_t rfl (no (fun ⟨_, m, a, b⟩ => w m a b)))
  subst em
  have rm := T.2.2.2.1 m hmc
  rw [re_e40]
  refine wx_prep T (by omega) X hK hs (fun A re am ag hA _ => wx_work (re_sx hK hs) T X.1 X.2.2.2.1 (Nat.le_refl _) (by omega) rm (fun am2 ag2 ham => ?_))
  have yes : ∀ B : Int32, (B = 1 ∧ tn_tr (te_R (40 * s) (40 * s + len s) a_kind (40 * s)) (A (40 * s * 24 + r m)) (am2 (40 * s)) ∨ B = 0 ∧ ¬ tn_tr (te_R (40 * s) (40 * s + len s) a_kind (40 * s)) (A (40 * s * 24 + r m)) (am2 (40 * s))) →
      wpY_holds (fun r' v' => r' = B ∧ i_Rel (k + 6) (f_nodeCount, f_draftLength, f_resultLength, a_inUse, a_parentOf, a_rankOf, a_nameOf, a_valueOf, a_order, a_along, a_draftKind, a_draftValue, a_draftEnd, a_tokenKind, a_tokenValue, a_tokenEnd, a_slotLength, A, am2, re, ag2, a_isTemplate, a_matchSlot, a_priorityOf, a_outSlot, a_onSlot, a_waiting, a_result) v') (f_count, f_top, f_listed, f_outputs, a_row, a_depth, a_nameOf, a_valueOf, a_moved, a_kind, a_with, a_length, a_sets, a_fresh, a_type, a_number, a_set, a_list, a_there, a_match, a_priority, a_out, a_on, a_todo, a_within, a_output) (nI s) (nI (r m)) := by
    intro R hR
    unfold wpY_holds
    refine wy_isExpr T Y hK (fun s' m' hs' es hl' hmc' em => br_f (by decide) (wy_ask T Y hK hF hs hl hmc (fun B fr top li ty nb st la g1 g2 En => ?_))) (fun w => absurd ⟨⟨s, hs, rfl, hl⟩, m, hmc, rfl⟩ w)
    have same := (re_same (pos := 1) (last := 1) (re_sy hK hs).2.2.2.2 (re_sy hK hs).1 hA g2 (t := 40 * s) (Nat.le_refl _) (by omega) hmc).2
    have sm : tn_Sm (te_R (40 * s) (40 * s + len s) a_kind (40 * s)) (A (40 * s * 24 + r m)) (am2 (40 * s)) (A (40 * s * 24 + r m)) (tn_nv c r a_valueOf (te_R (40 * s) (40 * s + len s) a_kind) (te_R (40 * s) (40 * s + len s) a_tokenEnd) (te_V (40 * s) (40 * s + len s) a_with) (fun j => A (j * 24 + r m)) 1 1 (40 * s)) :=
      ⟨fun _ => rfl, fun z => by rw [ham]; unfold tn_pl; rw [if_neg z]⟩
    rw [tn_tr_c sm, tn_tr_c same] at hR
    refine wy_isTrue (p := 0) En (by omega) (fun w => ⟨rfl, ?_, c, n, mm, r, d, len, T, X, Y, rfl, rfl, hdl, hK, g1, e3, e4, e5, e6, e7, hP, hm, hrl, hou, e8⟩) (fun w => ⟨rfl, ?_, c, n, mm, r, d, len, T, X, Y, rfl, rfl, hdl, hK, g1, e3, e4, e5, e6, e7, hP, hm, hrl, hou, e8⟩)
    · rcases hR with ⟨a, b⟩ | ⟨a, b⟩
      · exact a.symm
      · exact absurd w b
    · rcases hR with ⟨a, b⟩ | ⟨a, b⟩
      · exact absurd b w
      · exact a.symm
  exact wx_isTrue (re_sx hK hs) (Nat.le_refl _) (by omega) rm (fun w => ⟨rfl, yes 1 (Or.inl ⟨rfl, w⟩)⟩) (fun w => ⟨rfl, yes 0 (Or.inr ⟨rfl, w⟩)⟩)
