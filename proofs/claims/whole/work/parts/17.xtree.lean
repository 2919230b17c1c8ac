/-! walks of the component over its tree: reading -/
theorem tz_np {v : Int32} {n : Nat} (h : nI n ≤ v) (hn : n < 2 ^ 31) : ¬ v < 0 := Int32.not_lt.mpr (Int32.le_trans (nI_pos' hn) h)
theorem tz_nb {x : Bool} (h : ¬ x = true) : x = false := by cases x <;> first | rfl | exact absurd rfl h
theorem tc_step {x : Int32} {i : Nat} (hi : i < 32) : nI (tc_n (bt x) i) + ((x >>> (nI i &&& 31)) &&& 1) = nI (tc_n (bt x) (i + 1)) := by
  rw [mk_bit x i hi, tc_s]
  by_cases z : bt x i = true
  · rw [if_pos z, if_pos z, nI_1]
  · rw [if_neg z, if_neg z, Int32.add_zero, Nat.add_zero]
section
variable {f_nodeCount f_draftLength f_resultLength : Int32} {a_inUse a_parentOf a_rankOf a_nameOf a_valueOf a_order a_along a_draftKind a_draftValue a_draftEnd a_tokenKind a_tokenValue a_tokenEnd a_slotLength a_setAt a_amount a_reached a_agenda a_isTemplate a_matchSlot a_priorityOf a_outSlot a_onSlot a_waiting a_result : Nat → Int32} {c : Nat} {r d : Nat → Nat}
theorem wx_isName {post : Int32 → Prop} {v : Int32} (h1 : ∀ j, j < 6 → v = nI j → post 1) (h0 : (∀ j, j < 6 → v ≠ nI j) → post 0) : wpX_isName post (f_nodeCount, f_draftLength, f_resultLength, a_inUse, a_parentOf, a_rankOf, a_nameOf, a_valueOf, a_order, a_along, a_draftKind, a_draftValue, a_draftEnd, a_tokenKind, a_tokenValue, a_tokenEnd, a_slotLength, a_setAt, a_amount, a_reached, a_agenda, a_isTemplate, a_matchSlot, a_priorityOf, a_outSlot, a_onSlot, a_waiting, a_result) v := by
  unfold wpX_isName
  rcases pk_ix v (n := 6) (by omega) with z | z | ⟨j, hj, rfl⟩
  · exact br_t z (h0 (fun j hj e => nI_pos (n := j) (by omega) (by rw [← e]; exact z)))
  · exact br_f (tz_np z (by omega)) (br_t z (h0 (fun j hj e => nI_ge (a := j) (b := 6) hj (by omega) (by rw [← e]; exact z))))
  · exact br_f (nI_pos (by omega)) (br_f (nI_ge (a := j) (b := 6) hj (by omega)) (h1 j hj rfl))
theorem wx_isNode {post : Int32 → Prop} {v : Int32} (T : td_T c r d) (U : tx_U c r a_inUse) (h1 : ∀ i, i < c → v = nI (r i) → post 1) (h0 : (∀ i, i < c → v ≠ nI (r i)) → post 0) : wpX_isNode post (f_nodeCount, f_draftLength, f_resultLength, a_inUse, a_parentOf, a_rankOf, a_nameOf, a_valueOf, a_order, a_along, a_draftKind, a_draftValue, a_draftEnd, a_tokenKind, a_tokenValue, a_tokenEnd, a_slotLength, a_setAt, a_amount, a_reached, a_agenda, a_isTemplate, a_matchSlot, a_priorityOf, a_outSlot, a_onSlot, a_waiting, a_result) v := by
  unfold wpX_isNode
  rcases pk_ix v (n := 24) (by omega) with z | z | ⟨j, hj, rfl⟩
  · exact br_t z (h0 (fun i hi e => nI_pos (n := r i) (by have := T.2.2.2.1 i hi; omega) (by rw [← e]; exact z)))
  · exact br_f (tz_np z (by omega)) (br_t z (h0 (fun i hi e => nI_ge (a := r i) (b := 24) (T.2.2.2.1 i hi) (by omega) (by rw [← e]; exact z))))
  · refine br_f (nI_pos (by omega)) (br_f (nI_ge (a := j) (b := 24) hj (by omega)) ⟨vp_in_nI hj (by omega), ?_⟩)
    have e : (nI j).toNatClampNeg = j := nI_clamp (by omega)
    rcases U j hj with ⟨x, i, hi, ei⟩ | ⟨x, y⟩
    · exact br_f (by rw [e, x]; decide) (h1 i hi (by rw [ei]))
    · exact br_t (by rw [e, x]) (h0 (fun i hi ei => y i hi (by
        rw [nI_eq (by omega) (by have := T.2.2.2.1 i hi; omega)] at ei
        exact ei.symm)))
theorem wx_isNode1 {post : Int32 → Prop} {i : Nat} (T : td_T c r d) (U : tx_U c r a_inUse) (hi : i < c) (h1 : post 1) : wpX_isNode post (f_nodeCount, f_draftLength, f_resultLength, a_inUse, a_parentOf, a_rankOf, a_nameOf, a_valueOf, a_order, a_along, a_draftKind, a_draftValue, a_draftEnd, a_tokenKind, a_tokenValue, a_tokenEnd, a_slotLength, a_setAt, a_amount, a_reached, a_agenda, a_isTemplate, a_matchSlot, a_priorityOf, a_outSlot, a_onSlot, a_waiting, a_result) (nI (r i)) :=
  wx_isNode T U (fun _ _ _ => h1) (fun h => absurd rfl (h i hi))
theorem wx_least_l {post : Int32 → Prop} (h : ∀ res, ((∃ q, q < 24 ∧ a_inUse q = 0 ∧ (∀ p, p < q → a_inUse p ≠ 0) ∧ res = nI q) ∨ ((∀ q, q < 24 → a_inUse q ≠ 0) ∧ res = -1)) → post res) :
    ∀ k i, i + k = 24 → (∀ p, p < i → a_inUse p ≠ 0) → wX_leastFreeNode_2 post f_nodeCount f_draftLength f_resultLength a_inUse a_parentOf a_rankOf a_nameOf a_valueOf a_order a_along a_draftKind a_draftValue a_draftEnd a_tokenKind a_tokenValue a_tokenEnd a_slotLength a_setAt a_amount a_reached a_agenda a_isTemplate a_matchSlot a_priorityOf a_outSlot a_onSlot a_waiting a_result (k + 1) (nI i) := by
  intro k
  induction k with
  | zero => intro i hi hp; exact br_t (nI_le (a := 24) (b := i) (by omega) (by omega)) (h _ (Or.inr ⟨fun q hq => hp q (by omega), rfl⟩))
  | succ k ih =>
    intro i hi hp
    have e : (nI i).toNatClampNeg = i := nI_clamp (by omega)
    refine br_f (nI_ge (a := i) (b := 24) (by omega) (by omega)) ⟨vp_in_nI (by omega) (by omega), ?_⟩
    by_cases z : a_inUse i = 0
    · exact br_t (by rw [e]; exact z) (h _ (Or.inl ⟨i, by omega, z, hp, rfl⟩))
    · refine br_f (by rw [e]; exact z) (nm_r (nI_1 i) (ih (i + 1) (by omega) (fun p hq => ?_)))
      by_cases y : p = i
      · subst y; exact z
      · exact hp p (by omega)
theorem wx_least {post : Int32 → Prop} (h : ∀ res, ((∃ q, q < 24 ∧ a_inUse q = 0 ∧ (∀ p, p < q → a_inUse p ≠ 0) ∧ res = nI q) ∨ ((∀ q, q < 24 → a_inUse q ≠ 0) ∧ res = -1)) → post res) : wpX_leastFreeNode post (f_nodeCount, f_draftLength, f_resultLength, a_inUse, a_parentOf, a_rankOf, a_nameOf, a_valueOf, a_order, a_along, a_draftKind, a_draftValue, a_draftEnd, a_tokenKind, a_tokenValue, a_tokenEnd, a_slotLength, a_setAt, a_amount, a_reached, a_agenda, a_isTemplate, a_matchSlot, a_priorityOf, a_outSlot, a_onSlot, a_waiting, a_result) :=
  ⟨25, wx_least_l h 24 0 rfl (fun p hp => by omega)⟩
theorem wx_count_l {post : Int32 → Prop} {x : Int32} (h : post (nI (tc_n (bt x) 24))) : ∀ k i, i + k = 24 → wX_countOf_4 post x f_nodeCount f_draftLength f_resultLength a_inUse a_parentOf a_rankOf a_nameOf a_valueOf a_order a_along a_draftKind a_draftValue a_draftEnd a_tokenKind a_tokenValue a_tokenEnd a_slotLength a_setAt a_amount a_reached a_agenda a_isTemplate a_matchSlot a_priorityOf a_outSlot a_onSlot a_waiting a_result (k + 1) (nI (tc_n (bt x) i)) (nI i) := by
  intro k
  induction k with
  | zero =>
    intro i hi
    have e : i = 24 := by omega
    subst e
    exact br_t (nI_le (a := 24) (b := 24) (by omega) (by omega)) h
  | succ k ih =>
    intro i hi
    exact br_f (nI_ge (a := i) (b := 24) (by omega) (by omega)) (nm_r (tc_step (by omega)) (nm_r (nI_1 i) (ih (i + 1) (by omega))))
theorem wx_count {post : Int32 → Prop} {x : Int32} (h : post (nI (tc_n (bt x) 24))) : wpX_countOf post (f_nodeCount, f_draftLength, f_resultLength, a_inUse, a_parentOf, a_rankOf, a_nameOf, a_valueOf, a_order, a_along, a_draftKind, a_draftValue, a_draftEnd, a_tokenKind, a_tokenValue, a_tokenEnd, a_slotLength, a_setAt, a_amount, a_reached, a_agenda, a_isTemplate, a_matchSlot, a_priorityOf, a_outSlot, a_onSlot, a_waiting, a_result) x := ⟨25, wx_count_l h 24 0 rfl⟩
theorem wx_cor_l {post : Int32 → Prop} {x1 x2 : Int32} (h : ∀ res, tx_cs a_inUse a_parentOf a_rankOf x1 x2 res → post res) :
    ∀ k i, i + k = 24 → (∀ q, q < i → a_inUse q ≠ 0 → a_parentOf q = x1 → a_rankOf q ≠ x2) → wX_childOfRank_2 post x1 x2 f_nodeCount f_draftLength f_resultLength a_inUse a_parentOf a_rankOf a_nameOf a_valueOf a_order a_along a_draftKind a_draftValue a_draftEnd a_tokenKind a_tokenValue a_tokenEnd a_slotLength a_setAt a_amount a_reached a_agenda a_isTemplate a_matchSlot a_priorityOf a_outSlot a_onSlot a_waiting a_result (k + 1) (nI i) := by
  intro k
  induction k with
  | zero => intro i hi hq; exact br_t (nI_le (a := 24) (b := i) (by omega) (by omega)) (h _ (Or.inr ⟨fun q a => hq q (by omega), rfl⟩))
  | succ k ih =>
    intro i hi hq
    have e : (nI i).toNatClampNeg = i := nI_clamp (by omega)
    have vi : vp_in (nI i) 24 := vp_in_nI (by omega) (by omega)
    have nx : ¬ (a_inUse i ≠ 0 ∧ a_parentOf i = x1 ∧ a_rankOf i = x2) → wX_childOfRank_2 post x1 x2 f_nodeCount f_draftLength f_resultLength a_inUse a_parentOf a_rankOf a_nameOf a_valueOf a_order a_along a_draftKind a_draftValue a_draftEnd a_tokenKind a_tokenValue a_tokenEnd a_slotLength a_setAt a_amount a_reached a_agenda a_isTemplate a_matchSlot a_priorityOf a_outSlot a_onSlot a_waiting a_result (k + 1) (nI (i + 1)) := fun z => ih (i + 1) (by omega) (fun q a b c' d' => by
      by_cases y : q = i
      · subst y; exact z ⟨b, c', d'⟩
      · exact hq q (by omega) b c' d')
    refine br_f (nI_ge (a := i) (b := 24) (by omega) (by omega)) ⟨vi, ?_⟩
    by_cases z : a_inUse i = 0
    · exact br_t (by rw [e]; exact z) (nm_r (nI_1 i) (nx (fun y => y.1 z)))
    · refine br_f (by rw [e]; exact z) ⟨vi, ?_⟩
      by_cases y : a_parentOf i = x1
      · refine br_t (by rw [e]; exact y) ⟨vi, ?_⟩
        by_cases w : a_rankOf i = x2
        · exact br_t (by rw [e]; exact w) (h _ (Or.inl ⟨i, by omega, z, y, w, rfl⟩))
        · exact br_f (by rw [e]; exact w) (nm_r (nI_1 i) (nx (fun v => w v.2.2)))
      · exact br_f (by rw [e]; exact y) (nm_r (nI_1 i) (nx (fun v => y v.2.1)))
theorem wx_cor {post : Int32 → Prop} {x1 x2 : Int32} (h : ∀ res, tx_cs a_inUse a_parentOf a_rankOf x1 x2 res → post res) : wpX_childOfRank post (f_nodeCount, f_draftLength, f_resultLength, a_inUse, a_parentOf, a_rankOf, a_nameOf, a_valueOf, a_order, a_along, a_draftKind, a_draftValue, a_draftEnd, a_tokenKind, a_tokenValue, a_tokenEnd, a_slotLength, a_setAt, a_amount, a_reached, a_agenda, a_isTemplate, a_matchSlot, a_priorityOf, a_outSlot, a_onSlot, a_waiting, a_result) x1 x2 :=
  ⟨25, wx_cor_l h 24 0 rfl (fun q hq => by omega)⟩
/-! the place behind i -/
theorem wx_next_l {post : Int32 → Prop} (T : td_T c r d) (U : tx_U c r a_inUse) (P : tx_PR c r d a_parentOf a_rankOf) {e : Nat} (h1 : e < c → post (nI (r e))) (h0 : e = c → post (-1)) :
    ∀ k a s, a < c → d a ≤ k → s + k < 24 → td_En c d a e → wX_nextInOrder_12 post f_nodeCount f_draftLength f_resultLength a_inUse a_parentOf a_rankOf a_nameOf a_valueOf a_order a_along a_draftKind a_draftValue a_draftEnd a_tokenKind a_tokenValue a_tokenEnd a_slotLength a_setAt a_amount a_reached a_agenda a_isTemplate a_matchSlot a_priorityOf a_outSlot a_onSlot a_waiting a_result (k + 2) (-1) (nI (r a)) (nI s) := by
  intro k
  induction k with
  | zero =>
    intro a s ha hd hs he
    have ra := T.2.2.2.1 a ha
    have er : (nI (r a)).toNatClampNeg = r a := nI_clamp (by omega)
    have a0 : a = 0 := by
      by_cases z : a = 0
      · exact z
      · have := td_pos T.2.1 (i := a) (by omega) ha; omega
    subst a0
    exact br_f (nI_ge (a := s) (b := 24) (by omega) (by omega)) (br_t rfl ⟨vp_in_nI ra (by omega), br_t (by rw [er]; exact (P.2 (by omega)).1) (h0 (td_nx_rt T.2.1 he))⟩)
  | succ k ih =>
    intro a s ha hd hs he
    have ra := T.2.2.2.1 a ha
    have er : (nI (r a)).toNatClampNeg = r a := nI_clamp (by omega)
    have vi : vp_in (nI (r a)) 24 := vp_in_nI ra (by omega)
    refine br_f (nI_ge (a := s) (b := 24) (by omega) (by omega)) (br_t rfl ⟨vi, ?_⟩)
    by_cases z : a = 0
    · subst z
      exact br_t (by rw [er]; exact (P.2 (by omega)).1) (h0 (td_nx_rt T.2.1 he))
    · obtain ⟨q, hq⟩ := td_ex T.2.1 (i := a) (by omega) ha
      have hqa := hq.1
      have rq := T.2.2.2.1 q (by omega)
      have pe := (P.1 q a ha hq).1
      refine br_f (by rw [er, pe]; exact tx_m1' (by omega)) ⟨vi, vi, wx_cor (fun res hr => ⟨vi, nm_r (e' := nI (r q)) (by rw [er, pe]) (nm_r (nI_1 s) ?_)⟩)⟩
      rw [er] at hr
      rcases tx_climb T U P ha hq he hr with ⟨x1, x2⟩ | ⟨x1, x2⟩
      · have re := T.2.2.2.1 e x1
        subst x2
        by_cases w : 24 ≤ s + 1
        · exact br_t (nI_le (a := 24) (b := s + 1) w (by omega)) (h1 x1)
        · exact br_f (nI_ge (a := s + 1) (b := 24) (by omega) (by omega)) (br_f (tx_m1' (by omega)) (h1 x1))
      · subst x1
        exact ih q (s + 1) (by omega) (by have := td_dp T.2.1 ha hq; omega) (by omega) x2
theorem wx_next {post : Int32 → Prop} (T : td_T c r d) (U : tx_U c r a_inUse) (P : tx_PR c r d a_parentOf a_rankOf) {i : Nat} (hi : i < c) (h1 : i + 1 < c → post (nI (r (i + 1)))) (h0 : i + 1 = c → post (-1)) :
    wpX_nextInOrder post (f_nodeCount, f_draftLength, f_resultLength, a_inUse, a_parentOf, a_rankOf, a_nameOf, a_valueOf, a_order, a_along, a_draftKind, a_draftValue, a_draftEnd, a_tokenKind, a_tokenValue, a_tokenEnd, a_slotLength, a_setAt, a_amount, a_reached, a_agenda, a_isTemplate, a_matchSlot, a_priorityOf, a_outSlot, a_onSlot, a_waiting, a_result) (nI (r i)) := by
  unfold wpX_nextInOrder
  refine wx_cor (fun res hr => ?_)
  rcases tx_first T U P hi hr with ⟨x1, x2⟩ | ⟨x1, x2⟩
  · have re := T.2.2.2.1 (i + 1) x1
    subst x2
    exact ⟨1, br_f (nI_ge (a := 0) (b := 24) (by omega) (by omega)) (br_f (tx_m1' (by omega)) (h1 x1))⟩
  · subst x1
    have := td_dc T.2.1 hi
    have := T.1
    exact ⟨d i + 2, wx_next_l T U P h1 h0 (d i) i 0 hi (Nat.le_refl _) (by omega) x2⟩
end
