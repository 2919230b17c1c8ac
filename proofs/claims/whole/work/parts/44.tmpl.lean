/-! templates: which one, what it puts out, whom it goes on to -/
noncomputable def tm_best (M : Nat → Prop) (pr : Nat → Int32) : Nat → Int32
  | 0 => -1
  | t + 1 => @ite Int32 (M t ∧ (tm_best M pr t = -1 ∨ ¬ pr t < pr (tm_best M pr t).toNatClampNeg)) (Classical.propDecidable _) (nI t) (tm_best M pr t)
theorem tm_best_t {M : Nat → Prop} {pr : Nat → Int32} {t : Nat} (h : M t ∧ (tm_best M pr t = -1 ∨ ¬ pr t < pr (tm_best M pr t).toNatClampNeg)) : tm_best M pr (t + 1) = nI t := @if_pos _ (Classical.propDecidable _) h _ _ _
theorem tm_best_f {M : Nat → Prop} {pr : Nat → Int32} {t : Nat} (h : ¬ (M t ∧ (tm_best M pr t = -1 ∨ ¬ pr t < pr (tm_best M pr t).toNatClampNeg))) : tm_best M pr (t + 1) = tm_best M pr t := @if_neg _ (Classical.propDecidable _) h _ _ _
theorem tm_best_or (M : Nat → Prop) (pr : Nat → Int32) : ∀ t, tm_best M pr t = -1 ∨ ∃ j, j < t ∧ tm_best M pr t = nI j
  | 0 => Or.inl rfl
  | t + 1 => by
    rcases Classical.em (M t ∧ (tm_best M pr t = -1 ∨ ¬ pr t < pr (tm_best M pr t).toNatClampNeg)) with h | h
    · exact Or.inr ⟨t, by omega, tm_best_t h⟩
    · rw [tm_best_f h]
      rcases tm_best_or M pr t with w | ⟨j, a, b⟩
      · exact Or.inl w
      · exact Or.inr ⟨j, by omega, b⟩
/-- template t is there and matches the node of place m -/
def tm_Q (c : Nat) (r d len : Nat → Nat) (kd A it ms : Nat → Int32) (m t : Nat) : Prop := it t ≠ 0 ∧ tm_M c r d len kd A (ms t).toNatClampNeg m
/-- all slots are prepared in A -/
def tm_A (c : Nat) (r d len : Nat → Nat) (nm val kd wt te A : Nat → Int32) (z : Nat) : Prop := ∀ s, s < z → tk_Eq c r d nm val (te_R (40 * s) (40 * s + len s) kd) (te_R (40 * s) (40 * s + len s) wt) (te_R (40 * s) (40 * s + len s) te) (te_V (40 * s) (40 * s + len s) wt) (40 * s) (40 * s + len s) (fun t n => A (t * 24 + n))
def tm_Out (c : Nat) (r : Nat → Nat) (len : Nat → Nat) (val kd wt te A : Nat → Int32) (m : Nat) (o : Int32) (ol : Nat) (res : Nat → Int32) (ol' : Nat) (res' : Nat → Int32) : Prop :=
  (∃ s, s < 8 ∧ o = nI s ∧ 0 < len s ∧ ol' = ol + 1 ∧ res' = upd res ol (tn_pl c r val (te_R (40 * s) (40 * s + len s) kd (40 * s)) (A (40 * s * 24 + r m)) (tn_nv c r val (te_R (40 * s) (40 * s + len s) kd) (te_R (40 * s) (40 * s + len s) te) (te_V (40 * s) (40 * s + len s) wt) (fun j => A (j * 24 + r m)) 1 1 (40 * s)))) ∨
  (¬ (∃ s, s < 8 ∧ o = nI s ∧ 0 < len s) ∧ ol' = ol ∧ res' = res)
def tm_On (r len : Nat → Nat) (kd A : Nat → Int32) (m : Nat) (o : Int32) (mask : Int32) : Prop :=
  (∃ s, s < 8 ∧ o = nI s ∧ 0 < len s ∧ te_R (40 * s) (40 * s + len s) kd (40 * s) < 4 ∧ mask = A (40 * s * 24 + r m)) ∨
  (¬ (∃ s, s < 8 ∧ o = nI s ∧ 0 < len s ∧ te_R (40 * s) (40 * s + len s) kd (40 * s) < 4) ∧ mask = 0)
section
variable {f_nodeCount f_draftLength f_resultLength : Int32} {a_inUse a_parentOf a_rankOf a_nameOf a_valueOf a_order a_along a_draftKind a_draftValue a_draftEnd a_tokenKind a_tokenValue a_tokenEnd a_slotLength a_setAt a_amount a_reached a_agenda a_isTemplate a_matchSlot a_priorityOf a_outSlot a_onSlot a_waiting a_result : Nat → Int32} {c n : Nat} {r d len : Nat → Nat} {kd wt lt : Nat → Int32}
theorem wx_tfor {post : Int32 → Prop} {m : Nat} (T : td_T c r d) (X : re_XT c r d f_nodeCount a_inUse a_parentOf a_rankOf a_order a_along) (hK : re_K n len a_draftKind a_draftValue a_tokenKind a_tokenValue a_tokenEnd a_slotLength kd wt lt) (hP : re_P a_isTemplate a_matchSlot a_outSlot a_onSlot) (hm : m < c)
    (h : post (tm_best (tm_Q c r d len kd a_setAt a_isTemplate a_matchSlot m) a_priorityOf 6)) : wpX_templateFor post (f_nodeCount, f_draftLength, f_resultLength, a_inUse, a_parentOf, a_rankOf, a_nameOf, a_valueOf, a_order, a_along, a_draftKind, a_draftValue, a_draftEnd, a_tokenKind, a_tokenValue, a_tokenEnd, a_slotLength, a_setAt, a_amount, a_reached, a_agenda, a_isTemplate, a_matchSlot, a_priorityOf, a_outSlot, a_onSlot, a_waiting, a_result) (nI (r m)) := by
  have key : ∀ k i, i + k = 6 → wX_templateFor_4 post (nI (r m)) f_nodeCount f_draftLength f_resultLength a_inUse a_parentOf a_rankOf a_nameOf a_valueOf a_order a_along a_draftKind a_draftValue a_draftEnd a_tokenKind a_tokenValue a_tokenEnd a_slotLength a_setAt a_amount a_reached a_agenda a_isTemplate a_matchSlot a_priorityOf a_outSlot a_onSlot a_waiting a_result (k + 1) (tm_best (tm_Q c r d len kd a_setAt a_isTemplate a_matchSlot m) a_priorityOf i) (nI i) := by
    intro k
    induction k with
    | zero =>
      intro i hi
      have e : i = 6 := by omega
      subst e
      exact br_t (nI_le (a := 6) (b := 6) (by omega) (by omega)) h
    | succ k ih =>
      intro i hi
      obtain ⟨p1, ⟨s, hs, hms⟩, -, -⟩ := hP i (by omega)
      have ei : (nI i).toNatClampNeg = i := nI_clamp (by omega)
      have vi : vp_in (nI i) 6 := vp_in_nI (by omega) (by omega)
      have es : (a_matchSlot i).toNatClampNeg = s := by rw [hms]; exact nI_clamp (by omega)
      have nx := ih (i + 1) (by omega)
      have nof : ¬ (tm_Q c r d len kd a_setAt a_isTemplate a_matchSlot m i ∧ (tm_best (tm_Q c r d len kd a_setAt a_isTemplate a_matchSlot m) a_priorityOf i = -1 ∨ ¬ a_priorityOf i < a_priorityOf (tm_best (tm_Q c r d len kd a_setAt a_isTemplate a_matchSlot m) a_priorityOf i).toNatClampNeg)) →
          wX_templateFor_43 post (wX_templateFor_4 post (nI (r m)) f_nodeCount f_draftLength f_resultLength a_inUse a_parentOf a_rankOf a_nameOf a_valueOf a_order a_along a_draftKind a_draftValue a_draftEnd a_tokenKind a_tokenValue a_tokenEnd a_slotLength a_setAt a_amount a_reached a_agenda a_isTemplate a_matchSlot a_priorityOf a_outSlot a_onSlot a_waiting a_result (k + 1)) (nI (r m)) (tm_best (tm_Q c r d len kd a_setAt a_isTemplate a_matchSlot m) a_priorityOf i) (nI i) f_nodeCount f_draftLength f_resultLength a_inUse a_parentOf a_rankOf a_nameOf a_valueOf a_order a_along a_draftKind a_draftValue a_draftEnd a_tokenKind a_tokenValue a_tokenEnd a_slotLength a_setAt a_amount a_reached a_agenda a_isTemplate a_matchSlot a_priorityOf a_outSlot a_onSlot a_waiting a_result := fun w => by
        unfold wX_templateFor_43 wX_templateFor_44
        rw [tm_best_f w] at nx
        exact br_t rfl (nm_r (nI_1 i) nx)
      refine br_f (nI_ge (a := i) (b := 6) (by omega) (by omega)) ⟨vi, ?_⟩
      rw [ei]
      by_cases z : a_isTemplate i = 0
      · exact br_t z (nof (fun w => w.1.1 z))
      refine br_f z ?_
      have s39 : (tm_best (tm_Q c r d len kd a_setAt a_isTemplate a_matchSlot m) a_priorityOf i = -1 ∨ ¬ a_priorityOf i < a_priorityOf (tm_best (tm_Q c r d len kd a_setAt a_isTemplate a_matchSlot m) a_priorityOf i).toNatClampNeg) →
          wX_templateFor_39 post (wX_templateFor_4 post (nI (r m)) f_nodeCount f_draftLength f_resultLength a_inUse a_parentOf a_rankOf a_nameOf a_valueOf a_order a_along a_draftKind a_draftValue a_draftEnd a_tokenKind a_tokenValue a_tokenEnd a_slotLength a_setAt a_amount a_reached a_agenda a_isTemplate a_matchSlot a_priorityOf a_outSlot a_onSlot a_waiting a_result (k + 1)) (nI (r m)) (tm_best (tm_Q c r d len kd a_setAt a_isTemplate a_matchSlot m) a_priorityOf i) (nI i) f_nodeCount f_draftLength f_resultLength a_inUse a_parentOf a_rankOf a_nameOf a_valueOf a_order a_along a_draftKind a_draftValue a_draftEnd a_tokenKind a_tokenValue a_tokenEnd a_slotLength a_setAt a_amount a_reached a_agenda a_isTemplate a_matchSlot a_priorityOf a_outSlot a_onSlot a_waiting a_result := fun w => by
        unfold wX_templateFor_39 wX_templateFor_44
        refine br_f (by decide) (wx_isMatched T X hK (by omega) hs hms hm (fun g => br_f (by decide) (nm_r (nI_1 i) ?_)) (fun g => br_t rfl (nm_r (nI_1 i) ?_)))
        · rw [tm_best_t ⟨⟨z, by rw [es]; exact g⟩, w⟩] at nx
          exact nx
        · rw [tm_best_f (fun v => g (by have := v.1.2; rw [es] at this; exact this))] at nx
          exact nx
      rcases tm_best_or (tm_Q c r d len kd a_setAt a_isTemplate a_matchSlot m) a_priorityOf i with w | ⟨j, hj, w⟩
      · exact br_t w (s39 (Or.inl w))
      · refine br_f (by rw [w]; exact tx_m1' (by omega)) ⟨vi, by rw [w]; exact vp_in_nI (by omega) (by omega), ?_⟩
        by_cases y : a_priorityOf i < a_priorityOf (tm_best (tm_Q c r d len kd a_setAt a_isTemplate a_matchSlot m) a_priorityOf i).toNatClampNeg
        · exact br_t y (nof (fun v => v.2.elim (fun q => tx_m1' (n := j) (by omega) (by rw [← w]; exact q)) (fun q => q y)))
        · exact br_f y (s39 (Or.inr y))
  exact ⟨7, key 6 0 rfl⟩
theorem wx_follow {post : Int32 → SX → Prop} {j m ol : Nat} (T : td_T c r d) (X : re_XT c r d f_nodeCount a_inUse a_parentOf a_rankOf a_order a_along) (hK : re_K n len a_draftKind a_draftValue a_tokenKind a_tokenValue a_tokenEnd a_slotLength kd wt lt) (hj : j < 6) (hm : m < c) (hol : f_resultLength = nI ol) (ol100 : ol < 100)
    (h : ∀ mask ol' res' am ag, tm_Out c r len a_valueOf kd wt a_tokenEnd a_setAt m (a_outSlot j) ol a_result ol' res' → tm_On r len kd a_setAt m (a_onSlot j) mask → post mask (f_nodeCount, f_draftLength, nI ol', a_inUse, a_parentOf, a_rankOf, a_nameOf, a_valueOf, a_order, a_along, a_draftKind, a_draftValue, a_draftEnd, a_tokenKind, a_tokenValue, a_tokenEnd, a_slotLength, a_setAt, am, a_reached, ag, a_isTemplate, a_matchSlot, a_priorityOf, a_outSlot, a_onSlot, a_waiting, res')) :
    wpX_follow post (f_nodeCount, f_draftLength, f_resultLength, a_inUse, a_parentOf, a_rankOf, a_nameOf, a_valueOf, a_order, a_along, a_draftKind, a_draftValue, a_draftEnd, a_tokenKind, a_tokenValue, a_tokenEnd, a_slotLength, a_setAt, a_amount, a_reached, a_agenda, a_isTemplate, a_matchSlot, a_priorityOf, a_outSlot, a_onSlot, a_waiting, a_result) (nI j) (nI (r m)) := by
  subst hol
  have ej : (nI j).toNatClampNeg = j := nI_clamp (by omega)
  have vj : vp_in (nI j) 6 := vp_in_nI hj (by omega)
  have rm := T.2.2.2.1 m hm
  have s63 : ∀ ol' res' am ag, tm_Out c r len a_valueOf kd wt a_tokenEnd a_setAt m (a_outSlot j) ol a_result ol' res' → wX_follow_63 post (nI j) (nI (r m)) f_nodeCount f_draftLength (nI ol') a_inUse a_parentOf a_rankOf a_nameOf a_valueOf a_order a_along a_draftKind a_draftValue a_draftEnd a_tokenKind a_tokenValue a_tokenEnd a_slotLength a_setAt am a_reached ag a_isTemplate a_matchSlot a_priorityOf a_outSlot a_onSlot a_waiting res' := by
    intro ol' res' am ag ho
    unfold wX_follow_63
    refine ⟨vj, nm_r (e' := a_onSlot j) (by rw [ej]) (wx_gives hK (fun s hs es hl h4 => br_f (by decide) ?_) (fun w => br_t rfl (h 0 ol' res' am ag ho (Or.inr ⟨w, rfl⟩))))⟩
    rw [es, re_b24 hs rm, nI_clamp (by omega)]
    exact ⟨vp_in_nI (by omega) (by omega), h _ ol' res' am ag ho (Or.inl ⟨s, hs, es, hl, h4, rfl⟩)⟩
  unfold wpX_follow
  refine ⟨vj, nm_r (e' := a_outSlot j) (by rw [ej]) (wx_isFilled hK (fun s hs es hl => br_f (by decide) (br_f (nI_ge (b := 100) ol100 (by omega)) ?_)) (fun w => br_t rfl (s63 ol a_result a_amount a_agenda (Or.inr ⟨w, rfl, rfl⟩))))⟩
  rw [es, re_e40]
  refine wx_work (re_sx hK hs) T X.1 X.2.2.2.1 (Nat.le_refl _) (by omega) rm (fun am ag ham => ⟨vp_in_nI (by omega) (by omega), vp_in_nI ol100 (by omega), nm_r (e' := upd a_result ol (am (40 * s))) (by rw [nI_clamp (by omega), nI_clamp (by omega)]) (nm_r (nI_1 ol) (s63 (ol + 1) _ am ag (Or.inl ⟨s, hs, es, hl, rfl, by rw [ham]⟩)))⟩)
end
section
variable {f_count f_top f_listed f_outputs : Int32} {a_row a_depth a_name a_value a_moved a_kind a_with a_length a_sets a_fresh a_type a_number a_set a_list a_there a_match a_priority a_out a_on a_todo a_within a_output : Nat → Int32} {c n : Nat} {r d len : Nat → Nat} {dk dv tk tv te sl A : Nat → Int32}
theorem wy_best {post : Int32 → SY → Prop} {m : Nat} (T : td_T c r d) (Y : re_YT c r d f_count a_row a_depth) (hK : re_K n len dk dv tk tv te sl a_kind a_with a_length) (hF : re_F c r d len a_name a_value a_kind a_with te a_sets a_fresh) (hP : re_P a_there a_match a_out a_on) (hA : tm_A c r d len a_name a_value a_kind a_with te A 8) (hm : m < c)
    (h : ∀ B fr top li ty nb st la, re_F c r d len a_name a_value a_kind a_with te B fr → post (tm_best (tm_Q c r d len a_kind A a_there a_match m) a_priority 6) (f_count, top, li, f_outputs, a_row, a_depth, a_name, a_value, a_moved, a_kind, a_with, a_length, B, fr, ty, nb, st, la, a_there, a_match, a_priority, a_out, a_on, a_todo, a_within, a_output)) :
    wpY_best post (f_count, f_top, f_listed, f_outputs, a_row, a_depth, a_name, a_value, a_moved, a_kind, a_with, a_length, a_sets, a_fresh, a_type, a_number, a_set, a_list, a_there, a_match, a_priority, a_out, a_on, a_todo, a_within, a_output) (nI (r m)) := by
  have key : ∀ k i B fr top li ty nb st la, i + k = 6 → re_F c r d len a_name a_value a_kind a_with te B fr → wY_best_4 post (nI (r m)) (k + 1) (tm_best (tm_Q c r d len a_kind A a_there a_match m) a_priority i) (nI i) f_count top li f_outputs a_row a_depth a_name a_value a_moved a_kind a_with a_length B fr ty nb st la a_there a_match a_priority a_out a_on a_todo a_within a_output := by
    intro k
    induction k with
    | zero =>
      intro i B fr top li ty nb st la hi hf
      have e : i = 6 := by omega
      subst e
      exact br_t (nI_le (a := 6) (b := 6) (by omega) (by omega)) (h B fr top li ty nb st la hf)
    | succ k ih =>
      intro i B fr top li ty nb st la hi hf
      obtain ⟨p1, ⟨s, hs, hms⟩, -, -⟩ := hP i (by omega)
      have es : (a_match i).toNatClampNeg = s := by rw [hms]; exact nI_clamp (by omega)
      have ei : (nI i).toNatClampNeg = i := nI_clamp (by omega)
      have vi : vp_in (nI i) 6 := vp_in_nI (by omega) (by omega)
      refine br_f (nI_ge (a := i) (b := 6) (by omega) (by omega)) (wy_match T Y hK hf (by omega) hs hms hm (hA s hs) (fun g0 g B2 fr2 top2 li2 ty2 nb2 st2 la2 hf2 => br_f (by decide) ?_) (fun g B2 fr2 top2 li2 ty2 nb2 st2 la2 hf2 => br_t rfl (nm_r (nI_1 i) ?_)))
      · have nx := ih (i + 1) B2 fr2 top2 li2 ty2 nb2 st2 la2 (by omega) hf2
        have q : tm_Q c r d len a_kind A a_there a_match m i := ⟨g0, by rw [es]; exact g⟩
        rcases tm_best_or (tm_Q c r d len a_kind A a_there a_match m) a_priority i with w | ⟨j, hj, w⟩
        · rw [tm_best_t ⟨q, Or.inl w⟩] at nx
          exact br_t (by rw [w]; decide) (nm_r (nI_1 i) nx)
        · refine br_f (by rw [w]; exact nI_pos (by omega)) ⟨vi, by rw [w]; exact vp_in_nI (by omega) (by omega), ?_⟩
          rw [ei]
          by_cases y : a_priority i < a_priority (tm_best (tm_Q c r d len a_kind A a_there a_match m) a_priority i).toNatClampNeg
          · rw [tm_best_f (fun v => v.2.elim (fun u => tx_m1' (n := j) (by omega) (by rw [← w]; exact u)) (fun u => u y))] at nx
            exact br_t y (nm_r (nI_1 i) nx)
          · rw [tm_best_t ⟨q, Or.inr y⟩] at nx
            exact br_f y (nm_r (nI_1 i) nx)
      · have nx := ih (i + 1) B2 fr2 top2 li2 ty2 nb2 st2 la2 (by omega) hf2
        rw [tm_best_f (fun v => g ⟨v.1.1, by have := v.1.2; rw [es] at this; exact this⟩)] at nx
        exact nx
  exact ⟨7, key 6 0 a_sets a_fresh f_top f_listed a_type a_number a_set a_list rfl hF⟩
theorem wy_children {post : Int32 → Prop} {m : Nat} (T : td_T c r d) (Y : re_YT c r d f_count a_row a_depth) (hm : m < c) (h : ∀ x, tk_Mi r (fun i => tk_d (td_Pa d m i)) c x → post x) : wpY_childrenOf post (f_count, f_top, f_listed, f_outputs, a_row, a_depth, a_name, a_value, a_moved, a_kind, a_with, a_length, a_sets, a_fresh, a_type, a_number, a_set, a_list, a_there, a_match, a_priority, a_out, a_on, a_todo, a_within, a_output) (nI (r m)) := by
  have c24 := T.1
  have rm := T.2.2.2.1 m hm
  have key : ∀ k i x, i + k = c → tk_Mi r (fun i => tk_d (td_Pa d m i)) i x → wY_childrenOf_4 post (nI (r m)) f_count f_top f_listed f_outputs a_row a_depth a_name a_value a_moved a_kind a_with a_length a_sets a_fresh a_type a_number a_set a_list a_there a_match a_priority a_out a_on a_todo a_within a_output (k + 1) x (nI i) := by
    intro k
    induction k with
    | zero =>
      intro i x hi hx
      have e : i = c := by omega
      subst e
      exact br_t (by rw [Y.1]; exact nI_le (Nat.le_refl _) (by omega)) (h x hx)
    | succ k ih =>
      intro i x hi hx
      have ri := T.2.2.2.1 i (by omega)
      have ei : a_row (nI i).toNatClampNeg = nI (r i) := by rw [nI_clamp (by omega)]; exact Y.2.1 i (by omega)
      refine br_f (by rw [Y.1]; exact nI_ge (by omega) (by omega)) ⟨vp_in_nI (by omega) (by omega), ?_⟩
      rw [ei]
      refine wy_parentOf T Y (by omega) (fun p hp => ?_) (fun i0 => ?_)
      · have hpi := hp.1
        have rp := T.2.2.2.1 p (by omega)
        by_cases y : p = m
        · subst y
          exact br_t rfl ⟨vp_in_nI (by omega) (by omega), nm_e (nm_r (nI_1 i) (ih (i + 1) _ (by omega) (tk_Mi_t hx ri (tk_d_t.mpr hp))))⟩
        · refine br_f (fun w => y ?_) (nm_r (nI_1 i) (ih (i + 1) _ (by omega) (tk_Mi_f hx (tk_d_f.mpr (fun w => y (td_uq hp w))))))
          rw [nI_eq (by omega) (by omega)] at w
          exact T.2.2.2.2 p m (by omega) hm w
      · refine br_f (tx_m1 (by omega)) (nm_r (nI_1 i) (ih (i + 1) _ (by omega) (tk_Mi_f hx (tk_d_f.mpr (fun w => ?_)))))
        rw [i0] at w
        exact td_p0 w
  exact ⟨c + 1, key c 0 0 (by omega) tk_Mi_0⟩
end
