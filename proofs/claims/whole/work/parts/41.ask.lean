/-! a slot of the relation, asked on both sides -/
section
variable {c n : Nat} {r d len : Nat → Nat} {nm val dk dv tk tv te sl kd wt lt A B : Nat → Int32}
theorem re_tok (hK : re_K n len dk dv tk tv te sl kd wt lt) {s i : Nat} (hs : s < 8) (h1 : 40 * s ≤ i) (h2 : i < 40 * s + len s) :
    kd i = nI (te_R (40 * s) (40 * s + len s) kd i) ∧ te_R (40 * s) (40 * s + len s) kd i < 18 ∧ (te_R (40 * s) (40 * s + len s) kd i = 2 → wt i = nI (te_R (40 * s) (40 * s + len s) wt i) ∧ te_R (40 * s) (40 * s + len s) wt i < 384 ∧ te_R (40 * s) (40 * s + len s) wt i % 16 ≤ 10) := by
  obtain ⟨k1, k2, k3, k4, k5, k6⟩ := hK
  obtain ⟨-, -, s1, s2, s3⟩ := k6 s hs
  obtain ⟨⟨kn, w1, w2, w3⟩, -⟩ := s2 i h1 h2
  have ek := te_R_n h1 h2 w2 (by omega)
  refine ⟨by rw [ek]; exact w2, by omega, fun z => ?_⟩
  obtain ⟨w, g1, g2, g3, -⟩ := w3 (by omega)
  have ew := te_R_n h1 h2 g2 (by omega)
  exact ⟨by rw [ew]; exact g2, by omega, by rw [ew]; exact g3⟩
theorem re_sx (hK : re_K n len dk dv tk tv te sl kd wt lt) {s : Nat} (hs : s < 8) : te_Sl (te_R (40 * s) (40 * s + len s) kd) (te_R (40 * s) (40 * s + len s) wt) (te_R (40 * s) (40 * s + len s) te) (te_V (40 * s) (40 * s + len s) wt) tk tv te (40 * s) (40 * s + len s) := by
  have tok := fun i => re_tok hK (s := s) (i := i) hs
  obtain ⟨k1, k2, k3, k4, k5, k6⟩ := hK
  obtain ⟨-, -, s1, s2, s3⟩ := k6 s hs
  refine ⟨by omega, by omega, fun i h1 h2 => ?_, fun i h1 h2 => ⟨(s2 i h1 h2).2, ?_⟩, fun i h1 h2 => (s3 (by omega)).1 i h1 h2⟩
  · obtain ⟨t1, t2, t3⟩ := tok i h1 h2
    obtain ⟨q1, q2⟩ := k4 i (by omega)
    rw [q1, q2]
    exact ⟨t1, t2, fun z => ⟨(t3 z).1, (t3 z).2.1⟩⟩
  · rw [(k4 i (by omega)).2, te_V_i h1 h2]
theorem re_sy (hK : re_K n len dk dv tk tv te sl kd wt lt) {s : Nat} (hs : s < 8) : te_Sy (te_R (40 * s) (40 * s + len s) kd) (te_R (40 * s) (40 * s + len s) wt) (te_R (40 * s) (40 * s + len s) te) (te_V (40 * s) (40 * s + len s) wt) kd wt (40 * s) (40 * s + len s) := by
  have tok := fun i => re_tok hK (s := s) (i := i) hs
  obtain ⟨k1, k2, k3, k4, k5, k6⟩ := hK
  obtain ⟨-, -, s1, s2, s3⟩ := k6 s hs
  refine ⟨by omega, by omega, fun i h1 h2 => ?_, fun i h1 h2 => (te_V_i h1 h2).symm, fun i h1 h2 => (s3 (by omega)).1 i h1 h2⟩
  obtain ⟨t1, t2, t3⟩ := tok i h1 h2
  exact ⟨t1, t2, fun z => ⟨(t3 z).1, (t3 z).2.1⟩⟩
theorem re_F1_s {b L : Nat} (hw : te_Ws (te_R b L kd) (te_R b L wt) (te_R b L te) b L) (hL : L ≤ 320) (h : re_F1 c r d nm val kd wt te A b L) (hr : ∀ m, m < c → r m < 24) (e : ∀ j, 24 * b ≤ j → j < 24 * L → B j = A j) : re_F1 c r d nm val kd wt te B b L := by
  intro t h1 h2
  exact tk_Q_c hw (by omega) h1 h2 (fun j a b' _ m hm => (e _ (by omega) (by have := hr m hm; omega)).symm) (h t h1 h2)
/-- the sets of both sides are the same, and so are their numbers -/
theorem re_same {b L : Nat} (hw : te_Ws (te_R b L kd) (te_R b L wt) (te_R b L te) b L) (hL : L ≤ 320) (hA : tk_Eq c r d nm val (te_R b L kd) (te_R b L wt) (te_R b L te) (te_V b L wt) b L (fun t n => A (t * 24 + n))) (hB : re_F1 c r d nm val kd wt te B b L)
    {t m : Nat} {pos last : Int32} (h1 : b ≤ t) (h2 : t < L) (hm : m < c) :
    (te_R b L kd t < 4 → A (t * 24 + r m) = B (24 * t + r m)) ∧
    tn_Sm (te_R b L kd t) (A (t * 24 + r m)) (tn_nv c r val (te_R b L kd) (te_R b L te) (te_V b L wt) (fun j => A (j * 24 + r m)) pos last t) (B (24 * t + r m)) (tn_nv c r val (te_R b L kd) (te_R b L te) (te_V b L wt) (fun j => B (24 * j + r m)) pos last t) := by
  have u := tk_uq hw (by omega) hA hB
  refine ⟨fun z => u t h2 h1 z m hm, fun z => u t h2 h1 z m hm, fun _ => ?_⟩
  exact tn_cong hw (i0 := t) (tn_nv_eq hw (by omega)) (tn_nv_eq hw (by omega)) (fun j a b' z => u j b' (by omega) z m hm) t h2 h1 (Nat.le_refl _)
end
section
variable {f_nodeCount f_draftLength f_resultLength : Int32} {a_inUse a_parentOf a_rankOf a_nameOf a_valueOf a_order a_along a_draftKind a_draftValue a_draftEnd a_tokenKind a_tokenValue a_tokenEnd a_slotLength a_setAt a_amount a_reached a_agenda a_isTemplate a_matchSlot a_priorityOf a_outSlot a_onSlot a_waiting a_result : Nat → Int32} {c n : Nat} {r d len : Nat → Nat} {kd wt lt : Nat → Int32}
theorem wx_prep {post : SX → Prop} {s : Nat} (T : td_T c r d) (c0 : 0 < c) (X : re_XT c r d f_nodeCount a_inUse a_parentOf a_rankOf a_order a_along) (hK : re_K n len a_draftKind a_draftValue a_tokenKind a_tokenValue a_tokenEnd a_slotLength kd wt lt) (hs : s < 8)
    (h : ∀ A re am ag, tk_Eq c r d a_nameOf a_valueOf (te_R (40 * s) (40 * s + len s) kd) (te_R (40 * s) (40 * s + len s) wt) (te_R (40 * s) (40 * s + len s) a_tokenEnd) (te_V (40 * s) (40 * s + len s) wt) (40 * s) (40 * s + len s) (fun t n => A (t * 24 + n)) →
      (∀ j, (j < 40 * s * 24 ∨ (40 * s + len s) * 24 ≤ j) → A j = a_setAt j) → post (f_nodeCount, f_draftLength, f_resultLength, a_inUse, a_parentOf, a_rankOf, a_nameOf, a_valueOf, a_order, a_along, a_draftKind, a_draftValue, a_draftEnd, a_tokenKind, a_tokenValue, a_tokenEnd, a_slotLength, A, am, re, ag, a_isTemplate, a_matchSlot, a_priorityOf, a_outSlot, a_onSlot, a_waiting, a_result)) : wpX_prepare post (f_nodeCount, f_draftLength, f_resultLength, a_inUse, a_parentOf, a_rankOf, a_nameOf, a_valueOf, a_order, a_along, a_draftKind, a_draftValue, a_draftEnd, a_tokenKind, a_tokenValue, a_tokenEnd, a_slotLength, a_setAt, a_amount, a_reached, a_agenda, a_isTemplate, a_matchSlot, a_priorityOf, a_outSlot, a_onSlot, a_waiting, a_result) (nI s) :=
  wx_prepare (re_sx hK hs) (hK.2.2.2.2.2 s hs).1 hs T c0 X.1 X.2.2.2.1 X.2.2.2.2 (fun i h1 h2 z => ((re_tok hK hs h1 h2).2.2 z).2.2) h
theorem wx_isFilled {post : Int32 → Prop} {v : Int32} (hK : re_K n len a_draftKind a_draftValue a_tokenKind a_tokenValue a_tokenEnd a_slotLength kd wt lt) (h1 : ∀ s, s < 8 → v = nI s → 0 < len s → post 1) (h0 : ¬ (∃ s, s < 8 ∧ v = nI s ∧ 0 < len s) → post 0) : wpX_isFilled post (f_nodeCount, f_draftLength, f_resultLength, a_inUse, a_parentOf, a_rankOf, a_nameOf, a_valueOf, a_order, a_along, a_draftKind, a_draftValue, a_draftEnd, a_tokenKind, a_tokenValue, a_tokenEnd, a_slotLength, a_setAt, a_amount, a_reached, a_agenda, a_isTemplate, a_matchSlot, a_priorityOf, a_outSlot, a_onSlot, a_waiting, a_result) v := by
  unfold wpX_isFilled
  rcases pk_ix v (n := 8) (by omega) with z | z | ⟨s, hs, rfl⟩
  · exact br_t z (h0 (fun ⟨s, hs, e, _⟩ => nI_pos (n := s) (by omega) (by rw [← e]; exact z)))
  · exact br_f (tz_np z (by omega)) (br_t z (h0 (fun ⟨s, hs, e, _⟩ => nI_ge (a := s) (b := 8) hs (by omega) (by rw [← e]; exact z))))
  · refine br_f (nI_pos (by omega)) (br_f (nI_ge (a := s) (b := 8) hs (by omega)) ⟨vp_in_nI hs (by omega), ?_⟩)
    obtain ⟨q1, q2, q3⟩ := hK.2.2.2.2.2 s hs
    have l40 := q3.1
    rw [nI_clamp (by omega), q1]
    by_cases y : len s = 0
    · refine br_t (by rw [y]; decide) (h0 (fun ⟨s', hs', e, w⟩ => ?_))
      rw [nI_eq (by omega) (by omega)] at e
      subst e
      omega
    · exact br_f (nI_nle (by omega) (by omega)) (h1 s hs rfl (by omega))
theorem wx_gives {post : Int32 → Prop} {v : Int32} (hK : re_K n len a_draftKind a_draftValue a_tokenKind a_tokenValue a_tokenEnd a_slotLength kd wt lt) (h1 : ∀ s, s < 8 → v = nI s → 0 < len s → te_R (40 * s) (40 * s + len s) kd (40 * s) < 4 → post 1)
    (h0 : ¬ (∃ s, s < 8 ∧ v = nI s ∧ 0 < len s ∧ te_R (40 * s) (40 * s + len s) kd (40 * s) < 4) → post 0) : wpX_givesSet post (f_nodeCount, f_draftLength, f_resultLength, a_inUse, a_parentOf, a_rankOf, a_nameOf, a_valueOf, a_order, a_along, a_draftKind, a_draftValue, a_draftEnd, a_tokenKind, a_tokenValue, a_tokenEnd, a_slotLength, a_setAt, a_amount, a_reached, a_agenda, a_isTemplate, a_matchSlot, a_priorityOf, a_outSlot, a_onSlot, a_waiting, a_result) v := by
  unfold wpX_givesSet
  refine wx_isFilled hK (fun s hs es hl => ?_) (fun w => br_t rfl (h0 (fun ⟨s, a, b, g, _⟩ => w ⟨s, a, b, g⟩)))
  subst es
  obtain ⟨t1, t2, -⟩ := re_tok hK hs (i := 40 * s) (Nat.le_refl _) (by omega)
  have e40 : nI s * 40 = nI (40 * s) := by rw [show (40 : Int32) = nI 40 from rfl, pk_mul, Nat.mul_comm]
  refine br_f (by decide) ⟨by rw [e40]; exact vp_in_nI (by omega) (by omega), ?_⟩
  rw [e40, nI_clamp (by omega), (hK.2.2.2.1 (40 * s) (by omega)).1, t1]
  by_cases y : te_R (40 * s) (40 * s + len s) kd (40 * s) < 4
  · exact br_f (nI_nlt (a := 3) (by omega) (by omega)) (h1 s hs rfl hl y)
  · refine br_t (nI_lt (a := 3) (by omega) (by omega)) (h0 (fun ⟨s', hs', e, _, g⟩ => y ?_))
    rw [nI_eq (by omega) (by omega)] at e
    subst e
    exact g
end
section
variable {f_count f_top f_listed f_outputs : Int32} {a_row a_depth a_name a_value a_moved a_kind a_with a_length a_sets a_fresh a_type a_number a_set a_list a_there a_match a_priority a_out a_on a_todo a_within a_output : Nat → Int32} {c n : Nat} {r d len : Nat → Nat} {dk dv tk tv te sl : Nat → Int32}
theorem wy_prep {post : SY → Prop} {s : Nat} (T : td_T c r d) (c0 : 0 < c) (Y : re_YT c r d f_count a_row a_depth) (hK : re_K n len dk dv tk tv te sl a_kind a_with a_length) (hF : re_F c r d len a_name a_value a_kind a_with te a_sets a_fresh) (hs : s < 8)
    (h : ∀ B fr top li ty nb st la, re_F c r d len a_name a_value a_kind a_with te B fr → re_F1 c r d a_name a_value a_kind a_with te B (40 * s) (40 * s + len s) →
      post (f_count, top, li, f_outputs, a_row, a_depth, a_name, a_value, a_moved, a_kind, a_with, a_length, B, fr, ty, nb, st, la, a_there, a_match, a_priority, a_out, a_on, a_todo, a_within, a_output)) : wpY_prepare post (f_count, f_top, f_listed, f_outputs, a_row, a_depth, a_name, a_value, a_moved, a_kind, a_with, a_length, a_sets, a_fresh, a_type, a_number, a_set, a_list, a_there, a_match, a_priority, a_out, a_on, a_todo, a_within, a_output) (nI s) := by
  have es : (nI s).toNatClampNeg = s := nI_clamp (by omega)
  unfold wpY_prepare
  refine ⟨vp_in_nI hs (by omega), ?_⟩
  rw [es]
  by_cases z : a_fresh s = 0
  · obtain ⟨q1, q2, q3⟩ := hK.2.2.2.2.2 s hs
    refine br_t z ⟨vp_in_nI hs (by omega), nm_r (e' := upd a_fresh s 1) (by rw [tz_b1]) ⟨vp_in_nI (by omega) (by omega), nm_r (e' := nI (len s) - 1) (by rw [q2]) (wy_prep26 (re_sy hK hs) T Y c0 (fun i h1 h2 z => ((re_tok hK hs h1 h2).2.2 z).2.2) (fun B top li ty nb st la hB hout => h B _ top li ty nb st la (fun t ht => ?_) hB))⟩⟩
    by_cases y : t = s
    · subst y
      rw [pk_us]
      exact ⟨Or.inr rfl, fun _ => hB⟩
    · rw [pk_un y]
      obtain ⟨f1, f2⟩ := hF t ht
      have l1 := q3.1
      have l2 := (hK.2.2.2.2.2 t ht).2.2.1
      refine ⟨f1, fun w => re_F1_s (re_sy hK ht).2.2.2.2 (by omega) (f2 w) T.2.2.2.1 (fun j a b => hout j (by omega))⟩
  · exact br_f z (h a_sets a_fresh f_top f_listed a_type a_number a_set a_list hF ((hF s hs).2 z))
theorem wy_ask {post : SY → Prop} {s m : Nat} (T : td_T c r d) (Y : re_YT c r d f_count a_row a_depth) (hK : re_K n len dk dv tk tv te sl a_kind a_with a_length) (hF : re_F c r d len a_name a_value a_kind a_with te a_sets a_fresh) (hs : s < 8) (hl : 0 < len s) (hm : m < c)
    (h : ∀ B fr top li ty nb st la, re_F c r d len a_name a_value a_kind a_with te B fr → re_F1 c r d a_name a_value a_kind a_with te B (40 * s) (40 * s + len s) →
      ty_En ty st nb 0 (te_R (40 * s) (40 * s + len s) a_kind (40 * s)) (B (24 * (40 * s) + r m)) (tn_nv c r a_value (te_R (40 * s) (40 * s + len s) a_kind) (te_R (40 * s) (40 * s + len s) te) (te_V (40 * s) (40 * s + len s) a_with) (fun j => B (24 * j + r m)) 1 1 (40 * s)) →
      post (f_count, top, li, f_outputs, a_row, a_depth, a_name, a_value, a_moved, a_kind, a_with, a_length, B, fr, ty, nb, st, la, a_there, a_match, a_priority, a_out, a_on, a_todo, a_within, a_output)) : wpY_ask post (f_count, f_top, f_listed, f_outputs, a_row, a_depth, a_name, a_value, a_moved, a_kind, a_with, a_length, a_sets, a_fresh, a_type, a_number, a_set, a_list, a_there, a_match, a_priority, a_out, a_on, a_todo, a_within, a_output) (nI s) (nI (r m)) := by
  unfold wpY_ask
  exact wy_prep T (by omega) Y hK hF hs (fun B fr top li ty nb st la g1 g2 => wy_work (tt := 0) (re_sy hK hs) T Y rfl (Nat.le_refl _) (by omega) (T.2.2.2.1 m hm) (fun top' ty' st' nb' En => h B fr top' li ty' nb' st' la g1 g2 En))
theorem wy_isExpr {post : Int32 → Prop} {v w : Int32} (T : td_T c r d) (Y : re_YT c r d f_count a_row a_depth) (hK : re_K n len dk dv tk tv te sl a_kind a_with a_length) (h1 : ∀ s m, s < 8 → v = nI s → 0 < len s → m < c → w = nI (r m) → post 1)
    (h0 : ¬ ((∃ s, s < 8 ∧ v = nI s ∧ 0 < len s) ∧ ∃ m, m < c ∧ w = nI (r m)) → post 0) : wpY_isExpression post (f_count, f_top, f_listed, f_outputs, a_row, a_depth, a_name, a_value, a_moved, a_kind, a_with, a_length, a_sets, a_fresh, a_type, a_number, a_set, a_list, a_there, a_match, a_priority, a_out, a_on, a_todo, a_within, a_output) v w := by
  have c24 := T.1
  unfold wpY_isExpression
  refine wy_in0 (n := 7) (by omega) (fun s hs es => br_f (by decide) ⟨by rw [es]; exact vp_in_nI (by omega) (by omega), ?_⟩) (fun hno => br_t rfl (h0 (fun ⟨⟨s, hs, e, _⟩, _⟩ => hno s (by omega) e)))
  subst es
  obtain ⟨q1, q2, q3⟩ := hK.2.2.2.2.2 s (by omega)
  have l40 := q3.1
  rw [nI_clamp (by omega), q2]
  by_cases y : len s = 0
  · refine br_t (by rw [y]; decide) (h0 (fun ⟨⟨s', hs', e, g⟩, _⟩ => ?_))
    rw [nI_eq (by omega) (by omega)] at e
    subst e
    omega
  · refine br_f (nI_nle (by omega) (by omega)) (wy_where T Y (fun p hp => ?_))
    rcases hp with ⟨m, hm, e, ep⟩ | ⟨hn, ep⟩
    · subst ep
      exact br_f (nI_pos (by omega)) (h1 s m (by omega) rfl (by omega) hm e)
    · subst ep
      exact br_t tz_m1lt (h0 (fun ⟨_, m, hm, e⟩ => hn m hm e))
theorem wy_isSet {post : Int32 → Prop} {s : Nat} (hK : re_K n len dk dv tk tv te sl a_kind a_with a_length) (hs : s < 8) (h1 : 0 < len s → te_R (40 * s) (40 * s + len s) a_kind (40 * s) < 4 → post 1)
    (h0 : ¬ (0 < len s ∧ te_R (40 * s) (40 * s + len s) a_kind (40 * s) < 4) → post 0) : wpY_isSet post (f_count, f_top, f_listed, f_outputs, a_row, a_depth, a_name, a_value, a_moved, a_kind, a_with, a_length, a_sets, a_fresh, a_type, a_number, a_set, a_list, a_there, a_match, a_priority, a_out, a_on, a_todo, a_within, a_output) (nI s) := by
  obtain ⟨q1, q2, q3⟩ := hK.2.2.2.2.2 s hs
  have l40 := q3.1
  unfold wpY_isSet
  refine ⟨vp_in_nI (by omega) (by omega), ?_⟩
  rw [nI_clamp (by omega), q2]
  by_cases y : len s = 0
  · exact br_t (by rw [y]; decide) (h0 (fun g => by omega))
  · obtain ⟨t1, t2, -⟩ := re_tok hK hs (i := 40 * s) (Nat.le_refl _) (by omega)
    have e40 : (40 : Int32) * nI s = nI (40 * s) := by rw [show (40 : Int32) = nI 40 from rfl, pk_mul]
    refine br_f (nI_nle (by omega) (by omega)) ⟨by rw [e40]; exact vp_in_nI (by omega) (by omega), ?_⟩
    rw [e40, nI_clamp (by omega), t1]
    by_cases z : te_R (40 * s) (40 * s + len s) a_kind (40 * s) < 4
    · exact br_f (nI_ge (b := 4) z (by omega)) (h1 (by omega) z)
    · exact br_t (nI_le (a := 4) (by omega) (by omega)) (h0 (fun g => z g.2))
end
