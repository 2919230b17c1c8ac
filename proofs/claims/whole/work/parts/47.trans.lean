/-! transform, owed -/
section
variable {f_nodeCount f_draftLength f_resultLength : Int32} {a_inUse a_parentOf a_rankOf a_nameOf a_valueOf a_order a_along a_draftKind a_draftValue a_draftEnd a_tokenKind a_tokenValue a_tokenEnd a_slotLength a_setAt a_amount a_reached a_agenda a_isTemplate a_matchSlot a_priorityOf a_outSlot a_onSlot a_waiting a_result : Nat → Int32} {c n : Nat} {r d len : Nat → Nat} {kd wt lt : Nat → Int32}
theorem wx_prepAll {post : Int32 → SX → Prop} {x1 : Int32} (T : td_T c r d) (c0 : 0 < c) (X : re_XT c r d f_nodeCount a_inUse a_parentOf a_rankOf a_order a_along) (hK : re_K n len a_draftKind a_draftValue a_tokenKind a_tokenValue a_tokenEnd a_slotLength kd wt lt)
    (h : ∀ A re am ag, tm_A c r d len a_nameOf a_valueOf kd wt a_tokenEnd A 8 → wpX_handleAll (fun r_32 u => match u with | (f_nodeCount, f_draftLength, f_resultLength, a_inUse, a_parentOf, a_rankOf, a_nameOf, a_valueOf, a_order, a_along, a_draftKind, a_draftValue, a_draftEnd, a_tokenKind, a_tokenValue, a_tokenEnd, a_slotLength, a_setAt, a_amount, a_reached, a_agenda, a_isTemplate, a_matchSlot, a_priorityOf, a_outSlot, a_onSlot, a_waiting, a_result) => (((r_32 = 0 → (post (-3) (f_nodeCount, f_draftLength, 0, a_inUse, a_parentOf, a_rankOf, a_nameOf, a_valueOf, a_order, a_along, a_draftKind, a_draftValue, a_draftEnd, a_tokenKind, a_tokenValue, a_tokenEnd, a_slotLength, a_setAt, a_amount, a_reached, a_agenda, a_isTemplate, a_matchSlot, a_priorityOf, a_outSlot, a_onSlot, a_waiting, a_result))) ∧ (¬ r_32 = 0 → (post f_resultLength (f_nodeCount, f_draftLength, f_resultLength, a_inUse, a_parentOf, a_rankOf, a_nameOf, a_valueOf, a_order, a_along, a_draftKind, a_draftValue, a_draftEnd, a_tokenKind, a_tokenValue, a_tokenEnd, a_slotLength, a_setAt, a_amount, a_reached, a_agenda, a_isTemplate, a_matchSlot, a_priorityOf, a_outSlot, a_onSlot, a_waiting, a_result)))))) (f_nodeCount, f_draftLength, 0, a_inUse, a_parentOf, a_rankOf, a_nameOf, a_valueOf, a_order, a_along, a_draftKind, a_draftValue, a_draftEnd, a_tokenKind, a_tokenValue, a_tokenEnd, a_slotLength, A, am, re, ag, a_isTemplate, a_matchSlot, a_priorityOf, a_outSlot, a_onSlot, a_waiting, a_result) x1) :
    ∃ n12, wX_transform_12 post x1 n12 0 f_nodeCount f_draftLength f_resultLength a_inUse a_parentOf a_rankOf a_nameOf a_valueOf a_order a_along a_draftKind a_draftValue a_draftEnd a_tokenKind a_tokenValue a_tokenEnd a_slotLength a_setAt a_amount a_reached a_agenda a_isTemplate a_matchSlot a_priorityOf a_outSlot a_onSlot a_waiting a_result := by
  have key : ∀ k i A re am ag, i + k = 8 → tm_A c r d len a_nameOf a_valueOf kd wt a_tokenEnd A i → wX_transform_12 post x1 (k + 1) (nI i) f_nodeCount f_draftLength f_resultLength a_inUse a_parentOf a_rankOf a_nameOf a_valueOf a_order a_along a_draftKind a_draftValue a_draftEnd a_tokenKind a_tokenValue a_tokenEnd a_slotLength A am re ag a_isTemplate a_matchSlot a_priorityOf a_outSlot a_onSlot a_waiting a_result := by
    intro k
    induction k with
    | zero =>
      intro i A re am ag hi hA
      have e : i = 8 := by omega
      subst e
      exact br_t (nI_le (a := 8) (b := 8) (by omega) (by omega)) (h A re am ag hA)
    | succ k ih =>
      intro i A re am ag hi hA
      refine br_f (nI_ge (a := i) (b := 8) (by omega) (by omega)) (wx_prep T c0 X hK (by omega) (fun A2 re2 am2 ag2 g1 g2 => nm_r (nI_1 i) (ih (i + 1) A2 re2 am2 ag2 (by omega) (fun s hs => ?_))))
      by_cases z : s = i
      · subst z; exact g1
      · have l1 := (hK.2.2.2.2.2 s (by omega)).2.2.1
        have sx := re_sx hK (s := s) (by omega)
        intro t h1 h2
        refine tk_Q_c sx.2.2.2.2 (by have := sx.1; omega) h1 h2 (fun j a b _ m hm => ?_) (hA s (by omega) t h1 h2)
        have rm := T.2.2.2.1 m hm
        exact (g2 (j * 24 + r m) (Or.inl (by omega))).symm
  exact ⟨9, key 8 0 a_setAt a_reached a_amount a_agenda rfl (fun s hs => by omega)⟩
end
theorem i_vc_transform {k : Nat} {u : SX} {v : SY} (I : i_Rel k u v) (hk : k + 6 ≤ 3072) (v1 : Int32) : wpX_transform (fun r u' => wpY_transform (fun r' v' => r' = r ∧ i_Rel (k + 6) u' v') v v1) u v1 := by
  obtain ⟨f_nodeCount, f_draftLength, f_resultLength, a_inUse, a_parentOf, a_rankOf, a_nameOf, a_valueOf, a_order, a_along, a_draftKind, a_draftValue, a_draftEnd, a_tokenKind, a_tokenValue, a_tokenEnd, a_slotLength, a_setAt, a_amount, a_reached, a_agenda, a_isTemplate, a_matchSlot, a_priorityOf, a_outSlot, a_onSlot, a_waiting, a_result⟩ := u
  obtain ⟨f_count, f_top, f_listed, f_outputs, a_row, a_depth, a_name, a_value, a_moved, a_kind, a_with, a_length, a_sets, a_fresh, a_type, a_number, a_set, a_list, a_there, a_match, a_priority, a_out, a_on, a_todo, a_within, a_output⟩ := v
  have J := i_up I
  obtain ⟨c, n, mm, r, d, len, T, X, Y, e1, e2, hdl, hK, hF, e3, e4, e5, e6, e7, hP, hm, hrl, hou, e8⟩ := I
  subst e1 e2 e3 e4 e5 e6 e7 e8
  have c24 := T.1
  unfold wpX_transform
  refine wx_isNode T X.2.1 (fun m hmc em => br_f (by decide) ?_) (fun hno => br_t rfl ?_)
  rotate_left
  · unfold wpY_transform
    refine wy_where T Y (fun w hw => ?_)
    rcases hw with ⟨i, hi, e, -⟩ | ⟨-, rfl⟩
    · exact absurd e (hno i hi)
    · exact br_f tz_n0m1 ⟨rfl, J⟩
  subst em
  have rm := T.2.2.2.1 m hmc
  refine wx_prepAll T (by omega) X hK (fun A re am ag hA => ?_)
  unfold wpX_handleAll
  refine nm_e ⟨1001, ?_⟩
  have one : tt_fl c r (upd a_waiting 0 ((1 : Int32) <<< (nI (r m) &&& 31))) 1 = [(r m, 0)] := by
    have l1 : ∀ k i, i + k = c → i ≤ m → tt_l r ((1 : Int32) <<< (nI (r m) &&& 31)) k i = [r m] := by
      have l0 : ∀ k i, i + k = c → m < i → tt_l r ((1 : Int32) <<< (nI (r m) &&& 31)) k i = [] := by
        intro k
        induction k with
        | zero => intro i _ _; rfl
        | succ k ih =>
          intro i hi hmi
          rw [tt_l_s, if_neg, ih (i + 1) (by omega) (by omega)]
          rw [mk_sh _ (by omega), decide_eq_true_iff]
          intro e
          have := T.2.2.2.2 i m (by omega) hmc e
          omega
      intro k
      induction k with
      | zero => intro i hi hmi; omega
      | succ k ih =>
        intro i hi hmi
        rw [tt_l_s]
        by_cases z : i = m
        · subst z
          rw [if_pos (by rw [mk_sh _ (by omega)]; simp), l0 k (i + 1) (by omega) (by omega)]
        · rw [if_neg, ih (i + 1) (by omega) (by omega)]
          rw [mk_sh _ (by omega), decide_eq_true_iff]
          exact fun e => z (T.2.2.2.2 i m (by omega) hmc e)
    rw [tt_fl_s, pk_us, l1 c 0 (by omega) (by omega)]
    rfl
  refine wx_hand (a_moved := a_moved) (GY := fun p => wpY_transform p (f_count, f_top, f_listed, f_outputs, a_row, a_depth, a_nameOf, a_valueOf, a_moved, a_kind, a_with, a_length, a_sets, a_fresh, a_type, a_number, a_set, a_list, a_isTemplate, a_matchSlot, a_priorityOf, a_outSlot, a_onSlot, a_todo, a_within, a_result) (nI (r m))) T X Y hK hP hA (fun ol res w am2 ag2 h100 HG => ?_) (fun ol res w am2 ag2 HG => ?_) 1000 0 1 0 0 a_result (upd a_waiting 0 ((1 : Int32) <<< (nI (r m) &&& 31))) am ag (by omega) (by omega) (by omega) (by omega) (by omega) (fun p nf H => ?_)
  · exact br_f (by decide) (HG _ (fun B fr top li ty nb st la todo wi hf => ⟨rfl, c, n, ol, r, d, len, T, X, Y, rfl, rfl, hdl, hK, hf, rfl, rfl, rfl, rfl, rfl, hP, h100, rfl, rfl, rfl⟩))
  · exact br_t rfl (HG _ (fun B fr top li ty nb st la todo wi hf => ⟨rfl, c, n, 0, r, d, len, T, X, Y, rfl, rfl, hdl, hK, hf, rfl, rfl, rfl, rfl, rfl, hP, by omega, nI_0.symm, nI_0.symm, rfl⟩))
  · unfold wpY_transform
    refine wy_where1 T Y hmc (br_t (nI_pos' (by omega)) (nm_e (nm_r (e' := nI 1) rfl (nm_e ⟨nf, ?_⟩))))
    have h := H a_sets a_fresh f_top f_listed a_type a_number a_set a_list (upd a_todo 0 (nI (r m))) (upd a_within 0 0) hF (by rw [one]; exact ⟨pk_us, by rw [show ([] : List (Nat × Nat)).length = 0 from rfl, pk_us]; exact nI_0.symm, trivial⟩)
    rw [one] at h
    exact h
