/-! what is owed, where the tree stays as it is -/
theorem i_up {k : Nat} {u : SX} {v : SY} (h : i_Rel k u v) : i_Rel (k + 6) u v := h
theorem i_vc0 : wpX_init (fun u => wpY_init (fun v => i_Rel 0 u v)) := by
  refine ⟨0, 0, 0, fun _ => 0, fun _ => 0, fun _ => 0, ⟨by omega, ⟨rfl, fun i hi => by omega⟩, rfl, fun i hi => by omega, fun i j hi => by omega⟩, ?_, ?_, rfl, rfl, nI_0.symm, ?_, ?_, rfl, rfl, rfl, rfl, rfl, ?_, by omega, nI_0.symm, nI_0.symm, rfl⟩
  · refine ⟨nI_0.symm, fun q hq => Or.inr ⟨rfl, fun i hi => by omega⟩, ⟨fun q i hi => by omega, fun h => by omega⟩, fun i hi => by omega, fun a ha q hq => ⟨mk_24_0, fun q' _ => ⟨fun h => ?_, fun ⟨x, y, hx, _⟩ => by omega⟩⟩⟩
    rw [b_0] at h; cases h
  · exact ⟨nI_0.symm, fun i hi => by omega, fun i hi => by omega⟩
  · exact ⟨by omega, nI_0.symm, fun i _ => ⟨rfl, rfl⟩, fun i _ => ⟨rfl, rfl⟩, fun i hi => by omega, fun s hs => ⟨nI_0.symm, nI_0.symm, Nat.zero_le _, fun i x y => absurd y (Nat.not_lt.mpr x), fun h => absurd h (Nat.not_lt_zero _)⟩⟩
  · exact fun s hs => ⟨Or.inl rfl, fun h => absurd rfl h⟩
  · exact fun t ht => ⟨Or.inl rfl, ⟨0, by omega, nI_0.symm⟩, Or.inr ⟨0, by omega, nI_0.symm⟩, Or.inr ⟨0, by omega, nI_0.symm⟩⟩
theorem re_F0 {c : Nat} {r d len : Nat → Nat} {nm val kd wt te sets fr : Nat → Int32} (h : ∀ s, s < 8 → fr s = 0) : re_F c r d len nm val kd wt te sets fr :=
  fun s hs => ⟨Or.inl (h s hs), fun z => absurd (h s hs) z⟩
theorem i_vc_change {k : Nat} {u : SX} {v : SY} (I : i_Rel k u v) (hk : k + 6 ≤ 3072) (v1 : Int32) (v2 : Int32) (v3 : Int32) : wpX_change (fun r u' => wpY_change (fun r' v' => r' = r ∧ i_Rel (k + 6) u' v') v v1 v2 v3) u v1 v2 v3 := by
  obtain ⟨f_nodeCount, f_draftLength, f_resultLength, a_inUse, a_parentOf, a_rankOf, a_nameOf, a_valueOf, a_order, a_along, a_draftKind, a_draftValue, a_draftEnd, a_tokenKind, a_tokenValue, a_tokenEnd, a_slotLength, a_setAt, a_amount, a_reached, a_agenda, a_isTemplate, a_matchSlot, a_priorityOf, a_outSlot, a_onSlot, a_waiting, a_result⟩ := u
  obtain ⟨f_count, f_top, f_listed, f_outputs, a_row, a_depth, a_name, a_value, a_moved, a_kind, a_with, a_length, a_sets, a_fresh, a_type, a_number, a_set, a_list, a_there, a_match, a_priority, a_out, a_on, a_todo, a_within, a_output⟩ := v
  have J := i_up I
  obtain ⟨c, n, m, r, d, len, T, X, Y, e1, e2, hdl, hK, hF, e3, e4, e5, e6, e7, hP, hm, hrl, hou, e8⟩ := I
  have U := X.2.1
  have c24 := T.1
  unfold wpX_change
  refine wx_isNode T U (fun i hi e => ?_) (fun hno => ?_)
  · subst e
    have ri := T.2.2.2.1 i hi
    have vi : vp_in (nI (r i)) 24 := vp_in_nI ri (by omega)
    refine br_f (by decide) (wx_isName (fun j hj ej => ?_) (fun hn => ?_))
    · refine br_f (by decide) ⟨vi, nm_e ⟨vi, nm_e ?_⟩⟩
      unfold wpY_change
      refine wy_where1 T Y hi (br_f (nI_pos (by omega)) (wy_in0 (n := 5) (by omega) (fun _ _ _ => br_f (by decide) ⟨vi, nm_e ⟨vi, nm_e (wy_changed (fun fr hf => ⟨rfl, c, n, m, r, d, len, T, X, Y, by rw [e1], by rw [e2], hdl, hK, re_F0 hf, e3, e4, e5, e6, e7, hP, hm, hrl, hou, e8⟩))⟩⟩) (fun hz => absurd ej (hz j (by omega)))))
    · refine br_t rfl ?_
      unfold wpY_change
      exact wy_where1 T Y hi (br_f (nI_pos (by omega)) (wy_in0 (n := 5) (by omega) (fun j hj ej => absurd ej (hn j (by omega))) (fun _ => br_t rfl ⟨rfl, J⟩)))
  · refine br_t rfl ?_
    unfold wpY_change
    refine wy_where T Y (fun p hp => ?_)
    rcases hp with ⟨i, hi, e, -⟩ | ⟨-, ep⟩
    · exact absurd e (hno i hi)
    · subst ep
      exact br_t tz_m1lt ⟨rfl, J⟩
theorem i_vc_child {k : Nat} {u : SX} {v : SY} (I : i_Rel k u v) (hk : k + 6 ≤ 3072) (v1 : Int32) (v2 : Int32) : wpX_child (fun r => wpY_child (fun r' => r' = r ∧ i_Rel (k + 6) u v) v v1 v2) u v1 v2 := by
  obtain ⟨f_nodeCount, f_draftLength, f_resultLength, a_inUse, a_parentOf, a_rankOf, a_nameOf, a_valueOf, a_order, a_along, a_draftKind, a_draftValue, a_draftEnd, a_tokenKind, a_tokenValue, a_tokenEnd, a_slotLength, a_setAt, a_amount, a_reached, a_agenda, a_isTemplate, a_matchSlot, a_priorityOf, a_outSlot, a_onSlot, a_waiting, a_result⟩ := u
  obtain ⟨f_count, f_top, f_listed, f_outputs, a_row, a_depth, a_name, a_value, a_moved, a_kind, a_with, a_length, a_sets, a_fresh, a_type, a_number, a_set, a_list, a_there, a_match, a_priority, a_out, a_on, a_todo, a_within, a_output⟩ := v
  have J := i_up I
  obtain ⟨c, n, m, r, d, len, T, X, Y, -⟩ := I
  obtain ⟨hnc, U, P, ho, hal⟩ := X
  have c24 := T.1
  unfold wpX_child
  refine wx_isNode T U (fun i hi e => ?_) (fun hno => ?_)
  · subst e
    obtain ⟨e, he⟩ := td_endEx (c := c) (d := d) hi
    have he2 := he.2.1
    refine br_f (by decide) (wx_cor (fun res hres => ?_))
    have hco := tx_co T U P hi hres
    have key : ∀ R : Int32, ((∃ l, l < c ∧ td_Pa d i l ∧ v2 = nI (td_ct d (d l) (i + 1) l) ∧ R = nI (r l)) ∨ ((∀ l, l < c → td_Pa d i l → v2 ≠ nI (td_ct d (d l) (i + 1) l)) ∧ R = -1)) →
        wpY_child (fun r' => r' = R ∧ i_Rel (k + 6) (f_nodeCount, f_draftLength, f_resultLength, a_inUse, a_parentOf, a_rankOf, a_nameOf, a_valueOf, a_order, a_along, a_draftKind, a_draftValue, a_draftEnd, a_tokenKind, a_tokenValue, a_tokenEnd, a_slotLength, a_setAt, a_amount, a_reached, a_agenda, a_isTemplate, a_matchSlot, a_priorityOf, a_outSlot, a_onSlot, a_waiting, a_result) (f_count, f_top, f_listed, f_outputs, a_row, a_depth, a_name, a_value, a_moved, a_kind, a_with, a_length, a_sets, a_fresh, a_type, a_number, a_set, a_list, a_there, a_match, a_priority, a_out, a_on, a_todo, a_within, a_output)) (f_count, f_top, f_listed, f_outputs, a_row, a_depth, a_name, a_value, a_moved, a_kind, a_with, a_length, a_sets, a_fresh, a_type, a_number, a_set, a_list, a_there, a_match, a_priority, a_out, a_on, a_todo, a_within, a_output) (nI (r i)) v2 := by
      intro R hR
      unfold wpY_child
      refine wy_where1 T Y hi (br_f (nI_pos (by omega)) ?_)
      by_cases z : 0 ≤ v2
      · obtain ⟨w, hw, rfl⟩ := nI_of (x := v2) (Int32.not_lt.mpr z)
        refine br_t z (wy_place T Y hi he hw (fun x hx => br_f (nI_pos (by have := hx.2.1; omega)) (wy_behind T Y hi he ?_)) (fun hx => br_t tz_m1lt ⟨?_, J⟩))
        · have xc := hx.2.1
          have xe := td_pl_le hx he
          by_cases y : x = e
          · refine br_t (by rw [y]) ⟨?_, J⟩
            rcases hR with ⟨l, hl, hPa, ew, -⟩ | ⟨-, hr⟩
            · rw [nI_eq hw (by have := tx_ctb (d := d) (D := d l) (lo := i + 1) hl T.1; omega)] at ew
              have hle := (td_pl_rk T.2.1 hx hl hPa).mpr (by omega)
              have := (td_AnEn he hl).mp (td_PA hPa)
              omega
            · exact hr.symm
          · obtain ⟨q1, q2⟩ := td_pl_ch hx he (by omega)
            have rwx : a_row (nI x).toNatClampNeg = nI (r x) := by rw [nI_clamp (by omega)]; exact Y.2.1 x (by omega)
            refine br_f (fun w' => y ((nI_eq (by omega) (by omega)).mp w')) ⟨vp_in_nI (by omega) (by omega), ?_, J⟩
            rw [rwx]
            rcases hR with ⟨l, hl, hPa, ew, hr⟩ | ⟨hno, -⟩
            · rw [nI_eq hw (by have := tx_ctb (d := d) (D := d l) (lo := i + 1) hl T.1; omega)] at ew
              rw [hr, td_rk_uq T.2.1 (by omega) hl q1 hPa (by omega)]
            · exact absurd (by rw [q2]) (hno x (by omega) q1)
        · rcases hR with ⟨l, hl, hPa, ew, -⟩ | ⟨-, hr⟩
          · rw [nI_eq hw (by have := tx_ctb (d := d) (D := d l) (lo := i + 1) hl T.1; omega)] at ew
            have hle := (td_AnEn he hl).mp (td_PA hPa)
            have := td_ct_lt (d := d) (D := d i + 1) (lo := i + 1) (i := l) (j := e) (by omega) hle.2 (td_dp T.2.1 hl hPa)
            rw [td_dp T.2.1 hl hPa] at ew
            omega
          · exact hr.symm
      · refine br_f z ⟨?_, J⟩
        rcases hR with ⟨l, hl, hPa, ew, -⟩ | ⟨-, hr⟩
        · exact absurd (by rw [ew]; exact nI_pos' (by have := tx_ctb (d := d) (D := d l) (lo := i + 1) hl T.1; omega)) z
        · exact hr.symm
    rcases hco with ⟨l, hl, hPa, ew, hr⟩ | ⟨hno, hr⟩
    · have rl := T.2.2.2.1 l hl
      subst hr
      exact br_f (tx_m1' (by omega)) (key _ (Or.inl ⟨l, hl, hPa, ew, rfl⟩))
    · subst hr
      exact br_t rfl (key _ (Or.inr ⟨hno, rfl⟩))
  · refine br_t rfl ?_
    unfold wpY_child
    refine wy_where T Y (fun p hp => ?_)
    rcases hp with ⟨i, hi, e, -⟩ | ⟨-, ep⟩
    · exact absurd e (hno i hi)
    · subst ep
      exact br_t tz_m1lt ⟨rfl, J⟩
theorem tz_pm {m j : Nat} (hm : m ≤ 100) (hj : j < 2 ^ 31) : nI m - 1 < nI j ↔ m ≤ j := by
  rcases Nat.eq_zero_or_pos m with z | z
  · subst z
    refine ⟨fun _ => Nat.zero_le _, fun _ => ?_⟩
    rw [show nI 0 - 1 = (-1 : Int32) from by decide]
    exact Int32.lt_of_lt_of_le tz_m1lt (nI_pos' hj)
  · rw [show nI m - 1 = nI (m - 1) from pk_sub (a := m) (b := 1) z, nI_ltI (by omega) hj]
    omega
theorem i_vc_output {k : Nat} {u : SX} {v : SY} (I : i_Rel k u v) (hk : k + 6 ≤ 3072) (v1 : Int32) : wpX_output (fun r => wpY_output (fun r' => r' = r ∧ i_Rel (k + 6) u v) v v1) u v1 := by
  obtain ⟨f_nodeCount, f_draftLength, f_resultLength, a_inUse, a_parentOf, a_rankOf, a_nameOf, a_valueOf, a_order, a_along, a_draftKind, a_draftValue, a_draftEnd, a_tokenKind, a_tokenValue, a_tokenEnd, a_slotLength, a_setAt, a_amount, a_reached, a_agenda, a_isTemplate, a_matchSlot, a_priorityOf, a_outSlot, a_onSlot, a_waiting, a_result⟩ := u
  obtain ⟨f_count, f_top, f_listed, f_outputs, a_row, a_depth, a_name, a_value, a_moved, a_kind, a_with, a_length, a_sets, a_fresh, a_type, a_number, a_set, a_list, a_there, a_match, a_priority, a_out, a_on, a_todo, a_within, a_output⟩ := v
  have J := i_up I
  obtain ⟨c, n, m, r, d, len, T, X, Y, e1, e2, hdl, hK, hF, e3, e4, e5, e6, e7, hP, hm, hrl, hou, e8⟩ := I
  subst e8 hrl hou
  unfold wpX_output wpY_output
  by_cases z : v1 < 0
  · exact br_t z (br_t z (br_t rfl ⟨rfl, J⟩))
  · obtain ⟨j, hj, rfl⟩ := nI_of z
    by_cases y : m ≤ j
    · exact br_f z (br_t (nI_le y hj) (br_f z (br_t ((tz_pm hm hj).mpr y) (br_t rfl ⟨rfl, J⟩))))
    · have vi : vp_in (nI j) 100 := vp_in_nI (by omega) (by omega)
      exact br_f z (br_f (nI_ge (by omega) (by omega)) ⟨vi, br_f z (br_f (fun w => y ((tz_pm hm hj).mp w)) (br_f (by decide) ⟨vi, rfl, J⟩))⟩)
theorem i_vc_drop {k : Nat} {u : SX} {v : SY} (I : i_Rel k u v) (hk : k + 6 ≤ 3072) (v1 : Int32) : wpX_drop (fun r u' => wpY_drop (fun r' v' => r' = r ∧ i_Rel (k + 6) u' v') v v1) u v1 := by
  obtain ⟨f_nodeCount, f_draftLength, f_resultLength, a_inUse, a_parentOf, a_rankOf, a_nameOf, a_valueOf, a_order, a_along, a_draftKind, a_draftValue, a_draftEnd, a_tokenKind, a_tokenValue, a_tokenEnd, a_slotLength, a_setAt, a_amount, a_reached, a_agenda, a_isTemplate, a_matchSlot, a_priorityOf, a_outSlot, a_onSlot, a_waiting, a_result⟩ := u
  obtain ⟨f_count, f_top, f_listed, f_outputs, a_row, a_depth, a_name, a_value, a_moved, a_kind, a_with, a_length, a_sets, a_fresh, a_type, a_number, a_set, a_list, a_there, a_match, a_priority, a_out, a_on, a_todo, a_within, a_output⟩ := v
  have J := i_up I
  obtain ⟨c, n, m, r, d, len, T, X, Y, e1, e2, hdl, hK, hF, e3, e4, e5, e6, e7, hP, hm, hrl, hou, e8⟩ := I
  subst e3
  unfold wpX_drop wpY_drop
  by_cases z : v1 < 0
  · exact br_t z (br_t z (br_t rfl ⟨rfl, J⟩))
  · obtain ⟨j, hj, rfl⟩ := nI_of z
    by_cases y : 6 ≤ j
    · exact br_f z (br_t (nI_le (a := 6) y hj) (br_f z (br_t (nI_lt (a := 5) (by omega) hj) (br_t rfl ⟨rfl, J⟩))))
    · have vi : vp_in (nI j) 6 := vp_in_nI (by omega) (by omega)
      have ej : (nI j).toNatClampNeg = j := nI_clamp hj
      refine br_f z (br_f (nI_ge (b := 6) (by omega) (by omega)) ⟨vi, ?_⟩)
      by_cases w : a_isTemplate (nI j).toNatClampNeg = 0
      · exact br_t w (br_f z (br_f (nI_nlt (a := 5) (b := j) (by omega) (by omega)) (br_f (by decide) ⟨vi, br_t w ⟨rfl, J⟩⟩)))
      · refine br_f w ⟨vi, nm_e (br_f z (br_f (nI_nlt (a := 5) (b := j) (by omega) (by omega)) (br_f (by decide) ⟨vi, br_f w ⟨vi, nm_e ⟨rfl, c, n, m, r, d, len, T, X, Y, e1, e2, hdl, hK, hF, rfl, e4, e5, e6, e7, ?_, hm, hrl, hou, e8⟩⟩⟩)))⟩
        intro t ht
        obtain ⟨p1, p2⟩ := hP t ht
        refine ⟨?_, p2⟩
        rw [ej, tz_b0]
        by_cases tj : t = j
        · subst tj; exact Or.inl pk_us
        · rw [pk_un tj]; exact p1
