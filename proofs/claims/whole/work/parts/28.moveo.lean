/-! move, owed -/
theorem i_vc_move {k : Nat} {u : SX} {v : SY} (I : i_Rel k u v) (hk : k + 6 ≤ 3072) (v1 : Int32) (v2 : Int32) (v3 : Int32) : wpX_move (fun r u' => wpY_move (fun r' v' => r' = r ∧ i_Rel (k + 6) u' v') v v1 v2 v3) u v1 v2 v3 := by
  obtain ⟨f_nodeCount, f_draftLength, f_resultLength, a_inUse, a_parentOf, a_rankOf, a_nameOf, a_valueOf, a_order, a_along, a_draftKind, a_draftValue, a_draftEnd, a_tokenKind, a_tokenValue, a_tokenEnd, a_slotLength, a_setAt, a_amount, a_reached, a_agenda, a_isTemplate, a_matchSlot, a_priorityOf, a_outSlot, a_onSlot, a_waiting, a_result⟩ := u
  obtain ⟨f_count, f_top, f_listed, f_outputs, a_row, a_depth, a_name, a_value, a_moved, a_kind, a_with, a_length, a_sets, a_fresh, a_type, a_number, a_set, a_list, a_there, a_match, a_priority, a_out, a_on, a_todo, a_within, a_output⟩ := v
  have J := i_up I
  obtain ⟨c, n, mm, r, d, len, T, X, Y, e1, e2, hdl, hK, hF, e3, e4, e5, e6, e7, hP, hm, hrl, hou, e8⟩ := I
  have X0 := X
  obtain ⟨hnc, U, P, ho, hal⟩ := X
  have c24 := T.1
  unfold wpX_move
  refine wx_isNode T U (fun a ha ea => ?_) (fun hno => br_t rfl ?_)
  rotate_left
  · unfold wpY_move
    refine wy_where T Y (fun w hw => ?_)
    rcases hw with ⟨i, hi, e, -⟩ | ⟨-, rfl⟩
    · exact absurd e (hno i hi)
    · exact br_t tz_m1lt ⟨rfl, J⟩
  subst ea
  refine br_f (by decide) (wx_isNode T U (fun p hp ep => ?_) (fun hno => br_t rfl ?_))
  rotate_left
  · unfold wpY_move
    refine wy_where1 T Y ha (br_f (nI_pos (by omega)) (wy_where T Y (fun w hw => ?_)))
    rcases hw with ⟨i, hi, e, -⟩ | ⟨-, rfl⟩
    · exact absurd e (hno i hi)
    · exact br_t tz_m1lt ⟨rfl, J⟩
  subst ep
  have ra := T.2.2.2.1 a ha
  have rp := T.2.2.2.1 p hp
  obtain ⟨e, he⟩ := td_endEx (c := c) (d := d) ha
  obtain ⟨m, rfl⟩ : ∃ m, e = a + m := ⟨e - a, by have := he.1; omega⟩
  have he1 := he.1
  have he2 := he.2.1
  have ei : (216 : Int32) + nI (r a) = nI (9 * 24 + r a) := by rw [show (216 : Int32) = nI (9 * 24) from rfl, nI_add]
  have ec : ((216 : Int32) + nI (r a)).toNatClampNeg = 9 * 24 + r a := by rw [ei]; exact nI_clamp (by omega)
  refine br_f (by decide) ⟨by rw [ei]; exact vp_in_nI (by omega) (by omega), ?_⟩
  rw [ec]
  by_cases hin : td_An d a p ∨ p = a
  · refine br_f (fun w => ?_) ?_
    · rw [mk_f (by omega), (tx_blk T hal ha p hp).mpr hin] at w
      cases w
    · unfold wpY_move
      refine wy_where1 T Y ha (br_f (nI_pos (by omega)) (wy_where1 T Y hp (br_f (nI_pos (by omega)) ?_)))
      by_cases z : p = a
      · exact br_t (by rw [z]) ⟨rfl, J⟩
      · refine br_f (fun w => z ?_) (wy_isBelow T Y ha hp (fun _ => br_f (by decide) ⟨rfl, J⟩) (fun w => ?_))
        · rw [nI_eq (by omega) (by omega)] at w
          exact (T.2.2.2.2 a p ha hp w).symm
        · rcases hin with x | x
          · exact absurd x w
          · exact absurd x z
  refine br_t ((mk_f (by omega)).mpr (tz_nb (fun w => hin ((tx_blk T hal ha p hp).mp w)))) ?_
  have hnoA : ¬ td_An d a p := fun w => hin (Or.inl w)
  have hne : p ≠ a := fun w => hin (Or.inr w)
  have a0 : 0 < a := by
    rcases Nat.eq_zero_or_pos a with z | z
    · subst z
      refine absurd ⟨by omega, fun j x y => ?_⟩ hnoA
      have := td_pos T.2.1 x (by omega)
      have := T.2.1.1
      omega
    · exact z
  obtain ⟨q, hq⟩ := td_ex T.2.1 a0 ha
  have hqa := hq.1
  have blk := fun l hl => td_AnEn he (l := l) hl
  have pnb : p < a ∨ a + m ≤ p := by
    have := blk p hp
    rcases Nat.lt_or_ge p a with z | z
    · exact Or.inl z
    · refine Or.inr ?_
      rcases Nat.lt_or_ge p (a + m) with y | y
      · exact absurd (this.mpr ⟨by omega, y⟩) hnoA
      · exact y
  obtain ⟨p', hp', esh⟩ : ∃ p', p' < c - m ∧ td_sh a m p' = p := by
    rcases pnb with z | z
    · exact ⟨p, by omega, td_sh_lo z⟩
    · exact ⟨p - m, by omega, by rw [td_sh_hi (by omega)]; omega⟩
  have T' := td_cutT T hq ha he
  obtain ⟨e', he'⟩ := td_endEx (c := c - m) (d := td_cutd a m d) hp'
  obtain ⟨ep, hep⟩ := td_endEx (c := c) (d := d) hp
  have he'2 := he'.2.1
  have hep2 := hep.2.1
  have ecr : td_cutd a m r p' = r p := by
    rcases Nat.lt_or_ge p' a with z | z
    · rw [td_sh_lo z] at esh; rw [td_cutd_lo z, esh]
    · rw [td_sh_hi z] at esh; rw [td_cutd_hi z, esh]
  have ecd : td_cutd a m d p' = d p := by
    rcases Nat.lt_or_ge p' a with z | z
    · rw [td_sh_lo z] at esh; rw [td_cutd_lo z, esh]
    · rw [td_sh_hi z] at esh; rw [td_cutd_hi z, esh]
  -- the number of other children
  have cnt : td_ct d (d p + 1) (p + 1) ep = td_ct (td_cutd a m d) (td_cutd a m d p' + 1) (p' + 1) e' + (if p = q then 1 else 0) := by
    have x1 := tc_cut T.2.1 hq ha he p'
    rw [esh] at x1
    have x2 := tc_children T.2.1 hep c (Nat.le_refl _)
    have x3 := tc_children T'.2.1 he' (c - m) (Nat.le_refl _)
    rw [show (if c ≤ ep then c else ep) = ep by split <;> omega] at x2
    rw [show (if c - m ≤ e' then c - m else e') = e' by split <;> omega] at x3
    omega
  have cb : td_ct (td_cutd a m d) (td_cutd a m d p' + 1) (p' + 1) e' ≤ 24 := by
    have := td_ct_c (d := td_cutd a m d) (D := td_cutd a m d p' + 1) (lo := p' + 1) e'
    omega
  have eqp := (P.1 q a ha hq).1
  have rq := T.2.2.2.1 q (by omega)
  have ea2 : a_parentOf (nI (r a)).toNatClampNeg = nI (r q) := by rw [nI_clamp (by omega)]; exact eqp
  have K57 : wX_move_57 (fun r_1 u' => wpY_move (fun r' v' => r' = r_1 ∧ i_Rel (k + 6) u' v') (f_count, f_top, f_listed, f_outputs, a_row, a_depth, a_name, a_value, a_moved, a_kind, a_with, a_length, a_sets, a_fresh, a_type, a_number, a_set, a_list, a_there, a_match, a_priority, a_out, a_on, a_todo, a_within, a_output) (nI (r a)) (nI (r p)) v3) (nI (r a)) (nI (r p)) v3 (nI (td_ct (td_cutd a m d) (td_cutd a m d p' + 1) (p' + 1) e')) f_nodeCount f_draftLength f_resultLength a_inUse a_parentOf a_rankOf a_nameOf a_valueOf a_order a_along a_draftKind a_draftValue a_draftEnd a_tokenKind a_tokenValue a_tokenEnd a_slotLength a_setAt a_amount a_reached a_agenda a_isTemplate a_matchSlot a_priorityOf a_outSlot a_onSlot a_waiting a_result := by
    unfold wX_move_57
    by_cases kn : v3 < 0
    · exact br_t kn (wy_move T Y ha hp hq he hnoA hne hp' esh he' (fun _ => ⟨rfl, J⟩) (fun kk _ _ _ _ e hkk => absurd (by rw [← e]; exact kn) (nI_pos hkk)) (fun kk _ _ _ _ _ e hkk => absurd (by rw [← e]; exact kn) (nI_pos hkk)))
    obtain ⟨kk, hkk, rfl⟩ := nI_of kn
    refine br_f kn ?_
    by_cases kc : kk ≤ td_ct (td_cutd a m d) (td_cutd a m d p' + 1) (p' + 1) e'
    rotate_left
    · refine br_f (nI_ge (by omega) (by omega)) (wy_move T Y ha hp hq he hnoA hne hp' esh he' (fun w => absurd w kn) (fun kk' row3 dep3 mv fr e hkk' _ h1 h2 h3 => ⟨rfl, c, n, mm, r, d, len, T, X0, ⟨by rw [show c - m + m = c by omega], fun i hi => by rw [h1 i hi]; exact Y.2.1 i hi, fun i hi => by rw [h2]; exact Y.2.2 i hi⟩, e1, e2, hdl, hK, re_F0 h3, e3, e4, e5, e6, e7, hP, hm, hrl, hou, e8⟩) (fun kk' x _ _ _ _ e hkk' hx => ?_))
      rw [nI_eq hkk hkk'] at e
      have := td_pl_up hx he'
      omega
    obtain ⟨x, hx⟩ := td_pl_ex T'.2.1 hp' he' kk kc
    have hx1 := hx.1
    have hx2 := hx.2.1
    have hd : ∀ j, j < m → d a ≤ d (a + j) ∧ (0 < j → d a < d (a + j)) := fun j hj => by
      by_cases z : j = 0
      · subst z; exact ⟨Nat.le_refl _, fun w => by omega⟩
      · have := he.2.2.1 (a + j) (by omega) (by omega); omega
    have Ins : td_Ins (c - m) x m p' (td_cutd a m d) (fun j => d (a + j) + (d p + 1) - d a) (td_insr x m (fun j => d (a + j) + (d p + 1) - d a) (td_cutd a m d)) := by
      refine ⟨by omega, hx1, hx2, hx.2.2.1, hx.2.2.2.1, ?_, fun j u v => ?_, fun i hi => td_insr_lo hi, fun j hj => td_insr_in hj, fun i u v => td_insr_hi u⟩
      · show d (a + 0) + (d p + 1) - d a = _
        rw [ecd, Nat.add_zero]; omega
      · show _ < d (a + j) + (d p + 1) - d a
        have := (hd j v).2 u
        rw [ecd]; omega
    have hB : ∀ j, j < m → r (a + j) < 24 := fun j hj => T.2.2.2.1 _ (by omega)
    have hBi : ∀ i j, i < m → j < m → r (a + i) = r (a + j) → i = j := fun i j hi hj e => by have := T.2.2.2.2 _ _ (by omega) (by omega) e; omega
    have hdis : ∀ i j, i < c - m → j < m → td_cutd a m r i ≠ r (a + j) := fun i j hi hj e => by
      rcases Nat.lt_or_ge i a with z | z
      · rw [td_cutd_lo z] at e; have := T.2.2.2.2 _ _ (by omega) (by omega) e; omega
      · rw [td_cutd_hi z] at e; have := T.2.2.2.2 _ _ (by omega) (by omega) e; omega
    have T2 : td_T (c - m + m) (td_insr x m (fun j => r (a + j)) (td_cutd a m r)) (td_insr x m (fun j => d (a + j) + (d p + 1) - d a) (td_cutd a m d)) := by
      refine td_insT T' Ins (by omega) (fun j hj => ?_) hB hBi hdis
      show d (a + (j + 1)) + (d p + 1) - d a ≤ d (a + j) + (d p + 1) - d a + 1
      have y1 := (T.2.1.2 (a + j) (by omega)).2
      have y2 := (hd j (by omega)).1
      rw [show a + (j + 1) = a + j + 1 by omega]
      omega
    have usd : ∀ i, i < c - m → a_inUse (td_cutd a m r i) ≠ 0 := fun i hi => by
      rcases Nat.lt_or_ge i a with z | z
      · rw [td_cutd_lo z]; exact tx_U_1 U (by omega) (T.2.2.2.1 _ (by omega))
      · rw [td_cutd_hi z]; exact tx_U_1 U (by omega) (T.2.2.2.1 _ (by omega))
    have cover : ∀ Q : Nat → Prop, (∃ i, i < c ∧ Q (r i)) → ∃ i, i < c - m + m ∧ Q (td_insr x m (fun j => r (a + j)) (td_cutd a m r) i) := by
      rintro Q ⟨i, hi, hQ⟩
      have cutc : ∀ i', i' < c - m → Q (td_cutd a m r i') → ∃ i, i < c - m + m ∧ Q (td_insr x m (fun j => r (a + j)) (td_cutd a m r) i) := fun i' hi' hQ' => by
        rcases Nat.lt_or_ge i' x with y | y
        · exact ⟨i', by omega, by rw [td_insr_lo y]; exact hQ'⟩
        · exact ⟨i' + m, by omega, by rw [td_insr_hi y]; exact hQ'⟩
      rcases Nat.lt_or_ge i a with z | z
      · exact cutc i (by omega) (by rw [td_cutd_lo z]; exact hQ)
      · rcases Nat.lt_or_ge i (a + m) with y | y
        · refine ⟨x + (i - a), by omega, ?_⟩
          rw [td_insr_in (by omega), show a + (i - a) = i by omega]
          exact hQ
        · exact cutc (i - m) (by omega) (by rw [td_cutd_hi (by omega), show i - m + m = i by omega]; exact hQ)
    have U2 : tx_U (c - m + m) (td_insr x m (fun j => r (a + j)) (td_cutd a m r)) a_inUse := by
      intro g hg
      rcases U g hg with ⟨w1, w2⟩ | ⟨w1, w2⟩
      · exact Or.inl ⟨w1, cover (fun y => y = g) w2⟩
      · refine Or.inr ⟨w1, td_insr_cs (x := x) (fun i hi => ?_) (fun j hj => ?_) (fun i y1 y2 => ?_)⟩
        · rw [td_insr_lo hi]
          rcases Nat.lt_or_ge i a with z | z
          · rw [td_cutd_lo z]; exact w2 i (by omega)
          · rw [td_cutd_hi z]; exact w2 _ (by omega)
        · rw [td_insr_in hj]; exact w2 _ (by omega)
        · rw [td_insr_hi y1]
          rcases Nat.lt_or_ge i a with z | z
          · rw [td_cutd_lo z]; exact w2 i (by omega)
          · rw [td_cutd_hi z]; exact w2 _ (by omega)
    have cm : f_nodeCount = nI (c - m + m) := by rw [hnc, show c - m + m = c by omega]
    subst cm
    refine br_t (nI_le kc (by omega)) (wx_detach ra (fun rk1 hD => wx_attach ra (fun pa2 rk2 hA => ?_)))
    obtain ⟨Pc, Pb⟩ := tx_det T P U hq ha he hD
    rw [← ecr] at hA
    have P2 := tx_att T' Pc (tx_PRb_sh (x := d a) (y := d p + 1) Pb (b' := fun j => d (a + j) + (d p + 1) - d a) (fun j hj => by
      show d (a + j) + (d p + 1) - d a + d a = d (a + j) + (d p + 1)
      have := (hd j hj).1
      omega)) Ins hx T2 hB hBi hdis usd hA
    refine wx_layOut T2 U2 P2 (fun od al hod hal' => wy_move T Y ha hp hq he hnoA hne hp' esh he' (fun w => absurd w kn) (fun kk' row3 dep3 mv fr e hkk' hct h1 h2 h3 => ?_) (fun kk' x' row3 dep3 mv fr e hkk' hx' h1 h2 h3 h4 => ?_))
    · rw [nI_eq hkk hkk'] at e
      omega
    · rw [nI_eq hkk hkk'] at e
      subst e
      have exx := td_pl_uq hx' hx he'
      subst exx
      refine ⟨rfl, c - m + m, n, mm, _, _, len, T2, ⟨rfl, U2, P2, hod, hal'⟩, ⟨rfl, h1, ?_⟩, e1, e2, hdl, hK, re_F0 h4, e3, e4, e5, e6, e7, hP, hm, hrl, hou, e8⟩
      refine td_insr_cs (x := x') (fun i hi => ?_) (fun j hj => ?_) (fun i y1 y2 => ?_)
      · rw [td_insr_lo hi, td_insr_lo hi, h3 _ (fun j hj w => hdis i j (by omega) hj w.symm)]
        rcases Nat.lt_or_ge i a with z | z
        · rw [td_cutd_lo z, td_cutd_lo z]; exact Y.2.2 i (by omega)
        · rw [td_cutd_hi z, td_cutd_hi z]; exact Y.2.2 _ (by omega)
      · rw [td_insr_in hj, td_insr_in hj]; exact h2 j hj
      · rw [td_insr_hi y1, td_insr_hi y1, h3 _ (fun j hj w => hdis i j y2 hj w.symm)]
        rcases Nat.lt_or_ge i a with z | z
        · rw [td_cutd_lo z, td_cutd_lo z]; exact Y.2.2 i (by omega)
        · rw [td_cutd_hi z, td_cutd_hi z]; exact Y.2.2 _ (by omega)
  refine wx_childCount T hal hp hep ⟨vp_in_nI ra (by omega), ?_⟩
  by_cases z : p = q
  · refine br_t (by rw [ea2, z]) (nm_r (e' := nI (td_ct (td_cutd a m d) (td_cutd a m d p' + 1) (p' + 1) e')) ?_ K57)
    rw [cnt, if_pos z, pk_m1]
  · refine br_f (fun w => z ?_) ?_
    · rw [ea2, nI_eq (by omega) (by omega)] at w
      exact (T.2.2.2.2 q p (by omega) hp w).symm
    · rw [cnt, if_neg z, Nat.add_zero]
      exact K57
