/-! sifting a list, by the component -/
theorem tk_pi_inj {c ax i j : Nat} (hi : i < c) (hj : j < c) (e : tk_pi c ax i = tk_pi c ax j) : i = j := by
  have a := tk_pi_pi (ax := ax) hi
  have b := tk_pi_pi (ax := ax) hj
  rw [e] at a
  omega
theorem tk_o_lt {c ax : Nat} {r d : Nat → Nat} (T : td_T c r d) : ∀ j, j < c → r (tk_pi c ax j) < 24 := fun j hj => T.2.2.2.1 _ (tk_pi_lt hj)
theorem tk_o_inj {c ax : Nat} {r d : Nat → Nat} (T : td_T c r d) : ∀ i j, i < c → j < c → r (tk_pi c ax i) = r (tk_pi c ax j) → i = j := fun i j hi hj e => tk_pi_inj hi hj (T.2.2.2.2 _ _ (tk_pi_lt hi) (tk_pi_lt hj) e)
section
variable {f_nodeCount f_draftLength f_resultLength : Int32} {a_inUse a_parentOf a_rankOf a_nameOf a_valueOf a_order a_along a_draftKind a_draftValue a_draftEnd a_tokenKind a_tokenValue a_tokenEnd a_slotLength a_setAt a_amount a_reached a_agenda a_isTemplate a_matchSlot a_priorityOf a_outSlot a_onSlot a_waiting a_result : Nat → Int32} {c : Nat} {r d : Nat → Nat} {K W E : Nat → Nat} {V : Nat → Int32} {b L : Nat}
theorem wx_named {post : Int32 → Prop} {nm : Nat} (T : td_T c r d) (hnc : f_nodeCount = nI c) (ho : ∀ i, i < c → a_order i = nI (r i)) (hnm : nm < 8)
    (h : ∀ x, tk_Mi r (fun i => tk_d (nm = 6 ∨ a_nameOf (r i) = nI nm)) c x → post x) : wpX_nodesNamed post (f_nodeCount, f_draftLength, f_resultLength, a_inUse, a_parentOf, a_rankOf, a_nameOf, a_valueOf, a_order, a_along, a_draftKind, a_draftValue, a_draftEnd, a_tokenKind, a_tokenValue, a_tokenEnd, a_slotLength, a_setAt, a_amount, a_reached, a_agenda, a_isTemplate, a_matchSlot, a_priorityOf, a_outSlot, a_onSlot, a_waiting, a_result) (nI nm) := by
  have c24 := T.1
  subst hnc
  have key : ∀ k i x, i + k = c → tk_Mi r (fun i => tk_d (nm = 6 ∨ a_nameOf (r i) = nI nm)) i x → wX_nodesNamed_4 post (nI nm) (nI c) f_draftLength f_resultLength a_inUse a_parentOf a_rankOf a_nameOf a_valueOf a_order a_along a_draftKind a_draftValue a_draftEnd a_tokenKind a_tokenValue a_tokenEnd a_slotLength a_setAt a_amount a_reached a_agenda a_isTemplate a_matchSlot a_priorityOf a_outSlot a_onSlot a_waiting a_result (k + 1) x (nI i) := by
    intro k
    induction k with
    | zero =>
      intro i x hi hx
      have e : i = c := by omega
      subst e
      exact br_t (nI_le (Nat.le_refl _) (by omega)) (h x hx)
    | succ k ih =>
      intro i x hi hx
      have ri := T.2.2.2.1 i (by omega)
      have ei : a_order (nI i).toNatClampNeg = nI (r i) := by rw [nI_clamp (by omega)]; exact ho i (by omega)
      have yes : (nm = 6 ∨ a_nameOf (r i) = nI nm) → wX_nodesNamed_37 post (wX_nodesNamed_4 post (nI nm) (nI c) f_draftLength f_resultLength a_inUse a_parentOf a_rankOf a_nameOf a_valueOf a_order a_along a_draftKind a_draftValue a_draftEnd a_tokenKind a_tokenValue a_tokenEnd a_slotLength a_setAt a_amount a_reached a_agenda a_isTemplate a_matchSlot a_priorityOf a_outSlot a_onSlot a_waiting a_result (k + 1)) (nI nm) x (nI i) (nI (r i)) (nI c) f_draftLength f_resultLength a_inUse a_parentOf a_rankOf a_nameOf a_valueOf a_order a_along a_draftKind a_draftValue a_draftEnd a_tokenKind a_tokenValue a_tokenEnd a_slotLength a_setAt a_amount a_reached a_agenda a_isTemplate a_matchSlot a_priorityOf a_outSlot a_onSlot a_waiting a_result := fun w =>
        nm_e (nm_r (nI_1 i) (ih (i + 1) _ (by omega) (tk_Mi_t hx ri (tk_d_t.mpr w))))
      refine br_f (nI_ge (by omega) (by omega)) ⟨vp_in_nI (by omega) (by omega), nm_r (e' := nI (r i)) ei ?_⟩
      by_cases z : nm = 6
      · exact br_t (by rw [z]; rfl) (yes (Or.inl z))
      · refine br_f (fun w => z ((nI_eq (b := 6) (by omega) (by omega)).mp w)) ⟨vp_in_nI ri (by omega), ?_⟩
        rw [nI_clamp (n := r i) (by omega)]
        by_cases y : a_nameOf (r i) = nI nm
        · exact br_t y (yes (Or.inr y))
        · exact br_f y (nm_r (nI_1 i) (ih (i + 1) _ (by omega) (tk_Mi_f hx (tk_d_f.mpr (fun w => w.elim z y)))))
  exact ⟨c + 1, key c 0 0 (by omega) tk_Mi_0⟩
theorem wx_sift {post : Int32 → SX → Prop} {x : Int32} {S0 : Nat → Bool} {ax y : Nat} (S : te_Sl K W E V a_tokenKind a_tokenValue a_tokenEnd b L) (T : td_T c r d) (hnc : f_nodeCount = nI c) (ho : ∀ i, i < c → a_order i = nI (r i)) (hb : b ≤ y) (hy : y < L) (hax : ax < 11)
    (hx : tk_Mi (fun i => r (tk_pi c ax i)) S0 c x)
    (h : ∀ res am ag, tk_Mi (fun i => r (tk_pi c ax i)) (fun i => S0 i && tk_H c r a_valueOf K E V (fun t n => a_setAt (t * 24 + n)) y (tk_pi c ax i) (tc_n S0 i + 1) (tc_n S0 c)) c res → post res (f_nodeCount, f_draftLength, f_resultLength, a_inUse, a_parentOf, a_rankOf, a_nameOf, a_valueOf, a_order, a_along, a_draftKind, a_draftValue, a_draftEnd, a_tokenKind, a_tokenValue, a_tokenEnd, a_slotLength, a_setAt, am, a_reached, ag, a_isTemplate, a_matchSlot, a_priorityOf, a_outSlot, a_onSlot, a_waiting, a_result)) :
    wpX_sift post (f_nodeCount, f_draftLength, f_resultLength, a_inUse, a_parentOf, a_rankOf, a_nameOf, a_valueOf, a_order, a_along, a_draftKind, a_draftValue, a_draftEnd, a_tokenKind, a_tokenValue, a_tokenEnd, a_slotLength, a_setAt, a_amount, a_reached, a_agenda, a_isTemplate, a_matchSlot, a_priorityOf, a_outSlot, a_onSlot, a_waiting, a_result) x (nI ax) (nI y) := by
  have c24 := T.1
  subst hnc
  have S' := S
  obtain ⟨l1, l2, D, hE, hw⟩ := S
  obtain ⟨d1, d2, -⟩ := D y hb hy
  have ey : (nI y).toNatClampNeg = y := nI_clamp (by omega)
  have vy : vp_in (nI y) 320 := vp_in_nI (by omega) (by omega)
  have cnt := tk_Mi_cnt hx (tk_o_lt T) (tk_o_inj T)
  have cb : tc_n S0 c ≤ c := tc_le _ _
  have key : ∀ z0 : Int32, (z0 = 0 ∧ ¬ (0 < ax ∧ ax % 2 = 0) ∨ z0 = 1 ∧ (0 < ax ∧ ax % 2 = 0)) → ∀ k i st am ag, i + k = c → tk_Mi (fun i => r (tk_pi c ax i)) (fun i => S0 i && tk_H c r a_valueOf K E V (fun t n => a_setAt (t * 24 + n)) y (tk_pi c ax i) (tc_n S0 i + 1) (tc_n S0 c)) i st →
      wX_sift_33 post x (nI y) z0 (nI (tc_n S0 c)) (k + 1) (nI (tc_n S0 i)) st (nI i) (nI c) f_draftLength f_resultLength a_inUse a_parentOf a_rankOf a_nameOf a_valueOf a_order a_along a_draftKind a_draftValue a_draftEnd a_tokenKind a_tokenValue a_tokenEnd a_slotLength a_setAt am a_reached ag a_isTemplate a_matchSlot a_priorityOf a_outSlot a_onSlot a_waiting a_result := by
    intro z0 hz k
    induction k with
    | zero =>
      intro i st am ag hi hst
      have e : i = c := by omega
      subst e
      exact br_t (nI_le (Nat.le_refl _) (by omega)) (h st am ag hst)
    | succ k ih =>
      intro i st am ag hi hst
      have ri := tk_o_lt (ax := ax) T i (by omega)
      have pl := tk_pi_lt (ax := ax) (show i < c by omega)
      have ib : tc_n S0 i ≤ i := tc_le _ _
      have bit := tk_Mi_bt hx (tk_o_lt T) (tk_o_inj T) (show i < c by omega)
      have s65 : ∀ ix : Int32, ix = nI (tk_pi c ax i) → wX_sift_65 post (wX_sift_33 post x (nI y) z0 (nI (tc_n S0 c)) (k + 1)) x (nI y) z0 (nI (tc_n S0 c)) (nI (tc_n S0 i)) st (nI i) ix (nI c) f_draftLength f_resultLength a_inUse a_parentOf a_rankOf a_nameOf a_valueOf a_order a_along a_draftKind a_draftValue a_draftEnd a_tokenKind a_tokenValue a_tokenEnd a_slotLength a_setAt am a_reached ag a_isTemplate a_matchSlot a_priorityOf a_outSlot a_onSlot a_waiting a_result := by
        intro ix eix
        subst eix
        unfold wX_sift_65
        refine ⟨vp_in_nI (by omega) (by omega), nm_r (e' := nI (r (tk_pi c ax i))) (by rw [nI_clamp (by omega)]; exact ho _ pl) ?_⟩
        cases s0 : S0 i with
        | false =>
          refine br_t ((mk_f (by omega)).mpr (bit.trans s0)) (nm_r (nI_1 i) ?_)
          have nx := ih (i + 1) st am ag (by omega) (tk_Mi_f hst (by rw [s0]; rfl))
          rw [tc_ff s0] at nx
          exact nx
        | true =>
          have nxt : ∀ am ag, tk_H c r a_valueOf K E V (fun t n => a_setAt (t * 24 + n)) y (tk_pi c ax i) (tc_n S0 i + 1) (tc_n S0 c) = true → wX_sift_33 post x (nI y) z0 (nI (tc_n S0 c)) (k + 1) (nI (tc_n S0 i + 1)) (st ||| ((1 : Int32) <<< (nI (r (tk_pi c ax i)) &&& 31))) (nI (i + 1)) (nI c) f_draftLength f_resultLength a_inUse a_parentOf a_rankOf a_nameOf a_valueOf a_order a_along a_draftKind a_draftValue a_draftEnd a_tokenKind a_tokenValue a_tokenEnd a_slotLength a_setAt am a_reached ag a_isTemplate a_matchSlot a_priorityOf a_outSlot a_onSlot a_waiting a_result := fun am ag w => by
            have nx := ih (i + 1) _ am ag (by omega) (tk_Mi_t hst ri (by rw [s0, w]; rfl))
            rw [tc_t s0] at nx
            exact nx
          have nxf : ∀ am ag, ¬ tk_H c r a_valueOf K E V (fun t n => a_setAt (t * 24 + n)) y (tk_pi c ax i) (tc_n S0 i + 1) (tc_n S0 c) = true → wX_sift_33 post x (nI y) z0 (nI (tc_n S0 c)) (k + 1) (nI (tc_n S0 i + 1)) st (nI (i + 1)) (nI c) f_draftLength f_resultLength a_inUse a_parentOf a_rankOf a_nameOf a_valueOf a_order a_along a_draftKind a_draftValue a_draftEnd a_tokenKind a_tokenValue a_tokenEnd a_slotLength a_setAt am a_reached ag a_isTemplate a_matchSlot a_priorityOf a_outSlot a_onSlot a_waiting a_result := fun am ag w => by
            have nx := ih (i + 1) st am ag (by omega) (tk_Mi_f hst (by rw [s0, tz_nb w]; rfl))
            rw [tc_t s0] at nx
            exact nx
          refine br_f (fun w => by rw [mk_f (by omega)] at w; rw [bit, s0] at w; cases w) (nm_r (nI_1 _) (wx_work S' T rfl ho hb hy ri (fun am' ag' ham => ⟨vy, ?_⟩)))
          have iff : tk_H c r a_valueOf K E V (fun t n => a_setAt (t * 24 + n)) y (tk_pi c ax i) (tc_n S0 i + 1) (tc_n S0 c) = true ↔ tn_hold (K y) (a_setAt (y * 24 + r (tk_pi c ax i))) (tn_nv c r a_valueOf K E V (fun j => a_setAt (j * 24 + r (tk_pi c ax i))) (nI (tc_n S0 i + 1)) (nI (tc_n S0 c)) y) (nI (tc_n S0 i + 1)) := by
            unfold tk_H
            rw [tk_d_t]
          rw [ey, d1]
          refine wx_typeOf d2 ?_
          have s131 : ∀ g : Int32, (g = 1 ∧ tk_H c r a_valueOf K E V (fun t n => a_setAt (t * 24 + n)) y (tk_pi c ax i) (tc_n S0 i + 1) (tc_n S0 c) = true ∨ g = 0 ∧ ¬ tk_H c r a_valueOf K E V (fun t n => a_setAt (t * 24 + n)) y (tk_pi c ax i) (tc_n S0 i + 1) (tc_n S0 c) = true) →
              wX_sift_131 post (wX_sift_33 post x (nI y) z0 (nI (tc_n S0 c)) (k + 1)) x (nI y) z0 (nI (tc_n S0 c)) (nI (tc_n S0 i + 1)) st (nI i) (nI (r (tk_pi c ax i))) g (nI c) f_draftLength f_resultLength a_inUse a_parentOf a_rankOf a_nameOf a_valueOf a_order a_along a_draftKind a_draftValue a_draftEnd a_tokenKind a_tokenValue a_tokenEnd a_slotLength a_setAt am' a_reached ag' a_isTemplate a_matchSlot a_priorityOf a_outSlot a_onSlot a_waiting a_result := by
            intro g hg
            unfold wX_sift_131
            rcases hg with ⟨rfl, w⟩ | ⟨rfl, w⟩
            · exact br_f (by decide) (nm_e (nm_r (nI_1 i) (nxt am' ag' w)))
            · exact br_t rfl (nm_r (nI_1 i) (nxf am' ag' w))
          unfold tn_hold at iff
          by_cases k4 : K y < 4
          · rw [if_pos k4] at iff
            refine br_f (by rw [show te_ty (K y) = 0 by unfold te_ty; rw [if_pos k4]]; decide) (wx_isTrue S' hb hy ri (fun w => s131 1 (Or.inl ⟨rfl, iff.mpr ?_⟩)) (fun w => s131 0 (Or.inr ⟨rfl, fun v => w ?_⟩)))
            · unfold tn_tr at w; rw [if_pos k4] at w; exact w
            · unfold tn_tr; rw [if_pos k4]; exact iff.mp v
          · rw [if_neg k4] at iff
            unfold tn_pl at ham
            rw [if_neg k4] at ham
            by_cases k13 : K y < 13
            · rw [if_pos k13, ← ham] at iff
              refine br_t (by rw [show te_ty (K y) = 1 by unfold te_ty; rw [if_neg k4, if_pos k13]]; rfl) ⟨vy, ?_⟩
              by_cases w : am' y = nI (tc_n S0 i + 1)
              · exact br_t w (s131 1 (Or.inl ⟨rfl, iff.mpr w⟩))
              · exact br_f w (s131 0 (Or.inr ⟨rfl, fun v => w (iff.mp v)⟩))
            · rw [if_neg k13, ← ham] at iff
              refine br_f (by rw [show te_ty (K y) = 2 by unfold te_ty; rw [if_neg k4, if_neg k13]]; decide) (wx_isTrue S' hb hy ri (fun w => s131 1 (Or.inl ⟨rfl, iff.mpr ?_⟩)) (fun w => s131 0 (Or.inr ⟨rfl, fun v => w ?_⟩)))
              · unfold tn_tr at w; rw [if_neg k4] at w; exact w
              · unfold tn_tr; rw [if_neg k4]; exact iff.mp v
      refine br_f (nI_ge (by omega) (by omega)) ?_
      rcases hz with ⟨z, hz⟩ | ⟨z, hz⟩
      · exact br_t z (s65 _ (by unfold tk_pi; rw [if_neg hz]))
      · refine br_f (by rw [z]; decide) (s65 _ ?_)
        unfold tk_pi
        rw [if_pos hz, show nI c - 1 = nI (c - 1) from pk_sub (a := c) (b := 1) (by omega), pk_sub (by omega)]
  have s15 : ∀ z0 : Int32, (z0 = 0 ∧ ¬ (0 < ax ∧ ax % 2 = 0) ∨ z0 = 1 ∧ (0 < ax ∧ ax % 2 = 0)) → wX_sift_15 post x (nI y) z0 (nI c) f_draftLength f_resultLength a_inUse a_parentOf a_rankOf a_nameOf a_valueOf a_order a_along a_draftKind a_draftValue a_draftEnd a_tokenKind a_tokenValue a_tokenEnd a_slotLength a_setAt a_amount a_reached a_agenda a_isTemplate a_matchSlot a_priorityOf a_outSlot a_onSlot a_waiting a_result := by
    intro z0 hz
    unfold wX_sift_15
    refine wx_count ⟨c + 1, ?_⟩
    rw [cnt]
    exact key z0 hz c 0 0 a_amount a_agenda (by omega) tk_Mi_0
  unfold wpX_sift
  by_cases z : ax = 0
  · exact br_t (by rw [z]; rfl) (s15 0 (Or.inl ⟨rfl, by omega⟩))
  · refine br_f (fun w => z ((nI_eq (b := 0) (by omega) (by omega)).mp w)) ⟨by decide, ?_⟩
    rw [show nI ax - nI ax / 2 * 2 = nI (ax % 2) from pk_rem (a := ax) (d := 2) (by omega) (by omega) (by omega)]
    by_cases w : ax % 2 = 0
    · exact br_t (by rw [w]; rfl) (s15 1 (Or.inr ⟨rfl, by omega, w⟩))
    · exact br_f (fun v => w ((nI_eq (b := 0) (by omega) (by omega)).mp v)) (s15 0 (Or.inl ⟨rfl, by omega⟩))
end
