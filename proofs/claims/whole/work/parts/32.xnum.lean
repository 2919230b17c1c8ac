/-! numbers, by the component -/
def te_Sl (K W E : Nat → Nat) (V : Nat → Int32) (tk tv te : Nat → Int32) (b L : Nat) : Prop :=
  L ≤ 320 ∧ L ≤ b + 40 ∧ te_D K W tk tv b L ∧ (∀ i, b ≤ i → i < L → te i = nI (E i) ∧ tv i = V i) ∧ te_Ws K W E b L
section
variable {f_nodeCount f_draftLength f_resultLength : Int32} {a_inUse a_parentOf a_rankOf a_nameOf a_valueOf a_order a_along a_draftKind a_draftValue a_draftEnd a_tokenKind a_tokenValue a_tokenEnd a_slotLength a_setAt a_amount a_reached a_agenda a_isTemplate a_matchSlot a_priorityOf a_outSlot a_onSlot a_waiting a_result : Nat → Int32} {c : Nat} {r d : Nat → Nat} {K W E : Nat → Nat} {V : Nat → Int32} {b L : Nat}
theorem wx_sum {post : Int32 → Prop} {x : Int32} (h : post (tc_sum a_valueOf (bt x) 24)) : wpX_sumOf post (f_nodeCount, f_draftLength, f_resultLength, a_inUse, a_parentOf, a_rankOf, a_nameOf, a_valueOf, a_order, a_along, a_draftKind, a_draftValue, a_draftEnd, a_tokenKind, a_tokenValue, a_tokenEnd, a_slotLength, a_setAt, a_amount, a_reached, a_agenda, a_isTemplate, a_matchSlot, a_priorityOf, a_outSlot, a_onSlot, a_waiting, a_result) x := by
  have key : ∀ k i, i + k = 24 → wX_sumOf_4 post x f_nodeCount f_draftLength f_resultLength a_inUse a_parentOf a_rankOf a_nameOf a_valueOf a_order a_along a_draftKind a_draftValue a_draftEnd a_tokenKind a_tokenValue a_tokenEnd a_slotLength a_setAt a_amount a_reached a_agenda a_isTemplate a_matchSlot a_priorityOf a_outSlot a_onSlot a_waiting a_result (k + 1) (tc_sum a_valueOf (bt x) i) (nI i) := by
    intro k
    induction k with
    | zero =>
      intro i hi
      have e : i = 24 := by omega
      subst e
      exact br_t (nI_le (a := 24) (b := 24) (by omega) (by omega)) h
    | succ k ih =>
      intro i hi
      refine br_f (nI_ge (a := i) (b := 24) (by omega) (by omega)) ?_
      have s := tc_sum_s a_valueOf (bt x) i
      have i1 := ih (i + 1) (by omega)
      by_cases z : bt x i = true
      · rw [if_pos z] at s
        rw [s] at i1
        exact br_f (fun w => by rw [mk_f (by omega), z] at w; cases w) ⟨vp_in_nI (by omega) (by omega), nm_r (by rw [nI_clamp (by omega)]) (nm_r (nI_1 i) i1)⟩
      · rw [if_neg z] at s
        rw [s] at i1
        exact br_t ((mk_f (by omega)).mpr (tz_nb z)) (nm_r (nI_1 i) i1)
  exact ⟨25, key 24 0 rfl⟩
theorem wx_first {post : Int32 → Prop} {x : Int32} (T : td_T c r d) (hnc : f_nodeCount = nI c) (ho : ∀ i, i < c → a_order i = nI (r i)) (h : post (tn_first r a_valueOf x c 0)) : wpX_firstValueOf post (f_nodeCount, f_draftLength, f_resultLength, a_inUse, a_parentOf, a_rankOf, a_nameOf, a_valueOf, a_order, a_along, a_draftKind, a_draftValue, a_draftEnd, a_tokenKind, a_tokenValue, a_tokenEnd, a_slotLength, a_setAt, a_amount, a_reached, a_agenda, a_isTemplate, a_matchSlot, a_priorityOf, a_outSlot, a_onSlot, a_waiting, a_result) x := by
  have c24 := T.1
  subst hnc
  have key : ∀ k i, i + k = c → post (tn_first r a_valueOf x k i) → wX_firstValueOf_2 post x (nI c) f_draftLength f_resultLength a_inUse a_parentOf a_rankOf a_nameOf a_valueOf a_order a_along a_draftKind a_draftValue a_draftEnd a_tokenKind a_tokenValue a_tokenEnd a_slotLength a_setAt a_amount a_reached a_agenda a_isTemplate a_matchSlot a_priorityOf a_outSlot a_onSlot a_waiting a_result (k + 1) (nI i) := by
    intro k
    induction k with
    | zero => intro i hi h; exact br_t (nI_le (by omega) (by omega)) h
    | succ k ih =>
      intro i hi h
      have ri := T.2.2.2.1 i (by omega)
      have ei : a_order (nI i).toNatClampNeg = nI (r i) := by rw [nI_clamp (by omega)]; exact ho i (by omega)
      rw [tn_first_s] at h
      refine br_f (nI_ge (by omega) (by omega)) ⟨vp_in_nI (by omega) (by omega), ?_⟩
      rw [ei]
      by_cases z : bt x (r i) = true
      · rw [if_pos z] at h
        refine br_f (fun w => by rw [mk_f (by omega), z] at w; cases w) ⟨vp_in_nI (by omega) (by omega), vp_in_nI ri (by omega), ?_⟩
        rw [nI_clamp (by omega)]; exact h
      · rw [if_neg z] at h
        exact br_t ((mk_f (by omega)).mpr (tz_nb z)) (nm_r (nI_1 i) (ih (i + 1) (by omega) h))
  exact ⟨c + 1, key c 0 (by omega) h⟩
theorem te_ix {j q : Nat} : nI j * 24 + nI q = nI (j * 24 + q) := tx_ix
theorem wx_isTrue {post : Int32 → Prop} {j q : Nat} (S : te_Sl K W E V a_tokenKind a_tokenValue a_tokenEnd b L) (hb : b ≤ j) (hj : j < L) (hq : q < 24)
    (h1 : tn_tr (K j) (a_setAt (j * 24 + q)) (a_amount j) → post 1) (h0 : ¬ tn_tr (K j) (a_setAt (j * 24 + q)) (a_amount j) → post 0) : wpX_isTrue post (f_nodeCount, f_draftLength, f_resultLength, a_inUse, a_parentOf, a_rankOf, a_nameOf, a_valueOf, a_order, a_along, a_draftKind, a_draftValue, a_draftEnd, a_tokenKind, a_tokenValue, a_tokenEnd, a_slotLength, a_setAt, a_amount, a_reached, a_agenda, a_isTemplate, a_matchSlot, a_priorityOf, a_outSlot, a_onSlot, a_waiting, a_result) (nI j) (nI q) := by
  obtain ⟨l1, l2, D, hE, hw⟩ := S
  obtain ⟨d1, d2, -⟩ := D j hb hj
  have ej : (nI j).toNatClampNeg = j := nI_clamp (by omega)
  have vj : vp_in (nI j) 320 := vp_in_nI (by omega) (by omega)
  unfold wpX_isTrue
  unfold tn_tr at h1 h0
  refine ⟨vj, ?_⟩
  rw [ej, d1]
  by_cases z : K j < 4
  · rw [if_pos z] at h1 h0
    have e2 : (nI j * 24 + nI q).toNatClampNeg = j * 24 + q := by rw [te_ix]; exact nI_clamp (by omega)
    refine br_f (nI_nlt (a := 3) (by omega) (by omega)) ⟨by rw [te_ix]; exact vp_in_nI (by omega) (by omega), ?_⟩
    rw [e2]
    by_cases y : a_setAt (j * 24 + q) = 0
    · exact br_t y (h0 (fun w => w y))
    · exact br_f y (h1 y)
  · rw [if_neg z] at h1 h0
    refine br_t (nI_lt (a := 3) (by omega) (by omega)) ⟨vj, ?_⟩
    by_cases y : a_amount j = 0
    · exact br_t y (h0 (fun w => w y))
    · exact br_f y (h1 y)
/-- which nodes a side of a comparison has -/
theorem tn_in_bt {k m : Nat} {x : Int32} (hm : m < 24) : bt (if k < 4 then x else 1) m = true ↔ tn_in k x m := by
  unfold tn_in
  by_cases z : k < 4
  · rw [if_pos z, if_pos z]
  · rw [if_neg z, if_neg z, mk_b1, decide_eq_true_iff]
theorem wx_cmp {post : Int32 → Prop} {j q : Nat} (S : te_Sl K W E V a_tokenKind a_tokenValue a_tokenEnd b L) (hb : b ≤ j) (hj : j < L) (hq : q < 24) (hk : K j = 13 ∨ K j = 14)
    (h1 : tn_Cm (K j) a_valueOf (K (j + 1)) (a_setAt ((j + 1) * 24 + q)) (a_amount (j + 1)) (K (E (j + 1))) (a_setAt (E (j + 1) * 24 + q)) (a_amount (E (j + 1))) → post 1)
    (h0 : ¬ tn_Cm (K j) a_valueOf (K (j + 1)) (a_setAt ((j + 1) * 24 + q)) (a_amount (j + 1)) (K (E (j + 1))) (a_setAt (E (j + 1) * 24 + q)) (a_amount (E (j + 1))) → post 0) : wpX_compared post (f_nodeCount, f_draftLength, f_resultLength, a_inUse, a_parentOf, a_rankOf, a_nameOf, a_valueOf, a_order, a_along, a_draftKind, a_draftValue, a_draftEnd, a_tokenKind, a_tokenValue, a_tokenEnd, a_slotLength, a_setAt, a_amount, a_reached, a_agenda, a_isTemplate, a_matchSlot, a_priorityOf, a_outSlot, a_onSlot, a_waiting, a_result) (nI j) (nI q) := by
  obtain ⟨l1, l2, D, hE, hw⟩ := S
  obtain ⟨d1, d2, -⟩ := D j hb hj
  have s2 := te_two hw hb hj (te_o2 (by omega) (by omega))
  obtain ⟨f1, f2, -⟩ := D (j + 1) (by omega) s2.1
  obtain ⟨g1, g2, -⟩ := D (E (j + 1)) (by omega) s2.2.2.1
  have eE := (hE (j + 1) (by omega) s2.1).1
  have ej : (nI j).toNatClampNeg = j := nI_clamp (by omega)
  have ej1 : (nI (j + 1)).toNatClampNeg = j + 1 := nI_clamp (by omega)
  have ej2 : (nI (E (j + 1))).toNatClampNeg = E (j + 1) := nI_clamp (by omega)
  have v1 : vp_in (nI (j + 1)) 320 := vp_in_nI (by omega) (by omega)
  have v2 : vp_in (nI (E (j + 1))) 320 := vp_in_nI (by omega) (by omega)
  have x1 : (nI (j + 1) * 24 + nI q).toNatClampNeg = (j + 1) * 24 + q := by rw [te_ix]; exact nI_clamp (by omega)
  have x2 : (nI (E (j + 1)) * 24 + nI q).toNatClampNeg = E (j + 1) * 24 + q := by rw [te_ix]; exact nI_clamp (by omega)
  have y1 : vp_in (nI (j + 1) * 24 + nI q) 7680 := by rw [te_ix]; exact vp_in_nI (by omega) (by omega)
  have y2 : vp_in (nI (E (j + 1)) * 24 + nI q) 7680 := by rw [te_ix]; exact vp_in_nI (by omega) (by omega)
  -- the two loops
  have loops : ∀ l s t : Int32, (l = if K j = 13 then 1 else 0) → (s = if K (j + 1) < 4 then 1 else 0) → (t = if K (E (j + 1)) < 4 then 1 else 0) →
      ∃ n116, wX_compared_116 post l (nI (j + 1)) (nI (E (j + 1))) s t (if K (j + 1) < 4 then a_setAt ((j + 1) * 24 + q) else 1) (if K (E (j + 1)) < 4 then a_setAt (E (j + 1) * 24 + q) else 1) f_nodeCount f_draftLength f_resultLength a_inUse a_parentOf a_rankOf a_nameOf a_valueOf a_order a_along a_draftKind a_draftValue a_draftEnd a_tokenKind a_tokenValue a_tokenEnd a_slotLength a_setAt a_amount a_reached a_agenda a_isTemplate a_matchSlot a_priorityOf a_outSlot a_onSlot a_waiting a_result n116 0 := by
    intro l s t hl hs ht
    have inner : ∀ (J : Int32 → Prop) (m : Nat), m < 24 → tn_in (K (j + 1)) (a_setAt ((j + 1) * 24 + q)) m → ((¬ ∃ n, n < 24 ∧ tn_in (K (E (j + 1))) (a_setAt (E (j + 1) * 24 + q)) n ∧ (if K j = 13 then tn_at (K (j + 1)) a_valueOf (a_amount (j + 1)) m < tn_at (K (E (j + 1))) a_valueOf (a_amount (E (j + 1))) n else tn_at (K (j + 1)) a_valueOf (a_amount (j + 1)) m = tn_at (K (E (j + 1))) a_valueOf (a_amount (E (j + 1))) n)) → J (nI (m + 1))) →
        ∀ k i, i + k = 24 → (∀ n, n < i → ¬ (tn_in (K (E (j + 1))) (a_setAt (E (j + 1) * 24 + q)) n ∧ (if K j = 13 then tn_at (K (j + 1)) a_valueOf (a_amount (j + 1)) m < tn_at (K (E (j + 1))) a_valueOf (a_amount (E (j + 1))) n else tn_at (K (j + 1)) a_valueOf (a_amount (j + 1)) m = tn_at (K (E (j + 1))) a_valueOf (a_amount (E (j + 1))) n))) →
        wX_compared_163 post J l (nI (j + 1)) (nI (E (j + 1))) s t (if K (j + 1) < 4 then a_setAt ((j + 1) * 24 + q) else 1) (if K (E (j + 1)) < 4 then a_setAt (E (j + 1) * 24 + q) else 1) (nI m) (tn_at (K (j + 1)) a_valueOf (a_amount (j + 1)) m) f_nodeCount f_draftLength f_resultLength a_inUse a_parentOf a_rankOf a_nameOf a_valueOf a_order a_along a_draftKind a_draftValue a_draftEnd a_tokenKind a_tokenValue a_tokenEnd a_slotLength a_setAt a_amount a_reached a_agenda a_isTemplate a_matchSlot a_priorityOf a_outSlot a_onSlot a_waiting a_result (k + 1) (nI i) := by
      intro J m hm hmin hJ k
      induction k with
      | zero =>
        intro i hi hn
        refine br_t (nI_le (a := 24) (b := i) (by omega) (by omega)) (nm_r (nI_1 m) (hJ ?_))
        rintro ⟨n, hn24, w⟩
        exact hn n (by omega) w
      | succ k ih =>
        intro i hi hn
        have nx : ¬ (tn_in (K (E (j + 1))) (a_setAt (E (j + 1) * 24 + q)) i ∧ (if K j = 13 then tn_at (K (j + 1)) a_valueOf (a_amount (j + 1)) m < tn_at (K (E (j + 1))) a_valueOf (a_amount (E (j + 1))) i else tn_at (K (j + 1)) a_valueOf (a_amount (j + 1)) m = tn_at (K (E (j + 1))) a_valueOf (a_amount (E (j + 1))) i)) → wX_compared_163 post J l (nI (j + 1)) (nI (E (j + 1))) s t (if K (j + 1) < 4 then a_setAt ((j + 1) * 24 + q) else 1) (if K (E (j + 1)) < 4 then a_setAt (E (j + 1) * 24 + q) else 1) (nI m) (tn_at (K (j + 1)) a_valueOf (a_amount (j + 1)) m) f_nodeCount f_draftLength f_resultLength a_inUse a_parentOf a_rankOf a_nameOf a_valueOf a_order a_along a_draftKind a_draftValue a_draftEnd a_tokenKind a_tokenValue a_tokenEnd a_slotLength a_setAt a_amount a_reached a_agenda a_isTemplate a_matchSlot a_priorityOf a_outSlot a_onSlot a_waiting a_result (k + 1) (nI (i + 1)) := fun w => ih (i + 1) (by omega) (fun n hn' => by
          by_cases y : n = i
          · subst y; exact w
          · exact hn n (by omega))
        have go : ∀ z0 : Int32, z0 = tn_at (K (E (j + 1))) a_valueOf (a_amount (E (j + 1))) i → wX_compared_192 post (J) (wX_compared_163 post J l (nI (j + 1)) (nI (E (j + 1))) s t (if K (j + 1) < 4 then a_setAt ((j + 1) * 24 + q) else 1) (if K (E (j + 1)) < 4 then a_setAt (E (j + 1) * 24 + q) else 1) (nI m) (tn_at (K (j + 1)) a_valueOf (a_amount (j + 1)) m) f_nodeCount f_draftLength f_resultLength a_inUse a_parentOf a_rankOf a_nameOf a_valueOf a_order a_along a_draftKind a_draftValue a_draftEnd a_tokenKind a_tokenValue a_tokenEnd a_slotLength a_setAt a_amount a_reached a_agenda a_isTemplate a_matchSlot a_priorityOf a_outSlot a_onSlot a_waiting a_result (k + 1)) l (nI (j + 1)) (nI (E (j + 1))) s t (if K (j + 1) < 4 then a_setAt ((j + 1) * 24 + q) else 1) (if K (E (j + 1)) < 4 then a_setAt (E (j + 1) * 24 + q) else 1) (nI m) (tn_at (K (j + 1)) a_valueOf (a_amount (j + 1)) m) (nI i) z0 f_nodeCount f_draftLength f_resultLength a_inUse a_parentOf a_rankOf a_nameOf a_valueOf a_order a_along a_draftKind a_draftValue a_draftEnd a_tokenKind a_tokenValue a_tokenEnd a_slotLength a_setAt a_amount a_reached a_agenda a_isTemplate a_matchSlot a_priorityOf a_outSlot a_onSlot a_waiting a_result := by
          intro z0 ez
          subst ez
          have fin0 : ¬ (if K j = 13 then tn_at (K (j + 1)) a_valueOf (a_amount (j + 1)) m < tn_at (K (E (j + 1))) a_valueOf (a_amount (E (j + 1))) i else tn_at (K (j + 1)) a_valueOf (a_amount (j + 1)) m = tn_at (K (E (j + 1))) a_valueOf (a_amount (E (j + 1))) i) → wX_compared_225 post J (wX_compared_163 post J l (nI (j + 1)) (nI (E (j + 1))) s t (if K (j + 1) < 4 then a_setAt ((j + 1) * 24 + q) else 1) (if K (E (j + 1)) < 4 then a_setAt (E (j + 1) * 24 + q) else 1) (nI m) (tn_at (K (j + 1)) a_valueOf (a_amount (j + 1)) m) f_nodeCount f_draftLength f_resultLength a_inUse a_parentOf a_rankOf a_nameOf a_valueOf a_order a_along a_draftKind a_draftValue a_draftEnd a_tokenKind a_tokenValue a_tokenEnd a_slotLength a_setAt a_amount a_reached a_agenda a_isTemplate a_matchSlot a_priorityOf a_outSlot a_onSlot a_waiting a_result (k + 1)) l (nI (j + 1)) (nI (E (j + 1))) s t (if K (j + 1) < 4 then a_setAt ((j + 1) * 24 + q) else 1) (if K (E (j + 1)) < 4 then a_setAt (E (j + 1) * 24 + q) else 1) (nI m) (tn_at (K (j + 1)) a_valueOf (a_amount (j + 1)) m) (nI i) 0 f_nodeCount f_draftLength f_resultLength a_inUse a_parentOf a_rankOf a_nameOf a_valueOf a_order a_along a_draftKind a_draftValue a_draftEnd a_tokenKind a_tokenValue a_tokenEnd a_slotLength a_setAt a_amount a_reached a_agenda a_isTemplate a_matchSlot a_priorityOf a_outSlot a_onSlot a_waiting a_result :=
            fun w => br_t rfl (nm_r (nI_1 i) (nx (fun v => w v.2)))
          have fin1 : (if K j = 13 then tn_at (K (j + 1)) a_valueOf (a_amount (j + 1)) m < tn_at (K (E (j + 1))) a_valueOf (a_amount (E (j + 1))) i else tn_at (K (j + 1)) a_valueOf (a_amount (j + 1)) m = tn_at (K (E (j + 1))) a_valueOf (a_amount (E (j + 1))) i) → wX_compared_225 post J (wX_compared_163 post J l (nI (j + 1)) (nI (E (j + 1))) s t (if K (j + 1) < 4 then a_setAt ((j + 1) * 24 + q) else 1) (if K (E (j + 1)) < 4 then a_setAt (E (j + 1) * 24 + q) else 1) (nI m) (tn_at (K (j + 1)) a_valueOf (a_amount (j + 1)) m) f_nodeCount f_draftLength f_resultLength a_inUse a_parentOf a_rankOf a_nameOf a_valueOf a_order a_along a_draftKind a_draftValue a_draftEnd a_tokenKind a_tokenValue a_tokenEnd a_slotLength a_setAt a_amount a_reached a_agenda a_isTemplate a_matchSlot a_priorityOf a_outSlot a_onSlot a_waiting a_result (k + 1)) l (nI (j + 1)) (nI (E (j + 1))) s t (if K (j + 1) < 4 then a_setAt ((j + 1) * 24 + q) else 1) (if K (E (j + 1)) < 4 then a_setAt (E (j + 1) * 24 + q) else 1) (nI m) (tn_at (K (j + 1)) a_valueOf (a_amount (j + 1)) m) (nI i) 1 f_nodeCount f_draftLength f_resultLength a_inUse a_parentOf a_rankOf a_nameOf a_valueOf a_order a_along a_draftKind a_draftValue a_draftEnd a_tokenKind a_tokenValue a_tokenEnd a_slotLength a_setAt a_amount a_reached a_agenda a_isTemplate a_matchSlot a_priorityOf a_outSlot a_onSlot a_waiting a_result := by
            intro w
            refine br_f (by decide) ?_
            by_cases y : tn_in (K (E (j + 1))) (a_setAt (E (j + 1) * 24 + q)) i
            · exact br_f (fun v => by rw [mk_f (by omega), (tn_in_bt (by omega)).mpr y] at v; cases v) (h1 ⟨m, i, hm, by omega, hmin, y, w⟩)
            · exact br_t ((mk_f (by omega)).mpr (tz_nb (fun v => y ((tn_in_bt (by omega)).mp v)))) (nm_r (nI_1 i) (nx (fun v => y v.1)))
          unfold wX_compared_192
          by_cases k13 : K j = 13
          · rw [if_pos k13] at hl
            rw [if_pos k13] at fin0 fin1
            refine br_f (by rw [hl]; decide) ?_
            by_cases y : tn_at (K (j + 1)) a_valueOf (a_amount (j + 1)) m < tn_at (K (E (j + 1))) a_valueOf (a_amount (E (j + 1))) i
            · exact br_f (Int32.not_le.mpr y) (fin1 y)
            · exact br_t (Int32.not_lt.mp y) (fin0 y)
          · rw [if_neg k13] at hl
            rw [if_neg k13] at fin0 fin1
            refine br_t hl ?_
            by_cases y : tn_at (K (j + 1)) a_valueOf (a_amount (j + 1)) m = tn_at (K (E (j + 1))) a_valueOf (a_amount (E (j + 1))) i
            · exact br_t y (fin1 y)
            · exact br_f y (fin0 y)
        refine br_f (nI_ge (a := i) (b := 24) (by omega) (by omega)) ?_
        by_cases k4 : K (E (j + 1)) < 4
        · rw [if_pos k4] at ht
          refine br_f (by rw [ht]; decide) ⟨vp_in_nI (by omega) (by omega), go _ ?_⟩
          rw [nI_clamp (by omega)]
          unfold tn_at
          rw [if_pos k4]
        · rw [if_neg k4] at ht
          refine br_t ht ⟨v2, go _ ?_⟩
          rw [ej2]
          unfold tn_at
          rw [if_neg k4]
    have outer : ∀ k i, i + k = 24 → (∀ m, m < i → ¬ ∃ n, n < 24 ∧ tn_in (K (j + 1)) (a_setAt ((j + 1) * 24 + q)) m ∧ tn_in (K (E (j + 1))) (a_setAt (E (j + 1) * 24 + q)) n ∧ (if K j = 13 then tn_at (K (j + 1)) a_valueOf (a_amount (j + 1)) m < tn_at (K (E (j + 1))) a_valueOf (a_amount (E (j + 1))) n else tn_at (K (j + 1)) a_valueOf (a_amount (j + 1)) m = tn_at (K (E (j + 1))) a_valueOf (a_amount (E (j + 1))) n)) →
        wX_compared_116 post l (nI (j + 1)) (nI (E (j + 1))) s t (if K (j + 1) < 4 then a_setAt ((j + 1) * 24 + q) else 1) (if K (E (j + 1)) < 4 then a_setAt (E (j + 1) * 24 + q) else 1) f_nodeCount f_draftLength f_resultLength a_inUse a_parentOf a_rankOf a_nameOf a_valueOf a_order a_along a_draftKind a_draftValue a_draftEnd a_tokenKind a_tokenValue a_tokenEnd a_slotLength a_setAt a_amount a_reached a_agenda a_isTemplate a_matchSlot a_priorityOf a_outSlot a_onSlot a_waiting a_result (k + 1) (nI i) := by
      intro k
      induction k with
      | zero =>
        intro i hi hn
        refine br_t (nI_le (a := 24) (b := i) (by omega) (by omega)) (h0 ?_)
        rintro ⟨m, n, hm, hn24, w1, w2, w3⟩
        exact hn m (by omega) ⟨n, hn24, w1, w2, w3⟩
      | succ k ih =>
        intro i hi hn
        refine br_f (nI_ge (a := i) (b := 24) (by omega) (by omega)) ?_
        by_cases y : tn_in (K (j + 1)) (a_setAt ((j + 1) * 24 + q)) i
        · have cont := inner (wX_compared_116 post l (nI (j + 1)) (nI (E (j + 1))) s t (if K (j + 1) < 4 then a_setAt ((j + 1) * 24 + q) else 1) (if K (E (j + 1)) < 4 then a_setAt (E (j + 1) * 24 + q) else 1) f_nodeCount f_draftLength f_resultLength a_inUse a_parentOf a_rankOf a_nameOf a_valueOf a_order a_along a_draftKind a_draftValue a_draftEnd a_tokenKind a_tokenValue a_tokenEnd a_slotLength a_setAt a_amount a_reached a_agenda a_isTemplate a_matchSlot a_priorityOf a_outSlot a_onSlot a_waiting a_result (k + 1)) i (by omega) y (fun w => ih (i + 1) (by omega) (fun m hm => by
            by_cases e : m = i
            · subst e
              rintro ⟨n, hn24, -, w2, w3⟩
              exact w ⟨n, hn24, w2, w3⟩
            · exact hn m (by omega))) 24 0 rfl (fun n hn' => by omega)
          refine br_f (fun v => by rw [mk_f (by omega), (tn_in_bt (by omega)).mpr y] at v; cases v) ?_
          by_cases k4 : K (j + 1) < 4
          · rw [if_pos k4] at hs
            refine br_f (by rw [hs]; decide) ⟨vp_in_nI (by omega) (by omega), nm_r (e' := tn_at (K (j + 1)) a_valueOf (a_amount (j + 1)) i) ?_ ⟨25, cont⟩⟩
            rw [nI_clamp (by omega)]
            unfold tn_at
            rw [if_pos k4]
          · rw [if_neg k4] at hs
            refine br_t hs ⟨v1, nm_r (e' := tn_at (K (j + 1)) a_valueOf (a_amount (j + 1)) i) ?_ ⟨25, cont⟩⟩
            rw [ej1]
            unfold tn_at
            rw [if_neg k4]
        · refine br_t ((mk_f (by omega)).mpr (tz_nb (fun v => y ((tn_in_bt (by omega)).mp v)))) (nm_r (nI_1 i) (ih (i + 1) (by omega) (fun m hm => ?_)))
          by_cases e : m = i
          · subst e
            rintro ⟨n, -, w1, -, -⟩
            exact y w1
          · exact hn m (by omega)
    exact ⟨25, outer 24 0 rfl (fun m hm => by omega)⟩
  have c65 : ∀ l s t : Int32, (l = if K j = 13 then 1 else 0) → (s = if K (j + 1) < 4 then 1 else 0) → (t = if K (E (j + 1)) < 4 then 1 else 0) → wX_compared_65 post (nI q) l (nI (j + 1)) (nI (E (j + 1))) s t f_nodeCount f_draftLength f_resultLength a_inUse a_parentOf a_rankOf a_nameOf a_valueOf a_order a_along a_draftKind a_draftValue a_draftEnd a_tokenKind a_tokenValue a_tokenEnd a_slotLength a_setAt a_amount a_reached a_agenda a_isTemplate a_matchSlot a_priorityOf a_outSlot a_onSlot a_waiting a_result := by
    intro l s t hl hs ht
    have M := loops l s t hl hs ht
    unfold wX_compared_65 wX_compared_88
    by_cases k1 : K (j + 1) < 4
    · rw [if_pos k1] at hs
      refine br_f (by rw [hs]; decide) ⟨y1, ?_⟩
      rw [x1]
      by_cases k2 : K (E (j + 1)) < 4
      · rw [if_pos k2] at ht
        rw [if_pos k1, if_pos k2] at M
        exact br_f (by rw [ht]; decide) ⟨y2, nm_r (e' := a_setAt (E (j + 1) * 24 + q)) (by rw [x2]) M⟩
      · rw [if_neg k2] at ht
        rw [if_pos k1, if_neg k2] at M
        exact br_t ht M
    · rw [if_neg k1] at hs
      refine br_t hs ?_
      by_cases k2 : K (E (j + 1)) < 4
      · rw [if_pos k2] at ht
        rw [if_neg k1, if_pos k2] at M
        exact br_f (by rw [ht]; decide) ⟨y2, nm_r (e' := a_setAt (E (j + 1) * 24 + q)) (by rw [x2]) M⟩
      · rw [if_neg k2] at ht
        rw [if_neg k1, if_neg k2] at M
        exact br_t ht M
  have c47 : ∀ l s : Int32, (l = if K j = 13 then 1 else 0) → (s = if K (j + 1) < 4 then 1 else 0) → wX_compared_47 post (nI q) l (nI (j + 1)) (nI (E (j + 1))) s f_nodeCount f_draftLength f_resultLength a_inUse a_parentOf a_rankOf a_nameOf a_valueOf a_order a_along a_draftKind a_draftValue a_draftEnd a_tokenKind a_tokenValue a_tokenEnd a_slotLength a_setAt a_amount a_reached a_agenda a_isTemplate a_matchSlot a_priorityOf a_outSlot a_onSlot a_waiting a_result := by
    intro l s hl hs
    unfold wX_compared_47
    refine ⟨v2, ?_⟩
    rw [ej2, g1]
    by_cases k2 : K (E (j + 1)) < 4
    · exact br_f (nI_nlt (a := 3) (by omega) (by omega)) (c65 l s 1 hl hs (by rw [if_pos k2]))
    · exact br_t (nI_lt (a := 3) (by omega) (by omega)) (c65 l s 0 hl hs (by rw [if_neg k2]))
  have c16 : ∀ l : Int32, (l = if K j = 13 then 1 else 0) → wX_compared_16 post (nI j) (nI q) l f_nodeCount f_draftLength f_resultLength a_inUse a_parentOf a_rankOf a_nameOf a_valueOf a_order a_along a_draftKind a_draftValue a_draftEnd a_tokenKind a_tokenValue a_tokenEnd a_slotLength a_setAt a_amount a_reached a_agenda a_isTemplate a_matchSlot a_priorityOf a_outSlot a_onSlot a_waiting a_result := by
    intro l hl
    unfold wX_compared_16
    refine nm_r (nI_1 j) ⟨v1, nm_r (e' := nI (E (j + 1))) (by rw [ej1]; exact eE) ⟨v1, ?_⟩⟩
    rw [ej1, f1]
    by_cases k2 : K (j + 1) < 4
    · exact br_f (nI_nlt (a := 3) (by omega) (by omega)) (c47 l 1 hl (by rw [if_pos k2]))
    · exact br_t (nI_lt (a := 3) (by omega) (by omega)) (c47 l 0 hl (by rw [if_neg k2]))
  unfold wpX_compared
  refine ⟨vp_in_nI (by omega) (by omega), ?_⟩
  rw [ej, d1]
  by_cases k13 : K j = 13
  · exact br_t (by rw [k13]; rfl) (c16 1 (by rw [if_pos k13]))
  · exact br_f (fun w => k13 ((nI_eq (b := 13) (by omega) (by omega)).mp w)) (c16 0 (by rw [if_neg k13]))
end
