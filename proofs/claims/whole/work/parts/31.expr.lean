/-! expression -/
theorem te_Ws_sh {K W E K' W' E' : Nat → Nat} {b n : Nat} (h : te_Ws K W E 0 n) (e : ∀ i, i < n → K' (b + i) = K i ∧ W' (b + i) = W i ∧ E' (b + i) = b + E i) : te_Ws K' W' E' b (b + n) := by
  intro j h1 h2
  obtain ⟨i, rfl⟩ : ∃ i, j = b + i := ⟨j - b, by omega⟩
  obtain ⟨e1, e2, e3⟩ := e i (by omega)
  have bd := (te_bnd h i (by omega) (Nat.zero_le _)).2.2
  obtain ⟨w1, w2⟩ := h i (Nat.zero_le _) (by omega)
  have key : ∀ t, t ≤ te_o (K i) (W i) → te_ch E' (b + i + 1) t = b + te_ch E (i + 1) t := by
    intro t
    induction t with
    | zero => intro _; rfl
    | succ t it =>
      intro ht
      have x := w2 t (by omega)
      rw [te_ch_s, te_ch_s, it (by omega)]
      exact (e _ x.1).2.2
  refine ⟨by rw [e1, e2, e3, w1, key _ (Nat.le_refl _)], fun t ht => ?_⟩
  rw [e1, e2] at ht
  have x := w2 t ht
  rw [key t (by omega), (e _ x.1).1, e1]
  exact ⟨by omega, x.2⟩
section
variable {f_nodeCount f_draftLength f_resultLength : Int32} {a_inUse a_parentOf a_rankOf a_nameOf a_valueOf a_order a_along a_draftKind a_draftValue a_draftEnd a_tokenKind a_tokenValue a_tokenEnd a_slotLength a_setAt a_amount a_reached a_agenda a_isTemplate a_matchSlot a_priorityOf a_outSlot a_onSlot a_waiting a_result : Nat → Int32}
theorem wx_keep {post : SX → Prop} {s n : Nat} {E : Nat → Nat} (hs : s < 8) (hn : f_draftLength = nI n) (n40 : n ≤ 40) (he : ∀ j, j < n → a_draftEnd j = nI (E j))
    (h : ∀ tk tv te, (∀ i, i < n → tk (40 * s + i) = a_draftKind i ∧ tv (40 * s + i) = a_draftValue i ∧ te (40 * s + i) = nI (40 * s + E i)) → (∀ j, ¬ (40 * s ≤ j ∧ j < 40 * s + n) → tk j = a_tokenKind j ∧ tv j = a_tokenValue j ∧ te j = a_tokenEnd j) →
      post (f_nodeCount, f_draftLength, f_resultLength, a_inUse, a_parentOf, a_rankOf, a_nameOf, a_valueOf, a_order, a_along, a_draftKind, a_draftValue, a_draftEnd, tk, tv, te, upd a_slotLength s (nI n), a_setAt, a_amount, a_reached, a_agenda, a_isTemplate, a_matchSlot, a_priorityOf, a_outSlot, a_onSlot, a_waiting, a_result)) : wpX_keepDraft post (f_nodeCount, f_draftLength, f_resultLength, a_inUse, a_parentOf, a_rankOf, a_nameOf, a_valueOf, a_order, a_along, a_draftKind, a_draftValue, a_draftEnd, a_tokenKind, a_tokenValue, a_tokenEnd, a_slotLength, a_setAt, a_amount, a_reached, a_agenda, a_isTemplate, a_matchSlot, a_priorityOf, a_outSlot, a_onSlot, a_waiting, a_result) (nI s) := by
  subst hn
  have es : (nI s).toNatClampNeg = s := nI_clamp (by omega)
  have key : ∀ k i tk tv te, i + k = n → (∀ j, j < i → tk (40 * s + j) = a_draftKind j ∧ tv (40 * s + j) = a_draftValue j ∧ te (40 * s + j) = nI (40 * s + E j)) → (∀ j, ¬ (40 * s ≤ j ∧ j < 40 * s + i) → tk j = a_tokenKind j ∧ tv j = a_tokenValue j ∧ te j = a_tokenEnd j) →
      wX_keepDraft_7 post (nI s) (nI (40 * s)) f_nodeCount (nI n) f_resultLength (k + 1) (nI i) a_inUse a_parentOf a_rankOf a_nameOf a_valueOf a_order a_along a_draftKind a_draftValue a_draftEnd tk tv te a_slotLength a_setAt a_amount a_reached a_agenda a_isTemplate a_matchSlot a_priorityOf a_outSlot a_onSlot a_waiting a_result := by
    intro k
    induction k with
    | zero =>
      intro i tk tv te hi g1 g2
      have e : i = n := by omega
      subst e
      exact br_t (nI_le (Nat.le_refl _) (by omega)) ⟨vp_in_nI hs (by omega), nm_r (e' := upd a_slotLength s (nI i)) (by rw [es]) (h tk tv te g1 g2)⟩
    | succ k ih =>
      intro i tk tv te hi g1 g2
      have ei : (nI i).toNatClampNeg = i := nI_clamp (by omega)
      have e2 : (nI (40 * s) + nI i).toNatClampNeg = 40 * s + i := by rw [nI_add]; exact nI_clamp (by omega)
      have vi : vp_in (nI i) 40 := vp_in_nI (by omega) (by omega)
      have v2 : vp_in (nI (40 * s) + nI i) 320 := by rw [nI_add]; exact vp_in_nI (by omega) (by omega)
      refine br_f (nI_ge (by omega) (by omega)) ⟨vi, v2, nm_r (e' := upd tk (40 * s + i) (a_draftKind i)) (by rw [e2, ei]) ⟨vi, v2, nm_r (e' := upd tv (40 * s + i) (a_draftValue i)) (by rw [e2, ei]) ⟨vi, v2, nm_r (e' := upd te (40 * s + i) (nI (40 * s + E i))) (by rw [e2, ei, he i (by omega), nI_add]) (nm_r (nI_1 i) (ih (i + 1) _ _ _ (by omega) (fun j hj => ?_) (fun j hj => ?_)))⟩⟩⟩
      · by_cases z : j = i
        · subst z
          exact ⟨pk_us, pk_us, pk_us⟩
        · rw [pk_un (by omega), pk_un (by omega), pk_un (by omega)]
          exact g1 j (by omega)
      · rw [pk_un (by omega), pk_un (by omega), pk_un (by omega)]
        exact g2 j (by omega)
  unfold wpX_keepDraft
  exact nm_r (e' := nI (40 * s)) (by rw [show (40 : Int32) = nI 40 from rfl, pk_mul, Nat.mul_comm]) ⟨n + 1, key n 0 _ _ _ (by omega) (fun j hj => by omega) (fun j _ => ⟨rfl, rfl, rfl⟩)⟩
end
section
variable {f_count f_top f_listed f_outputs : Int32} {a_row a_depth a_name a_value a_moved a_kind a_with a_length a_sets a_fresh a_type a_number a_set a_list a_there a_match a_priority a_out a_on a_todo a_within a_output : Nat → Int32}
theorem wy_ex68 {post : Int32 → SY → Prop} {s n k0 : Nat} (hs : s < 8) (n40 : n ≤ 40) (hk0 : a_kind 320 = nI k0) (hk18 : k0 < 18)
    (h : ∀ kd wt, (∀ i, i < n → kd (40 * s + i) = a_kind (320 + i) ∧ wt (40 * s + i) = a_with (320 + i)) → (∀ j, ¬ (40 * s ≤ j ∧ j < 40 * s + n) → kd j = a_kind j ∧ wt j = a_with j) →
      post (nI (te_ty k0)) (f_count, f_top, f_listed, f_outputs, a_row, a_depth, a_name, a_value, a_moved, kd, wt, a_length, a_sets, upd a_fresh s 0, a_type, a_number, a_set, a_list, a_there, a_match, a_priority, a_out, a_on, a_todo, a_within, a_output)) :
    ∀ k i kd wt, i + k = n → (∀ j, j < i → kd (40 * s + j) = a_kind (320 + j) ∧ wt (40 * s + j) = a_with (320 + j)) → (∀ j, ¬ (40 * s ≤ j ∧ j < 40 * s + i) → kd j = a_kind j ∧ wt j = a_with j) →
      wY_expression_68 post (nI s) (nI n) f_count f_top f_listed f_outputs (k + 1) (nI i) a_row a_depth a_name a_value a_moved kd wt a_length a_sets a_fresh a_type a_number a_set a_list a_there a_match a_priority a_out a_on a_todo a_within a_output := by
  have es : (nI s).toNatClampNeg = s := nI_clamp (by omega)
  intro k
  induction k with
  | zero =>
    intro i kd wt hi g1 g2
    have e : i = n := by omega
    subst e
    refine br_t (nI_le (Nat.le_refl _) (by omega)) ⟨vp_in_nI hs (by omega), nm_r (e' := upd a_fresh s 0) (by rw [es, tz_b0]) ?_⟩
    rw [(g2 320 (by omega)).1, hk0]
    exact wy_typeOf hk18 (h kd wt g1 g2)
  | succ k ih =>
    intro i kd wt hi g1 g2
    have e1 : ((320 : Int32) + nI i).toNatClampNeg = 320 + i := by rw [show (320 : Int32) = nI 320 from rfl, nI_add]; exact nI_clamp (by omega)
    have v1 : vp_in ((320 : Int32) + nI i) 360 := by rw [show (320 : Int32) = nI 320 from rfl, nI_add]; exact vp_in_nI (by omega) (by omega)
    have e0 : (40 : Int32) * nI s + nI i = nI (40 * s + i) := by rw [show (40 : Int32) = nI 40 from rfl, pk_mul, nI_add]
    have e2 : ((40 : Int32) * nI s + nI i).toNatClampNeg = 40 * s + i := by rw [e0]; exact nI_clamp (by omega)
    have v2 : vp_in ((40 : Int32) * nI s + nI i) 360 := by rw [e0]; exact vp_in_nI (by omega) (by omega)
    have gi := g2 (320 + i) (by omega)
    refine br_f (nI_ge (by omega) (by omega)) ⟨v1, v2, nm_r (e' := upd kd (40 * s + i) (a_kind (320 + i))) (by rw [e1, e2, gi.1]) ⟨v1, v2, nm_r (e' := upd wt (40 * s + i) (a_with (320 + i))) (by rw [e1, e2, gi.2]) (nm_r (nI_1 i) (ih (i + 1) _ _ (by omega) (fun j hj => ?_) (fun j hj => ?_)))⟩⟩
    · by_cases z : j = i
      · subst z
        exact ⟨pk_us, pk_us⟩
      · rw [pk_un (by omega), pk_un (by omega)]
        exact g1 j (by omega)
    · rw [pk_un (by omega), pk_un (by omega)]
      exact g2 j (by omega)
end
theorem i_vc_expression {k : Nat} {u : SX} {v : SY} (I : i_Rel k u v) (hk : k + 6 ≤ 3072) (v1 : Int32) : wpX_expression (fun r u' => wpY_expression (fun r' v' => r' = r ∧ i_Rel (k + 6) u' v') v v1) u v1 := by
  obtain ⟨f_nodeCount, f_draftLength, f_resultLength, a_inUse, a_parentOf, a_rankOf, a_nameOf, a_valueOf, a_order, a_along, a_draftKind, a_draftValue, a_draftEnd, a_tokenKind, a_tokenValue, a_tokenEnd, a_slotLength, a_setAt, a_amount, a_reached, a_agenda, a_isTemplate, a_matchSlot, a_priorityOf, a_outSlot, a_onSlot, a_waiting, a_result⟩ := u
  obtain ⟨f_count, f_top, f_listed, f_outputs, a_row, a_depth, a_name, a_value, a_moved, a_kind, a_with, a_length, a_sets, a_fresh, a_type, a_number, a_set, a_list, a_there, a_match, a_priority, a_out, a_on, a_todo, a_within, a_output⟩ := v
  have J := i_up I
  obtain ⟨c, n, m, r, d, len, T, X, Y, e1, e2, hdl, hK, hF, e3, e4, e5, e6, e7, hP, hm, hrl, hou, e8⟩ := I
  obtain ⟨k1, k2, k3, k4, k5, k6⟩ := hK
  have tok : ∀ i, i < n → a_draftKind i = nI (te_R 0 n a_draftKind i) ∧ te_R 0 n a_draftKind i < 18 ∧ (te_R 0 n a_draftKind i = 2 → a_draftValue i = nI (te_R 0 n a_draftValue i) ∧ te_R 0 n a_draftValue i < 384) := by
    intro i hi
    obtain ⟨q1, q2⟩ := k3 i (by omega)
    obtain ⟨kn, w1, w2, w3⟩ := k5 i hi
    have ek : te_R 0 n a_draftKind i = kn := te_R_n (by omega) hi (by rw [q1]; exact w2) (by omega)
    refine ⟨by rw [ek, q1]; exact w2, by omega, fun z => ?_⟩
    obtain ⟨w, g1, g2, g3⟩ := w3 (by omega)
    have ew : te_R 0 n a_draftValue i = w := te_R_n (by omega) hi (by rw [q2]; exact g2) (by omega)
    exact ⟨by rw [ew, q2]; exact g2, by omega⟩
  have DX : te_D (te_R 0 n a_draftKind) (te_R 0 n a_draftValue) a_draftKind a_draftValue 0 n := fun i _ hi => tok i hi
  have DY : te_D (te_R 0 n a_draftKind) (te_R 0 n a_draftValue) (fun i => a_kind (320 + i)) (fun i => a_with (320 + i)) 0 n := fun i _ hi => by
    have q := k3 i (by omega)
    have t := tok i hi
    rw [q.1, q.2] at t
    exact t
  unfold wpX_expression
  refine wx_isSlot (fun s hs es => ?_) (fun hno => br_t rfl ?_)
  rotate_left
  · unfold wpY_expression
    exact wy_in0 (n := 7) (by omega) (fun j hj ej => absurd ej (hno j (by omega))) (fun _ => br_t rfl ⟨rfl, J⟩)
  subst es
  have inY : ∀ {Q : Int32 → Prop}, Q 1 → wpY_in Q (nI s) 0 7 := fun q => wy_in0 (n := 7) (by omega) (fun _ _ _ => q) (fun h => absurd rfl (h s (by omega)))
  refine br_f (by decide) (wx_whole hdl k1 DX (fun e E hw E0 n0 he => ?_) (fun hnw e => ?_))
  · refine br_f (by decide) (wx_keep hs hdl k1 he (fun tk tv te t1 t2 => ?_))
    have es : (nI s).toNatClampNeg = s := nI_clamp (by omega)
    have e40 : nI s * 40 = nI (40 * s) := by rw [show (40 : Int32) = nI 40 from rfl, pk_mul, Nat.mul_comm]
    have c40 : (nI s * 40).toNatClampNeg = 40 * s := by rw [e40]; exact nI_clamp (by omega)
    have tok0 := tok 0 n0
    have tk0 : tk (40 * s) = nI (te_R 0 n a_draftKind 0) := by
      have := (t1 0 n0).1
      rw [Nat.add_zero] at this
      rw [this]; exact tok0.1
    unfold wX_expression_24
    refine br_f (by decide) ⟨by rw [e40]; exact vp_in_nI (by omega) (by omega), ?_⟩
    rw [c40, tk0]
    refine wx_typeOf tok0.2.1 ?_
    unfold wpY_expression
    refine inY (br_f (by decide) (br_f (by rw [k2]; exact nI_nle n0 (by omega)) (wy_whole k2 k1 n0 DY (fun _ top ty => br_f (by decide) ?_) (fun w => absurd ⟨n0, E, hw, E0⟩ w))))
    unfold wY_expression_34
    refine nm_r (e' := nI n) k2 (nm_e (br_f (by decide) ⟨vp_in_nI (by omega) (by omega), nm_r (e' := upd (upd a_length 8 0) s (nI n)) (by rw [es]) ⟨n + 1, ?_⟩⟩))
    refine wy_ex68 (k0 := te_R 0 n a_draftKind 0) hs k1 ?_ tok0.2.1 (fun kd wt y1 y2 => ?_) n 0 a_kind a_with (by omega) (fun j hj => by omega) (fun j _ => ⟨rfl, rfl⟩)
    · have := (k3 0 (by omega)).1
      rw [Nat.add_zero] at this
      rw [← this]; exact tok0.1
    refine ⟨rfl, c, 0, m, r, d, fun t => if t = s then n else len t, T, X, Y, e1, e2, nI_0.symm, ⟨by omega, ?_, ?_, ?_, fun i hi => by omega, ?_⟩, ?_, e3, e4, e5, e6, e7, hP, hm, hrl, hou, e8⟩
    · rw [pk_un (by omega), pk_us]; exact nI_0.symm
    · intro i hi
      obtain ⟨z1, z2⟩ := y2 (320 + i) (by omega)
      rw [z1, z2]; exact k3 i hi
    · intro i hi
      by_cases z : 40 * s ≤ i ∧ i < 40 * s + n
      · obtain ⟨j, rfl⟩ : ∃ j, i = 40 * s + j := ⟨i - 40 * s, by omega⟩
        obtain ⟨z1, z2, -⟩ := t1 j (by omega)
        obtain ⟨z3, z4⟩ := y1 j (by omega)
        rw [z1, z2, z3, z4]
        exact k3 j (by omega)
      · obtain ⟨z1, z2, -⟩ := t2 i z
        obtain ⟨z3, z4⟩ := y2 i z
        rw [z1, z2, z3, z4]
        exact k4 i hi
    · intro t ht
      by_cases z : t = s
      · subst z
        show _ = nI (if t = t then n else len t) ∧ _ = nI (if t = t then n else len t) ∧ re_Slot kd wt te (40 * t) (if t = t then n else len t)
        rw [if_pos rfl]
        refine ⟨pk_us, pk_us, k1, fun i hi1 hi2 => ?_, fun _ => ?_⟩
        · obtain ⟨j, rfl⟩ : ∃ j, i = 40 * t + j := ⟨i - 40 * t, by omega⟩
          obtain ⟨z1, z2, z3⟩ := t1 j (by omega)
          obtain ⟨z4, z5⟩ := y1 j (by omega)
          obtain ⟨kn, w1, w2, w3⟩ := k5 j (by omega)
          have El := te_E_le hw (i := j) (by omega) (by omega)
          refine ⟨⟨kn, w1, by rw [z4]; exact w2, fun w => by rw [z5]; exact w3 w⟩, ?_⟩
          rw [te_R_n hi1 hi2 z3 (by omega)]
          exact z3
        · have El : ∀ j, j < n → E j ≤ n := fun j hj => te_E_le hw (i := j) (by omega) hj
          constructor
          · refine te_Ws_sh hw (fun i hi => ?_)
            obtain ⟨z1, z2, z3⟩ := t1 i hi
            obtain ⟨z4, z5⟩ := y1 i hi
            have q := k3 i (by omega)
            refine ⟨?_, ?_, te_R_n (by omega) (by omega) z3 (by have := El i hi; omega)⟩
            · unfold te_R
              rw [if_pos ⟨by omega, by omega⟩, if_pos ⟨by omega, hi⟩, z4, ← q.1]
            · unfold te_R
              rw [if_pos ⟨by omega, by omega⟩, if_pos ⟨by omega, hi⟩, z5, ← q.2]
          · have z3 := (t1 0 n0).2.2
            rw [Nat.add_zero, E0] at z3
            exact te_R_n (by omega) (by omega) z3 (by omega)
      · show _ = nI (if t = s then n else len t) ∧ _ = nI (if t = s then n else len t) ∧ re_Slot kd wt te (40 * t) (if t = s then n else len t)
        rw [if_neg z]
        obtain ⟨q1, q2, q3⟩ := k6 t ht
        have l40 := q3.1
        refine ⟨by rw [pk_un z]; exact q1, by rw [pk_un z, pk_un (by omega)]; exact q2, re_Slot_c q3 (fun i x y => ?_)⟩
        have z1 := t2 i (by omega)
        have z2 := y2 i (by omega)
        exact ⟨z2.1, z2.2, z1.2.2⟩
    · intro t ht
      obtain ⟨q1, q2⟩ := hF t ht
      by_cases z : t = s
      · subst z
        rw [pk_us]
        exact ⟨Or.inl rfl, fun w => absurd rfl w⟩
      · rw [pk_un z]
        refine ⟨q1, fun w => ?_⟩
        show re_F1 c r d a_name a_value kd wt te a_sets (40 * t) (40 * t + (if t = s then n else len t))
        rw [if_neg z]
        have l40 := (k6 t ht).2.2.1
        refine re_F1_c (q2 w) (fun i x y => ?_)
        have z1 := t2 i (by omega)
        have z2 := y2 i (by omega)
        exact ⟨z2.1, z2.2, z1.2.2⟩
  · refine br_t rfl ?_
    unfold wX_expression_24
    refine br_t rfl ?_
    have fin : ∀ top ty, wY_expression_33 (fun r' v' => r' = -2 ∧ i_Rel (k + 6) (f_nodeCount, 0, f_resultLength, a_inUse, a_parentOf, a_rankOf, a_nameOf, a_valueOf, a_order, a_along, a_draftKind, a_draftValue, e, a_tokenKind, a_tokenValue, a_tokenEnd, a_slotLength, a_setAt, a_amount, a_reached, a_agenda, a_isTemplate, a_matchSlot, a_priorityOf, a_outSlot, a_onSlot, a_waiting, a_result) v') (nI s) f_count top f_listed f_outputs a_row a_depth a_name a_value a_moved a_kind a_with a_length a_sets a_fresh ty a_number a_set a_list a_there a_match a_priority a_out a_on a_todo a_within a_output := by
      intro top ty
      unfold wY_expression_33 wY_expression_34
      refine nm_e (nm_e (br_t rfl ⟨rfl, c, 0, m, r, d, len, T, X, Y, e1, e2, nI_0.symm, ⟨by omega, ?_, k3, k4, fun i hi => by omega, fun t ht => ?_⟩, hF, e3, e4, e5, e6, e7, hP, hm, hrl, hou, e8⟩))
      · rw [pk_us]; exact nI_0.symm
      · obtain ⟨q1, q2, q3⟩ := k6 t ht
        exact ⟨q1, by rw [pk_un (by omega)]; exact q2, q3⟩
    unfold wpY_expression
    refine inY (br_f (by decide) ?_)
    by_cases n0 : n = 0
    · exact br_t (by rw [k2, n0]; decide) (fin f_top a_type)
    · exact br_f (by rw [k2]; exact nI_nle (by omega) (by omega)) (wy_whole k2 k1 (by omega) DY (fun w => absurd w hnw) (fun _ top ty => br_t rfl (fin top ty)))
