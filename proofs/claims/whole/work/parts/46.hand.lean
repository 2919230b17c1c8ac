/-! transform, both sides step by step -/
section
variable {f_nodeCount f_draftLength f_resultLength : Int32} {a_inUse a_parentOf a_rankOf a_nameOf a_valueOf a_order a_along a_draftKind a_draftValue a_draftEnd a_tokenKind a_tokenValue a_tokenEnd a_slotLength a_setAt a_amount a_reached a_agenda a_isTemplate a_matchSlot a_priorityOf a_outSlot a_onSlot a_waiting a_result : Nat → Int32} {f_count f_top f_listed f_outputs : Int32} {a_row a_depth a_name a_value a_moved a_kind a_with a_length a_sets a_fresh a_type a_number a_set a_list a_there a_match a_priority a_out a_on a_todo a_within a_output : Nat → Int32} {c n : Nat} {r d len : Nat → Nat}
theorem wx_hand {postX : Int32 → SX → Prop} {GY : (Int32 → SY → Prop) → Prop} (T : td_T c r d) (X : re_XT c r d f_nodeCount a_inUse a_parentOf a_rankOf a_order a_along) (Y : re_YT c r d f_count a_row a_depth)
    (hK : re_K n len a_draftKind a_draftValue a_tokenKind a_tokenValue a_tokenEnd a_slotLength a_kind a_with a_length) (hP : re_P a_isTemplate a_matchSlot a_outSlot a_onSlot) (hA : tm_A c r d len a_nameOf a_valueOf a_kind a_with a_tokenEnd a_setAt 8)
    (hdone : ∀ ol res w am ag, ol ≤ 100 → (∀ p : Int32 → SY → Prop, (∀ B fr top li ty nb st la todo wi, re_F c r d len a_nameOf a_valueOf a_kind a_with a_tokenEnd B fr → p (nI ol) (f_count, top, li, nI ol, a_row, a_depth, a_nameOf, a_valueOf, a_moved, a_kind, a_with, a_length, B, fr, ty, nb, st, la, a_isTemplate, a_matchSlot, a_priorityOf, a_outSlot, a_onSlot, todo, wi, res)) → GY p) →
      postX 1 (f_nodeCount, f_draftLength, nI ol, a_inUse, a_parentOf, a_rankOf, a_nameOf, a_valueOf, a_order, a_along, a_draftKind, a_draftValue, a_draftEnd, a_tokenKind, a_tokenValue, a_tokenEnd, a_slotLength, a_setAt, am, a_reached, ag, a_isTemplate, a_matchSlot, a_priorityOf, a_outSlot, a_onSlot, w, res))
    (hstall : ∀ ol res w am ag, (∀ p : Int32 → SY → Prop, (∀ B fr top li ty nb st la todo wi, re_F c r d len a_nameOf a_valueOf a_kind a_with a_tokenEnd B fr → p (-3) (f_count, top, li, 0, a_row, a_depth, a_nameOf, a_valueOf, a_moved, a_kind, a_with, a_length, B, fr, ty, nb, st, la, a_isTemplate, a_matchSlot, a_priorityOf, a_outSlot, a_onSlot, todo, wi, res)) → GY p) →
      postX 0 (f_nodeCount, f_draftLength, nI ol, a_inUse, a_parentOf, a_rankOf, a_nameOf, a_valueOf, a_order, a_along, a_draftKind, a_draftValue, a_draftEnd, a_tokenKind, a_tokenValue, a_tokenEnd, a_slotLength, a_setAt, am, a_reached, ag, a_isTemplate, a_matchSlot, a_priorityOf, a_outSlot, a_onSlot, w, res)) :
    ∀ f turn k begun ol res w am ag, turn + f = 1000 → turn + k = 2 * begun + 1 → k ≤ 13 → begun ≤ 100 → ol ≤ begun →
      (∀ (p : Int32 → SY → Prop) nf, (∀ B fr top li ty nb st la todo wi, re_F c r d len a_nameOf a_valueOf a_kind a_with a_tokenEnd B fr → tt_St todo wi (tt_fl c r w k) →
        wY_transform_36 p nf (nI (tt_fl c r w k).length) (nI begun) f_count top li (nI ol) a_row a_depth a_nameOf a_valueOf a_moved a_kind a_with a_length B fr ty nb st la a_isTemplate a_matchSlot a_priorityOf a_outSlot a_onSlot todo wi res) → GY p) →
      wX_handleAll_16 postX (f + 1) (nI k - 1) (nI begun) (nI turn) f_nodeCount f_draftLength (nI ol) a_inUse a_parentOf a_rankOf a_nameOf a_valueOf a_order a_along a_draftKind a_draftValue a_draftEnd a_tokenKind a_tokenValue a_tokenEnd a_slotLength a_setAt am a_reached ag a_isTemplate a_matchSlot a_priorityOf a_outSlot a_onSlot w res := by
  have c24 := T.1
  intro f
  induction f with
  | zero => intro turn k begun ol res w am ag h1 h2 h3 h4; omega
  | succ f ih =>
    intro turn k begun ol res w am ag h1 h2 h3 h4 h5 HY
    refine br_f (nI_ge (b := 1000) (by omega) (by omega)) ?_
    cases k with
    | zero =>
      refine br_t (by decide) (hdone ol res w am ag (by omega) (fun p hp => HY p 1 (fun B fr top li ty nb st la todo wi hf _ => br_t (show nI 0 ≤ (0 : Int32) by decide) (hp B fr top li ty nb st la todo wi hf))))
    | succ k =>
      rw [nI_pred]
      have ek : (nI k).toNatClampNeg = k := nI_clamp (by omega)
      have vk : vp_in (nI k) 13 := vp_in_nI (by omega) (by omega)
      refine br_f (nI_pos (by omega)) ⟨vk, ?_⟩
      rw [ek]
      refine wx_member T X.1 X.2.2.2.1 ?_
      rw [show tt_am (tt_l r (w k) c 0) 0 = tt_at (tt_l r (w k) c 0) 0 from tt_am_n (k := 0) (by omega)]
      have fs := tt_fl_s c r w k
      cases hl : tt_l r (w k) c 0 with
      | nil =>
        rw [hl] at fs
        have fs' : tt_fl c r w (k + 1) = tt_fl c r w k := fs
        rw [fs'] at HY
        exact br_t rfl (nm_r (tz_m1s _) (nm_r (nI_1 turn) (ih (turn + 1) k begun ol res w am ag (by omega) (by omega) (by omega) h4 h5 HY)))
      | cons q tl =>
        obtain ⟨m, -, hm', eq, -⟩ := tt_l_in (r := r) (x := w k) (q := q) (k := c) (i := 0) (by rw [hl]; exact List.mem_cons_self)
        have hm : m < c := by omega
        subst eq
        have rm := T.2.2.2.1 m hm
        rw [show tt_at (r m :: tl) 0 = nI (r m) from rfl]
        rw [hl] at fs
        have fs' : tt_fl c r w (k + 1) = (r m, k) :: (tl.map (fun n => (n, k)) ++ tt_fl c r w k) := fs
        have lf := tt_fl_len (c := c) (r := r) (w := w) (k + 1)
        have lf2 : c * (k + 1) ≤ 24 * 13 := Nat.mul_le_mul c24 (by omega)
        rw [fs', List.length_cons] at lf
        rw [fs'] at HY
        generalize hrest : tl.map (fun n => (n, k)) ++ tt_fl c r w k = rest at HY lf
        rw [List.length_cons] at HY
        -- the reference up to its two limits
        have ystep : ∀ (p : Int32 → SY → Prop) nf, (∀ B fr top li ty nb st la todo wi, re_F c r d len a_nameOf a_valueOf a_kind a_with a_tokenEnd B fr → tt_St todo wi rest →
            ((100 < nI (begun + 1) → (p (-3) (f_count, top, li, 0, a_row, a_depth, a_nameOf, a_valueOf, a_moved, a_kind, a_with, a_length, B, fr, ty, nb, st, la, a_isTemplate, a_matchSlot, a_priorityOf, a_outSlot, a_onSlot, todo, wi, res))) ∧ (¬ 100 < nI (begun + 1) → (((nI k ≤ 11 → (wpY_best (fun r_43 u => match u with | (f_count, f_top, f_listed, f_outputs, a_row, a_depth, a_name, a_value, a_moved, a_kind, a_with, a_length, a_sets, a_fresh, a_type, a_number, a_set, a_list, a_there, a_match, a_priority, a_out, a_on, a_todo, a_within, a_output) => (((0 ≤ r_43 → (wY_transform_106 p (wY_transform_36 p nf) (nI rest.length) (nI (begun + 1)) (nI (r m)) (nI k) r_43 0 f_count f_top f_listed f_outputs a_row a_depth a_name a_value a_moved a_kind a_with a_length a_sets a_fresh a_type a_number a_set a_list a_there a_match a_priority a_out a_on a_todo a_within a_output)) ∧ (¬ 0 ≤ r_43 → (wpY_childrenOf (fun r_211 => (wY_transform_106 p (wY_transform_36 p nf) (nI rest.length) (nI (begun + 1)) (nI (r m)) (nI k) r_43 r_211 f_count f_top f_listed f_outputs a_row a_depth a_name a_value a_moved a_kind a_with a_length a_sets a_fresh a_type a_number a_set a_list a_there a_match a_priority a_out a_on a_todo a_within a_output)) (f_count, f_top, f_listed, f_outputs, a_row, a_depth, a_name, a_value, a_moved, a_kind, a_with, a_length, a_sets, a_fresh, a_type, a_number, a_set, a_list, a_there, a_match, a_priority, a_out, a_on, a_todo, a_within, a_output) (nI (r m))))))) (f_count, top, li, nI ol, a_row, a_depth, a_nameOf, a_valueOf, a_moved, a_kind, a_with, a_length, B, fr, ty, nb, st, la, a_isTemplate, a_matchSlot, a_priorityOf, a_outSlot, a_onSlot, todo, wi, res) (nI (r m)))) ∧ (¬ nI k ≤ 11 → (p (-3) (f_count, top, li, 0, a_row, a_depth, a_nameOf, a_valueOf, a_moved, a_kind, a_with, a_length, B, fr, ty, nb, st, la, a_isTemplate, a_matchSlot, a_priorityOf, a_outSlot, a_onSlot, todo, wi, res)))))))) → GY p := by
          intro p nf H
          refine HY p (nf + 1) (fun B fr top li ty nb st la todo wi hf hst => ?_)
          obtain ⟨s1, s2, s3⟩ := hst
          refine br_f (nI_nle (by omega) (by omega)) (nm_r (pk_m1 rest.length) ⟨vp_in_nI (by omega) (by omega), nm_r (e' := nI (r m)) (by rw [nI_clamp (by omega)]; exact s1) ⟨vp_in_nI (by omega) (by omega), nm_r (e' := nI k) (by rw [nI_clamp (by omega)]; exact s2) (nm_r (nI_1 begun) (H B fr top li ty nb st la todo wi hf s3))⟩⟩)
        refine br_f (show ¬ nI (r m) = -1 from tx_m1' (by omega)) (nm_r (nI_1 begun) ?_)
        by_cases b100 : begun = 100
        · have lt : (100 : Int32) < nI (begun + 1) := nI_lt (a := 100) (by omega) (by omega)
          exact br_t lt (hstall ol res w am ag (fun p hp => ystep p 0 (fun B fr top li ty nb st la todo wi hf _ => br_t lt (hp B fr top li ty nb st la todo wi hf))))
        have nlt : ¬ (100 : Int32) < nI (begun + 1) := nI_nlt (a := 100) (b := begun + 1) (by omega) (by omega)
        refine br_f nlt ?_
        by_cases k12 : k < 12
        rotate_left
        · exact br_f (nI_nlt (b := 12) (by omega) (by omega)) (hstall ol res w am ag (fun p hp => ystep p 0 (fun B fr top li ty nb st la todo wi hf _ => br_f nlt (br_f (nI_ge (a := 11) (by omega) (by omega)) (hp B fr top li ty nb st la todo wi hf)))))
        have k11 : nI k ≤ (11 : Int32) := nI_le (b := 11) (by omega) (by omega)
        have hd := tt_l_hd (x := w k) (x' := w k &&& (((1 : Int32) <<< (nI (r m) &&& 31)) ^^^ (-1))) (fun i hi => mk_clr (w k) (by omega) (by omega)) (k := c) (i := 0) (fun j _ hj => T.2.2.2.1 j (by omega)) (fun a b _ ha _ hb e => T.2.2.2.2 a b (by omega) (by omega) e) hl
        have fl2 : ∀ mask : Int32, tt_fl c r (upd (upd w k (w k &&& (((1 : Int32) <<< (nI (r m) &&& 31)) ^^^ (-1)))) (k + 1) mask) (k + 1 + 1) = (tt_l r mask c 0).map (fun n => (n, k + 1)) ++ rest := fun mask => by
          rw [tt_fl_s, pk_us, tt_fl_s, pk_un (show k ≠ k + 1 by omega), pk_us, hd, tt_fl_up (by omega), tt_fl_up (by omega), hrest]
        refine br_t (nI_lt (b := 12) k12 (by omega)) ⟨vk, vk, nm_r (e' := upd w k (w k &&& (((1 : Int32) <<< (nI (r m) &&& 31)) ^^^ (-1)))) rfl (nm_r (nI_1 k) ?_)⟩
        have nxt : ∀ mask ol' res' am ag, ol' ≤ begun + 1 → (∀ (p : Int32 → SY → Prop) nf, (∀ B fr top li ty nb st la todo wi, re_F c r d len a_nameOf a_valueOf a_kind a_with a_tokenEnd B fr → tt_St todo wi ((tt_l r mask c 0).map (fun n => (n, k + 1)) ++ rest) →
            wY_transform_36 p nf (nI ((tt_l r mask c 0).map (fun n => (n, k + 1)) ++ rest).length) (nI (begun + 1)) f_count top li (nI ol') a_row a_depth a_nameOf a_valueOf a_moved a_kind a_with a_length B fr ty nb st la a_isTemplate a_matchSlot a_priorityOf a_outSlot a_onSlot todo wi res') → GY p) →
            wX_handleAll_16 postX (f + 1) (nI (k + 1)) (nI (begun + 1)) (nI (turn + 1)) f_nodeCount f_draftLength (nI ol') a_inUse a_parentOf a_rankOf a_nameOf a_valueOf a_order a_along a_draftKind a_draftValue a_draftEnd a_tokenKind a_tokenValue a_tokenEnd a_slotLength a_setAt am a_reached ag a_isTemplate a_matchSlot a_priorityOf a_outSlot a_onSlot (upd (upd w k (w k &&& (((1 : Int32) <<< (nI (r m) &&& 31)) ^^^ (-1)))) (k + 1) mask) res' := by
          intro mask ol' res' am ag ho H
          have i1 := ih (turn + 1) (k + 1 + 1) (begun + 1) ol' res' (upd (upd w k (w k &&& (((1 : Int32) <<< (nI (r m) &&& 31)) ^^^ (-1)))) (k + 1) mask) am ag (by omega) (by omega) (by omega) (by omega) ho (by rw [fl2]; exact H)
          rw [nI_pred] at i1
          exact i1
        have vk1 : vp_in (nI (k + 1)) 13 := vp_in_nI (by omega) (by omega)
        have ek1 : (nI (k + 1)).toNatClampNeg = k + 1 := nI_clamp (by omega)
        refine wx_tfor T X hK hP hm ?_
        rcases tm_best_or (tm_Q c r d len a_kind a_setAt a_isTemplate a_matchSlot m) a_priorityOf 6 with tb | ⟨j, hj, tb⟩
        · have e24 : (24 : Int32) + nI (r m) = nI (1 * 24 + r m) := by rw [show (24 : Int32) = nI (1 * 24) from rfl, nI_add]
          refine br_t tb ⟨by rw [e24]; exact vp_in_nI (by omega) (by omega), vk1, nm_r (e' := upd (upd w k (w k &&& (((1 : Int32) <<< (nI (r m) &&& 31)) ^^^ (-1)))) (k + 1) (a_along (1 * 24 + r m))) (by rw [ek1, e24, nI_clamp (by omega)]) (nm_r (nI_1 turn) (nxt _ ol res am ag (by omega) (fun p nf H => ystep p nf (fun B fr top li ty nb st la todo wi hf hst => br_f nlt (br_t k11 ?_)))))⟩
          refine wy_best T Y hK hf hP hA hm (fun B2 fr2 top2 li2 ty2 nb2 st2 la2 hf2 => ?_)
          rw [tb]
          refine br_f tz_n0m1 (wy_children T Y hm (fun x hx => ?_))
          have ch : tk_Mi r (fun i => tk_d (td_Pa d m i)) c (a_along (1 * 24 + r m)) := by
            refine ⟨(X.2.2.2.2 1 (by omega) (r m) rm).1, fun q hq => ?_⟩
            rw [(X.2.2.2.2 1 (by omega) (r m) rm).2 q hq]
            constructor
            · rintro ⟨a, l, ha, hl', w1, w2, w3⟩
              rw [T.2.2.2.2 a m ha hm w1, td_on1] at w3
              exact ⟨l, hl', w2, tk_d_t.mpr w3⟩
            · rintro ⟨l, hl', w2, w3⟩
              exact ⟨m, l, hm, hl', rfl, w2, td_on1.mpr (tk_d_t.mp w3)⟩
          have ex := tk_Mi_u hx ch
          subst ex
          unfold wY_transform_106
          refine br_t tz_m1lt ?_
          unfold wY_transform_172
          exact br_t tz_m1lt (wy_push0 T Y (by omega) (by omega) hst (fun todo wi g => H B2 fr2 top2 li2 ty2 nb2 st2 la2 todo wi hf2 g))
        · refine br_f (by rw [tb]; exact tx_m1' (by omega)) ?_
          rw [tb]
          refine wx_follow T X hK hj hm rfl (by omega) (fun mask ol' res' am2 ag2 hO hN => ⟨vk1, nm_r (e' := upd (upd w k (w k &&& (((1 : Int32) <<< (nI (r m) &&& 31)) ^^^ (-1)))) (k + 1) mask) (by rw [ek1]) (nm_r (nI_1 turn) (nxt mask ol' res' am2 ag2 ?_ (fun p nf H => ystep p nf (fun B fr top li ty nb st la todo wi hf hst => br_f nlt (br_t k11 ?_)))))⟩)
          · rcases hO with ⟨s, a1, a2, a3, a4, a5⟩ | ⟨a1, a2, a3⟩
            · omega
            · omega
          · refine wy_best T Y hK hf hP hA hm (fun B2 fr2 top2 li2 ty2 nb2 st2 la2 hf2 => ?_)
            rw [tb]
            exact br_t (nI_pos' (by omega)) (wy_follow T Y hK hf2 hP hA hj hm rfl (by omega) (by omega) (by omega) hst hO hN (fun B3 fr3 top3 li3 ty3 nb3 st3 la3 todo3 wi3 hf3 g => H B3 fr3 top3 li3 ty3 nb3 st3 la3 todo3 wi3 hf3 g))
end
