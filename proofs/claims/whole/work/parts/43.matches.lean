/-! matches -/
def tm_M (c : Nat) (r d len : Nat → Nat) (kd A : Nat → Int32) (s m : Nat) : Prop :=
  0 < len s ∧ te_R (40 * s) (40 * s + len s) kd (40 * s) < 4 ∧ ∃ l, l < c ∧ (td_An d l m ∨ l = m) ∧ bt (A (40 * s * 24 + r l)) (r m) = true
section
variable {f_nodeCount f_draftLength f_resultLength : Int32} {a_inUse a_parentOf a_rankOf a_nameOf a_valueOf a_order a_along a_draftKind a_draftValue a_draftEnd a_tokenKind a_tokenValue a_tokenEnd a_slotLength a_setAt a_amount a_reached a_agenda a_isTemplate a_matchSlot a_priorityOf a_outSlot a_onSlot a_waiting a_result : Nat → Int32} {c n : Nat} {r d len : Nat → Nat} {kd wt lt : Nat → Int32}
theorem wx_isMatched {post : Int32 → Prop} {t s m : Nat} (T : td_T c r d) (X : re_XT c r d f_nodeCount a_inUse a_parentOf a_rankOf a_order a_along) (hK : re_K n len a_draftKind a_draftValue a_tokenKind a_tokenValue a_tokenEnd a_slotLength kd wt lt) (ht : t < 6) (hs : s < 8) (hms : a_matchSlot t = nI s) (hm : m < c)
    (h1 : tm_M c r d len kd a_setAt s m → post 1) (h0 : ¬ tm_M c r d len kd a_setAt s m → post 0) : wpX_isMatched post (f_nodeCount, f_draftLength, f_resultLength, a_inUse, a_parentOf, a_rankOf, a_nameOf, a_valueOf, a_order, a_along, a_draftKind, a_draftValue, a_draftEnd, a_tokenKind, a_tokenValue, a_tokenEnd, a_slotLength, a_setAt, a_amount, a_reached, a_agenda, a_isTemplate, a_matchSlot, a_priorityOf, a_outSlot, a_onSlot, a_waiting, a_result) (nI t) (nI (r m)) := by
  have rm := T.2.2.2.1 m hm
  have et : (nI t).toNatClampNeg = t := nI_clamp (by omega)
  have vt : vp_in (nI t) 6 := vp_in_nI ht (by omega)
  unfold wpX_isMatched
  refine ⟨vt, ?_⟩
  rw [et, hms]
  refine wx_gives hK (fun s' hs' es hl h4 => br_f (by decide) ⟨vt, ?_⟩) (fun w => br_t rfl (h0 (fun g => w ⟨s, hs, rfl, g.1, g.2.1⟩)))
  rw [nI_eq (by omega) (by omega)] at es
  subst es
  have e1 : nI s * 40 * 24 = nI (40 * s * 24) := by rw [re_e40, show (24 : Int32) = nI 24 from rfl, pk_mul]
  have e2 : (240 : Int32) + nI (r m) = nI (10 * 24 + r m) := by rw [show (240 : Int32) = nI (10 * 24) from rfl, nI_add]
  have on : ∀ q, q < 24 → (bt (a_along (10 * 24 + r m)) q = true ↔ ∃ l, l < c ∧ r l = q ∧ (td_An d l m ∨ l = m)) := fun q hq => by
    rw [(X.2.2.2.2 10 (by omega) (r m) rm).2 q hq]
    constructor
    · rintro ⟨a, l, ha, hl', w1, w2, w3⟩
      rw [T.2.2.2.2 a m ha hm w1, td_on10] at w3
      exact ⟨l, hl', w2, w3⟩
    · rintro ⟨l, hl', w2, w3⟩
      exact ⟨m, l, hm, hl', rfl, w2, td_on10.mpr w3⟩
  have key : ∀ k i, i + k = 24 → (∀ g, g < i → ¬ (bt (a_along (10 * 24 + r m)) g = true ∧ bt (a_setAt (40 * s * 24 + g)) (r m) = true)) → wX_isMatched_43 post (nI (r m)) (nI (40 * s * 24)) (a_along (10 * 24 + r m)) f_nodeCount f_draftLength f_resultLength a_inUse a_parentOf a_rankOf a_nameOf a_valueOf a_order a_along a_draftKind a_draftValue a_draftEnd a_tokenKind a_tokenValue a_tokenEnd a_slotLength a_setAt a_amount a_reached a_agenda a_isTemplate a_matchSlot a_priorityOf a_outSlot a_onSlot a_waiting a_result (k + 1) (nI i) := by
    intro k
    induction k with
    | zero =>
      intro i hi hg
      refine br_t (nI_le (a := 24) (b := i) (by omega) (by omega)) (h0 (fun ⟨_, _, l, hl', w1, w2⟩ => ?_))
      have rl := T.2.2.2.1 l hl'
      exact hg (r l) (by omega) ⟨(on _ rl).mpr ⟨l, hl', rfl, w1⟩, w2⟩
    | succ k ih =>
      intro i hi hg
      have nx : ¬ (bt (a_along (10 * 24 + r m)) i = true ∧ bt (a_setAt (40 * s * 24 + i)) (r m) = true) → wX_isMatched_43 post (nI (r m)) (nI (40 * s * 24)) (a_along (10 * 24 + r m)) f_nodeCount f_draftLength f_resultLength a_inUse a_parentOf a_rankOf a_nameOf a_valueOf a_order a_along a_draftKind a_draftValue a_draftEnd a_tokenKind a_tokenValue a_tokenEnd a_slotLength a_setAt a_amount a_reached a_agenda a_isTemplate a_matchSlot a_priorityOf a_outSlot a_onSlot a_waiting a_result (k + 1) (nI (i + 1)) := fun w => ih (i + 1) (by omega) (fun g hg' => by
        by_cases y : g = i
        · subst y; exact w
        · exact hg g (by omega))
      refine br_f (nI_ge (a := i) (b := 24) (by omega) (by omega)) ?_
      by_cases z : bt (a_along (10 * 24 + r m)) i = true
      · refine br_f (fun w => by rw [mk_f (by omega), z] at w; cases w) ⟨by rw [nI_add]; exact vp_in_nI (by omega) (by omega), ?_⟩
        rw [nI_add, nI_clamp (by omega)]
        by_cases y : bt (a_setAt (40 * s * 24 + i)) (r m) = true
        · refine br_f (fun w => by rw [mk_f (by omega), y] at w; cases w) (h1 ?_)
          obtain ⟨l, hl', w2, w3⟩ := (on i (by omega)).mp z
          exact ⟨hl, h4, l, hl', w3, by rw [w2]; exact y⟩
        · exact br_t ((mk_f (by omega)).mpr (tz_nb y)) (nm_r (nI_1 i) (nx (fun w => y w.2)))
      · exact br_t ((mk_f (by omega)).mpr (tz_nb z)) (nm_r (nI_1 i) (nx (fun w => z w.1)))
  refine nm_r e1 ⟨by rw [e2]; exact vp_in_nI (by omega) (by omega), nm_r (e' := a_along (10 * 24 + r m)) (by rw [e2, nI_clamp (by omega)]) ⟨25, key 24 0 rfl (fun g hg => by omega)⟩⟩
end
section
variable {f_count f_top f_listed f_outputs : Int32} {a_row a_depth a_name a_value a_moved a_kind a_with a_length a_sets a_fresh a_type a_number a_set a_list a_there a_match a_priority a_out a_on a_todo a_within a_output : Nat → Int32} {c n : Nat} {r d len : Nat → Nat} {dk dv tk tv te sl A : Nat → Int32}
theorem wy_match {post : Int32 → SY → Prop} {t s m : Nat} (T : td_T c r d) (Y : re_YT c r d f_count a_row a_depth) (hK : re_K n len dk dv tk tv te sl a_kind a_with a_length) (hF : re_F c r d len a_name a_value a_kind a_with te a_sets a_fresh) (ht : t < 6) (hs : s < 8) (hms : a_match t = nI s) (hm : m < c)
    (hA : tk_Eq c r d a_name a_value (te_R (40 * s) (40 * s + len s) a_kind) (te_R (40 * s) (40 * s + len s) a_with) (te_R (40 * s) (40 * s + len s) te) (te_V (40 * s) (40 * s + len s) a_with) (40 * s) (40 * s + len s) (fun t n => A (t * 24 + n)))
    (h1 : a_there t ≠ 0 → tm_M c r d len a_kind A s m → ∀ B fr top li ty nb st la, re_F c r d len a_name a_value a_kind a_with te B fr → post 1 (f_count, top, li, f_outputs, a_row, a_depth, a_name, a_value, a_moved, a_kind, a_with, a_length, B, fr, ty, nb, st, la, a_there, a_match, a_priority, a_out, a_on, a_todo, a_within, a_output))
    (h0 : ¬ (a_there t ≠ 0 ∧ tm_M c r d len a_kind A s m) → ∀ B fr top li ty nb st la, re_F c r d len a_name a_value a_kind a_with te B fr → post 0 (f_count, top, li, f_outputs, a_row, a_depth, a_name, a_value, a_moved, a_kind, a_with, a_length, B, fr, ty, nb, st, la, a_there, a_match, a_priority, a_out, a_on, a_todo, a_within, a_output)) :
    wpY_matches post (f_count, f_top, f_listed, f_outputs, a_row, a_depth, a_name, a_value, a_moved, a_kind, a_with, a_length, a_sets, a_fresh, a_type, a_number, a_set, a_list, a_there, a_match, a_priority, a_out, a_on, a_todo, a_within, a_output) (nI t) (nI (r m)) := by
  have c24 := T.1
  have rm := T.2.2.2.1 m hm
  have et : (nI t).toNatClampNeg = t := nI_clamp (by omega)
  have vt : vp_in (nI t) 6 := vp_in_nI ht (by omega)
  unfold wpY_matches
  refine wy_in0 (n := 5) (by omega) (fun _ _ _ => br_f (by decide) ⟨vt, ?_⟩) (fun w => absurd rfl (w t (by omega)))
  rw [et]
  by_cases z : a_there t = 0
  · exact br_t z (h0 (fun w => w.1 z) a_sets a_fresh f_top f_listed a_type a_number a_set a_list hF)
  refine br_f z (wy_where1 T Y hm (br_f (nI_pos (by omega)) ⟨vt, ?_⟩))
  rw [hms]
  refine wy_isSet hK hs (fun hl h4 => br_f (by decide) ⟨c + 1, ?_⟩) (fun w => br_t rfl (h0 (fun g => w ⟨g.2.1, g.2.2.1⟩) a_sets a_fresh f_top f_listed a_type a_number a_set a_list hF))
  have key : ∀ k i B fr top li ty nb st la, i + k = c → re_F c r d len a_name a_value a_kind a_with te B fr → (∀ l, l < i → ¬ ((td_An d l m ∨ l = m) ∧ bt (A (40 * s * 24 + r l)) (r m) = true)) →
      wY_matches_43 post (nI t) (nI (r m)) (k + 1) (nI i) f_count top li f_outputs a_row a_depth a_name a_value a_moved a_kind a_with a_length B fr ty nb st la a_there a_match a_priority a_out a_on a_todo a_within a_output := by
    intro k
    induction k with
    | zero =>
      intro i B fr top li ty nb st la hi hf hl'
      refine br_t (by rw [Y.1]; exact nI_le (by omega) (by omega)) (h0 (fun ⟨_, _, _, l, w1, w2, w3⟩ => hl' l (by omega) ⟨w2, w3⟩) B fr top li ty nb st la hf)
    | succ k ih =>
      intro i B fr top li ty nb st la hi hf hl'
      have ri := T.2.2.2.1 i (by omega)
      have nx : ∀ B fr top li ty nb st la, re_F c r d len a_name a_value a_kind a_with te B fr → ¬ ((td_An d i m ∨ i = m) ∧ bt (A (40 * s * 24 + r i)) (r m) = true) → wY_matches_43 post (nI t) (nI (r m)) (k + 1) (nI (i + 1)) f_count top li f_outputs a_row a_depth a_name a_value a_moved a_kind a_with a_length B fr ty nb st la a_there a_match a_priority a_out a_on a_todo a_within a_output := fun B fr top li ty nb st la hf w =>
        ih (i + 1) B fr top li ty nb st la (by omega) hf (fun l hl2 => by
          by_cases y : l = i
          · subst y; exact w
          · exact hl' l (by omega))
      have s75 : (td_An d i m ∨ i = m) → wY_matches_75 post (wY_matches_43 post (nI t) (nI (r m)) (k + 1)) (nI t) (nI (r m)) (nI i) (nI (r i)) f_count top li f_outputs a_row a_depth a_name a_value a_moved a_kind a_with a_length B fr ty nb st la a_there a_match a_priority a_out a_on a_todo a_within a_output := by
        intro hin
        unfold wY_matches_75 wY_matches_80
        refine br_f (by decide) ⟨vt, ?_⟩
        rw [et, hms]
        refine wy_ask (m := i) T Y hK hf hs hl (by omega) (fun B2 fr2 top2 li2 ty2 nb2 st2 la2 g1 g2 En => ?_)
        have same := (re_same (pos := 1) (last := 1) (re_sy hK hs).2.2.2.2 (re_sy hK hs).1 hA g2 (t := 40 * s) (Nat.le_refl _) (by omega) (show i < c by omega)).1 h4
        have e0 := En.2.1
        rw [if_pos h4, ← same] at e0
        dsimp only
        rw [e0]
        by_cases y : bt (A (40 * s * 24 + r i)) (r m) = true
        · exact br_t ((mk_t (by omega)).mpr y) (h1 z ⟨hl, h4, i, by omega, hin, y⟩ B2 fr2 top2 li2 ty2 nb2 st2 la2 g1)
        · exact br_f (fun w => y ((mk_t (by omega)).mp w)) (nm_r (nI_1 i) (nx B2 fr2 top2 li2 ty2 nb2 st2 la2 g1 (fun w => y w.2)))
      refine br_f (by rw [Y.1]; exact nI_ge (by omega) (by omega)) ⟨vp_in_nI (by omega) (by omega), nm_r (e' := nI (r i)) (by rw [nI_clamp (by omega)]; exact Y.2.1 i (by omega)) ?_⟩
      by_cases y : i = m
      · exact br_t (by rw [y]) (s75 (Or.inr y))
      · refine br_f (fun w => y ?_) (wy_isBelow T Y (by omega) hm (fun w => br_f (by decide) (s75 (Or.inl w))) (fun w => br_t rfl ?_))
        · rw [nI_eq (by omega) (by omega)] at w
          exact T.2.2.2.2 i m (by omega) hm w
        · unfold wY_matches_80
          exact br_t rfl (nm_r (nI_1 i) (nx B fr top li ty nb st la hf (fun v => v.1.elim w y)))
  exact key c 0 a_sets a_fresh f_top f_listed a_type a_number a_set a_list (by omega) hF (fun l hl' => by omega)
end
theorem i_vc_matches {k : Nat} {u : SX} {v : SY} (I : i_Rel k u v) (hk : k + 6 ≤ 3072) (v1 : Int32) (v2 : Int32) : wpX_matches (fun r u' => wpY_matches (fun r' v' => r' = r ∧ i_Rel (k + 6) u' v') v v1 v2) u v1 v2 := by
  obtain ⟨f_nodeCount, f_draftLength, f_resultLength, a_inUse, a_parentOf, a_rankOf, a_nameOf, a_valueOf, a_order, a_along, a_draftKind, a_draftValue, a_draftEnd, a_tokenKind, a_tokenValue, a_tokenEnd, a_slotLength, a_setAt, a_amount, a_reached, a_agenda, a_isTemplate, a_matchSlot, a_priorityOf, a_outSlot, a_onSlot, a_waiting, a_result⟩ := u
  obtain ⟨f_count, f_top, f_listed, f_outputs, a_row, a_depth, a_name, a_value, a_moved, a_kind, a_with, a_length, a_sets, a_fresh, a_type, a_number, a_set, a_list, a_there, a_match, a_priority, a_out, a_on, a_todo, a_within, a_output⟩ := v
  have J := i_up I
  obtain ⟨c, n, mm, r, d, len, T, X, Y, e1, e2, hdl, hK, hF, e3, e4, e5, e6, e7, hP, hm, hrl, hou, e8⟩ := I
  subst e1 e2 e3 e4
  have c24 := T.1
  unfold wpX_matches
  by_cases z : v1 < 0
  · refine br_t z ?_
    unfold wpY_matches
    exact br_t z (br_t rfl ⟨rfl, J⟩)
  obtain ⟨t, ht', rfl⟩ := nI_of z
  by_cases y : 6 ≤ t
  · refine br_f z (br_t (nI_le (a := 6) y ht') ?_)
    unfold wpY_matches
    exact br_f z (br_t (nI_lt (a := 5) (by omega) ht') (br_t rfl ⟨rfl, J⟩))
  have ht : t < 6 := by omega
  have et : (nI t).toNatClampNeg = t := nI_clamp ht'
  have vt : vp_in (nI t) 6 := vp_in_nI ht (by omega)
  have yin : ∀ {Q : Int32 → Prop}, Q 1 → wpY_in Q (nI t) 0 5 := fun q => wy_in0 (n := 5) (by omega) (fun _ _ _ => q) (fun h => absurd rfl (h t (by omega)))
  obtain ⟨p1, ⟨s, hs, hms⟩, -, -⟩ := hP t ht
  refine br_f z (br_f (nI_ge (b := 6) ht (by omega)) ⟨vt, ?_⟩)
  rw [et]
  by_cases z0 : a_isTemplate t = 0
  · refine br_t z0 ?_
    unfold wpY_matches
    refine yin (br_f (by decide) ⟨vt, ?_⟩)
    rw [et]
    exact br_t z0 ⟨rfl, J⟩
  refine br_f z0 (wx_isNode T X.2.1 (fun m hmc em => br_f (by decide) ⟨vt, ?_⟩) (fun hno => br_t rfl ?_))
  rotate_left
  · unfold wpY_matches
    refine yin (br_f (by decide) ⟨vt, ?_⟩)
    rw [et]
    refine br_f z0 (wy_where T Y (fun w hw => ?_))
    rcases hw with ⟨i, hi, e, -⟩ | ⟨-, rfl⟩
    · exact absurd e (hno i hi)
    · exact br_t tz_m1lt ⟨rfl, J⟩
  subst em
  rw [hms]
  refine wx_prep T (by omega) X hK hs (fun A re am ag hA _ => wx_isMatched T X hK ht hs hms hmc (fun g => ⟨rfl, ?_⟩) (fun g => ⟨rfl, ?_⟩))
  · exact wy_match T Y hK hF ht hs hms hmc hA (fun _ _ B fr top li ty nb st la hf => ⟨rfl, c, n, mm, r, d, len, T, X, Y, rfl, rfl, hdl, hK, hf, rfl, rfl, e5, e6, e7, hP, hm, hrl, hou, e8⟩) (fun w => absurd ⟨z0, g⟩ w)
  · exact wy_match T Y hK hF ht hs hms hmc hA (fun _ w => absurd w g) (fun _ B fr top li ty nb st la hf => ⟨rfl, c, n, mm, r, d, len, T, X, Y, rfl, rfl, hdl, hK, hf, rfl, rfl, e5, e6, e7, hP, hm, hrl, hou, e8⟩)
