/-! transform -/
section
variable {f_count f_top f_listed f_outputs : Int32} {a_row a_depth a_name a_value a_moved a_kind a_with a_length a_sets a_fresh a_type a_number a_set a_list a_there a_match a_priority a_out a_on a_todo a_within a_output : Nat → Int32} {c n : Nat} {r d len : Nat → Nat} {dk dv tk tv te sl A : Nat → Int32}
/-- the nodes to be handled within go onto the stack -/
theorem wy_push {post : Int32 → SY → Prop} {J : Int32 → Int32 → Int32 → Int32 → Int32 → Int32 → (Nat → Int32) → (Nat → Int32) → (Nat → Int32) → (Nat → Int32) → (Nat → Int32) → (Nat → Int32) → (Nat → Int32) → (Nat → Int32) → (Nat → Int32) → (Nat → Int32) → (Nat → Int32) → (Nat → Int32) → (Nat → Int32) → (Nat → Int32) → (Nat → Int32) → (Nat → Int32) → (Nat → Int32) → (Nat → Int32) → (Nat → Int32) → (Nat → Int32) → (Nat → Int32) → (Nat → Int32) → Prop} {x3 x7 : Int32} {dp : Nat} {rest : List (Nat × Nat)} (T : td_T c r d) (Y : re_YT c r d f_count a_row a_depth) (hdp : dp < 100) (hrest : rest.length ≤ 1000)
    (h : ∀ todo wi, tt_St todo wi ((tt_l r x7 c 0).map (fun n => (n, dp + 1)) ++ rest) → J (nI ((tt_l r x7 c 0).map (fun n => (n, dp + 1)) ++ rest).length) x3 f_count f_top f_listed f_outputs a_row a_depth a_name a_value a_moved a_kind a_with a_length a_sets a_fresh a_type a_number a_set a_list a_there a_match a_priority a_out a_on todo wi a_output) :
    ∀ i todo wi, i ≤ c → tt_St todo wi ((tt_l r x7 (c - i) i).map (fun n => (n, dp + 1)) ++ rest) → wY_transform_230 post J x3 (nI dp) x7 f_count f_top f_listed f_outputs (i + 1) (nI ((tt_l r x7 (c - i) i).map (fun n => (n, dp + 1)) ++ rest).length) (nI i - 1) a_row a_depth a_name a_value a_moved a_kind a_with a_length a_sets a_fresh a_type a_number a_set a_list a_there a_match a_priority a_out a_on todo wi a_output := by
  have c24 := T.1
  intro i
  induction i with
  | zero =>
    intro todo wi hi hst
    exact br_t (by decide) (h todo wi hst)
  | succ i ih =>
    intro todo wi hi hst
    have ri := T.2.2.2.1 i (by omega)
    have ei : a_row (nI i).toNatClampNeg = nI (r i) := by rw [nI_clamp (by omega)]; exact Y.2.1 i (by omega)
    have st := tt_l_s r x7 (c - (i + 1)) i
    rw [show c - (i + 1) + 1 = c - i by omega] at st
    have ln : ((tt_l r x7 (c - (i + 1)) (i + 1)).map (fun n => (n, dp + 1)) ++ rest).length ≤ 1100 := by
      have := tt_l_len r x7 (c - (i + 1)) (i + 1)
      rw [List.length_append, List.length_map]
      omega
    rw [nI_pred]
    refine br_f (nI_pos (by omega)) ⟨vp_in_nI (by omega) (by omega), ?_⟩
    rw [ei]
    by_cases z : bt x7 (r i) = true
    · rw [if_pos z] at st
      refine br_f (fun w => by rw [mk_f (by omega), z] at w; cases w) ⟨vp_in_nI (by omega) (by omega), vp_in_nI (by omega) (by omega), nm_r (e' := upd todo ((tt_l r x7 (c - (i + 1)) (i + 1)).map (fun n => (n, dp + 1)) ++ rest).length (nI (r i))) (by rw [nI_clamp (by omega)]) (nm_r (nI_1 _) ⟨vp_in_nI (by omega) (by omega), nm_r (e' := upd wi ((tt_l r x7 (c - (i + 1)) (i + 1)).map (fun n => (n, dp + 1)) ++ rest).length (nI (dp + 1))) (by rw [nI_clamp (by omega), nI_1]) (nm_r (tz_m1s _) ?_)⟩)⟩
      have nx := ih (upd todo ((tt_l r x7 (c - (i + 1)) (i + 1)).map (fun n => (n, dp + 1)) ++ rest).length (nI (r i))) (upd wi ((tt_l r x7 (c - (i + 1)) (i + 1)).map (fun n => (n, dp + 1)) ++ rest).length (nI (dp + 1))) (by omega)
      rw [st] at nx
      exact nx (tt_St_push hst)
    · rw [if_neg z] at st
      refine br_t ((mk_f (by omega)).mpr (tz_nb z)) (nm_r (tz_m1s _) ?_)
      have nx := ih todo wi (by omega)
      rw [st] at nx
      exact nx hst
theorem wy_push0 {post : Int32 → SY → Prop} {J : Int32 → Int32 → Int32 → Int32 → Int32 → Int32 → (Nat → Int32) → (Nat → Int32) → (Nat → Int32) → (Nat → Int32) → (Nat → Int32) → (Nat → Int32) → (Nat → Int32) → (Nat → Int32) → (Nat → Int32) → (Nat → Int32) → (Nat → Int32) → (Nat → Int32) → (Nat → Int32) → (Nat → Int32) → (Nat → Int32) → (Nat → Int32) → (Nat → Int32) → (Nat → Int32) → (Nat → Int32) → (Nat → Int32) → (Nat → Int32) → (Nat → Int32) → Prop} {x3 x7 : Int32} {dp : Nat} {rest : List (Nat × Nat)} (T : td_T c r d) (Y : re_YT c r d f_count a_row a_depth) (hdp : dp < 100) (hrest : rest.length ≤ 1000) (hst : tt_St a_todo a_within rest)
    (h : ∀ todo wi, tt_St todo wi ((tt_l r x7 c 0).map (fun n => (n, dp + 1)) ++ rest) → J (nI ((tt_l r x7 c 0).map (fun n => (n, dp + 1)) ++ rest).length) x3 f_count f_top f_listed f_outputs a_row a_depth a_name a_value a_moved a_kind a_with a_length a_sets a_fresh a_type a_number a_set a_list a_there a_match a_priority a_out a_on todo wi a_output) :
    ∀ x8, x8 = f_count - 1 → ∃ n230, wY_transform_230 post J x3 (nI dp) x7 f_count f_top f_listed f_outputs n230 (nI rest.length) x8 a_row a_depth a_name a_value a_moved a_kind a_with a_length a_sets a_fresh a_type a_number a_set a_list a_there a_match a_priority a_out a_on a_todo a_within a_output := by
  intro x8 e8
  have p := wy_push (post := post) T Y hdp hrest h c a_todo a_within (Nat.le_refl _) (by rw [Nat.sub_self]; exact hst)
  rw [Nat.sub_self] at p
  have e9 : x8 = nI c - 1 := by rw [e8, Y.1]
  rw [e9]
  exact ⟨c + 1, p⟩
theorem wy_follow {post : Int32 → SY → Prop} {J : Int32 → Int32 → Int32 → Int32 → Int32 → Int32 → (Nat → Int32) → (Nat → Int32) → (Nat → Int32) → (Nat → Int32) → (Nat → Int32) → (Nat → Int32) → (Nat → Int32) → (Nat → Int32) → (Nat → Int32) → (Nat → Int32) → (Nat → Int32) → (Nat → Int32) → (Nat → Int32) → (Nat → Int32) → (Nat → Int32) → (Nat → Int32) → (Nat → Int32) → (Nat → Int32) → (Nat → Int32) → (Nat → Int32) → (Nat → Int32) → (Nat → Int32) → Prop} {j m dp ol ol' : Nat} {x3 mask : Int32} {res' : Nat → Int32} {rest : List (Nat × Nat)}
    (T : td_T c r d) (Y : re_YT c r d f_count a_row a_depth) (hK : re_K n len dk dv tk tv te sl a_kind a_with a_length) (hF : re_F c r d len a_name a_value a_kind a_with te a_sets a_fresh) (hP : re_P a_there a_match a_out a_on) (hA : tm_A c r d len a_name a_value a_kind a_with te A 8) (hj : j < 6) (hm : m < c) (hol : f_outputs = nI ol) (ol100 : ol < 100)
    (hdp : dp < 100) (hrest : rest.length ≤ 1000) (hst : tt_St a_todo a_within rest)
    (hO : tm_Out c r len a_value a_kind a_with te A m (a_out j) ol a_output ol' res') (hN : tm_On r len a_kind A m (a_on j) mask)
    (h : ∀ B fr top li ty nb st la todo wi, re_F c r d len a_name a_value a_kind a_with te B fr → tt_St todo wi ((tt_l r mask c 0).map (fun n => (n, dp + 1)) ++ rest) → J (nI ((tt_l r mask c 0).map (fun n => (n, dp + 1)) ++ rest).length) x3 f_count top li (nI ol') a_row a_depth a_name a_value a_moved a_kind a_with a_length B fr ty nb st la a_there a_match a_priority a_out a_on todo wi res') :
    wY_transform_106 post J (nI rest.length) x3 (nI (r m)) (nI dp) (nI j) 0 f_count f_top f_listed f_outputs a_row a_depth a_name a_value a_moved a_kind a_with a_length a_sets a_fresh a_type a_number a_set a_list a_there a_match a_priority a_out a_on a_todo a_within a_output := by
  subst hol
  have ej : (nI j).toNatClampNeg = j := nI_clamp (by omega)
  have vj : vp_in (nI j) 6 := vp_in_nI hj (by omega)
  obtain ⟨-, -, po, pn⟩ := hP j hj
  have s172 : ∀ B fr top li ty nb st la, re_F c r d len a_name a_value a_kind a_with te B fr → wY_transform_172 post J (nI rest.length) x3 (nI (r m)) (nI dp) (nI j) 0 f_count top li (nI ol') a_row a_depth a_name a_value a_moved a_kind a_with a_length B fr ty nb st la a_there a_match a_priority a_out a_on a_todo a_within res' := by
    intro B fr top li ty nb st la hf
    unfold wY_transform_172
    refine br_f (nI_pos (by omega)) ⟨vj, ?_⟩
    rw [ej]
    have zero : ¬ (∃ s, s < 8 ∧ a_on j = nI s ∧ 0 < len s ∧ te_R (40 * s) (40 * s + len s) a_kind (40 * s) < 4) → ∀ x8, x8 = f_count - 1 → ∃ n230, wY_transform_230 post J x3 (nI dp) 0 f_count top li (nI ol') n230 (nI rest.length) x8 a_row a_depth a_name a_value a_moved a_kind a_with a_length B fr ty nb st la a_there a_match a_priority a_out a_on a_todo a_within res' := by
      intro w
      rcases hN with ⟨s, a1, a2, a3, a4, a5⟩ | ⟨-, e0⟩
      · exact absurd ⟨s, a1, a2, a3, a4⟩ w
      · subst e0
        exact wy_push0 T Y hdp hrest hst (fun todo wi g => h B fr top li ty nb st la todo wi hf g)
    rcases pn with pn | ⟨s, hs, pn⟩
    · exact br_t (by rw [pn]; decide) (zero (fun ⟨s, hs, e, _⟩ => by rw [pn] at e; exact tx_m1 (by omega) e))
    · refine br_f (by rw [pn]; exact nI_pos (by omega)) ⟨vj, ?_⟩
      rw [pn]
      refine wy_isSet hK hs (fun hl h4 => br_f (by decide) ⟨vj, ?_⟩) (fun w => br_t rfl (zero (fun ⟨s', hs', e, g1, g2⟩ => w ?_)))
      · refine wy_ask T Y hK hf hs hl hm (fun B2 fr2 top2 li2 ty2 nb2 st2 la2 g1 g2 En => ?_)
        have same := (re_same (pos := 1) (last := 1) (re_sy hK hs).2.2.2.2 (re_sy hK hs).1 (hA s hs) g2 (t := 40 * s) (Nat.le_refl _) (by omega) hm).1 h4
        have e0 := En.2.1
        rw [if_pos h4, ← same] at e0
        have em : mask = A (40 * s * 24 + r m) := by
          rcases hN with ⟨s', a1, a2, a3, a4, a5⟩ | ⟨w, -⟩
          · rw [pn, nI_eq (by omega) (by omega)] at a2
            subst a2
            exact a5
          · exact absurd ⟨s, hs, pn, hl, h4⟩ w
        exact nm_r (e' := mask) (by rw [e0, em]) (wy_push0 T Y hdp hrest hst (fun todo wi g => h B2 fr2 top2 li2 ty2 nb2 st2 la2 todo wi g1 g))
      · rw [pn, nI_eq (by omega) (by omega)] at e
        subst e
        exact ⟨g1, g2⟩
  unfold wY_transform_106
  refine br_f (nI_pos (by omega)) ⟨vj, ?_⟩
  rw [ej]
  have skip : ¬ (∃ s, s < 8 ∧ a_out j = nI s ∧ 0 < len s) → wY_transform_172 post J (nI rest.length) x3 (nI (r m)) (nI dp) (nI j) 0 f_count f_top f_listed (nI ol) a_row a_depth a_name a_value a_moved a_kind a_with a_length a_sets a_fresh a_type a_number a_set a_list a_there a_match a_priority a_out a_on a_todo a_within a_output := by
    intro w
    rcases hO with ⟨s, a1, a2, a3, -⟩ | ⟨-, e1, e2⟩
    · exact absurd ⟨s, a1, a2, a3⟩ w
    · subst e1 e2
      exact s172 a_sets a_fresh f_top f_listed a_type a_number a_set a_list hF
  rcases po with po | ⟨s, hs, po⟩
  · exact br_t (by rw [po]; decide) (skip (fun ⟨s, hs, e, _⟩ => by rw [po] at e; exact tx_m1 (by omega) e))
  · obtain ⟨q1, q2, q3⟩ := hK.2.2.2.2.2 s hs
    have l40 := q3.1
    refine br_f (by rw [po]; exact nI_pos (by omega)) ⟨vj, by rw [po]; exact vp_in_nI (by omega) (by omega), ?_⟩
    rw [po, nI_clamp (n := s) (by omega), q2]
    by_cases y : len s = 0
    · refine br_t (by rw [y]; decide) (skip (fun ⟨s', hs', e, g⟩ => ?_))
      rw [po, nI_eq (by omega) (by omega)] at e
      subst e
      omega
    · refine br_f (nI_nle (by omega) (by omega)) ⟨vj, wy_ask T Y hK hF hs (by omega) hm (fun B2 fr2 top2 li2 ty2 nb2 st2 la2 g1 g2 En => nm_r (nI_1 ol) (wy_plain (p := 0) T Y En (by omega) ⟨vp_in_nI ol100 (by omega), ?_⟩))⟩
      have same := (re_same (pos := 1) (last := 1) (re_sy hK hs).2.2.2.2 (re_sy hK hs).1 (hA s hs) g2 (t := 40 * s) (Nat.le_refl _) (by omega) hm).2
      rcases hO with ⟨s', a1, a2, a3, a4, a5⟩ | ⟨w, -⟩
      · rw [po, nI_eq (by omega) (by omega)] at a2
        subst a2
        subst a4
        refine nm_r (e' := res') ?_ (s172 B2 fr2 top2 li2 ty2 nb2 st2 la2 g1)
        rw [nI_clamp (by omega), a5, tn_pl_c same]
      · exact absurd ⟨s, hs, po, by omega⟩ w
end
