/-! insert -/
section
variable {f_count f_top f_listed f_outputs : Int32} {a_row a_depth a_name a_value a_moved a_kind a_with a_length a_sets a_fresh a_type a_number a_set a_list a_there a_match a_priority a_out a_on a_todo a_within a_output : Nat → Int32} {c : Nat} {r d : Nat → Nat}
theorem wy_ins101 {post : Int32 → SY → Prop} {x q : Nat} {v3 D : Int32} (hc : c < 24) (hx : x ≤ c) (hq : q < 24) (hcnt : f_count = nI c)
    (h : ∀ row' fr, (∀ j, j < x → row' j = a_row j) → row' x = nI q → (∀ j, x ≤ j → j < c → row' (j + 1) = a_row j) → (∀ s, s < 8 → fr s = 0) →
      post (nI q) (nI (c + 1), f_top, f_listed, f_outputs, row', upd a_depth q D, upd a_name q v3, upd a_value q 0, a_moved, a_kind, a_with, a_length, a_sets, fr, a_type, a_number, a_set, a_list, a_there, a_match, a_priority, a_out, a_on, a_todo, a_within, a_output)) :
    ∀ k row', (∀ j, j ≤ x + k → row' j = a_row j) → (∀ j, x + k ≤ j → j < c → row' (j + 1) = a_row j) → x + k ≤ c → wY_insert_101 post v3 (nI x) D (nI q) f_count f_top f_listed f_outputs (k + 1) (nI (x + k)) row' a_depth a_name a_value a_moved a_kind a_with a_length a_sets a_fresh a_type a_number a_set a_list a_there a_match a_priority a_out a_on a_todo a_within a_output := by
  have ex : (nI x).toNatClampNeg = x := nI_clamp (by omega)
  have eq : (nI q).toNatClampNeg = q := nI_clamp (by omega)
  have vq : vp_in (nI q) 24 := vp_in_nI hq (by omega)
  intro k
  induction k with
  | zero =>
    intro row' h1 h2 h3
    refine br_t (nI_le (by omega) (by omega)) ⟨vp_in_nI (by omega) (by omega), nm_r (e' := upd row' x (nI q)) (by rw [ex]) (nm_r (e' := nI (c + 1)) (by rw [hcnt, nI_1]) ⟨vq, nm_r (e' := upd a_depth q D) (by rw [eq]) ⟨vq, nm_r (e' := upd a_name q v3) (by rw [eq]) ⟨vq, nm_r (e' := upd a_value q 0) (by rw [eq]) (wy_changed (fun fr hf => h _ fr (fun j hj => ?_) pk_us (fun j a b => ?_) hf))⟩⟩⟩)⟩
    · rw [pk_un (by omega)]; exact h1 j (by omega)
    · rw [pk_un (by omega)]; exact h2 j (by omega) b
  | succ k ih =>
    intro row' h1 h2 h3
    have e1 : nI (x + (k + 1)) - 1 = nI (x + k) := pk_sub (a := x + (k + 1)) (b := 1) (by omega)
    have e2 : (nI (x + (k + 1))).toNatClampNeg = x + k + 1 := nI_clamp (by omega)
    refine br_f (nI_ge (by omega) (by omega)) ⟨by rw [e1]; exact vp_in_nI (by omega) (by omega), vp_in_nI (by omega) (by omega), nm_r (e' := upd row' (x + k + 1) (row' (x + k))) (by rw [e1, e2, nI_clamp (by omega)]) (nm_r (pk_m1 (x + k)) (ih _ (fun j hj => ?_) (fun j a b => ?_) (by omega)))⟩
    · rw [pk_un (by omega)]; exact h1 j (by omega)
    · by_cases z : j = x + k
      · subst z
        rw [pk_us]; exact h1 _ (by omega)
      · rw [pk_un (by omega)]; exact h2 j (by omega) b
theorem wy_ins80 {post : Int32 → SY → Prop} {x q : Nat} {v3 D : Int32} (T : td_T c r d) (Y : re_YT c r d f_count a_row a_depth) (hc : c < 24) (hx : x ≤ c) (hq : q < 24) (hfree : ∀ i, i < c → r i ≠ q) (hles : ∀ p, p < q → ∃ i, i < c ∧ r i = p)
    (h : ∀ row' fr, (∀ j, j < x → row' j = a_row j) → row' x = nI q → (∀ j, x ≤ j → j < c → row' (j + 1) = a_row j) → (∀ s, s < 8 → fr s = 0) →
      post (nI q) (nI (c + 1), f_top, f_listed, f_outputs, row', upd a_depth q D, upd a_name q v3, upd a_value q 0, a_moved, a_kind, a_with, a_length, a_sets, fr, a_type, a_number, a_set, a_list, a_there, a_match, a_priority, a_out, a_on, a_todo, a_within, a_output)) :
    ∃ n80, wY_insert_80 post v3 (nI x) D f_count f_top f_listed f_outputs a_row a_depth a_name a_value a_moved a_kind a_with a_length a_sets a_fresh a_type a_number a_set a_list a_there a_match a_priority a_out a_on a_todo a_within a_output n80 0 := by
  have key : ∀ k p, p + k = q → wY_insert_80 post v3 (nI x) D f_count f_top f_listed f_outputs a_row a_depth a_name a_value a_moved a_kind a_with a_length a_sets a_fresh a_type a_number a_set a_list a_there a_match a_priority a_out a_on a_todo a_within a_output (k + 1) (nI p) := by
    intro k
    induction k with
    | zero =>
      intro p hp
      have e : p = q := by omega
      subst e
      refine wy_where T Y (fun w hw => ?_)
      rcases hw with ⟨i, hi, e, -⟩ | ⟨-, rfl⟩
      · rw [nI_eq (by omega) (by have := T.2.2.2.1 i hi; omega)] at e
        exact absurd e.symm (hfree i hi)
      · refine br_t tz_m1lt ⟨c - x + 1, ?_⟩
        have := wy_ins101 (a_fresh := a_fresh) (v3 := v3) (D := D) hc hx hq Y.1 h (c - x) a_row (fun j _ => rfl) (fun j a b => by omega) (by omega)
        rw [show x + (c - x) = c by omega, ← Y.1] at this
        exact this
    | succ k ih =>
      intro p hp
      obtain ⟨i, hi, rfl⟩ := hles p (by omega)
      exact wy_where1 T Y hi (br_f (nI_pos (by have := T.1; omega)) (nm_r (nI_1 (r i)) (ih (r i + 1) (by omega))))
  exact ⟨q + 1, key q 0 (by omega)⟩
end
section
variable {f_nodeCount f_draftLength f_resultLength : Int32} {a_inUse a_parentOf a_rankOf a_nameOf a_valueOf a_order a_along a_draftKind a_draftValue a_draftEnd a_tokenKind a_tokenValue a_tokenEnd a_slotLength a_setAt a_amount a_reached a_agenda a_isTemplate a_matchSlot a_priorityOf a_outSlot a_onSlot a_waiting a_result : Nat → Int32} {c : Nat} {r d : Nat → Nat}
theorem wx_childCount {post : Int32 → Prop} {p e : Nat} (T : td_T c r d) (hal : tx_Rep a_along (tx_R0 r d c)) (hp : p < c) (he : td_En c d p e) (h : post (nI (td_ct d (d p + 1) (p + 1) e))) : wpX_childCount post (f_nodeCount, f_draftLength, f_resultLength, a_inUse, a_parentOf, a_rankOf, a_nameOf, a_valueOf, a_order, a_along, a_draftKind, a_draftValue, a_draftEnd, a_tokenKind, a_tokenValue, a_tokenEnd, a_slotLength, a_setAt, a_amount, a_reached, a_agenda, a_isTemplate, a_matchSlot, a_priorityOf, a_outSlot, a_onSlot, a_waiting, a_result) (nI (r p)) := by
  have rp := T.2.2.2.1 p hp
  have e1 : (24 : Int32) + nI (r p) = nI (1 * 24 + r p) := by rw [show (24 : Int32) = nI (1 * 24) from rfl, nI_add]
  unfold wpX_childCount
  refine ⟨by rw [e1]; exact vp_in_nI (by omega) (by omega), wx_count ?_⟩
  rw [e1, nI_clamp (by omega)]
  have e2 := tc_inj (r := r) (Q := fun l => tk_d (td_Pa d p l)) c (bt (a_along (1 * 24 + r p))) T.2.2.2.1 T.2.2.2.2 (fun q hq => by
    rw [(hal 1 (by omega) (r p) rp).2 q hq]
    constructor
    · rintro ⟨x, y, hx, hy, q1, q2, q3⟩
      rw [T.2.2.2.2 x p hx hp q1, td_on1] at q3
      exact ⟨y, hy, q2, tk_d_t.mpr q3⟩
    · rintro ⟨y, hy, q2, q3⟩
      exact ⟨p, y, hp, hy, rfl, q2, td_on1.mpr (tk_d_t.mp q3)⟩)
  rw [e2, tc_children T.2.1 he c (Nat.le_refl _)]
  have := he.2.1
  by_cases z : c ≤ e
  · rw [if_pos z, show c = e by omega]; exact h
  · rw [if_neg z]; exact h
theorem wx_ins71 {post : Int32 → SX → Prop} {q c' : Nat} {r' d' : Nat → Nat} {v3 : Int32} (T : td_T c' r' d') (hc : f_nodeCount + 1 = nI c') (U : tx_U c' r' (upd a_inUse q 1)) (P : tx_PR c' r' d' a_parentOf a_rankOf) (hq : q < 24)
    (h : ∀ od al, (∀ j, j < c' → od j = nI (r' j)) → tx_Rep al (tx_R0 r' d' c') → post (nI q) (nI c', f_draftLength, f_resultLength, upd a_inUse q 1, a_parentOf, a_rankOf, upd a_nameOf q v3, upd a_valueOf q 0, od, al, a_draftKind, a_draftValue, a_draftEnd, a_tokenKind, a_tokenValue, a_tokenEnd, a_slotLength, a_setAt, a_amount, a_reached, a_agenda, a_isTemplate, a_matchSlot, a_priorityOf, a_outSlot, a_onSlot, a_waiting, a_result)) :
    wX_insert_71 post v3 (nI q) f_nodeCount f_draftLength f_resultLength a_inUse a_parentOf a_rankOf a_nameOf a_valueOf a_order a_along a_draftKind a_draftValue a_draftEnd a_tokenKind a_tokenValue a_tokenEnd a_slotLength a_setAt a_amount a_reached a_agenda a_isTemplate a_matchSlot a_priorityOf a_outSlot a_onSlot a_waiting a_result := by
  have eq : (nI q).toNatClampNeg = q := nI_clamp (by omega)
  have vq : vp_in (nI q) 24 := vp_in_nI hq (by omega)
  exact ⟨vq, nm_r (e' := upd a_inUse q 1) (by rw [eq, tz_b1]) ⟨vq, nm_r (e' := upd a_nameOf q v3) (by rw [eq]) ⟨vq, nm_r (e' := upd a_valueOf q 0) (by rw [eq]) (nm_r hc (wx_layOut T U P h))⟩⟩⟩
end
theorem tx_U_ins {c x q : Nat} {r : Nat → Nat} {u : Nat → Int32} (U : tx_U c r u) (hx : x ≤ c) : tx_U (c + 1) (td_insr x 1 (fun _ => q) r) (upd u q 1) := by
  intro p hp
  by_cases z : p = q
  · subst z
    exact Or.inl ⟨pk_us, x, by omega, td_insr_in (j := 0) (by omega)⟩
  · rw [pk_un z]
    rcases U p hp with ⟨a, i, hi, ei⟩ | ⟨a, b⟩
    · refine Or.inl ⟨a, ?_⟩
      rcases Nat.lt_or_ge i x with y | y
      · exact ⟨i, by omega, by rw [td_insr_lo y]; exact ei⟩
      · exact ⟨i + 1, by omega, by rw [td_insr_hi y]; exact ei⟩
    · refine Or.inr ⟨a, td_insr_cs (x := x) (fun i hi => ?_) (fun j hj => ?_) (fun i h1 h2 => ?_)⟩
      · rw [td_insr_lo hi]; exact b i (by omega)
      · rw [td_insr_in hj]; exact fun w => z w.symm
      · rw [td_insr_hi h1]; exact b i h2
theorem i_vc_insert {k : Nat} {u : SX} {v : SY} (I : i_Rel k u v) (hk : k + 6 ≤ 3072) (v1 : Int32) (v2 : Int32) (v3 : Int32) : wpX_insert (fun r u' => wpY_insert (fun r' v' => r' = r ∧ i_Rel (k + 6) u' v') v v1 v2 v3) u v1 v2 v3 := by
  obtain ⟨f_nodeCount, f_draftLength, f_resultLength, a_inUse, a_parentOf, a_rankOf, a_nameOf, a_valueOf, a_order, a_along, a_draftKind, a_draftValue, a_draftEnd, a_tokenKind, a_tokenValue, a_tokenEnd, a_slotLength, a_setAt, a_amount, a_reached, a_agenda, a_isTemplate, a_matchSlot, a_priorityOf, a_outSlot, a_onSlot, a_waiting, a_result⟩ := u
  obtain ⟨f_count, f_top, f_listed, f_outputs, a_row, a_depth, a_name, a_value, a_moved, a_kind, a_with, a_length, a_sets, a_fresh, a_type, a_number, a_set, a_list, a_there, a_match, a_priority, a_out, a_on, a_todo, a_within, a_output⟩ := v
  have J := i_up I
  obtain ⟨c, n, m, r, d, len, T, X, Y, e1, e2, hdl, hK, hF, e3, e4, e5, e6, e7, hP, hm, hrl, hou, e8⟩ := I
  obtain ⟨hnc, U, P, ho, hal⟩ := X
  have c24 := T.1
  have full := tx_full T
  subst e1 e2
  unfold wpX_insert
  refine wx_least (fun res hres => wx_isName (fun nm hnm enm => br_f (by decide) ?_) (fun hno => br_t rfl ?_))
  rotate_left
  · unfold wpY_insert
    exact wy_in0 (n := 5) (by omega) (fun j hj ej => absurd ej (hno j (by omega))) (fun _ => br_t rfl ⟨rfl, J⟩)
  have inY : ∀ {Q : Int32 → Prop}, Q 1 → wpY_in Q v3 0 5 := fun q => wy_in0 (n := 5) (by omega) (fun _ _ _ => q) (fun h => absurd enm (h nm (by omega)))
  rcases hres with ⟨q, hq, hq0, hql, rfl⟩ | ⟨hall, rfl⟩
  rotate_left
  · have cc : c = 24 := full.mp (fun q hq => by
      rcases U q hq with ⟨-, x⟩ | ⟨x, -⟩
      · exact x
      · exact absurd x (hall q hq))
    refine br_t rfl ?_
    unfold wpY_insert
    exact inY (br_f (by decide) (br_t (by rw [Y.1, cc]; rfl) ⟨rfl, J⟩))
  have hfree : ∀ i, i < c → r i ≠ q := fun i hi e => by
    rcases U q hq with ⟨x, -⟩ | ⟨-, x⟩
    · rw [hq0] at x; exact absurd x (by decide)
    · exact x i hi e
  have hles : ∀ p, p < q → ∃ i, i < c ∧ r i = p := fun p hp => by
    rcases U p (by omega) with ⟨-, x⟩ | ⟨x, -⟩
    · exact x
    · exact absurd x (hql p hp)
  have hc : c < 24 := by
    rcases Nat.lt_or_ge c 24 with z | z
    · exact z
    · obtain ⟨i, hi, ei⟩ := full.mpr (by omega) q hq
      exact absurd ei (hfree i hi)
  refine br_f (tx_m1' (by omega)) ?_
  by_cases c0 : c = 0
  · subst c0
    have q0 : q = 0 := by
      rcases Nat.eq_zero_or_pos q with z | z
      · exact z
      · obtain ⟨i, hi, -⟩ := hles 0 z
        omega
    subst q0
    have T' : td_T 1 (fun _ => 0) (fun _ => 0) := ⟨by omega, ⟨rfl, fun i hi => by omega⟩, rfl, fun i hi => by omega, fun i j hi hj _ => by omega⟩
    refine br_t hnc (wx_attach (n := 0) (by omega) (fun pa2 rk2 hA => wx_ins71 (c' := 1) (r' := fun _ => 0) (d' := fun _ => 0) T' (by rw [hnc]; rfl) ?_ ?_ (by omega) (fun od al hod hal' => ?_)))
    · intro p hp
      by_cases z : p = 0
      · subst z; exact Or.inl ⟨pk_us, 0, by omega, rfl⟩
      · rw [pk_un z]
        rcases U p hp with ⟨-, i, hi, -⟩ | ⟨x, -⟩
        · omega
        · exact Or.inr ⟨x, fun i _ e => z e.symm⟩
    · refine ⟨fun q i hi h => ?_, fun _ => ⟨hA.1, hA.2.1⟩⟩
      have := h.1
      omega
    · unfold wpY_insert
      refine inY (br_f (by decide) (br_f (by rw [Y.1]; decide) (br_t (by rw [Y.1]; decide) (wy_ins80 (x := 0) (q := 0) T Y hc (by omega) (by omega) hfree hles (fun row' fr _ h2 _ h4 => ⟨rfl, 1, n, m, fun _ => 0, fun _ => 0, len, T', ⟨rfl, ?_, ?_, hod, hal'⟩, ⟨rfl, fun i hi => ?_, fun i hi => ?_⟩, rfl, rfl, hdl, hK, re_F0 h4, e3, e4, e5, e6, e7, hP, hm, hrl, hou, e8⟩)))))
      · intro p hp
        by_cases z : p = 0
        · subst z; exact Or.inl ⟨pk_us, 0, by omega, rfl⟩
        · rw [pk_un z]
          rcases U p hp with ⟨-, i, hi, -⟩ | ⟨x, -⟩
          · omega
          · exact Or.inr ⟨x, fun i _ e => z e.symm⟩
      · refine ⟨fun q i hi h => ?_, fun _ => ⟨hA.1, hA.2.1⟩⟩
        have := h.1
        omega
      · have : i = 0 := by omega
        subst this; exact h2
      · exact pk_us
  · have c0' : ¬ f_count ≤ 0 := by rw [Y.1]; exact nI_nle (by omega) (by omega)
    have c24' : ¬ f_count = 24 := by rw [Y.1]; exact fun w => by have := (nI_eq (b := 24) (by omega) (by omega)).mp w; omega
    refine br_f (by rw [hnc]; exact nI_ne0 (by omega) (by omega)) (wx_isNode T U (fun p hp ep => ?_) (fun hno => br_t rfl ?_))
    rotate_left
    · unfold wpY_insert
      refine inY (br_f (by decide) (br_f c24' (br_f c0' (wy_where T Y (fun w hw => ?_)))))
      rcases hw with ⟨i, hi, e, -⟩ | ⟨-, rfl⟩
      · exact absurd e (hno i hi)
      · exact br_t tz_m1lt ⟨rfl, J⟩
    subst ep
    obtain ⟨e, he⟩ := td_endEx (c := c) (d := d) hp
    have he2 := he.2.1
    have rp := T.2.2.2.1 p hp
    have np : ∀ {i : Nat}, i < 24 → ¬ nI i < 0 := fun h => nI_pos (by omega)
    refine br_f (by decide) ?_
    by_cases kn : v2 < 0
    · refine br_t kn ?_
      unfold wpY_insert
      exact inY (br_f (by decide) (br_f c24' (br_f c0' (wy_where1 T Y hp (br_f (np (by omega)) (br_f (Int32.not_le.mpr kn) ⟨rfl, J⟩))))))
    obtain ⟨kk, hkk, rfl⟩ := nI_of kn
    have ce : td_ct d (d p + 1) (p + 1) e ≤ 24 := by have := td_ct_c (d := d) (D := d p + 1) (lo := p + 1) e; omega
    refine br_f kn (wx_childCount T hal hp he ?_)
    by_cases kc : kk ≤ td_ct d (d p + 1) (p + 1) e
    rotate_left
    · refine br_f (nI_ge (by omega) (by omega)) ?_
      unfold wpY_insert
      refine inY (br_f (by decide) (br_f c24' (br_f c0' (wy_where1 T Y hp (br_f (np (by omega)) (br_t (nI_pos' hkk) (wy_place T Y hp he hkk (fun x hx => ?_) (fun _ => br_f tz_n0m1 ⟨rfl, J⟩))))))))
      have := td_pl_up hx he
      omega
    refine br_t (nI_le kc (by omega)) (wx_attach hq (fun pa2 rk2 hA => ?_))
    obtain ⟨x, hx⟩ := td_pl_ex T.2.1 hp he kk kc
    have hpx := hx.1
    have hxc := hx.2.1
    have Ins : td_Ins c x 1 p d (fun _ => d p + 1) (td_insr x 1 (fun _ => d p + 1) d) :=
      ⟨by omega, hpx, hxc, hx.2.2.1, hx.2.2.2.1, rfl, fun j a b => by omega, fun i hi => td_insr_lo hi, fun j hj => td_insr_in hj, fun i a b => td_insr_hi a⟩
    have T' : td_T (c + 1) (td_insr x 1 (fun _ => q) r) (td_insr x 1 (fun _ => d p + 1) d) :=
      td_insT T Ins (by omega) (fun j hj => by omega) (fun _ _ => hq) (fun i j hi hj _ => by omega) (fun i j hi _ => hfree i hi)
    have P' : tx_PR (c + 1) (td_insr x 1 (fun _ => q) r) (td_insr x 1 (fun _ => d p + 1) d) pa2 rk2 :=
      tx_att T P (fun q' j hj h => by have := h.1; omega) Ins hx T' (fun _ _ => hq) (fun i j hi hj _ => by omega) (fun i j hi _ => hfree i hi) (fun i hi => tx_U_1 U hi (T.2.2.2.1 i hi)) hA
    have U' := tx_U_ins (q := q) U hxc
    refine wx_ins71 (c' := c + 1) T' (by rw [hnc, nI_1]) U' P' hq (fun od al hod hal' => ?_)
    unfold wpY_insert
    have dpb : a_depth (nI (r p)).toNatClampNeg + 1 = nI (d p + 1) := by rw [nI_clamp (by omega), Y.2.2 p hp, nI_1]
    refine inY (br_f (by decide) (br_f c24' (br_f c0' (wy_where1 T Y hp (br_f (np (by omega)) (br_t (nI_pos' hkk) (wy_place T Y hp he hkk (fun x' hx' => ?_) (fun w => ?_))))))))
    · have ex := td_pl_uq hx' hx he
      subst ex
      refine br_t (nI_pos' (by omega)) ⟨vp_in_nI rp (by omega), nm_r dpb (wy_ins80 T Y hc hxc hq hfree hles (fun row' fr h1 h2 h3 h4 => ⟨rfl, c + 1, n, m, _, _, len, T', ⟨rfl, U', P', hod, hal'⟩, ⟨rfl, ?_, ?_⟩, rfl, rfl, hdl, hK, re_F0 h4, e3, e4, e5, e6, e7, hP, hm, hrl, hou, e8⟩))⟩
      · refine td_insr_cs (x := x') (fun i hi => ?_) (fun j hj => ?_) (fun i a b => ?_)
        · rw [td_insr_lo hi, h1 i hi]; exact Y.2.1 i (by omega)
        · have : j = 0 := by omega
          subst this
          rw [td_insr_in hj]; exact h2
        · rw [td_insr_hi a, h3 i a b]; exact Y.2.1 i b
      · refine td_insr_cs (x := x') (fun i hi => ?_) (fun j hj => ?_) (fun i a b => ?_)
        · rw [td_insr_lo hi, td_insr_lo hi, pk_un (hfree i (by omega))]; exact Y.2.2 i (by omega)
        · rw [td_insr_in hj, td_insr_in hj]; exact pk_us
        · rw [td_insr_hi a, td_insr_hi a, pk_un (hfree i b)]; exact Y.2.2 i b
    · omega
