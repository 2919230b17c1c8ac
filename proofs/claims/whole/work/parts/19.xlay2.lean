/-! laying out, putting in and taking out of a list of children -/
theorem td_on10 {d : Nat → Nat} {i k : Nat} : td_on d 10 i k ↔ (td_An d k i ∨ k = i) := by unfold td_on; simp
theorem td_on9 {d : Nat → Nat} {i k : Nat} : td_on d 9 i k ↔ (td_An d i k ∨ k = i) := by unfold td_on; simp
theorem td_on1 {d : Nat → Nat} {i k : Nat} : td_on d 1 i k ↔ td_Pa d i k := by unfold td_on; simp
theorem tx_R0_on {c : Nat} {r d : Nat → Nat} (T : td_T c r d) {i a p j : Nat} (hi : i ≤ c) (hp : p < i) (hj : j < i) : tx_R0 r d i a (r p) (r j) ↔ td_on d a p j := by
  constructor
  · rintro ⟨x, y, hx, hy, e1, e2, h⟩
    rw [T.2.2.2.2 x p (by omega) (by omega) e1, T.2.2.2.2 y j (by omega) (by omega) e2] at h
    exact h
  · exact fun h => ⟨p, j, hp, hj, rfl, rfl, h⟩
def tx_ai (u pa rk : Nat → Int32) (n : Nat) (par k : Int32) (i : Nat) (rk' : Nat → Int32) : Prop :=
  ∀ q, q < 24 → ((q < i ∧ q ≠ n ∧ u q ≠ 0 ∧ pa q = par ∧ k ≤ rk q) → rk' q = rk q + 1) ∧ (¬ (q < i ∧ q ≠ n ∧ u q ≠ 0 ∧ pa q = par ∧ k ≤ rk q) → rk' q = rk q)
theorem tx_ai_0 {u pa rk : Nat → Int32} {n : Nat} {par k : Int32} : tx_ai u pa rk n par k 0 rk := fun q _ => ⟨fun h => by omega, fun _ => rfl⟩
theorem tx_ai_n {u pa rk rk' : Nat → Int32} {n i : Nat} {par k : Int32} (h : tx_ai u pa rk n par k i rk') (c : ¬ (i ≠ n ∧ u i ≠ 0 ∧ pa i = par ∧ k ≤ rk i)) : tx_ai u pa rk n par k (i + 1) rk' := by
  intro q hq
  obtain ⟨h1, h2⟩ := h q hq
  refine ⟨fun x => h1 ⟨?_, x.2⟩, fun x => h2 (fun y => x ⟨by omega, y.2⟩)⟩
  by_cases z : q = i
  · subst z; exact absurd x.2 c
  · omega
theorem tx_ai_s {u pa rk rk' : Nat → Int32} {n i : Nat} {par k : Int32} (h : tx_ai u pa rk n par k i rk') (c : i ≠ n ∧ u i ≠ 0 ∧ pa i = par ∧ k ≤ rk i) (hi : i < 24) : tx_ai u pa rk n par k (i + 1) (upd rk' i (rk' i + 1)) := by
  intro q hq
  obtain ⟨h1, h2⟩ := h q hq
  by_cases z : q = i
  · subst z
    rw [pk_us, h2 (fun y => by omega)]
    exact ⟨fun _ => rfl, fun y => absurd ⟨by omega, c⟩ y⟩
  · rw [pk_un z]
    exact ⟨fun x => h1 ⟨by omega, x.2⟩, fun x => h2 (fun y => x ⟨by omega, y.2⟩)⟩
def tx_di (u pa rk : Nat → Int32) (n i : Nat) (rk' : Nat → Int32) : Prop :=
  ∀ q, q < 24 → ((q < i ∧ u q ≠ 0 ∧ pa q = pa n ∧ rk n < rk q) → rk' q = rk q - 1) ∧ (¬ (q < i ∧ u q ≠ 0 ∧ pa q = pa n ∧ rk n < rk q) → rk' q = rk q)
theorem tx_di_0 {u pa rk : Nat → Int32} {n : Nat} : tx_di u pa rk n 0 rk := fun q _ => ⟨fun h => by omega, fun _ => rfl⟩
theorem tx_di_n {u pa rk rk' : Nat → Int32} {n i : Nat} (h : tx_di u pa rk n i rk') (c : ¬ (u i ≠ 0 ∧ pa i = pa n ∧ rk n < rk i)) : tx_di u pa rk n (i + 1) rk' := by
  intro q hq
  obtain ⟨h1, h2⟩ := h q hq
  refine ⟨fun x => h1 ⟨?_, x.2⟩, fun x => h2 (fun y => x ⟨by omega, y.2⟩)⟩
  by_cases z : q = i
  · subst z; exact absurd x.2 c
  · omega
theorem tx_di_s {u pa rk rk' : Nat → Int32} {n i : Nat} (h : tx_di u pa rk n i rk') (c : u i ≠ 0 ∧ pa i = pa n ∧ rk n < rk i) (hi : i < 24) : tx_di u pa rk n (i + 1) (upd rk' i (rk' i - 1)) := by
  intro q hq
  obtain ⟨h1, h2⟩ := h q hq
  by_cases z : q = i
  · subst z
    rw [pk_us, h2 (fun y => by omega)]
    exact ⟨fun _ => rfl, fun y => absurd ⟨by omega, c⟩ y⟩
  · rw [pk_un z]
    exact ⟨fun x => h1 ⟨by omega, x.2⟩, fun x => h2 (fun y => x ⟨by omega, y.2⟩)⟩
theorem tx_di_i {u pa rk rk' : Nat → Int32} {n i : Nat} (h : tx_di u pa rk n i rk') (hi : i < 24) : rk' i = rk i := (h i hi).2 (fun y => by omega)
theorem tx_di_k {u pa rk rk' : Nat → Int32} {n i : Nat} (h : tx_di u pa rk n i rk') (hn : n < 24) : rk' n = rk n := (h n hn).2 (fun y => Int32.lt_irrefl y.2.2.2)
section
variable {f_nodeCount f_draftLength f_resultLength : Int32} {a_inUse a_parentOf a_rankOf a_nameOf a_valueOf a_order a_along a_draftKind a_draftValue a_draftEnd a_tokenKind a_tokenValue a_tokenEnd a_slotLength a_setAt a_amount a_reached a_agenda a_isTemplate a_matchSlot a_priorityOf a_outSlot a_onSlot a_waiting a_result : Nat → Int32} {c : Nat} {r d : Nat → Nat}
theorem tx_Ab_p {i p : Nat} {x4 : Int32} (T : td_T c r d) (P : tx_PR c r d a_parentOf a_rankOf) (hi : i < c) (hp : td_Pa d p i) (hal : tx_Rep a_along (tx_R0 r d i)) (e4 : x4 = a_along (10 * 24 + r p)) :
    tx_Ab d r i a_parentOf (a_parentOf (r i)) x4 := by
  intro j hj
  have hpi := hp.1
  have rp := T.2.2.2.1 p (by omega)
  have rj := T.2.2.2.1 j (by omega)
  have pe := (P.1 p i hi hp).1
  have ejp : r p = r j ↔ p = j := ⟨fun e => T.2.2.2.2 p j (by omega) (by omega) e, fun e => by rw [e]⟩
  refine ⟨?_, ?_, ?_⟩
  · rw [e4, (hal 10 (by omega) (r p) rp).2 (r j) rj, tx_R0_on T (by omega) hpi hj, td_on10, td_anPa hp]
    exact or_comm
  · rw [pe, nI_eq (by omega) (by omega), ejp]
    exact ⟨fun e => by rw [← e]; exact hp, fun x => td_uq hp x⟩
  · by_cases j0 : j = 0
    · subst j0
      rw [pe, (P.2 (by omega)).1]
      exact ⟨fun e => absurd e (tx_m1' (by omega)), fun ⟨q, x, _⟩ => absurd x td_p0⟩
    · obtain ⟨q, hq⟩ := td_ex T.2.1 (i := j) (by omega) (by omega)
      have hqj := hq.1
      have rq := T.2.2.2.1 q (by omega)
      rw [pe, (P.1 q j (by omega) hq).1, nI_eq (by omega) (by omega)]
      constructor
      · intro e
        have := T.2.2.2.2 p q (by omega) (by omega) e
        subst this
        exact ⟨p, hq, hp⟩
      · rintro ⟨w, x, y⟩
        rw [td_uq hp y, td_uq hq x]
theorem wx_l2e {post : SX → Prop} {i : Nat} (T : td_T c r d) (P : tx_PR c r d a_parentOf a_rankOf) (hi : i < c) (ho : ∀ j, j < i → a_order j = nI (r j)) (hal : tx_Rep a_along (tx_R0 r d i))
    (h : ∀ al, tx_Rep al (tx_R0 r d (i + 1)) → post (f_nodeCount, f_draftLength, f_resultLength, a_inUse, a_parentOf, a_rankOf, a_nameOf, a_valueOf, a_order, al, a_draftKind, a_draftValue, a_draftEnd, a_tokenKind, a_tokenValue, a_tokenEnd, a_slotLength, a_setAt, a_amount, a_reached, a_agenda, a_isTemplate, a_matchSlot, a_priorityOf, a_outSlot, a_onSlot, a_waiting, a_result)) : wpX_linkToEarlier post (f_nodeCount, f_draftLength, f_resultLength, a_inUse, a_parentOf, a_rankOf, a_nameOf, a_valueOf, a_order, a_along, a_draftKind, a_draftValue, a_draftEnd, a_tokenKind, a_tokenValue, a_tokenEnd, a_slotLength, a_setAt, a_amount, a_reached, a_agenda, a_isTemplate, a_matchSlot, a_priorityOf, a_outSlot, a_onSlot, a_waiting, a_result) (nI (r i)) (nI i) := by
  have ri := T.2.2.2.1 i hi
  have er : (nI (r i)).toNatClampNeg = r i := nI_clamp (by omega)
  have key : ∀ x4, tx_Ab d r i a_parentOf (a_parentOf (r i)) x4 → wX_linkToEarlier_26 post (nI (r i)) (nI i) (a_parentOf (r i)) x4 f_nodeCount f_draftLength f_resultLength a_inUse a_parentOf a_rankOf a_nameOf a_valueOf a_order a_along a_draftKind a_draftValue a_draftEnd a_tokenKind a_tokenValue a_tokenEnd a_slotLength a_setAt a_amount a_reached a_agenda a_isTemplate a_matchSlot a_priorityOf a_outSlot a_onSlot a_waiting a_result := by
    intro x4 hA
    have c0 : ((0 : Int32) + nI (r i)).toNatClampNeg = 0 * 24 + r i := by rw [Int32.zero_add, er]; omega
    unfold wX_linkToEarlier_26
    refine ⟨by rw [Int32.zero_add]; exact vp_in_nI (by omega) (by omega), fun al1 e1 => ?_⟩
    rw [c0] at e1
    have h1 : tx_Rep al1 (fun a q q' => tx_R0 r d i a q q' ∨ (a = 0 ∧ q = r i ∧ q' = r i)) := by
      rw [e1]
      refine tx_set hal (by omega) ri ri (fun q' _ => ?_)
      rintro ⟨x, y, hx, hy, e, -⟩
      have := T.2.2.2.2 x i (by omega) hi e
      omega
    refine wx_link (x := 9) h1 (by omega) ri ri (fun al2 h2 => ⟨i + 1, wx_l2e_l T hi ho hA h i 0 al2 (by omega) (tx_rep_c h2 (fun a q q' ha _ _ => ?_))⟩)
    rw [← tx_R_beg ha]
    constructor
    · rintro ((w | w) | w | w)
      · exact Or.inl w
      · exact Or.inr ⟨Or.inl w.1, w.2⟩
      · exact Or.inr ⟨Or.inr (Or.inl w.1), w.2⟩
      · exact Or.inr ⟨Or.inr (Or.inr w.1), w.2⟩
    · rintro (w | ⟨w | w | w, v⟩)
      · exact Or.inl (Or.inl w)
      · exact Or.inl (Or.inr ⟨w, v⟩)
      · exact Or.inr (Or.inl ⟨w, v⟩)
      · exact Or.inr (Or.inr ⟨w, v⟩)
  unfold wpX_linkToEarlier
  refine ⟨vp_in_nI ri (by omega), nm_r (e' := a_parentOf (r i)) (by rw [er]) ?_⟩
  by_cases z : i = 0
  · subst z
    exact br_t (P.2 (by omega)).1 (key 0 (fun j hj => by omega))
  · obtain ⟨p, hp⟩ := td_ex T.2.1 (i := i) (by omega) hi
    have hpi := hp.1
    have rp := T.2.2.2.1 p (by omega)
    have pe := (P.1 p i hi hp).1
    have e2 : (240 : Int32) + nI (r p) = nI (10 * 24 + r p) := by
      rw [show (240 : Int32) = nI (10 * 24) from rfl, nI_add]
    refine br_f (by rw [pe]; exact tx_m1' (by omega)) ⟨by rw [pe, e2]; exact vp_in_nI (by omega) (by omega), key _ (tx_Ab_p T P hi hp hal ?_)⟩
    rw [pe, e2, nI_clamp (by omega)]
theorem wx_lay_l {post : SX → Prop} (T : td_T c r d) (U : tx_U c r a_inUse) (P : tx_PR c r d a_parentOf a_rankOf)
    (h : ∀ od al, (∀ j, j < c → od j = nI (r j)) → tx_Rep al (tx_R0 r d c) → post (nI c, f_draftLength, f_resultLength, a_inUse, a_parentOf, a_rankOf, a_nameOf, a_valueOf, od, al, a_draftKind, a_draftValue, a_draftEnd, a_tokenKind, a_tokenValue, a_tokenEnd, a_slotLength, a_setAt, a_amount, a_reached, a_agenda, a_isTemplate, a_matchSlot, a_priorityOf, a_outSlot, a_onSlot, a_waiting, a_result)) :
    ∀ k i od al x1, i + k = c → (i < c → x1 = nI (r i)) → (∀ j, j < i → od j = nI (r j)) → tx_Rep al (tx_R0 r d i) → wX_layOut_26 post (k + 1) x1 (nI i) (nI c) f_draftLength f_resultLength a_inUse a_parentOf a_rankOf a_nameOf a_valueOf od al a_draftKind a_draftValue a_draftEnd a_tokenKind a_tokenValue a_tokenEnd a_slotLength a_setAt a_amount a_reached a_agenda a_isTemplate a_matchSlot a_priorityOf a_outSlot a_onSlot a_waiting a_result := by
  have c24 := T.1
  intro k
  induction k with
  | zero =>
    intro i od al x1 hi hx ho hal
    have e : i = c := by omega
    subst e
    exact br_t (nI_le (Nat.le_refl _) (by omega)) (h od al ho hal)
  | succ k ih =>
    intro i od al x1 hi hx ho hal
    have e1 := hx (by omega)
    subst e1
    have ri := T.2.2.2.1 i (by omega)
    have ei : (nI i).toNatClampNeg = i := nI_clamp (by omega)
    refine br_f (nI_ge (by omega) (by omega)) (br_f (tx_m1' (by omega)) ⟨vp_in_nI (by omega) (by omega), fun od' eo => ?_⟩)
    rw [ei] at eo
    have ho' : ∀ j, j < i + 1 → od' j = nI (r j) := fun j hj => by
      rw [eo]
      by_cases z : j = i
      · subst z; exact pk_us
      · rw [pk_un z]; exact ho j (by omega)
    exact wx_l2e T P (by omega) (fun j hj => ho' j (by omega)) hal (fun al' h' => wx_next T U P (by omega)
      (fun z => nm_r (nI_1 i) (ih (i + 1) od' al' _ (by omega) (fun _ => rfl) ho' h'))
      (fun z => nm_r (nI_1 i) (ih (i + 1) od' al' _ (by omega) (fun y => by omega) ho' h')))
theorem wx_layOut {post : SX → Prop} (T : td_T c r d) (U : tx_U c r a_inUse) (P : tx_PR c r d a_parentOf a_rankOf)
    (h : ∀ od al, (∀ j, j < c → od j = nI (r j)) → tx_Rep al (tx_R0 r d c) → post (nI c, f_draftLength, f_resultLength, a_inUse, a_parentOf, a_rankOf, a_nameOf, a_valueOf, od, al, a_draftKind, a_draftValue, a_draftEnd, a_tokenKind, a_tokenValue, a_tokenEnd, a_slotLength, a_setAt, a_amount, a_reached, a_agenda, a_isTemplate, a_matchSlot, a_priorityOf, a_outSlot, a_onSlot, a_waiting, a_result)) : wpX_layOut post (nI c, f_draftLength, f_resultLength, a_inUse, a_parentOf, a_rankOf, a_nameOf, a_valueOf, a_order, a_along, a_draftKind, a_draftValue, a_draftEnd, a_tokenKind, a_tokenValue, a_tokenEnd, a_slotLength, a_setAt, a_amount, a_reached, a_agenda, a_isTemplate, a_matchSlot, a_priorityOf, a_outSlot, a_onSlot, a_waiting, a_result) := by
  have key : ∀ k i al, i + k = 264 → (∀ q, q < i → al q = 0) → wX_layOut_2 post (nI c) f_draftLength f_resultLength (k + 1) (nI i) a_inUse a_parentOf a_rankOf a_nameOf a_valueOf a_order al a_draftKind a_draftValue a_draftEnd a_tokenKind a_tokenValue a_tokenEnd a_slotLength a_setAt a_amount a_reached a_agenda a_isTemplate a_matchSlot a_priorityOf a_outSlot a_onSlot a_waiting a_result := by
    intro k
    induction k with
    | zero =>
      intro i al hi hz
      refine br_t (nI_le (a := 264) (b := i) (by omega) (by omega)) ⟨c + 1, wx_lay_l T U P h c 0 a_order al 0 (by omega) (fun _ => by rw [T.2.2.1]; rfl) (fun j hj => by omega) (fun a ha q hq => ?_)⟩
      rw [hz _ (by omega)]
      refine ⟨mk_24_0, fun q' hq' => ?_⟩
      rw [b_0]
      exact ⟨fun x => (by cases x), fun ⟨x, y, hx, _⟩ => by omega⟩
    | succ k ih =>
      intro i al hi hz
      have ei : (nI i).toNatClampNeg = i := nI_clamp (by omega)
      refine br_f (nI_ge (a := i) (b := 264) (by omega) (by omega)) ⟨vp_in_nI (by omega) (by omega), nm_r (e' := upd al i 0) (by rw [ei]) (nm_r (nI_1 i) (ih (i + 1) _ (by omega) (fun q hq => ?_)))⟩
      by_cases z : q = i
      · subst z; exact pk_us
      · rw [pk_un z]; exact hz q (by omega)
  exact ⟨265, key 264 0 a_along rfl (fun q hq => by omega)⟩
theorem wx_attach {post : SX → Prop} {n : Nat} {par k : Int32} (hn : n < 24) (h : ∀ pa2 rk2, tx_Att a_inUse a_parentOf a_rankOf n par k pa2 rk2 → post (f_nodeCount, f_draftLength, f_resultLength, a_inUse, pa2, rk2, a_nameOf, a_valueOf, a_order, a_along, a_draftKind, a_draftValue, a_draftEnd, a_tokenKind, a_tokenValue, a_tokenEnd, a_slotLength, a_setAt, a_amount, a_reached, a_agenda, a_isTemplate, a_matchSlot, a_priorityOf, a_outSlot, a_onSlot, a_waiting, a_result)) : wpX_attach post (f_nodeCount, f_draftLength, f_resultLength, a_inUse, a_parentOf, a_rankOf, a_nameOf, a_valueOf, a_order, a_along, a_draftKind, a_draftValue, a_draftEnd, a_tokenKind, a_tokenValue, a_tokenEnd, a_slotLength, a_setAt, a_amount, a_reached, a_agenda, a_isTemplate, a_matchSlot, a_priorityOf, a_outSlot, a_onSlot, a_waiting, a_result) (nI n) par k := by
  have en : (nI n).toNatClampNeg = n := nI_clamp (by omega)
  have key : ∀ m i rk', i + m = 24 → tx_ai a_inUse a_parentOf a_rankOf n par k i rk' → wX_attach_3 post (nI n) par k f_nodeCount f_draftLength f_resultLength (m + 1) (nI i) a_inUse a_parentOf rk' a_nameOf a_valueOf a_order a_along a_draftKind a_draftValue a_draftEnd a_tokenKind a_tokenValue a_tokenEnd a_slotLength a_setAt a_amount a_reached a_agenda a_isTemplate a_matchSlot a_priorityOf a_outSlot a_onSlot a_waiting a_result := by
    intro m
    induction m with
    | zero =>
      intro i rk' hi hr
      have e : i = 24 := by omega
      subst e
      refine br_t (nI_le (a := 24) (b := 24) (by omega) (by omega)) ⟨vp_in_nI hn (by omega), nm_r (e' := upd a_parentOf n par) (by rw [en]) ⟨vp_in_nI hn (by omega), nm_r (e' := upd rk' n k) (by rw [en]) (h _ _ ⟨pk_us, pk_us, fun q hq hqn => ⟨pk_un hqn, fun x => ?_, fun x => ?_⟩⟩)⟩⟩
      · rw [pk_un hqn]; exact (hr q hq).1 ⟨hq, hqn, x⟩
      · rw [pk_un hqn]; exact (hr q hq).2 (fun y => x y.2.2)
    | succ m ih =>
      intro i rk' hi hr
      have ei : (nI i).toNatClampNeg = i := nI_clamp (by omega)
      have vi : vp_in (nI i) 24 := vp_in_nI (by omega) (by omega)
      have ri : rk' i = a_rankOf i := (hr i (by omega)).2 (fun y => by omega)
      have nx : ¬ (i ≠ n ∧ a_inUse i ≠ 0 ∧ a_parentOf i = par ∧ k ≤ a_rankOf i) → wX_attach_3 post (nI n) par k f_nodeCount f_draftLength f_resultLength (m + 1) (nI (i + 1)) a_inUse a_parentOf rk' a_nameOf a_valueOf a_order a_along a_draftKind a_draftValue a_draftEnd a_tokenKind a_tokenValue a_tokenEnd a_slotLength a_setAt a_amount a_reached a_agenda a_isTemplate a_matchSlot a_priorityOf a_outSlot a_onSlot a_waiting a_result := fun z => ih (i + 1) rk' (by omega) (tx_ai_n hr z)
      refine br_f (nI_ge (a := i) (b := 24) (by omega) (by omega)) ⟨vi, ?_⟩
      by_cases z1 : a_inUse i = 0
      · exact br_t (by rw [ei]; exact z1) (nm_r (nI_1 i) (nx (fun y => y.2.1 z1)))
      refine br_f (by rw [ei]; exact z1) ?_
      by_cases z2 : i = n
      · exact br_t (by rw [z2]) (nm_r (nI_1 i) (nx (fun y => y.1 z2)))
      refine br_f (fun w => z2 ((nI_eq (by omega) (by omega)).mp w)) ⟨vi, ?_⟩
      by_cases z3 : a_parentOf i = par
      · refine br_t (by rw [ei]; exact z3) ⟨vi, ?_⟩
        by_cases z4 : rk' i < k
        · exact br_t (by rw [ei]; exact z4) (nm_r (nI_1 i) (nx (fun y => Int32.not_lt.mpr y.2.2.2 (by rw [← ri]; exact z4))))
        · refine br_f (by rw [ei]; exact z4) ⟨vi, vi, nm_r (e' := upd rk' i (rk' i + 1)) (by rw [ei]) (nm_r (nI_1 i) (ih (i + 1) _ (by omega) (tx_ai_s hr ⟨z2, z1, z3, ?_⟩ (by omega))))⟩
          rw [← ri]; exact Int32.not_lt.mp z4
      · exact br_f (by rw [ei]; exact z3) (nm_r (nI_1 i) (nx (fun y => z3 y.2.2.1)))
  exact ⟨25, key 24 0 a_rankOf rfl tx_ai_0⟩
theorem wx_detach {post : SX → Prop} {n : Nat} (hn : n < 24) (h : ∀ rk1, tx_Det a_inUse a_parentOf a_rankOf n rk1 → post (f_nodeCount, f_draftLength, f_resultLength, a_inUse, a_parentOf, rk1, a_nameOf, a_valueOf, a_order, a_along, a_draftKind, a_draftValue, a_draftEnd, a_tokenKind, a_tokenValue, a_tokenEnd, a_slotLength, a_setAt, a_amount, a_reached, a_agenda, a_isTemplate, a_matchSlot, a_priorityOf, a_outSlot, a_onSlot, a_waiting, a_result)) : wpX_detach post (f_nodeCount, f_draftLength, f_resultLength, a_inUse, a_parentOf, a_rankOf, a_nameOf, a_valueOf, a_order, a_along, a_draftKind, a_draftValue, a_draftEnd, a_tokenKind, a_tokenValue, a_tokenEnd, a_slotLength, a_setAt, a_amount, a_reached, a_agenda, a_isTemplate, a_matchSlot, a_priorityOf, a_outSlot, a_onSlot, a_waiting, a_result) (nI n) := by
  have en : (nI n).toNatClampNeg = n := nI_clamp (by omega)
  have vn : vp_in (nI n) 24 := vp_in_nI hn (by omega)
  have key : ∀ m i rk', i + m = 24 → tx_di a_inUse a_parentOf a_rankOf n i rk' → wX_detach_2 post (nI n) f_nodeCount f_draftLength f_resultLength (m + 1) (nI i) a_inUse a_parentOf rk' a_nameOf a_valueOf a_order a_along a_draftKind a_draftValue a_draftEnd a_tokenKind a_tokenValue a_tokenEnd a_slotLength a_setAt a_amount a_reached a_agenda a_isTemplate a_matchSlot a_priorityOf a_outSlot a_onSlot a_waiting a_result := by
    intro m
    induction m with
    | zero =>
      intro i rk' hi hr
      have e : i = 24 := by omega
      subst e
      refine br_t (nI_le (a := 24) (b := 24) (by omega) (by omega)) (h _ (fun q hq => ⟨fun x => ?_, fun x => ?_⟩))
      · exact (hr q hq).1 ⟨hq, x⟩
      · exact (hr q hq).2 (fun y => x y.2)
    | succ m ih =>
      intro i rk' hi hr
      have ei : (nI i).toNatClampNeg = i := nI_clamp (by omega)
      have vi : vp_in (nI i) 24 := vp_in_nI (by omega) (by omega)
      have ri := tx_di_i hr (show i < 24 by omega)
      have rn := tx_di_k hr hn
      have nx : ¬ (a_inUse i ≠ 0 ∧ a_parentOf i = a_parentOf n ∧ a_rankOf n < a_rankOf i) → wX_detach_2 post (nI n) f_nodeCount f_draftLength f_resultLength (m + 1) (nI (i + 1)) a_inUse a_parentOf rk' a_nameOf a_valueOf a_order a_along a_draftKind a_draftValue a_draftEnd a_tokenKind a_tokenValue a_tokenEnd a_slotLength a_setAt a_amount a_reached a_agenda a_isTemplate a_matchSlot a_priorityOf a_outSlot a_onSlot a_waiting a_result := fun z => ih (i + 1) rk' (by omega) (tx_di_n hr z)
      refine br_f (nI_ge (a := i) (b := 24) (by omega) (by omega)) ⟨vi, ?_⟩
      by_cases z1 : a_inUse i = 0
      · exact br_t (by rw [ei]; exact z1) (nm_r (nI_1 i) (nx (fun y => y.1 z1)))
      refine br_f (by rw [ei]; exact z1) ⟨vi, vn, ?_⟩
      by_cases z3 : a_parentOf i = a_parentOf n
      · refine br_t (by rw [ei, en]; exact z3) ⟨vi, vn, ?_⟩
        by_cases z4 : rk' i ≤ rk' n
        · exact br_t (by rw [ei, en]; exact z4) (nm_r (nI_1 i) (nx (fun y => Int32.not_le.mpr y.2.2 (by rw [← ri, ← rn]; exact z4))))
        · refine br_f (by rw [ei, en]; exact z4) ⟨vi, vi, nm_r (e' := upd rk' i (rk' i - 1)) (by rw [ei]) (nm_r (nI_1 i) (ih (i + 1) _ (by omega) (tx_di_s hr ⟨z1, z3, ?_⟩ (by omega))))⟩
          rw [← ri, ← rn]; exact Int32.not_le.mp z4
      · exact br_f (by rw [ei, en]; exact z3) (nm_r (nI_1 i) (nx (fun y => z3 y.2.1)))
  exact ⟨25, key 24 0 a_rankOf rfl tx_di_0⟩
end
