/-! a token worked out, by the component -/
theorem tg_mono {K W E : Nat → Nat} {b L y due : Nat} (h : te_Ws K W E b L) (hb : b ≤ y) (hy : y < L) (hlt : ∀ t, t < due → tg_it K E y t < E y) : ∀ t, t ≤ due → y + t ≤ tg_it K E y t ∧ ∀ s, s < t → tg_it K E y s < tg_it K E y t := by
  have EL := te_E_le h hb hy
  intro t
  induction t with
  | zero => intro _; exact ⟨Nat.le_refl _, fun s hs => by omega⟩
  | succ t ih =>
    intro ht
    obtain ⟨i1, i2⟩ := ih (by omega)
    have l := hlt t (by omega)
    have g := (tg_nx_gt h (j := tg_it K E y t) (by omega) (by omega)).1
    rw [tg_it_s]
    refine ⟨by omega, fun s hs => ?_⟩
    by_cases z : s = t
    · subst z; exact g
    · have := i2 s (by omega); omega
section
variable {f_nodeCount f_draftLength f_resultLength : Int32} {a_inUse a_parentOf a_rankOf a_nameOf a_valueOf a_order a_along a_draftKind a_draftValue a_draftEnd a_tokenKind a_tokenValue a_tokenEnd a_slotLength a_setAt a_amount a_reached a_agenda a_isTemplate a_matchSlot a_priorityOf a_outSlot a_onSlot a_waiting a_result : Nat → Int32} {c : Nat} {r d : Nat → Nat} {K W E : Nat → Nat} {V : Nat → Int32} {b L : Nat}
theorem wx_plan {post : Int32 → SX → Prop} {y : Nat} (S : te_Sl K W E V a_tokenKind a_tokenValue a_tokenEnd b L) (hb : b ≤ y) (hy : y < L)
    (h : ∀ due ag, tg_it K E y due = E y → (∀ t, t < due → tg_it K E y t < E y) → (∀ t, t < due → ag t = nI (tg_it K E y t)) → due ≤ 40 → post (nI due) (f_nodeCount, f_draftLength, f_resultLength, a_inUse, a_parentOf, a_rankOf, a_nameOf, a_valueOf, a_order, a_along, a_draftKind, a_draftValue, a_draftEnd, a_tokenKind, a_tokenValue, a_tokenEnd, a_slotLength, a_setAt, a_amount, a_reached, ag, a_isTemplate, a_matchSlot, a_priorityOf, a_outSlot, a_onSlot, a_waiting, a_result)) : wpX_planWork post (f_nodeCount, f_draftLength, f_resultLength, a_inUse, a_parentOf, a_rankOf, a_nameOf, a_valueOf, a_order, a_along, a_draftKind, a_draftValue, a_draftEnd, a_tokenKind, a_tokenValue, a_tokenEnd, a_slotLength, a_setAt, a_amount, a_reached, a_agenda, a_isTemplate, a_matchSlot, a_priorityOf, a_outSlot, a_onSlot, a_waiting, a_result) (nI y) := by
  obtain ⟨l1, l2, D, hE, hw⟩ := S
  have EL := te_E_le hw hb hy
  have Eg := te_E_gt hw hb hy
  have key : ∀ k i due ag, i + k = E y → y ≤ i → i ≤ tg_it K E y due → tg_it K E y due ≤ E y → (∀ t, t < due → tg_it K E y t < E y) → (∀ t, t < due → ag t = nI (tg_it K E y t)) →
      wX_planWork_15 post (nI (E y)) f_nodeCount f_draftLength f_resultLength (k + 1) (nI due) (nI (tg_it K E y due)) (nI i) a_inUse a_parentOf a_rankOf a_nameOf a_valueOf a_order a_along a_draftKind a_draftValue a_draftEnd a_tokenKind a_tokenValue a_tokenEnd a_slotLength a_setAt a_amount a_reached ag a_isTemplate a_matchSlot a_priorityOf a_outSlot a_onSlot a_waiting a_result := by
    intro k
    induction k with
    | zero =>
      intro i due ag hi hyi h1 h2 h3 h4
      have m := (tg_mono hw hb hy h3 due (Nat.le_refl _)).1
      exact br_t (nI_le (by omega) (by omega)) (h due ag (by omega) h3 h4 (by omega))
    | succ k ih =>
      intro i due ag hi hyi h1 h2 h3 h4
      have m := (tg_mono hw hb hy h3 due (Nat.le_refl _)).1
      refine br_f (nI_ge (by omega) (by omega)) ?_
      by_cases z : i < tg_it K E y due
      · exact br_t (nI_lt z (by omega)) (nm_r (nI_1 i) (ih (i + 1) due ag (by omega) (by omega) (by omega) h2 h3 h4))
      · have e : i = tg_it K E y due := by omega
        obtain ⟨d1, d2, -⟩ := D i (by omega) (by omega)
        have eE := (hE i (by omega) (by omega)).1
        have ei : (nI i).toNatClampNeg = i := nI_clamp (by omega)
        have nx := tg_nx_gt hw (j := i) (by omega) (by omega)
        have nl := te_nest hw y hy hb i hyi (by omega)
        have nit : tg_it K E y (due + 1) = tg_nx K E i := by rw [tg_it_s, ← e]
        have h3' : ∀ t, t < due + 1 → tg_it K E y t < E y := fun t ht => by
          by_cases w : t = due
          · subst w; omega
          · exact h3 t (by omega)
        have h4' : ∀ t, t < due + 1 → upd ag due (nI i) t = nI (tg_it K E y t) := fun t ht => by
          by_cases w : t = due
          · subst w; rw [pk_us, e]
          · rw [pk_un w]; exact h4 t (by omega)
        have nxt := ih (i + 1) (due + 1) (upd ag due (nI i)) (by omega) (by omega) (by omega) (by omega) h3' h4'
        rw [nit] at nxt
        refine br_f (nI_nlt (by omega) (by omega)) (br_f (nI_ge (b := 40) (by omega) (by omega)) ⟨vp_in_nI (by omega) (by omega), nm_r (e' := upd ag due (nI i)) (by rw [nI_clamp (by omega)]) (nm_r (nI_1 due) ⟨vp_in_nI (by omega) (by omega), ?_⟩)⟩)
        rw [ei, d1]
        by_cases k4 : K i < 4
        · refine br_f (nI_nlt (a := 3) (by omega) (by omega)) ⟨vp_in_nI (by omega) (by omega), nm_r (e' := nI (tg_nx K E i)) ?_ (nm_r (nI_1 i) nxt)⟩
          unfold tg_nx
          rw [if_pos k4]; exact eE
        · refine br_t (nI_lt (a := 3) (by omega) (by omega)) (nm_r (e' := nI (tg_nx K E i)) ?_ (nm_r (nI_1 i) nxt))
          unfold tg_nx
          rw [if_neg k4, nI_1]
  unfold wpX_planWork
  refine ⟨vp_in_nI (by omega) (by omega), nm_r (e' := nI (E y)) (by rw [nI_clamp (by omega)]; exact (hE y hb hy).1) ⟨E y - y + 1, key (E y - y) y 0 a_agenda (by omega) (Nat.le_refl _) (Nat.le_refl _) (by show y ≤ E y; omega) (fun t ht => by omega) (fun t ht => by omega)⟩⟩
theorem wx_calc {post : Int32 → Prop} {j : Nat} (S : te_Sl K W E V a_tokenKind a_tokenValue a_tokenEnd b L) (hb : b ≤ j) (hj : j < L) (h10 : 10 ≤ K j) (h12 : K j ≤ 12)
    (h : post (if K j = 10 then a_amount (j + 1) + a_amount (E (j + 1)) else if K j = 11 then a_amount (j + 1) - a_amount (E (j + 1)) else a_amount (j + 1) * a_amount (E (j + 1)))) : wpX_calculated post (f_nodeCount, f_draftLength, f_resultLength, a_inUse, a_parentOf, a_rankOf, a_nameOf, a_valueOf, a_order, a_along, a_draftKind, a_draftValue, a_draftEnd, a_tokenKind, a_tokenValue, a_tokenEnd, a_slotLength, a_setAt, a_amount, a_reached, a_agenda, a_isTemplate, a_matchSlot, a_priorityOf, a_outSlot, a_onSlot, a_waiting, a_result) (nI j) := by
  obtain ⟨l1, l2, D, hE, hw⟩ := S
  obtain ⟨d1, d2, -⟩ := D j hb hj
  have s2 := te_two hw hb hj (te_o2 (by omega) (by omega))
  have eE := (hE (j + 1) (by omega) s2.1).1
  have ej : (nI j).toNatClampNeg = j := nI_clamp (by omega)
  have ej1 : (nI j + 1).toNatClampNeg = j + 1 := by rw [nI_1]; exact nI_clamp (by omega)
  have v1 : vp_in (nI j + 1) 320 := by rw [nI_1]; exact vp_in_nI (by omega) (by omega)
  have vj : vp_in (nI j) 320 := vp_in_nI (by omega) (by omega)
  unfold wpX_calculated
  refine ⟨v1, nm_r (e' := a_amount (j + 1)) (by rw [ej1]) ⟨v1, by rw [ej1, eE]; exact vp_in_nI (by omega) (by omega), nm_r (e' := a_amount (E (j + 1))) (by rw [ej1, eE, nI_clamp (by omega)]) ⟨vj, ?_⟩⟩⟩
  rw [ej, d1]
  by_cases z : K j = 10
  · rw [if_pos z] at h
    exact br_t (by rw [z]; rfl) h
  · rw [if_neg z] at h
    refine br_f (fun w => z ((nI_eq (b := 10) (by omega) (by omega)).mp w)) ⟨vj, ?_⟩
    by_cases y : K j = 11
    · rw [if_pos y] at h
      exact br_t (by rw [y]; rfl) h
    · rw [if_neg y] at h
      exact br_f (fun w => y ((nI_eq (b := 11) (by omega) (by omega)).mp w)) h
theorem wx_work {post : SX → Prop} {y q : Nat} {pos last : Int32} (S : te_Sl K W E V a_tokenKind a_tokenValue a_tokenEnd b L) (T : td_T c r d) (hnc : f_nodeCount = nI c) (ho : ∀ i, i < c → a_order i = nI (r i)) (hb : b ≤ y) (hy : y < L) (hq : q < 24)
    (h : ∀ am ag, am y = tn_pl c r a_valueOf (K y) (a_setAt (y * 24 + q)) (tn_nv c r a_valueOf K E V (fun j => a_setAt (j * 24 + q)) pos last y) → post (f_nodeCount, f_draftLength, f_resultLength, a_inUse, a_parentOf, a_rankOf, a_nameOf, a_valueOf, a_order, a_along, a_draftKind, a_draftValue, a_draftEnd, a_tokenKind, a_tokenValue, a_tokenEnd, a_slotLength, a_setAt, am, a_reached, ag, a_isTemplate, a_matchSlot, a_priorityOf, a_outSlot, a_onSlot, a_waiting, a_result)) : wpX_workOut post (f_nodeCount, f_draftLength, f_resultLength, a_inUse, a_parentOf, a_rankOf, a_nameOf, a_valueOf, a_order, a_along, a_draftKind, a_draftValue, a_draftEnd, a_tokenKind, a_tokenValue, a_tokenEnd, a_slotLength, a_setAt, a_amount, a_reached, a_agenda, a_isTemplate, a_matchSlot, a_priorityOf, a_outSlot, a_onSlot, a_waiting, a_result) (nI y) (nI q) pos last := by
  have S0 := S
  obtain ⟨l1, l2, D, hE, hw⟩ := S
  have EL := te_E_le hw hb hy
  have eqv := tn_nv_eq (c := c) (r := r) (val := a_valueOf) (V := V) (σ := fun j => a_setAt (j * 24 + q)) (pos := pos) (last := last) hw (by omega)
  generalize hη : tn_nv c r a_valueOf K E V (fun j => a_setAt (j * 24 + q)) pos last = η at h eqv
  unfold wpX_workOut
  refine wx_plan S0 hb hy (fun due ag hd hlt hag h40 => ?_)
  have mono := tg_mono hw hb hy hlt
  have hge : ∀ t, t ≤ due → y ≤ tg_it K E y t := fun t ht => by have := (mono t ht).1; omega
  have d0 : 0 < due := by
    rcases Nat.eq_zero_or_pos due with z | z
    · subst z
      have g := te_E_gt hw hb hy
      have : tg_it K E y 0 = y := rfl
      omega
    · exact z
  have key : ∀ k am, k ≤ due → (∀ t, k ≤ t → t < due → am (tg_it K E y t) = tn_pl c r a_valueOf (K (tg_it K E y t)) (a_setAt (tg_it K E y t * 24 + q)) (η (tg_it K E y t))) →
      wX_workOut_13 post (nI q) pos last f_nodeCount f_draftLength f_resultLength (k + 1) (nI k - 1) a_inUse a_parentOf a_rankOf a_nameOf a_valueOf a_order a_along a_draftKind a_draftValue a_draftEnd a_tokenKind a_tokenValue a_tokenEnd a_slotLength a_setAt am a_reached ag a_isTemplate a_matchSlot a_priorityOf a_outSlot a_onSlot a_waiting a_result := by
    intro k
    induction k with
    | zero =>
      intro am hk ham
      exact br_t (by decide) (h am ag (ham 0 (Nat.le_refl _) d0))
    | succ k ih =>
      intro am hk ham
      obtain ⟨j, ej⟩ : ∃ j, tg_it K E y k = j := ⟨_, rfl⟩
      have jl := hlt k (by omega)
      have jg := hge k (by omega)
      rw [ej] at jl jg
      obtain ⟨d1, d2, d3⟩ := D j (by omega) (by omega)
      obtain ⟨eE, eV⟩ := hE j (by omega) (by omega)
      have cj : (nI j).toNatClampNeg = j := nI_clamp (by omega)
      have vj : vp_in (nI j) 320 := vp_in_nI (by omega) (by omega)
      have ev := eqv j (by omega) (by omega)
      have fin : ∀ v, v = tn_pl c r a_valueOf (K j) (a_setAt (j * 24 + q)) (η j) → wX_workOut_13 post (nI q) pos last f_nodeCount f_draftLength f_resultLength (k + 1) (nI k - 1) a_inUse a_parentOf a_rankOf a_nameOf a_valueOf a_order a_along a_draftKind a_draftValue a_draftEnd a_tokenKind a_tokenValue a_tokenEnd a_slotLength a_setAt (upd am j v) a_reached ag a_isTemplate a_matchSlot a_priorityOf a_outSlot a_onSlot a_waiting a_result := by
        intro v hv
        refine ih _ (by omega) (fun t ht1 ht2 => ?_)
        by_cases z : t = k
        · subst z
          rw [ej, pk_us]; exact hv
        · have := (mono t (by omega)).2 k (by omega)
          rw [pk_un (by omega)]
          exact ham t (by omega) ht2
      have ends : ∀ v, v = tn_pl c r a_valueOf (K j) (a_setAt (j * 24 + q)) (η j) → (vp_in (nI j) 320 ∧ ∀ am', am' = upd am (nI j).toNatClampNeg v → ∀ x6, x6 = nI k + (-1) → wX_workOut_13 post (nI q) pos last f_nodeCount f_draftLength f_resultLength (k + 1) x6 a_inUse a_parentOf a_rankOf a_nameOf a_valueOf a_order a_along a_draftKind a_draftValue a_draftEnd a_tokenKind a_tokenValue a_tokenEnd a_slotLength a_setAt am' a_reached ag a_isTemplate a_matchSlot a_priorityOf a_outSlot a_onSlot a_waiting a_result) :=
        fun v hv => ⟨vj, nm_r (by rw [cj]) (nm_r (tz_m1s _) (fin v hv))⟩
      have pl4 : ¬ K j < 4 → tn_pl c r a_valueOf (K j) (a_setAt (j * 24 + q)) (η j) = η j := fun z => by unfold tn_pl; rw [if_neg z]
      have x24 : (nI j * 24 + nI q).toNatClampNeg = j * 24 + q := by rw [te_ix]; exact nI_clamp (by omega)
      have x24' : (nI (j + 1) * 24 + nI q).toNatClampNeg = (j + 1) * 24 + q ∨ ¬ j + 1 < L := by
        by_cases w : j + 1 < L
        · exact Or.inl (by rw [te_ix]; exact nI_clamp (by omega))
        · exact Or.inr w
      have ne : ∀ {i : Nat}, i < 18 → K j ≠ i → ¬ nI (K j) = nI i := fun hi z w => z ((nI_eq (by omega) (by omega)).mp w)
      -- one operand, two operands
      have op1 : ¬ K j < 4 → 0 < te_o (K j) (W j) → j + 1 < L ∧ am (j + 1) = tn_pl c r a_valueOf (K (j + 1)) (a_setAt ((j + 1) * 24 + q)) (η (j + 1)) := fun z o => by
        obtain ⟨a1, a2, a3⟩ := tg_op1 hw hb hy hd hlt hge (by omega) ej z o
        have := ham (k + 1) (Nat.le_refl _) a2
        rw [a1] at this
        exact ⟨a3, this⟩
      have op2 : ¬ K j < 4 → te_o (K j) (W j) = 2 → E (j + 1) < L ∧ b ≤ E (j + 1) ∧ am (E (j + 1)) = tn_pl c r a_valueOf (K (E (j + 1))) (a_setAt (E (j + 1) * 24 + q)) (η (E (j + 1))) := fun z o => by
        obtain ⟨k2, a1, a2, a3⟩ := tg_op2 hw hb hy hd hlt hge (by omega) ej z o
        have := ham k2 (by omega) a2
        rw [a3] at this
        have s := te_two hw (i := j) (by omega) (by omega) o
        exact ⟨s.2.2.1, by omega, this⟩
      have sm : ∀ i, am i = tn_pl c r a_valueOf (K i) (a_setAt (i * 24 + q)) (η i) → tn_Sm (K i) (a_setAt (i * 24 + q)) (am i) (a_setAt (i * 24 + q)) (η i) := fun i hi => ⟨fun _ => rfl, fun z => by rw [hi]; unfold tn_pl; rw [if_neg z]⟩
      rw [nI_pred]
      refine br_f (nI_pos (by omega)) ⟨vp_in_nI (by omega) (by omega), nm_r (e' := nI j) (by rw [nI_clamp (by omega), hag k (by omega), ej]) (nm_r (nI_1 j) ⟨vj, nm_r (e' := nI (K j)) (by rw [cj]; exact d1) ?_⟩)⟩
      by_cases z4 : K j < 4
      · refine br_t (nI_lt (b := 4) z4 (by omega)) ⟨by rw [te_ix]; exact vp_in_nI (by omega) (by omega), wx_first T hnc ho (ends _ ?_)⟩
        rw [x24]
        unfold tn_pl
        rw [if_pos z4]
      have P4 := pl4 z4
      refine br_f (nI_nlt (b := 4) (by omega) (by omega)) (br_f (nI_nlt (a := 17) (b := K j) (by omega) (by omega)) ?_)
      by_cases z : K j = 4
      · refine br_t (by rw [z]; rfl) ⟨vj, ends _ ?_⟩
        rw [P4, ev, cj, eV, z]; rfl
      refine br_f (ne (i := 4) (by omega) z) ?_
      by_cases z5 : K j = 5
      · refine br_t (by rw [z5]; rfl) (ends _ ?_)
        rw [P4, ev, z5]; rfl
      refine br_f (ne (i := 5) (by omega) z5) ?_
      by_cases z6 : K j = 6
      · refine br_t (by rw [z6]; rfl) (ends _ ?_)
        rw [P4, ev, z6]; rfl
      refine br_f (ne (i := 6) (by omega) z6) ?_
      by_cases z7 : K j = 7
      · have s1 := te_set1 hw (i := j) (by omega) (by omega) (by omega) (by omega)
        have xx := x24'.resolve_right (fun w => w s1.1)
        refine br_t (by rw [z7]; rfl) ⟨by rw [te_ix]; exact vp_in_nI (by omega) (by omega), wx_count (ends _ ?_)⟩
        rw [P4, ev, xx, z7]; rfl
      refine br_f (ne (i := 7) (by omega) z7) ?_
      by_cases z8 : K j = 8
      · have s1 := te_set1 hw (i := j) (by omega) (by omega) (by omega) (by omega)
        have xx := x24'.resolve_right (fun w => w s1.1)
        refine br_t (by rw [z8]; rfl) ⟨by rw [te_ix]; exact vp_in_nI (by omega) (by omega), wx_sum (ends _ ?_)⟩
        rw [P4, ev, xx, z8]; rfl
      refine br_f (ne (i := 8) (by omega) z8) ?_
      by_cases z9 : K j = 9
      · have s1 := te_set1 hw (i := j) (by omega) (by omega) (by omega) (by omega)
        obtain ⟨o1, o2⟩ := op1 z4 (by rw [te_o1 (by omega) (by omega)]; omega)
        refine br_t (by rw [z9]; rfl) ⟨vp_in_nI (by omega) (by omega), ends _ ?_⟩
        rw [P4, ev, nI_clamp (by omega), o2, z9]
        unfold tn_pl
        rw [if_pos s1.2]; rfl
      refine br_f (ne (i := 9) (by omega) z9) ?_
      by_cases z17 : K j = 17
      · obtain ⟨o1, o2⟩ := op1 z4 (by rw [te_o17 (by omega)]; omega)
        have tre := tn_tr_c (sm (j + 1) o2)
        refine br_f (ne (i := 10) (by omega) (by omega)) (br_f (ne (i := 11) (by omega) (by omega)) (br_f (ne (i := 12) (by omega) (by omega)) (br_f (ne (i := 13) (by omega) (by omega)) (br_f (ne (i := 14) (by omega) (by omega)) (br_f (ne (i := 15) (by omega) (by omega)) (br_f (ne (i := 16) (by omega) (by omega)) (br_t (by rw [z17]; rfl) (wx_isTrue S0 (by omega) o1 hq (fun w => br_f (by decide) (ends 0 ?_)) (fun w => br_t rfl (ends 1 ?_))))))))))
        · rw [P4, ev, z17]
          rw [tre] at w
          exact (tn_b_f (fun v => v w)).symm
        · rw [P4, ev, z17]
          rw [tre] at w
          exact (tn_b_t w).symm
      have two := te_o2 (k := K j) (w := W j) (by omega) (by omega)
      obtain ⟨o1, o2⟩ := op1 z4 (by omega)
      obtain ⟨p1, p2, p3⟩ := op2 z4 two
      have eE1 : a_tokenEnd (nI (j + 1)).toNatClampNeg = nI (E (j + 1)) := by rw [nI_clamp (by omega)]; exact (hE (j + 1) (by omega) o1).1
      have vj1 : vp_in (nI (j + 1)) 320 := vp_in_nI (by omega) (by omega)
      have calc1 : 10 ≤ K j → K j ≤ 12 → wX_workOut_221 post (wX_workOut_13 post (nI q) pos last f_nodeCount f_draftLength f_resultLength (k + 1)) (nI q) pos last (nI k) (nI j) f_nodeCount f_draftLength f_resultLength a_inUse a_parentOf a_rankOf a_nameOf a_valueOf a_order a_along a_draftKind a_draftValue a_draftEnd a_tokenKind a_tokenValue a_tokenEnd a_slotLength a_setAt am a_reached ag a_isTemplate a_matchSlot a_priorityOf a_outSlot a_onSlot a_waiting a_result := by
        intro h10 h12
        unfold wX_workOut_221
        refine wx_calc S0 (by omega) (by omega) h10 h12 (ends _ ?_)
        rw [P4, ev, o2, p3]
        unfold tn_res
        rw [if_neg z4, if_neg (show ¬ K j < 10 by omega), if_pos (show K j < 17 by omega)]
        unfold tn_r2
        by_cases y10 : K j = 10
        · rw [if_pos y10, if_pos y10]
        · rw [if_neg y10, if_neg y10]
          by_cases y11 : K j = 11
          · rw [if_pos y11, if_pos y11]
          · rw [if_neg y11, if_neg y11, if_pos (show K j = 12 by omega)]
      have cmp1 : K j = 13 ∨ K j = 14 → wX_workOut_237 post (wX_workOut_13 post (nI q) pos last f_nodeCount f_draftLength f_resultLength (k + 1)) (nI q) pos last (nI k) (nI j) f_nodeCount f_draftLength f_resultLength a_inUse a_parentOf a_rankOf a_nameOf a_valueOf a_order a_along a_draftKind a_draftValue a_draftEnd a_tokenKind a_tokenValue a_tokenEnd a_slotLength a_setAt am a_reached ag a_isTemplate a_matchSlot a_priorityOf a_outSlot a_onSlot a_waiting a_result := by
        intro h1314
        have ce := tn_Cm_c (kd := K j) (val := a_valueOf) (sm (j + 1) o2) (sm (E (j + 1)) p3)
        have er : η j = tn_b (tn_Cm (K j) a_valueOf (K (j + 1)) (a_setAt ((j + 1) * 24 + q)) (η (j + 1)) (K (E (j + 1))) (a_setAt (E (j + 1) * 24 + q)) (η (E (j + 1)))) := by
          rw [ev]
          unfold tn_res
          rw [if_neg z4, if_neg (show ¬ K j < 10 by omega), if_pos (show K j < 17 by omega)]
          unfold tn_r2
          rw [if_neg (show ¬ K j = 10 by omega), if_neg (show ¬ K j = 11 by omega), if_neg (show ¬ K j = 12 by omega), if_pos (show K j < 15 by omega)]
        unfold wX_workOut_237
        refine wx_cmp S0 (by omega) (by omega) hq h1314 (fun w => br_f (by decide) (ends 1 ?_)) (fun w => br_t rfl (ends 0 ?_))
        · rw [ce] at w
          rw [P4, er, tn_b_t w]
        · rw [ce] at w
          rw [P4, er, tn_b_f w]
      by_cases z10 : K j = 10
      · exact br_t (by rw [z10]; rfl) (calc1 (by omega) (by omega))
      refine br_f (ne (i := 10) (by omega) z10) ?_
      by_cases z11 : K j = 11
      · exact br_t (by rw [z11]; rfl) (calc1 (by omega) (by omega))
      refine br_f (ne (i := 11) (by omega) z11) ?_
      by_cases z12 : K j = 12
      · exact br_t (by rw [z12]; rfl) (calc1 (by omega) (by omega))
      refine br_f (ne (i := 12) (by omega) z12) ?_
      by_cases z13 : K j = 13
      · exact br_t (by rw [z13]; rfl) (cmp1 (Or.inl z13))
      refine br_f (ne (i := 13) (by omega) z13) ?_
      by_cases z14 : K j = 14
      · exact br_t (by rw [z14]; rfl) (cmp1 (Or.inr z14))
      refine br_f (ne (i := 14) (by omega) z14) ?_
      have t1 := tn_tr_c (sm (j + 1) o2)
      have t2 := tn_tr_c (sm (E (j + 1)) p3)
      by_cases z15 : K j = 15
      · refine br_t (by rw [z15]; rfl) (wx_isTrue S0 (by omega) o1 hq (fun w => br_f (by decide) ⟨vj1, ?_⟩) (fun w => br_t rfl (ends 0 ?_)))
        · rw [eE1]
          refine wx_isTrue S0 p2 p1 hq (fun w2 => br_f (by decide) (ends 1 ?_)) (fun w2 => br_t rfl (ends 0 ?_))
          · rw [P4, ev, z15]
            rw [t1] at w
            rw [t2] at w2
            exact (tn_b_t ⟨w, w2⟩).symm
          · rw [P4, ev, z15]
            rw [t2] at w2
            exact (tn_b_f (fun v => w2 v.2)).symm
        · rw [P4, ev, z15]
          rw [t1] at w
          exact (tn_b_f (fun v => w v.1)).symm
      refine br_f (ne (i := 15) (by omega) z15) ?_
      have z16 : K j = 16 := by omega
      refine br_t (by rw [z16]; rfl) (wx_isTrue S0 (by omega) o1 hq (fun w => br_f (by decide) (ends 1 ?_)) (fun w => br_t rfl ⟨vj1, ?_⟩))
      · rw [P4, ev, z16]
        rw [t1] at w
        exact (tn_b_t (Or.inl w)).symm
      · rw [eE1]
        refine wx_isTrue S0 p2 p1 hq (fun w2 => br_f (by decide) (ends 1 ?_)) (fun w2 => br_t rfl (ends 0 ?_))
        · rw [P4, ev, z16]
          rw [t2] at w2
          exact (tn_b_t (Or.inr w2)).symm
        · rw [P4, ev, z16]
          rw [t1] at w
          rw [t2] at w2
          exact (tn_b_f (fun v => v.elim w w2)).symm
  exact nm_r (e' := nI due - 1) rfl ⟨due + 1, key due a_amount (Nat.le_refl _) (fun t a b' => by omega)⟩
end
