/-! walks of the component over its tree: laying out -/
def tx_RB (r d : Nat → Nat) (i j : Nat) (B : Nat → Prop) (a q q' : Nat) : Prop := tx_R r d i j a q q' ∨ (B a ∧ q = r j ∧ q' = r i) ∨ ((1 ≤ a ∧ B (a - 1)) ∧ q = r i ∧ q' = r j)
theorem tx_RB_s {r d : Nat → Nat} {i j x a q q' : Nat} {B : Nat → Prop} : (tx_RB r d i j B a q q' ∨ (a = x ∧ q = r j ∧ q' = r i) ∨ (a = x + 1 ∧ q = r i ∧ q' = r j)) ↔ tx_RB r d i j (fun a => B a ∨ a = x) a q q' := by
  unfold tx_RB
  constructor
  · rintro ((h | h | h) | h | h)
    · exact Or.inl h
    · exact Or.inr (Or.inl ⟨Or.inl h.1, h.2⟩)
    · exact Or.inr (Or.inr ⟨⟨h.1.1, Or.inl h.1.2⟩, h.2⟩)
    · exact Or.inr (Or.inl ⟨Or.inr h.1, h.2⟩)
    · exact Or.inr (Or.inr ⟨⟨by omega, Or.inr (by omega)⟩, h.2⟩)
  · rintro (h | ⟨h1 | h1, h2⟩ | ⟨⟨h0, h1 | h1⟩, h2⟩)
    · exact Or.inl (Or.inl h)
    · exact Or.inl (Or.inr (Or.inl ⟨h1, h2⟩))
    · exact Or.inr (Or.inl ⟨h1, h2⟩)
    · exact Or.inl (Or.inr (Or.inr ⟨⟨h0, h1⟩, h2⟩))
    · exact Or.inr (Or.inr ⟨by omega, h2⟩)
theorem tx_RB_0 {r d : Nat → Nat} {i j a q q' : Nat} : tx_R r d i j a q q' ↔ tx_RB r d i j (fun _ => False) a q q' := by
  unfold tx_RB
  constructor
  · exact Or.inl
  · rintro (h | h | h)
    · exact h
    · exact h.1.elim
    · exact h.1.2.elim
theorem tx_RB_e {r d : Nat → Nat} {i j : Nat} {B : Nat → Prop} {al : Nat → Int32} (hj : j < i) (h : tx_Rep al (tx_RB r d i j B)) (e : ∀ a, B a ↔ td_fw d a j i) : tx_Rep al (tx_R r d i (j + 1)) := by
  refine tx_rep_c h (fun a q q' ha _ _ => ?_)
  rw [← tx_R_s ha hj]
  unfold tx_RB
  rw [e a, e (a - 1)]
theorem tx_ix {x e : Nat} : nI x * 24 + nI e = nI (x * 24 + e) := by
  rw [show (24 : Int32) = nI 24 from rfl, pk_mul, nI_add]
section
variable {f_nodeCount f_draftLength f_resultLength : Int32} {a_inUse a_parentOf a_rankOf a_nameOf a_valueOf a_order a_along a_draftKind a_draftValue a_draftEnd a_tokenKind a_tokenValue a_tokenEnd a_slotLength a_setAt a_amount a_reached a_agenda a_isTemplate a_matchSlot a_priorityOf a_outSlot a_onSlot a_waiting a_result : Nat → Int32} {c : Nat} {r d : Nat → Nat}
theorem wx_link {post : SX → Prop} {R : Nat → Nat → Nat → Prop} {x e l : Nat} (hR : tx_Rep a_along R) (hx : x + 1 < 11) (he : e < 24) (hl : l < 24)
    (h : ∀ al, tx_Rep al (fun a q q' => R a q q' ∨ (a = x ∧ q = e ∧ q' = l) ∨ (a = x + 1 ∧ q = l ∧ q' = e)) → post (f_nodeCount, f_draftLength, f_resultLength, a_inUse, a_parentOf, a_rankOf, a_nameOf, a_valueOf, a_order, al, a_draftKind, a_draftValue, a_draftEnd, a_tokenKind, a_tokenValue, a_tokenEnd, a_slotLength, a_setAt, a_amount, a_reached, a_agenda, a_isTemplate, a_matchSlot, a_priorityOf, a_outSlot, a_onSlot, a_waiting, a_result)) : wpX_link post (f_nodeCount, f_draftLength, f_resultLength, a_inUse, a_parentOf, a_rankOf, a_nameOf, a_valueOf, a_order, a_along, a_draftKind, a_draftValue, a_draftEnd, a_tokenKind, a_tokenValue, a_tokenEnd, a_slotLength, a_setAt, a_amount, a_reached, a_agenda, a_isTemplate, a_matchSlot, a_priorityOf, a_outSlot, a_onSlot, a_waiting, a_result) (nI x) (nI e) (nI l) := by
  have c1 : (nI x * 24 + nI e).toNatClampNeg = x * 24 + e := by rw [tx_ix]; exact nI_clamp (by omega)
  have c2 : ((nI x + 1) * 24 + nI l).toNatClampNeg = (x + 1) * 24 + l := by rw [nI_1, tx_ix]; exact nI_clamp (by omega)
  have v1 : vp_in (nI x * 24 + nI e) 264 := by rw [tx_ix]; exact vp_in_nI (by omega) (by omega)
  have v2 : vp_in ((nI x + 1) * 24 + nI l) 264 := by rw [nI_1, tx_ix]; exact vp_in_nI (by omega) (by omega)
  unfold wpX_link
  refine ⟨v1, v1, fun al1 e1 => ⟨v2, v2, fun al2 e2 => ?_⟩⟩
  rw [c1] at e1
  rw [c2] at e2
  rw [e2]
  exact h _ (tx_link hR hx he hl al1 e1)
theorem wx_linkB {post : SX → Prop} {i j x : Nat} {B : Nat → Prop} (hR : tx_Rep a_along (tx_RB r d i j B)) (hx : x + 1 < 11) (he : r j < 24) (hl : r i < 24)
    (h : ∀ al, tx_Rep al (tx_RB r d i j (fun a => B a ∨ a = x)) → post (f_nodeCount, f_draftLength, f_resultLength, a_inUse, a_parentOf, a_rankOf, a_nameOf, a_valueOf, a_order, al, a_draftKind, a_draftValue, a_draftEnd, a_tokenKind, a_tokenValue, a_tokenEnd, a_slotLength, a_setAt, a_amount, a_reached, a_agenda, a_isTemplate, a_matchSlot, a_priorityOf, a_outSlot, a_onSlot, a_waiting, a_result)) : wpX_link post (f_nodeCount, f_draftLength, f_resultLength, a_inUse, a_parentOf, a_rankOf, a_nameOf, a_valueOf, a_order, a_along, a_draftKind, a_draftValue, a_draftEnd, a_tokenKind, a_tokenValue, a_tokenEnd, a_slotLength, a_setAt, a_amount, a_reached, a_agenda, a_isTemplate, a_matchSlot, a_priorityOf, a_outSlot, a_onSlot, a_waiting, a_result) (nI x) (nI (r j)) (nI (r i)) :=
  wx_link hR hx he hl (fun al hal => h al (tx_rep_c hal (fun _ _ _ _ _ _ => tx_RB_s)))
/-- what a place's parent says of the places before it -/
def tx_Ab (d : Nat → Nat) (r : Nat → Nat) (i : Nat) (pa : Nat → Int32) (x3 x4 : Int32) : Prop :=
  ∀ j, j < i → (bt x4 (r j) = true ↔ td_An d j i) ∧ (x3 = nI (r j) ↔ td_Pa d j i) ∧ (x3 = pa (r j) ↔ ∃ p, td_Pa d p j ∧ td_Pa d p i)
theorem wx_l2e_l {post : SX → Prop} {i : Nat} {x3 x4 : Int32} (T : td_T c r d) (hi : i < c) (ho : ∀ j, j < i → a_order j = nI (r j)) (hA : tx_Ab d r i a_parentOf x3 x4)
    (h : ∀ al, tx_Rep al (tx_R0 r d (i + 1)) → post (f_nodeCount, f_draftLength, f_resultLength, a_inUse, a_parentOf, a_rankOf, a_nameOf, a_valueOf, a_order, al, a_draftKind, a_draftValue, a_draftEnd, a_tokenKind, a_tokenValue, a_tokenEnd, a_slotLength, a_setAt, a_amount, a_reached, a_agenda, a_isTemplate, a_matchSlot, a_priorityOf, a_outSlot, a_onSlot, a_waiting, a_result)) :
    ∀ k j al, j + k = i → tx_Rep al (tx_R r d i j) → wX_linkToEarlier_50 post (nI (r i)) (nI i) x3 x4 (k + 1) (nI j) f_nodeCount f_draftLength f_resultLength a_inUse a_parentOf a_rankOf a_nameOf a_valueOf a_order al a_draftKind a_draftValue a_draftEnd a_tokenKind a_tokenValue a_tokenEnd a_slotLength a_setAt a_amount a_reached a_agenda a_isTemplate a_matchSlot a_priorityOf a_outSlot a_onSlot a_waiting a_result := by
  have c24 := T.1
  intro k
  induction k with
  | zero =>
    intro j al hj hal
    have e : j = i := by omega
    subst e
    exact br_t (nI_le (Nat.le_refl _) (by omega)) (h al (tx_rep_c hal (fun _ _ _ _ _ _ => tx_R_end)))
  | succ k ih =>
    intro j al hj hal
    have ej : (nI j).toNatClampNeg = j := nI_clamp (by omega)
    have rj := T.2.2.2.1 j (by omega)
    have ri := T.2.2.2.1 i hi
    have er : (nI (r j)).toNatClampNeg = r j := nI_clamp (by omega)
    obtain ⟨A1, A2, A3⟩ := hA j (by omega)
    have nsib : td_Pa d j i → ¬ ∃ p, td_Pa d p j ∧ td_Pa d p i := fun x ⟨p, y, z⟩ => by
      have := td_uq x z
      subst this
      exact td_nPa (Nat.le_refl _) y
    have fin : ∀ (B : Nat → Prop) (al2 : Nat → Int32), tx_Rep al2 (tx_RB r d i j B) → ((B 1 ↔ False) ∧ (B 5 ↔ False)) → (∀ a, a ≠ 1 → a ≠ 5 → (B a ↔ td_fw d a j i)) →
        wX_linkToEarlier_104 post (wX_linkToEarlier_50 post (nI (r i)) (nI i) x3 x4 (k + 1)) (nI (r i)) (nI i) x3 x4 (nI j) (nI (r j)) f_nodeCount f_draftLength f_resultLength a_inUse a_parentOf a_rankOf a_nameOf a_valueOf a_order al2 a_draftKind a_draftValue a_draftEnd a_tokenKind a_tokenValue a_tokenEnd a_slotLength a_setAt a_amount a_reached a_agenda a_isTemplate a_matchSlot a_priorityOf a_outSlot a_onSlot a_waiting a_result := by
      intro B al2 h2 b15 bo
      have nx : ∀ (B' : Nat → Prop) (al3 : Nat → Int32), tx_Rep al3 (tx_RB r d i j B') → (∀ a, B' a ↔ td_fw d a j i) → wX_linkToEarlier_50 post (nI (r i)) (nI i) x3 x4 (k + 1) (nI (j + 1)) f_nodeCount f_draftLength f_resultLength a_inUse a_parentOf a_rankOf a_nameOf a_valueOf a_order al3 a_draftKind a_draftValue a_draftEnd a_tokenKind a_tokenValue a_tokenEnd a_slotLength a_setAt a_amount a_reached a_agenda a_isTemplate a_matchSlot a_priorityOf a_outSlot a_onSlot a_waiting a_result :=
        fun B' al3 h3 e3 => ih (j + 1) al3 (by omega) (tx_RB_e (by omega) h3 e3)
      unfold wX_linkToEarlier_104
      by_cases z : td_Pa d j i
      · refine br_t (A2.mpr z) (wx_linkB (x := 1) h2 (by omega) rj ri (fun al3 h3 => nm_r (nI_1 j) (nx _ al3 h3 (fun a => ?_))))
        by_cases a1 : a = 1
        · subst a1
          exact ⟨fun _ => Or.inl ⟨rfl, z⟩, fun _ => Or.inr rfl⟩
        · by_cases a5 : a = 5
          · subst a5
            constructor
            · rintro (w | w)
              · exact (b15.2.mp w).elim
              · omega
            · rintro (w | w | w | w | w)
              · omega
              · omega
              · exact absurd w.2 (nsib z)
              · omega
              · omega
          · rw [← bo a a1 a5]
            exact ⟨fun w => w.elim id (fun y => absurd y a1), Or.inl⟩
      · refine br_f (fun w => z (A2.mp w)) ⟨vp_in_nI rj (by omega), ?_⟩
        by_cases y : ∃ p, td_Pa d p j ∧ td_Pa d p i
        · refine br_t (by rw [er]; exact A3.mpr y) (wx_linkB (x := 5) h2 (by omega) rj ri (fun al3 h3 => nm_r (nI_1 j) (nx _ al3 h3 (fun a => ?_))))
          by_cases a5 : a = 5
          · subst a5
            exact ⟨fun _ => Or.inr (Or.inr (Or.inl ⟨rfl, y⟩)), fun _ => Or.inr rfl⟩
          · by_cases a1 : a = 1
            · subst a1
              constructor
              · rintro (w | w)
                · exact (b15.1.mp w).elim
                · omega
              · rintro (w | w | w | w | w)
                · exact absurd w.2 z
                · omega
                · omega
                · omega
                · omega
            · rw [← bo a a1 a5]
              exact ⟨fun w => w.elim id (fun y => absurd y a5), Or.inl⟩
        · refine br_f (by rw [er]; exact fun w => y (A3.mp w)) (nm_r (nI_1 j) (nx B al2 h2 (fun a => ?_)))
          by_cases a5 : a = 5
          · subst a5
            constructor
            · exact fun w => (b15.2.mp w).elim
            · rintro (w | w | w | w | w)
              · omega
              · omega
              · exact absurd w.2 y
              · omega
              · omega
          · by_cases a1 : a = 1
            · subst a1
              constructor
              · exact fun w => (b15.1.mp w).elim
              · rintro (w | w | w | w | w)
                · exact absurd w.2 z
                · omega
                · omega
                · omega
                · omega
            · exact bo a a1 a5
    have h0 : tx_Rep al (tx_RB r d i j (fun _ => False)) := tx_rep_c hal (fun _ _ _ _ _ _ => tx_RB_0)
    refine br_f (nI_ge (by omega) (by omega)) ⟨vp_in_nI (by omega) (by omega), nm_r (e' := nI (r j)) (by rw [ej]; exact ho j (by omega)) ?_⟩
    by_cases z : td_An d j i
    · refine br_f (fun w => ?_) (wx_linkB (x := 3) h0 (by omega) rj ri (fun al1 h1 => wx_linkB (x := 9) h1 (by omega) rj ri (fun al2 h2 => fin _ al2 h2 ⟨by simp, by simp⟩ (fun a a1 a5 => ?_))))
      · rw [mk_f (by omega)] at w
        rw [A1.mpr z] at w
        cases w
      · constructor
        · rintro ((w | w) | w)
          · exact w.elim
          · exact Or.inr (Or.inl ⟨w, z⟩)
          · exact Or.inr (Or.inr (Or.inr (Or.inr ⟨w, z⟩)))
        · rintro (w | w | w | w | w)
          · exact absurd w.1 a1
          · exact Or.inl (Or.inr w.1)
          · exact absurd w.1 a5
          · exact absurd z w.2
          · exact Or.inr w.1
    · refine br_t ((mk_f (by omega)).mpr (tz_nb (fun w => z (A1.mp w)))) (wx_linkB (x := 7) h0 (by omega) rj ri (fun al2 h2 => fin _ al2 h2 ⟨by simp, by simp⟩ (fun a a1 a5 => ?_)))
      constructor
      · rintro (w | w)
        · exact w.elim
        · exact Or.inr (Or.inr (Or.inr (Or.inl ⟨w, z⟩)))
      · rintro (w | w | w | w | w)
        · exact absurd w.1 a1
        · exact absurd w.2 z
        · exact absurd w.1 a5
        · exact Or.inr w.1
        · exact absurd w.2 z
end
