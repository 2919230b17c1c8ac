/-! kinds of tokens: operands, types -/
theorem wy_inr {post : Int32 → Prop} {k lo hi : Nat} (hk : k < 2 ^ 31) (hl : lo < 2 ^ 31) (hh : hi < 2 ^ 31) (h1 : lo ≤ k → k ≤ hi → post 1) (h0 : ¬ (lo ≤ k ∧ k ≤ hi) → post 0) : wpY_in post (nI k) (nI lo) (nI hi) := by
  unfold wpY_in
  by_cases z : k < lo
  · exact br_t (nI_lt z hl) (h0 (by omega))
  · by_cases y : hi < k
    · exact br_f (nI_nlt (by omega) hk) (br_t (nI_lt y hk) (h0 (by omega)))
    · exact br_f (nI_nlt (by omega) hk) (br_f (nI_nlt (by omega) hh) (h1 (by omega) (by omega)))
theorem te_18 {P : Nat → Prop} (h0 : P 0) ( h1 : P 1) ( h2 : P 2) ( h3 : P 3) ( h4 : P 4) ( h5 : P 5) ( h6 : P 6) ( h7 : P 7) ( h8 : P 8) ( h9 : P 9) ( h10 : P 10) ( h11 : P 11) ( h12 : P 12) ( h13 : P 13) ( h14 : P 14) ( h15 : P 15) ( h16 : P 16) ( h17 : P 17)  {k : Nat} (hk : k < 18) : P k := by
  have e : k = 0 ∨ k = 1 ∨ k = 2 ∨ k = 3 ∨ k = 4 ∨ k = 5 ∨ k = 6 ∨ k = 7 ∨ k = 8 ∨ k = 9 ∨ k = 10 ∨ k = 11 ∨ k = 12 ∨ k = 13 ∨ k = 14 ∨ k = 15 ∨ k = 16 ∨ k = 17 := by omega
  rcases e with e | e | e | e | e | e | e | e | e | e | e | e | e | e | e | e | e | e <;> subst e <;> assumption
section
variable {f_nodeCount f_draftLength f_resultLength : Int32} {a_inUse a_parentOf a_rankOf a_nameOf a_valueOf a_order a_along a_draftKind a_draftValue a_draftEnd a_tokenKind a_tokenValue a_tokenEnd a_slotLength a_setAt a_amount a_reached a_agenda a_isTemplate a_matchSlot a_priorityOf a_outSlot a_onSlot a_waiting a_result : Nat → Int32}
theorem wx_operands {post : Int32 → Prop} {k w : Nat} {v : Int32} (hk : k < 18) (hv : k = 2 → v = nI w ∧ w < 384) (h : post (nI (te_o k w))) : wpX_operandsOf post (f_nodeCount, f_draftLength, f_resultLength, a_inUse, a_parentOf, a_rankOf, a_nameOf, a_valueOf, a_order, a_along, a_draftKind, a_draftValue, a_draftEnd, a_tokenKind, a_tokenValue, a_tokenEnd, a_slotLength, a_setAt, a_amount, a_reached, a_agenda, a_isTemplate, a_matchSlot, a_priorityOf, a_outSlot, a_onSlot, a_waiting, a_result) (nI k) v := by
  revert hv h
  refine te_18 (P := fun k => (k = 2 → v = nI w ∧ w < 384) → post (nI (te_o k w)) → wpX_operandsOf post (f_nodeCount, f_draftLength, f_resultLength, a_inUse, a_parentOf, a_rankOf, a_nameOf, a_valueOf, a_order, a_along, a_draftKind, a_draftValue, a_draftEnd, a_tokenKind, a_tokenValue, a_tokenEnd, a_slotLength, a_setAt, a_amount, a_reached, a_agenda, a_isTemplate, a_matchSlot, a_priorityOf, a_outSlot, a_onSlot, a_waiting, a_result) (nI k) v) ?_ ?_ ?_ ?_ ?_ ?_ ?_ ?_ ?_ ?_ ?_ ?_ ?_ ?_ ?_ ?_ ?_ ?_ hk
  · intro hv h
    unfold wpX_operandsOf
    exact br_t (by decide) h
  · intro hv h
    unfold wpX_operandsOf
    exact br_t (by decide) h
  · intro hv h
    obtain ⟨rfl, hw⟩ := hv rfl
    unfold wpX_operandsOf
    refine br_f (by decide) (br_f (by decide) (br_t (by decide) ?_))
    have e : (1 : Int32) + (nI w >>> ((7 : Int32) &&& 31)) = nI (te_o 2 w) := by
      rw [pk_shrN (by omega) _ 7 (by decide), show (1 : Int32) = nI 1 from rfl, nI_add]; rfl
    show post ((1 : Int32) + (nI w >>> ((7 : Int32) &&& 31)))
    rw [e]; exact h
  · intro hv h
    unfold wpX_operandsOf
    exact br_f (by decide) (br_f (by decide) (br_f (by decide) (br_t (by decide) h)))
  · intro hv h
    unfold wpX_operandsOf
    exact br_f (by decide) (br_f (by decide) (br_f (by decide) (br_f (by decide) (br_t (by decide) h))))
  · intro hv h
    unfold wpX_operandsOf
    exact br_f (by decide) (br_f (by decide) (br_f (by decide) (br_f (by decide) (br_f (by decide) (br_t (by decide) h)))))
  · intro hv h
    unfold wpX_operandsOf
    exact br_f (by decide) (br_f (by decide) (br_f (by decide) (br_f (by decide) (br_f (by decide) (br_f (by decide) (br_t (by decide) h))))))
  · intro hv h
    unfold wpX_operandsOf
    exact br_f (by decide) (br_f (by decide) (br_f (by decide) (br_f (by decide) (br_f (by decide) (br_f (by decide) (br_f (by decide) (br_t (by decide) h)))))))
  · intro hv h
    unfold wpX_operandsOf
    exact br_f (by decide) (br_f (by decide) (br_f (by decide) (br_f (by decide) (br_f (by decide) (br_f (by decide) (br_f (by decide) (br_f (by decide) (br_t (by decide) h))))))))
  · intro hv h
    unfold wpX_operandsOf
    exact br_f (by decide) (br_f (by decide) (br_f (by decide) (br_f (by decide) (br_f (by decide) (br_f (by decide) (br_f (by decide) (br_f (by decide) (br_f (by decide) (br_t (by decide) h)))))))))
  · intro hv h
    unfold wpX_operandsOf
    exact br_f (by decide) (br_f (by decide) (br_f (by decide) (br_f (by decide) (br_f (by decide) (br_f (by decide) (br_f (by decide) (br_f (by decide) (br_f (by decide) (br_f (by decide) (br_t (by decide) h))))))))))
  · intro hv h
    unfold wpX_operandsOf
    exact br_f (by decide) (br_f (by decide) (br_f (by decide) (br_f (by decide) (br_f (by decide) (br_f (by decide) (br_f (by decide) (br_f (by decide) (br_f (by decide) (br_f (by decide) (br_f (by decide) (br_t (by decide) h)))))))))))
  · intro hv h
    unfold wpX_operandsOf
    exact br_f (by decide) (br_f (by decide) (br_f (by decide) (br_f (by decide) (br_f (by decide) (br_f (by decide) (br_f (by decide) (br_f (by decide) (br_f (by decide) (br_f (by decide) (br_f (by decide) (br_f (by decide) (br_t (by decide) h))))))))))))
  · intro hv h
    unfold wpX_operandsOf
    exact br_f (by decide) (br_f (by decide) (br_f (by decide) (br_f (by decide) (br_f (by decide) (br_f (by decide) (br_f (by decide) (br_f (by decide) (br_f (by decide) (br_f (by decide) (br_f (by decide) (br_f (by decide) (br_f (by decide) (br_t (by decide) h)))))))))))))
  · intro hv h
    unfold wpX_operandsOf
    exact br_f (by decide) (br_f (by decide) (br_f (by decide) (br_f (by decide) (br_f (by decide) (br_f (by decide) (br_f (by decide) (br_f (by decide) (br_f (by decide) (br_f (by decide) (br_f (by decide) (br_f (by decide) (br_f (by decide) (br_f (by decide) (br_t (by decide) h))))))))))))))
  · intro hv h
    unfold wpX_operandsOf
    exact br_f (by decide) (br_f (by decide) (br_f (by decide) (br_f (by decide) (br_f (by decide) (br_f (by decide) (br_f (by decide) (br_f (by decide) (br_f (by decide) (br_f (by decide) (br_f (by decide) (br_f (by decide) (br_f (by decide) (br_f (by decide) (br_f (by decide) (br_t (by decide) h)))))))))))))))
  · intro hv h
    unfold wpX_operandsOf
    exact br_f (by decide) (br_f (by decide) (br_f (by decide) (br_f (by decide) (br_f (by decide) (br_f (by decide) (br_f (by decide) (br_f (by decide) (br_f (by decide) (br_f (by decide) (br_f (by decide) (br_f (by decide) (br_f (by decide) (br_f (by decide) (br_f (by decide) (br_f (by decide) (br_t (by decide) h))))))))))))))))
  · intro hv h
    unfold wpX_operandsOf
    exact br_f (by decide) (br_f (by decide) (br_f (by decide) (br_f (by decide) (br_f (by decide) (br_f (by decide) (br_f (by decide) (br_f (by decide) (br_f (by decide) (br_f (by decide) (br_f (by decide) (br_f (by decide) (br_f (by decide) (br_f (by decide) (br_f (by decide) (br_f (by decide) (br_f (by decide) (br_t (by decide) h)))))))))))))))))
theorem wx_loosest {post : Int32 → Prop} {k t : Nat} (hk : k < 18) (ht : t < 2 ^ 31) (h : post (nI (te_lo k t))) : wpX_loosestOperand post (f_nodeCount, f_draftLength, f_resultLength, a_inUse, a_parentOf, a_rankOf, a_nameOf, a_valueOf, a_order, a_along, a_draftKind, a_draftValue, a_draftEnd, a_tokenKind, a_tokenValue, a_tokenEnd, a_slotLength, a_setAt, a_amount, a_reached, a_agenda, a_isTemplate, a_matchSlot, a_priorityOf, a_outSlot, a_onSlot, a_waiting, a_result) (nI k) (nI t) := by
  revert h
  refine te_18 (P := fun k => post (nI (te_lo k t)) → wpX_loosestOperand post (f_nodeCount, f_draftLength, f_resultLength, a_inUse, a_parentOf, a_rankOf, a_nameOf, a_valueOf, a_order, a_along, a_draftKind, a_draftValue, a_draftEnd, a_tokenKind, a_tokenValue, a_tokenEnd, a_slotLength, a_setAt, a_amount, a_reached, a_agenda, a_isTemplate, a_matchSlot, a_priorityOf, a_outSlot, a_onSlot, a_waiting, a_result) (nI k) (nI t)) ?_ ?_ ?_ ?_ ?_ ?_ ?_ ?_ ?_ ?_ ?_ ?_ ?_ ?_ ?_ ?_ ?_ ?_ hk
  · intro h
    unfold wpX_loosestOperand
    exact br_t (by decide) h
  · intro h
    unfold wpX_loosestOperand
    exact br_t (by decide) h
  · intro h
    unfold wpX_loosestOperand
    refine br_f (by decide) (br_f (by decide) (br_t (by decide) ?_))
    by_cases z : t = 0
    · subst z; exact br_t (by decide) h
    · refine br_f (fun w => z ((nI_eq (b := 0) ht (by omega)).mp w)) ?_
      rw [show te_lo 2 t = 2 by unfold te_lo; rw [if_pos rfl, if_neg z]] at h
      exact h
  · intro h
    unfold wpX_loosestOperand
    exact br_f (by decide) (br_f (by decide) (br_f (by decide) (br_t (by decide) h)))
  · intro h
    unfold wpX_loosestOperand
    exact br_f (by decide) (br_f (by decide) (br_f (by decide) (br_f (by decide) (br_t (by decide) h))))
  · intro h
    unfold wpX_loosestOperand
    exact br_f (by decide) (br_f (by decide) (br_f (by decide) (br_f (by decide) (br_f (by decide) (br_t (by decide) h)))))
  · intro h
    unfold wpX_loosestOperand
    exact br_f (by decide) (br_f (by decide) (br_f (by decide) (br_f (by decide) (br_f (by decide) (br_f (by decide) (br_t (by decide) h))))))
  · intro h
    unfold wpX_loosestOperand
    exact br_f (by decide) (br_f (by decide) (br_f (by decide) (br_f (by decide) (br_f (by decide) (br_f (by decide) (br_f (by decide) (br_t (by decide) h)))))))
  · intro h
    unfold wpX_loosestOperand
    exact br_f (by decide) (br_f (by decide) (br_f (by decide) (br_f (by decide) (br_f (by decide) (br_f (by decide) (br_f (by decide) (br_f (by decide) (br_t (by decide) h))))))))
  · intro h
    unfold wpX_loosestOperand
    exact br_f (by decide) (br_f (by decide) (br_f (by decide) (br_f (by decide) (br_f (by decide) (br_f (by decide) (br_f (by decide) (br_f (by decide) (br_f (by decide) (br_t (by decide) h)))))))))
  · intro h
    unfold wpX_loosestOperand
    exact br_f (by decide) (br_f (by decide) (br_f (by decide) (br_f (by decide) (br_f (by decide) (br_f (by decide) (br_f (by decide) (br_f (by decide) (br_f (by decide) (br_f (by decide) (br_t (by decide) h))))))))))
  · intro h
    unfold wpX_loosestOperand
    exact br_f (by decide) (br_f (by decide) (br_f (by decide) (br_f (by decide) (br_f (by decide) (br_f (by decide) (br_f (by decide) (br_f (by decide) (br_f (by decide) (br_f (by decide) (br_f (by decide) (br_t (by decide) h)))))))))))
  · intro h
    unfold wpX_loosestOperand
    exact br_f (by decide) (br_f (by decide) (br_f (by decide) (br_f (by decide) (br_f (by decide) (br_f (by decide) (br_f (by decide) (br_f (by decide) (br_f (by decide) (br_f (by decide) (br_f (by decide) (br_f (by decide) (br_t (by decide) h))))))))))))
  · intro h
    unfold wpX_loosestOperand
    exact br_f (by decide) (br_f (by decide) (br_f (by decide) (br_f (by decide) (br_f (by decide) (br_f (by decide) (br_f (by decide) (br_f (by decide) (br_f (by decide) (br_f (by decide) (br_f (by decide) (br_f (by decide) (br_f (by decide) (br_t (by decide) h)))))))))))))
  · intro h
    unfold wpX_loosestOperand
    exact br_f (by decide) (br_f (by decide) (br_f (by decide) (br_f (by decide) (br_f (by decide) (br_f (by decide) (br_f (by decide) (br_f (by decide) (br_f (by decide) (br_f (by decide) (br_f (by decide) (br_f (by decide) (br_f (by decide) (br_f (by decide) (br_t (by decide) h))))))))))))))
  · intro h
    unfold wpX_loosestOperand
    exact br_f (by decide) (br_f (by decide) (br_f (by decide) (br_f (by decide) (br_f (by decide) (br_f (by decide) (br_f (by decide) (br_f (by decide) (br_f (by decide) (br_f (by decide) (br_f (by decide) (br_f (by decide) (br_f (by decide) (br_f (by decide) (br_f (by decide) (br_t (by decide) h)))))))))))))))
  · intro h
    unfold wpX_loosestOperand
    exact br_f (by decide) (br_f (by decide) (br_f (by decide) (br_f (by decide) (br_f (by decide) (br_f (by decide) (br_f (by decide) (br_f (by decide) (br_f (by decide) (br_f (by decide) (br_f (by decide) (br_f (by decide) (br_f (by decide) (br_f (by decide) (br_f (by decide) (br_f (by decide) (br_t (by decide) h))))))))))))))))
  · intro h
    unfold wpX_loosestOperand
    exact br_f (by decide) (br_f (by decide) (br_f (by decide) (br_f (by decide) (br_f (by decide) (br_f (by decide) (br_f (by decide) (br_f (by decide) (br_f (by decide) (br_f (by decide) (br_f (by decide) (br_f (by decide) (br_f (by decide) (br_f (by decide) (br_f (by decide) (br_f (by decide) (br_f (by decide) (br_t (by decide) h)))))))))))))))))
theorem wx_typeOf {post : Int32 → Prop} {k : Nat} (hk : k < 18) (h : post (nI (te_ty k))) : wpX_typeOf post (f_nodeCount, f_draftLength, f_resultLength, a_inUse, a_parentOf, a_rankOf, a_nameOf, a_valueOf, a_order, a_along, a_draftKind, a_draftValue, a_draftEnd, a_tokenKind, a_tokenValue, a_tokenEnd, a_slotLength, a_setAt, a_amount, a_reached, a_agenda, a_isTemplate, a_matchSlot, a_priorityOf, a_outSlot, a_onSlot, a_waiting, a_result) (nI k) := by
  unfold wpX_typeOf
  unfold te_ty at h
  by_cases z : k < 4
  · rw [if_pos z] at h
    exact br_f (nI_nlt (a := 3) (b := k) (by omega) (by omega)) h
  · rw [if_neg z] at h
    by_cases y : k < 13
    · rw [if_pos y] at h
      exact br_t (nI_lt (a := 3) (by omega) (by omega)) (br_f (nI_nlt (a := 12) (b := k) (by omega) (by omega)) h)
    · rw [if_neg y] at h
      exact br_t (nI_lt (a := 3) (by omega) (by omega)) (br_t (nI_lt (a := 12) (by omega) (by omega)) h)
end
theorem wy_typeOf {post : Int32 → Prop} {k : Nat} (hk : k < 18) (h : post (nI (te_ty k))) : wpY_typeOf post (nI k) := by
  unfold wpY_typeOf
  unfold te_ty at h
  by_cases z : k < 4
  · rw [if_pos z] at h
    exact br_f (nI_ge (b := 4) z (by omega)) h
  · rw [if_neg z] at h
    by_cases y : k < 13
    · rw [if_pos y] at h
      exact br_t (nI_le (a := 4) (by omega) (by omega)) (br_f (nI_ge (b := 13) y (by omega)) h)
    · rw [if_neg y] at h
      exact br_t (nI_le (a := 4) (by omega) (by omega)) (br_t (nI_le (a := 13) (by omega) (by omega)) h)
theorem wy_operands {post : Int32 → Prop} {k w : Nat} {v : Int32} (hk : k < 18) (hv : k = 2 → v = nI w ∧ w < 384) (h : post (nI (te_o k w))) : wpY_operands post (nI k) v := by
  unfold wpY_operands
  have ne : ∀ {j : Nat}, j < 18 → k ≠ j → ¬ nI k = nI j := fun hj z w => z ((nI_eq (by omega) (by omega)).mp w)
  by_cases z2 : k = 2
  · subst z2
    obtain ⟨rfl, hw⟩ := hv rfl
    refine br_t (by decide) ?_
    have e : (1 : Int32) + (nI w >>> ((7 : Int32) &&& 31)) = nI (te_o 2 w) := by
      rw [pk_shrN (by omega) _ 7 (by decide), show (1 : Int32) = nI 1 from rfl, nI_add]; rfl
    rw [e]; exact h
  refine br_f (ne (j := 2) (by omega) z2) ?_
  by_cases z3 : k = 3
  · subst z3
    exact br_t (by decide) h
  refine br_f (ne (j := 3) (by omega) z3) ?_
  unfold te_o at h
  rw [if_neg z2, if_neg z3] at h
  by_cases z9 : k ≤ 9
  · refine br_t (nI_le (b := 9) z9 (by omega)) ?_
    by_cases z6 : k < 7
    · rw [if_pos z6] at h
      exact br_t (nI_le (b := 6) (by omega) (by omega)) h
    · rw [if_neg z6, if_pos (show k < 10 by omega)] at h
      exact br_f (nI_ge (a := 6) (by omega) (by omega)) h
  · refine br_f (nI_ge (a := 9) (by omega) (by omega)) ?_
    rw [if_neg (show ¬ k < 7 by omega), if_neg (show ¬ k < 10 by omega)] at h
    by_cases z17 : k < 17
    · rw [if_pos z17] at h
      exact br_f (nI_ge (b := 17) z17 (by omega)) h
    · rw [if_neg z17] at h
      exact br_t (nI_le (a := 17) (by omega) (by omega)) (br_f (nI_ge (a := 6) (by omega) (by omega)) h)
/-- tokens as two arrays hold them -/
def te_D (K W : Nat → Nat) (kd wt : Nat → Int32) (b L : Nat) : Prop := ∀ i, b ≤ i → i < L → kd i = nI (K i) ∧ K i < 18 ∧ (K i = 2 → wt i = nI (W i) ∧ W i < 384)
theorem te_uq {K W E E' : Nat → Nat} {b L : Nat} (h : te_Ws K W E b L) (h' : te_Ws K W E' b L) : ∀ i, i < L → b ≤ i → E i = E' i := by
  refine te_down L ?_
  intro i hi ih hb
  have key : ∀ t, t ≤ te_o (K i) (W i) → te_ch E (i + 1) t = te_ch E' (i + 1) t := by
    intro t
    induction t with
    | zero => intro _; rfl
    | succ t it =>
      intro ht
      have e := it (by omega)
      have o := te_op h hb hi (t := t) (by omega)
      rw [te_ch_s, te_ch_s, ← e]
      exact ih _ o.1 o.2.1 (by omega)
  rw [(h i hb hi).1, (h' i hb hi).1]
  exact key _ (Nat.le_refl _)
theorem te_Ws_up {K W E : Nat → Nat} {b b' L : Nat} (h : te_Ws K W E b L) (hb : b ≤ b') : te_Ws K W E b' L := fun i x y => h i (by omega) y
def te_Wh (K W : Nat → Nat) (n : Nat) : Prop := 0 < n ∧ ∃ E, te_Ws K W E 0 n ∧ E 0 = n
/-- token i spoils it -/
theorem te_bad {K W E : Nat → Nat} {n i h : Nat} (hw : te_Ws K W E (i + 1) n) (f : te_F E n (i + 1) h) (hi : i < n) (z : ¬ (te_o (K i) (W i) ≤ h ∧ ∀ t, t < te_o (K i) (W i) → te_ty (K (te_ch E (i + 1) t)) ≤ te_lo (K i) t)) : ¬ te_Wh K W n := by
  rintro ⟨n0, E', h', -⟩
  apply z
  have u := te_uq hw (te_Ws_up h' (by omega))
  have o := fun t ht => te_op h' (i := i) (by omega) hi (t := t) ht
  have key : ∀ t, t ≤ te_o (K i) (W i) → t ≤ h → te_ch E (i + 1) t = te_ch E' (i + 1) t := by
    intro t
    induction t with
    | zero => intro _ _; rfl
    | succ t it =>
      intro ht hh
      have e := it (by omega) (by omega)
      have oo := o t (by omega)
      rw [te_ch_s, te_ch_s, ← e]
      rw [← e] at oo
      exact u _ oo.2.1 (by omega)
  have le : te_o (K i) (W i) ≤ h := by
    rcases Nat.lt_or_ge h (te_o (K i) (W i)) with y | y
    · have e := key h (by omega) (Nat.le_refl _)
      have oo := o h y
      rw [← e, f.1] at oo
      omega
    · exact y
  refine ⟨le, fun t ht => ?_⟩
  rw [key t (by omega) (by omega)]
  exact (o t ht).2.2
theorem te_end {K W E : Nat → Nat} {n h : Nat} (hw : te_Ws K W E 0 n) (f : te_F E n 0 h) (n0 : 0 < n) : (E 0 = n ↔ h = 1) ∧ (E 0 = n ↔ te_Wh K W n) := by
  have h0 : 0 < h := by
    rcases Nat.eq_zero_or_pos h with z | z
    · subst z
      have : te_ch E 0 0 = 0 := rfl
      have := f.1
      omega
    · exact z
  have e1 : te_ch E 0 1 = E 0 := rfl
  refine ⟨⟨fun e => ?_, fun e => ?_⟩, ⟨fun e => ⟨n0, E, hw, e⟩, fun ⟨_, E', h', e'⟩ => ?_⟩⟩
  · rcases Nat.lt_or_ge 1 h with y | y
    · have := f.2 1 y
      omega
    · omega
  · subst e; rw [← e1]; exact f.1
  · rw [te_uq hw h' 0 n0 (Nat.le_refl _)]; exact e'
