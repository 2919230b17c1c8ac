/-! is the draft one expression -/
theorem te_o3 {k w : Nat} (h : k = 2 → w < 384) : te_o k w ≤ 3 := by
  unfold te_o
  by_cases z : k = 2
  · have := h z
    rw [if_pos z]; omega
  · rw [if_neg z]
    by_cases a : k = 3
    · rw [if_pos a]; omega
    · rw [if_neg a]
      by_cases b : k < 7
      · rw [if_pos b]; omega
      · rw [if_neg b]
        by_cases c : k < 10
        · rw [if_pos c]; omega
        · rw [if_neg c]
          by_cases e : k < 17
          · rw [if_pos e]; omega
          · rw [if_neg e]; omega
theorem te_o_pos {k w : Nat} (h : 0 < te_o k w) : k = 2 ∨ k = 3 ∨ 7 ≤ k := by
  unfold te_o at h
  by_cases z : k = 2
  · exact Or.inl z
  · rw [if_neg z] at h
    by_cases a : k = 3
    · exact Or.inr (Or.inl a)
    · rw [if_neg a] at h
      by_cases b : k < 7
      · rw [if_pos b] at h; omega
      · exact Or.inr (Or.inr (by omega))
theorem te_ty2 (k : Nat) : te_ty k ≤ 2 := by
  unfold te_ty
  by_cases h : k < 4
  · rw [if_pos h]; omega
  · rw [if_neg h]
    by_cases h2 : k < 13
    · rw [if_pos h2]; omega
    · rw [if_neg h2]; omega
theorem te_lo_iff {k t τ : Nat} (ho : k = 2 ∨ k = 3 ∨ 7 ≤ k) (hk : k < 18) (hτ : τ ≤ 2) :
    τ ≤ te_lo k t ↔ ¬ (((k = 3 ∨ (k = 2 ∧ t = 0) ∨ (7 ≤ k ∧ k ≤ 9)) ∧ τ ≠ 0) ∨ ((10 ≤ k ∧ k ≤ 14) ∧ τ = 2)) := by
  unfold te_lo
  by_cases z : k = 2
  · rw [if_pos z]
    by_cases y : t = 0
    · rw [if_pos y]; omega
    · rw [if_neg y]; omega
  · rw [if_neg z]
    by_cases a : k < 10
    · rw [if_pos a]; omega
    · rw [if_neg a]
      by_cases b : k < 15
      · rw [if_pos b]; omega
      · rw [if_neg b]; omega
theorem te_lo2 {k t : Nat} : te_lo k t ≤ 2 := by
  unfold te_lo
  by_cases z : k = 2
  · rw [if_pos z]; split <;> omega
  · rw [if_neg z]; split
    · omega
    · split <;> omega
theorem tz_m1s (x : Int32) : x + (-1) = x - 1 := (Int32.sub_eq_add_neg x 1).symm
section
variable {f_nodeCount f_draftLength f_resultLength : Int32} {a_inUse a_parentOf a_rankOf a_nameOf a_valueOf a_order a_along a_draftKind a_draftValue a_draftEnd a_tokenKind a_tokenValue a_tokenEnd a_slotLength a_setAt a_amount a_reached a_agenda a_isTemplate a_matchSlot a_priorityOf a_outSlot a_onSlot a_waiting a_result : Nat → Int32} {K W E : Nat → Nat} {n i h : Nat}
theorem wx_dEnd {post : Int32 → Prop} (hn : f_draftLength = nI n) (n40 : n ≤ 40) (D : te_D K W a_draftKind a_draftValue 0 n) (he : ∀ j, i + 1 ≤ j → j < n → a_draftEnd j = nI (E j)) (hw : te_Ws K W E (i + 1) n) (f : te_F E n (i + 1) h) (hi : i < n)
    (h1 : (te_o (K i) (W i) ≤ h ∧ ∀ t, t < te_o (K i) (W i) → te_ty (K (te_ch E (i + 1) t)) ≤ te_lo (K i) t) → post (nI (te_ch E (i + 1) (te_o (K i) (W i)))))
    (h0 : ¬ (te_o (K i) (W i) ≤ h ∧ ∀ t, t < te_o (K i) (W i) → te_ty (K (te_ch E (i + 1) t)) ≤ te_lo (K i) t) → post (-1)) : wpX_draftEndFrom post (f_nodeCount, f_draftLength, f_resultLength, a_inUse, a_parentOf, a_rankOf, a_nameOf, a_valueOf, a_order, a_along, a_draftKind, a_draftValue, a_draftEnd, a_tokenKind, a_tokenValue, a_tokenEnd, a_slotLength, a_setAt, a_amount, a_reached, a_agenda, a_isTemplate, a_matchSlot, a_priorityOf, a_outSlot, a_onSlot, a_waiting, a_result) (nI i) := by
  subst hn
  obtain ⟨d1, d2, d3⟩ := D i (by omega) hi
  have o3 := te_o3 (fun z => (d3 z).2)
  have ge := te_ch_ge hw f
  have hh := te_F_le hw f
  have ei : (nI i).toNatClampNeg = i := nI_clamp (by omega)
  have key : ∀ u t, t + u = te_o (K i) (W i) → t ≤ h → (∀ s, s < t → te_ty (K (te_ch E (i + 1) s)) ≤ te_lo (K i) s) → wX_draftEndFrom_27 post (nI (K i)) (nI (te_o (K i) (W i))) f_nodeCount (nI n) f_resultLength a_inUse a_parentOf a_rankOf a_nameOf a_valueOf a_order a_along a_draftKind a_draftValue a_draftEnd a_tokenKind a_tokenValue a_tokenEnd a_slotLength a_setAt a_amount a_reached a_agenda a_isTemplate a_matchSlot a_priorityOf a_outSlot a_onSlot a_waiting a_result (u + 1) (nI (te_ch E (i + 1) t)) (nI t) := by
    intro u
    induction u with
    | zero =>
      intro t ht hth hty
      have e : t = te_o (K i) (W i) := by omega
      refine br_t (nI_le (by omega) (by omega)) ?_
      rw [e]
      exact h1 ⟨by omega, fun s hs => hty s (by omega)⟩
    | succ u iu =>
      intro t ht hth hty
      refine br_f (nI_ge (by omega) (by omega)) ?_
      by_cases z : t < h
      · have lt := f.2 t z
        have gt := ge t hth
        obtain ⟨c1, c2, c3⟩ := D (te_ch E (i + 1) t) (by omega) lt
        have ec : (nI (te_ch E (i + 1) t)).toNatClampNeg = te_ch E (i + 1) t := nI_clamp (by omega)
        refine br_t (nI_lt lt (by omega)) ⟨vp_in_nI (by omega) (by omega), ?_⟩
        rw [ec, c1]
        refine wx_typeOf c2 (wx_loosest d2 (by omega) ?_)
        have l2 := te_lo2 (k := K i) (t := t)
        have t2 := te_ty2 (K (te_ch E (i + 1) t))
        by_cases y : te_ty (K (te_ch E (i + 1) t)) ≤ te_lo (K i) t
        · refine br_t (nI_le y (by omega)) ⟨vp_in_nI (by omega) (by omega), nm_r (e' := nI (te_ch E (i + 1) (t + 1))) (by rw [he _ (by omega) lt, te_ch_s]) (nm_r (nI_1 t) (iu (t + 1) (by omega) (by omega) (fun s hs => ?_)))⟩
          by_cases w : s = t
          · subst w; exact y
          · exact hty s (by omega)
        · exact br_f (nI_ge (by omega) (by omega)) (h0 (fun g => y (g.2 t (by omega))))
      · have e : t = h := by omega
        subst e
        rw [f.1]
        exact br_f (nI_nlt (Nat.le_refl _) (by omega)) (h0 (fun g => by omega))
  unfold wpX_draftEndFrom
  refine ⟨vp_in_nI (by omega) (by omega), nm_r (e' := nI (K i)) (by rw [ei]; exact d1) ⟨vp_in_nI (by omega) (by omega), wx_operands (w := W i) d2 (fun z => by rw [ei]; exact d3 z) (nm_r (nI_1 i) ⟨te_o (K i) (W i) + 1, key _ 0 (by omega) (by omega) (fun s hs => by omega)⟩)⟩⟩
theorem wx_whole {post : Int32 → SX → Prop} (hn : f_draftLength = nI n) (n40 : n ≤ 40) (D : te_D K W a_draftKind a_draftValue 0 n)
    (h1 : ∀ e E, te_Ws K W E 0 n → E 0 = n → 0 < n → (∀ j, j < n → e j = nI (E j)) → post 1 (f_nodeCount, f_draftLength, f_resultLength, a_inUse, a_parentOf, a_rankOf, a_nameOf, a_valueOf, a_order, a_along, a_draftKind, a_draftValue, e, a_tokenKind, a_tokenValue, a_tokenEnd, a_slotLength, a_setAt, a_amount, a_reached, a_agenda, a_isTemplate, a_matchSlot, a_priorityOf, a_outSlot, a_onSlot, a_waiting, a_result)) (h0 : ¬ te_Wh K W n → ∀ e, post 0 (f_nodeCount, f_draftLength, f_resultLength, a_inUse, a_parentOf, a_rankOf, a_nameOf, a_valueOf, a_order, a_along, a_draftKind, a_draftValue, e, a_tokenKind, a_tokenValue, a_tokenEnd, a_slotLength, a_setAt, a_amount, a_reached, a_agenda, a_isTemplate, a_matchSlot, a_priorityOf, a_outSlot, a_onSlot, a_waiting, a_result)) : wpX_draftIsWhole post (f_nodeCount, f_draftLength, f_resultLength, a_inUse, a_parentOf, a_rankOf, a_nameOf, a_valueOf, a_order, a_along, a_draftKind, a_draftValue, a_draftEnd, a_tokenKind, a_tokenValue, a_tokenEnd, a_slotLength, a_setAt, a_amount, a_reached, a_agenda, a_isTemplate, a_matchSlot, a_priorityOf, a_outSlot, a_onSlot, a_waiting, a_result) := by
  have key : ∀ i e E h, i ≤ n → (∀ j, i ≤ j → j < n → e j = nI (E j)) → te_Ws K W E i n → te_F E n i h → wX_draftIsWhole_7 post f_nodeCount f_draftLength f_resultLength (i + 1) (nI i - 1) a_inUse a_parentOf a_rankOf a_nameOf a_valueOf a_order a_along a_draftKind a_draftValue e a_tokenKind a_tokenValue a_tokenEnd a_slotLength a_setAt a_amount a_reached a_agenda a_isTemplate a_matchSlot a_priorityOf a_outSlot a_onSlot a_waiting a_result := by
    intro i
    induction i with
    | zero =>
      intro e E h hi he hw f
      refine br_t (by decide) ?_
      by_cases z : n = 0
      · refine br_t (by rw [hn, z]; decide) (h0 (fun w => by have := w.1; omega) e)
      · have te := te_end hw f (by omega)
        have E0 := te_E_le hw (i := 0) (Nat.le_refl _) (by omega)
        refine br_f (by rw [hn]; exact nI_nle (by omega) (by omega)) ?_
        by_cases y : E 0 = n
        · exact br_t (by rw [he 0 (by omega) (by omega), hn, y]) (h1 e E hw y (by omega) (fun j hj => he j (by omega) hj))
        · refine br_f (fun w => y ?_) (h0 (fun w => y (te.2.mpr w)) e)
          rw [he 0 (by omega) (by omega), hn] at w
          exact (nI_eq (by omega) (by omega)).mp w
    | succ i ih =>
      intro e E h hi he hw f
      have ge := te_ch_ge hw f
      rw [nI_pred]
      refine br_f (nI_pos (by omega)) (wx_dEnd hn n40 D he hw f (by omega) (fun g => ?_) (fun g => br_t rfl (h0 (te_bad hw f (by omega) g) e)))
      have le := ge _ g.1
      have ub : te_ch E (i + 1) (te_o (K i) (W i)) ≤ n := by
        rcases Nat.lt_or_ge (te_o (K i) (W i)) h with y | y
        · have := f.2 _ y; omega
        · rw [show te_o (K i) (W i) = h by have := g.1; omega, f.1]; exact Nat.le_refl _
      have st := te_step (E' := fun j => if j = i then te_ch E (i + 1) (te_o (K i) (W i)) else E j) hw f (by omega) rfl g.1 g.2 (fun j hj => if_neg (by omega)) (if_pos rfl)
      refine br_f (tx_m1' (by omega)) ⟨vp_in_nI (by omega) (by omega), nm_r (e' := upd e i (nI (te_ch E (i + 1) (te_o (K i) (W i))))) (by rw [nI_clamp (by omega)]) (nm_r (tz_m1s _) (ih _ _ _ (by omega) (fun j a b => ?_) st.1 st.2.1))⟩
      by_cases z : j = i
      · subst z; rw [pk_us, if_pos rfl]
      · rw [pk_un z, if_neg z]; exact he j (by omega) b
  unfold wpX_draftIsWhole
  exact nm_r (e' := nI n - 1) (by rw [hn]) ⟨n + 1, key n a_draftEnd (fun _ => 0) 0 (Nat.le_refl _) (fun j a b => by omega) (fun j a b => by omega) (te_F_0 _ _)⟩
end
section
variable {f_count f_top f_listed f_outputs : Int32} {a_row a_depth a_name a_value a_moved a_kind a_with a_length a_sets a_fresh a_type a_number a_set a_list a_there a_match a_priority a_out a_on a_todo a_within a_output : Nat → Int32} {K W : Nat → Nat} {n : Nat}
theorem wy_op {post : Int32 → SY → Prop} {J19 : Int32 → Int32 → (Nat → Int32) → (Nat → Int32) → (Nat → Int32) → (Nat → Int32) → (Nat → Int32) → (Nat → Int32) → (Nat → Int32) → (Nat → Int32) → (Nat → Int32) → (Nat → Int32) → (Nat → Int32) → (Nat → Int32) → (Nat → Int32) → (Nat → Int32) → (Nat → Int32) → (Nat → Int32) → (Nat → Int32) → (Nat → Int32) → (Nat → Int32) → (Nat → Int32) → (Nat → Int32) → (Nat → Int32) → Prop} {J54 : Int32 → Prop} {x1 x2 : Int32} {k t τ : Nat} (ek : a_kind x1.toNatClampNeg = nI k) (hv : vp_in x1 360) (hk : k < 18) (ho : k = 2 ∨ k = 3 ∨ 7 ≤ k) (ht : t < 2 ^ 31) (hτ : τ ≤ 2)
    (h1 : τ ≤ te_lo k t → J54 (nI (t + 1))) (h0 : ¬ τ ≤ te_lo k t → post 0 (f_count, f_top, f_listed, f_outputs, a_row, a_depth, a_name, a_value, a_moved, a_kind, a_with, a_length, a_sets, a_fresh, a_type, a_number, a_set, a_list, a_there, a_match, a_priority, a_out, a_on, a_todo, a_within, a_output)) :
    (((a_kind x1.toNatClampNeg) = 3 → (wY_isWhole_114 post J19 J54 x1 x2 (nI t) (nI τ) f_count f_top f_listed f_outputs a_row a_depth a_name a_value a_moved a_kind a_with a_length a_sets a_fresh a_type a_number a_set a_list a_there a_match a_priority a_out a_on a_todo a_within a_output)) ∧ (¬ (a_kind x1.toNatClampNeg) = 3 → (vp_in x1 360 ∧ ((((a_kind x1.toNatClampNeg) = 2 → (((nI t = 0 → (wY_isWhole_114 post J19 J54 x1 x2 (nI t) (nI τ) f_count f_top f_listed f_outputs a_row a_depth a_name a_value a_moved a_kind a_with a_length a_sets a_fresh a_type a_number a_set a_list a_there a_match a_priority a_out a_on a_todo a_within a_output)) ∧ (¬ nI t = 0 → (wY_isWhole_98 post J19 J54 x1 x2 (nI t) (nI τ) f_count f_top f_listed f_outputs a_row a_depth a_name a_value a_moved a_kind a_with a_length a_sets a_fresh a_type a_number a_set a_list a_there a_match a_priority a_out a_on a_todo a_within a_output))))) ∧ (¬ (a_kind x1.toNatClampNeg) = 2 → (wY_isWhole_98 post J19 J54 x1 x2 (nI t) (nI τ) f_count f_top f_listed f_outputs a_row a_depth a_name a_value a_moved a_kind a_with a_length a_sets a_fresh a_type a_number a_set a_list a_there a_match a_priority a_out a_on a_todo a_within a_output))))))) := by
  have iff := te_lo_iff (t := t) ho hk hτ
  have ne : ∀ {j : Nat}, j < 18 → k ≠ j → ¬ nI k = nI j := fun hj z w => z ((nI_eq (by omega) (by omega)).mp w)
  have L146 : ∀ b : Nat, b ≤ 1 → (b = 1 ↔ (10 ≤ k ∧ k ≤ 14)) → ((k = 3 ∨ (k = 2 ∧ t = 0) ∨ (7 ≤ k ∧ k ≤ 9)) → τ = 0) → wY_isWhole_146 post J19 J54 x1 x2 (nI t) (nI τ) (nI b) f_count f_top f_listed f_outputs a_row a_depth a_name a_value a_moved a_kind a_with a_length a_sets a_fresh a_type a_number a_set a_list a_there a_match a_priority a_out a_on a_todo a_within a_output := by
    intro b hb hb1 hs
    unfold wY_isWhole_146
    by_cases z : b = 0
    · subst z
      exact br_t (by decide) (nm_r (nI_1 t) (h1 (iff.mpr (by omega))))
    · have e : b = 1 := by omega
      subst e
      refine br_f (by decide) ?_
      by_cases y : τ = 2
      · exact br_t (by rw [y]; rfl) (h0 (fun w => iff.mp w (Or.inr ⟨hb1.mp rfl, y⟩)))
      · exact br_f (fun w => y ((nI_eq (b := 2) (by omega) (by omega)).mp w)) (nm_r (nI_1 t) (h1 (iff.mpr (by omega))))
  have L119 : ∀ b : Nat, b ≤ 1 → (b = 1 ↔ (k = 3 ∨ (k = 2 ∧ t = 0) ∨ (7 ≤ k ∧ k ≤ 9))) → wY_isWhole_119 post J19 J54 x1 x2 (nI t) (nI τ) (nI b) f_count f_top f_listed f_outputs a_row a_depth a_name a_value a_moved a_kind a_with a_length a_sets a_fresh a_type a_number a_set a_list a_there a_match a_priority a_out a_on a_todo a_within a_output := by
    intro b hb hb1
    unfold wY_isWhole_119
    refine ⟨hv, ?_⟩
    rw [ek]
    have go : ∀ g : Nat, g ≤ 1 → (g = 1 ↔ (10 ≤ k ∧ k ≤ 14)) → (((nI b = 0 → (wY_isWhole_146 post J19 J54 x1 x2 (nI t) (nI τ) (nI g) f_count f_top f_listed f_outputs a_row a_depth a_name a_value a_moved a_kind a_with a_length a_sets a_fresh a_type a_number a_set a_list a_there a_match a_priority a_out a_on a_todo a_within a_output)) ∧ (¬ nI b = 0 → (((nI τ = 0 → (wY_isWhole_146 post J19 J54 x1 x2 (nI t) (nI τ) (nI g) f_count f_top f_listed f_outputs a_row a_depth a_name a_value a_moved a_kind a_with a_length a_sets a_fresh a_type a_number a_set a_list a_there a_match a_priority a_out a_on a_todo a_within a_output)) ∧ (¬ nI τ = 0 → (post 0 (f_count, f_top, f_listed, f_outputs, a_row, a_depth, a_name, a_value, a_moved, a_kind, a_with, a_length, a_sets, a_fresh, a_type, a_number, a_set, a_list, a_there, a_match, a_priority, a_out, a_on, a_todo, a_within, a_output)))))))) := by
      intro g hg hg1
      by_cases z : b = 0
      · subst z
        exact br_t (by decide) (L146 g hg hg1 (fun w => by have := hb1.mpr w; omega))
      · have e : b = 1 := by omega
        subst e
        refine br_f (by decide) ?_
        by_cases y : τ = 0
        · exact br_t (by rw [y]; rfl) (L146 g hg hg1 (fun _ => y))
        · exact br_f (fun w => y ((nI_eq (b := 0) (by omega) (by omega)).mp w)) (h0 (fun w => iff.mp w (Or.inl ⟨hb1.mp rfl, y⟩)))
    exact wy_inr (lo := 10) (hi := 14) (by omega) (by omega) (by omega) (fun a b' => go 1 (by omega) (by omega)) (fun w => go 0 (by omega) (by omega))
  have L114 : (k = 3 ∨ (k = 2 ∧ t = 0) ∨ (7 ≤ k ∧ k ≤ 9)) → wY_isWhole_114 post J19 J54 x1 x2 (nI t) (nI τ) f_count f_top f_listed f_outputs a_row a_depth a_name a_value a_moved a_kind a_with a_length a_sets a_fresh a_type a_number a_set a_list a_there a_match a_priority a_out a_on a_todo a_within a_output := fun w => L119 1 (by omega) (by omega)
  have L98 : ¬ (k = 3 ∨ (k = 2 ∧ t = 0)) → wY_isWhole_98 post J19 J54 x1 x2 (nI t) (nI τ) f_count f_top f_listed f_outputs a_row a_depth a_name a_value a_moved a_kind a_with a_length a_sets a_fresh a_type a_number a_set a_list a_there a_match a_priority a_out a_on a_todo a_within a_output := by
    intro w
    unfold wY_isWhole_98
    refine ⟨hv, ?_⟩
    rw [ek]
    exact wy_inr (lo := 7) (hi := 9) (by omega) (by omega) (by omega) (fun a b => br_f (by decide) (L114 (by omega))) (fun y => br_t rfl (L119 0 (by omega) (by omega)))
  rw [ek]
  by_cases z3 : k = 3
  · exact br_t (by rw [z3]; rfl) (L114 (Or.inl z3))
  refine br_f (ne (j := 3) (by omega) z3) ⟨hv, ?_⟩
  by_cases z2 : k = 2
  · refine br_t (by rw [z2]; rfl) ?_
    by_cases z : t = 0
    · exact br_t (by rw [z]; rfl) (L114 (by omega))
    · exact br_f (fun w => z ((nI_eq (b := 0) ht (by omega)).mp w)) (L98 (by omega))
  · exact br_f (ne (j := 2) (by omega) z2) (L98 (by omega))
theorem wy_whole {post : Int32 → SY → Prop} (hl : a_length 8 = nI n) (n40 : n ≤ 40) (n0 : 0 < n) (D : te_D K W (fun i => a_kind (320 + i)) (fun i => a_with (320 + i)) 0 n)
    (h1 : te_Wh K W n → ∀ top ty, post 1 (f_count, top, f_listed, f_outputs, a_row, a_depth, a_name, a_value, a_moved, a_kind, a_with, a_length, a_sets, a_fresh, ty, a_number, a_set, a_list, a_there, a_match, a_priority, a_out, a_on, a_todo, a_within, a_output)) (h0 : ¬ te_Wh K W n → ∀ top ty, post 0 (f_count, top, f_listed, f_outputs, a_row, a_depth, a_name, a_value, a_moved, a_kind, a_with, a_length, a_sets, a_fresh, ty, a_number, a_set, a_list, a_there, a_match, a_priority, a_out, a_on, a_todo, a_within, a_output)) : wpY_isWhole post (f_count, f_top, f_listed, f_outputs, a_row, a_depth, a_name, a_value, a_moved, a_kind, a_with, a_length, a_sets, a_fresh, a_type, a_number, a_set, a_list, a_there, a_match, a_priority, a_out, a_on, a_todo, a_within, a_output) := by
  have key : ∀ i E h ty, i ≤ n → te_Ws K W E i n → te_F E n i h → (∀ t, t < h → ty (h - 1 - t) = nI (te_ty (K (te_ch E i t)))) → wY_isWhole_19 post f_count f_listed f_outputs (i + 1) (nI (320 + i) - 1) (nI h) a_row a_depth a_name a_value a_moved a_kind a_with a_length a_sets a_fresh ty a_number a_set a_list a_there a_match a_priority a_out a_on a_todo a_within a_output := by
    intro i
    induction i with
    | zero =>
      intro E h ty hi hw f hty
      have te := te_end hw f n0
      have hh := te_F_le hw f
      refine br_t (by decide) ?_
      by_cases y : h = 1
      · exact br_t (by rw [y]; rfl) (h1 (te.2.mp (te.1.mpr y)) _ _)
      · exact br_f (fun w => y ((nI_eq (b := 1) (by omega) (by omega)).mp w)) (h0 (fun w => y (te.1.mp (te.2.mpr w))) _ _)
    | succ i ih =>
      intro E h ty hi hw f hty
      have hh := te_F_le hw f
      have ge := te_ch_ge hw f
      obtain ⟨d1, d2, d3⟩ := D i (by omega) (by omega)
      have o3 := te_o3 (fun z => (d3 z).2)
      rw [show 320 + (i + 1) = 320 + i + 1 by omega, nI_pred]
      have e1 : (nI (320 + i)).toNatClampNeg = 320 + i := nI_clamp (by omega)
      have ek : a_kind (nI (320 + i)).toNatClampNeg = nI (K i) := by rw [e1]; exact d1
      have vi : vp_in (nI (320 + i)) 360 := vp_in_nI (by omega) (by omega)
      refine br_f (nI_nlt (b := 320) (by omega) (by omega)) ⟨vi, vi, ?_⟩
      rw [ek]
      refine wy_operands (w := W i) d2 (fun z => by rw [e1]; exact d3 z) ?_
      by_cases oh : te_o (K i) (W i) ≤ h
      rotate_left
      · exact br_f (nI_ge (by omega) (by omega)) (h0 (te_bad hw f (by omega) (fun g => oh g.1)) _ _)
      refine br_t (nI_le oh (by omega)) ⟨te_o (K i) (W i) + 1, ?_⟩
      have inner : ∀ u t, t + u = te_o (K i) (W i) → (∀ s, s < t → te_ty (K (te_ch E (i + 1) s)) ≤ te_lo (K i) s) → wY_isWhole_54 post (wY_isWhole_19 post f_count f_listed f_outputs (i + 1)) (nI (320 + i)) (nI (te_o (K i) (W i))) f_count (nI h) f_listed f_outputs a_row a_depth a_name a_value a_moved a_kind a_with a_length a_sets a_fresh ty a_number a_set a_list a_there a_match a_priority a_out a_on a_todo a_within a_output (u + 1) (nI t) := by
        intro u
        induction u with
        | zero =>
          intro t ht hts
          have e : t = te_o (K i) (W i) := by omega
          subst e
          have st := te_step (E' := fun j => if j = i then te_ch E (i + 1) (te_o (K i) (W i)) else E j) hw f (by omega) rfl oh hts (fun j hj => if_neg (by omega)) (if_pos rfl)
          refine br_t (nI_le (Nat.le_refl _) (by omega)) (nm_r (pk_sub oh) (nm_r (nI_1 _) ⟨vi, ?_⟩))
          rw [ek]
          refine wy_typeOf d2 ⟨vp_in_nI (by omega) (by omega), nm_r (e' := upd ty (h - te_o (K i) (W i)) (nI (te_ty (K i)))) (by rw [nI_clamp (by omega)]) (nm_r (tz_m1s _) (ih _ _ _ (by omega) st.1 st.2.1 (fun t ht => ?_)))⟩
          cases t with
          | zero =>
            rw [show h - te_o (K i) (W i) + 1 - 1 - 0 = h - te_o (K i) (W i) by omega]
            exact pk_us
          | succ t =>
            rw [st.2.2 t (by omega), pk_un (by omega), ← hty _ (by omega)]
            exact congrArg ty (by omega)
        | succ u iu =>
          intro t ht hts
          have et : (nI h - 1) - nI t = nI (h - 1 - t) := by
            rw [show nI h - 1 = nI (h - 1) from pk_sub (a := h) (b := 1) (by omega), pk_sub (by omega)]
          refine br_f (nI_ge (by omega) (by omega)) ⟨by rw [et]; exact vp_in_nI (by omega) (by omega), nm_r (e' := nI (te_ty (K (te_ch E (i + 1) t)))) (by rw [et, nI_clamp (by omega)]; exact hty t (by omega)) ⟨vi, ?_⟩⟩
          refine wy_op ek vi d2 (te_o_pos (w := W i) (by omega)) (by omega) (te_ty2 _) (fun g => iu (t + 1) (by omega) (fun s hs => ?_)) (fun g => h0 (te_bad hw f (by omega) (fun q => g (q.2 t (by omega)))) _ _)
          by_cases w : s = t
          · subst w; exact g
          · exact hts s (by omega)
      exact inner _ 0 (by omega) (fun s hs => by omega)
  unfold wpY_isWhole
  exact nm_r (e' := nI (320 + n) - 1) (by rw [hl, show (320 : Int32) = nI 320 from rfl, nI_add]) ⟨n + 1, key n (fun _ => 0) 0 a_type (Nat.le_refl _) (fun j a b => by omega) (te_F_0 _ _) (fun t ht => by omega)⟩
end
