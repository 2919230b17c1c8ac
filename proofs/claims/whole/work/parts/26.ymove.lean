/-! move: the walk of the reference -/
section
variable {f_count f_top f_listed f_outputs : Int32} {a_row a_depth a_name a_value a_moved a_kind a_with a_length a_sets a_fresh a_type a_number a_set a_list a_there a_match a_priority a_out a_on a_todo a_within a_output : Nat → Int32} {c : Nat} {r d : Nat → Nat}
theorem wy_mv246 {post : Int32 → SY → Prop} {m to c1 : Nat} {B : Nat → Nat} {x8 by_ : Int32} {dep0 row2 : Nat → Int32} (hm : to + m ≤ 24) (hx8 : x8 = 0 ∨ x8 = 1) (hmv : ∀ j, j < m → a_moved j = nI (B j)) (hB : ∀ j, j < m → B j < 24) (hBi : ∀ i j, i < m → j < m → B i = B j → i = j)
    (h : ∀ row3 dep3 fr, (∀ j, j < to → row3 j = row2 j) → (∀ j, j < m → row3 (to + j) = nI (B j)) → (∀ j, to + m ≤ j → row3 j = row2 j) → (∀ j, j < m → dep3 (B j) = dep0 (B j) + by_) → (∀ q, (∀ j, j < m → B j ≠ q) → dep3 q = dep0 q) → (∀ s, s < 8 → fr s = 0) →
      post x8 (nI c1, f_top, f_listed, f_outputs, row3, dep3, a_name, a_value, a_moved, a_kind, a_with, a_length, a_sets, fr, a_type, a_number, a_set, a_list, a_there, a_match, a_priority, a_out, a_on, a_todo, a_within, a_output)) :
    ∀ k i row3 dep3, i + k = m → (∀ j, j < to → row3 j = row2 j) → (∀ j, j < i → row3 (to + j) = nI (B j)) → (∀ j, to + m ≤ j → row3 j = row2 j) → (∀ j, j < i → dep3 (B j) = dep0 (B j) + by_) → (∀ q, (∀ j, j < i → B j ≠ q) → dep3 q = dep0 q) →
      wY_move_246 post (nI m) (nI to) x8 by_ (nI c1) f_top f_listed f_outputs (k + 1) (nI i) row3 dep3 a_name a_value a_moved a_kind a_with a_length a_sets a_fresh a_type a_number a_set a_list a_there a_match a_priority a_out a_on a_todo a_within a_output := by
  intro k
  induction k with
  | zero =>
    intro i row3 dep3 hi g1 g2 g3 g4 g5
    have e : i = m := by omega
    subst e
    refine br_t (nI_le (Nat.le_refl _) (by omega)) (wy_changed (fun fr hf => ⟨?_, h row3 dep3 fr g1 g2 g3 g4 g5 hf⟩))
    rcases hx8 with rfl | rfl <;> rfl
  | succ k ih =>
    intro i row3 dep3 hi g1 g2 g3 g4 g5
    have bi := hB i (by omega)
    have ei : (nI i).toNatClampNeg = i := nI_clamp (by omega)
    have em : a_moved (nI i).toNatClampNeg = nI (B i) := by rw [ei]; exact hmv i (by omega)
    have vi : vp_in (nI i) 24 := vp_in_nI (by omega) (by omega)
    have vb : vp_in (a_moved (nI i).toNatClampNeg) 24 := by rw [em]; exact vp_in_nI bi (by omega)
    have ed : dep3 (B i) = dep0 (B i) := g5 _ (fun j hj e => by have := hBi j i (by omega) (by omega) e; omega)
    refine br_f (nI_ge (by omega) (by omega)) ⟨vi, by rw [nI_add]; exact vp_in_nI (by omega) (by omega), nm_r (e' := upd row3 (to + i) (nI (B i))) (by rw [nI_add, nI_clamp (by omega), em]) ⟨vi, vb, vb, nm_r (e' := upd dep3 (B i) (dep0 (B i) + by_)) (by rw [em, nI_clamp (by omega), ed]) (nm_r (nI_1 i) (ih (i + 1) _ _ (by omega) (fun j hj => ?_) (fun j hj => ?_) (fun j hj => ?_) (fun j hj => ?_) (fun q hq => ?_)))⟩⟩
    · rw [pk_un (by omega)]; exact g1 j hj
    · by_cases z : j = i
      · subst z; exact pk_us
      · rw [pk_un (by omega)]; exact g2 j (by omega)
    · rw [pk_un (by omega)]; exact g3 j hj
    · by_cases z : j = i
      · subst z; exact pk_us
      · rw [pk_un (fun e => z (hBi j i (by omega) (by omega) e))]; exact g4 j (by omega)
    · rw [pk_un (fun e => hq i (by omega) e.symm)]; exact g5 q (fun j hj => hq j (by omega))
/-- the rows behind 'to' go up by m; then the block is put in -/
theorem wy_mv176 {post : Int32 → SY → Prop} {m to c1 : Nat} {x1 x2 x8 : Int32} {row1 : Nat → Int32} (hm : 0 < m) (hc : c1 + m ≤ 24) (ht : 0 < to) (htc : to ≤ c1) (hcnt : f_count = nI c1)
    (h0 : x8 = 0 → ∀ row2, (∀ j, j < to → row2 j = row1 j) → (∀ j, to ≤ j → j < c1 → row2 (j + m) = row1 j) → ∃ n, wY_move_246 post (nI m) (nI to) x8 0 (nI (c1 + m)) f_top f_listed f_outputs n 0 row2 a_depth a_name a_value a_moved a_kind a_with a_length a_sets a_fresh a_type a_number a_set a_list a_there a_match a_priority a_out a_on a_todo a_within a_output)
    (h1 : x8 ≠ 0 → vp_in x2 24 ∧ vp_in x1 24 ∧ ∀ row2, (∀ j, j < to → row2 j = row1 j) → (∀ j, to ≤ j → j < c1 → row2 (j + m) = row1 j) → ∃ n, wY_move_246 post (nI m) (nI to) x8 (a_depth x2.toNatClampNeg + 1 - a_depth x1.toNatClampNeg) (nI (c1 + m)) f_top f_listed f_outputs n 0 row2 a_depth a_name a_value a_moved a_kind a_with a_length a_sets a_fresh a_type a_number a_set a_list a_there a_match a_priority a_out a_on a_todo a_within a_output) :
    ∀ k row2, to + k ≤ c1 → (∀ j, j < to + k → row2 j = row1 j) → (∀ j, to + k ≤ j → j < c1 → row2 (j + m) = row1 j) → wY_move_176 post x1 x2 (nI m) (nI to) x8 f_count f_top f_listed f_outputs (k + 1) (nI (to + k - 1)) row2 a_depth a_name a_value a_moved a_kind a_with a_length a_sets a_fresh a_type a_number a_set a_list a_there a_match a_priority a_out a_on a_todo a_within a_output := by
  intro k
  induction k with
  | zero =>
    intro row2 hk g1 g2
    refine br_t (nI_lt (by omega) (by omega)) (nm_r (e' := nI (c1 + m)) (by rw [hcnt, nI_add]) ?_)
    by_cases z : x8 = 0
    · exact br_t z (h0 z row2 g1 g2)
    · obtain ⟨v2, v1, hh⟩ := h1 z
      exact br_f z ⟨v2, v1, nm_e (hh row2 g1 g2)⟩
  | succ k ih =>
    intro row2 hk g1 g2
    have e0 : to + (k + 1) - 1 = to + k := by omega
    rw [e0]
    have e1 : (nI (to + k)).toNatClampNeg = to + k := nI_clamp (by omega)
    refine br_f (nI_nlt (by omega) (by omega)) ⟨vp_in_nI (by omega) (by omega), by rw [nI_add]; exact vp_in_nI (by omega) (by omega), nm_r (e' := upd row2 (to + k + m) (row2 (to + k))) (by rw [nI_add, nI_clamp (by omega), e1]) (nm_r (e' := nI (to + k - 1)) ?_ (ih _ (by omega) (fun j hj => ?_) (fun j a b => ?_)))⟩
    · rw [sb_m1 (by omega)]
    · rw [pk_un (by omega)]; exact g1 j (by omega)
    · by_cases z : j = to + k
      · subst z; rw [pk_us]; exact g1 _ (by omega)
      · rw [pk_un (by omega)]; exact g2 j (by omega) b
theorem wy_mv54 {post : Int32 → SY → Prop} {a m c1 : Nat} {x1 x2 x3 : Int32} (hm : a + m ≤ 24) (hcnt : f_count - nI m = nI c1)
    (h : ∀ mv, (∀ j, j < m → mv j = a_row (a + j)) → ∃ n, wY_move_99 post x1 x2 x3 (nI a) (nI m) (nI c1) f_top f_listed f_outputs n (nI a) a_row a_depth a_name a_value mv a_kind a_with a_length a_sets a_fresh a_type a_number a_set a_list a_there a_match a_priority a_out a_on a_todo a_within a_output) :
    ∀ k i mv, i + k = m → (∀ j, j < i → mv j = a_row (a + j)) → wY_move_54 post x1 x2 x3 (nI a) (nI m) f_count f_top f_listed f_outputs (k + 1) (nI i) a_row a_depth a_name a_value mv a_kind a_with a_length a_sets a_fresh a_type a_number a_set a_list a_there a_match a_priority a_out a_on a_todo a_within a_output := by
  intro k
  induction k with
  | zero =>
    intro i mv hi g
    have e : i = m := by omega
    subst e
    exact br_t (nI_le (Nat.le_refl _) (by omega)) (nm_r hcnt (h mv g))
  | succ k ih =>
    intro i mv hi g
    refine br_f (nI_ge (by omega) (by omega)) ⟨by rw [nI_add]; exact vp_in_nI (by omega) (by omega), vp_in_nI (by omega) (by omega), nm_r (e' := upd mv i (a_row (a + i))) (by rw [nI_add, nI_clamp (by omega), nI_clamp (by omega)]) (nm_r (nI_1 i) (ih (i + 1) _ (by omega) (fun j hj => ?_)))⟩
    by_cases z : j = i
    · subst z; exact pk_us
    · rw [pk_un z]; exact g j (by omega)
end
