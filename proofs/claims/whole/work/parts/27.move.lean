/-! move -/
theorem tz_by {x y z : Nat} (h : z ≤ x + y) : nI x + (nI y - nI z) = nI (x + y - z) := by
  rw [← pk_sub h, ← nI_add]
  grind
section
variable {f_count f_top f_listed f_outputs : Int32} {a_row a_depth a_name a_value a_moved a_kind a_with a_length a_sets a_fresh a_type a_number a_set a_list a_there a_match a_priority a_out a_on a_todo a_within a_output : Nat → Int32} {c : Nat} {r d : Nat → Nat}
theorem wy_move {post : Int32 → SY → Prop} {a p q m p' e' : Nat} {v3 : Int32} (T : td_T c r d) (Y : re_YT c r d f_count a_row a_depth) (ha : a < c) (hp : p < c) (hq : td_Pa d q a) (he : td_En c d a (a + m)) (hno : ¬ td_An d a p) (hne : p ≠ a)
    (hp' : p' < c - m) (esh : td_sh a m p' = p) (he' : td_En (c - m) (td_cutd a m d) p' e')
    (hneg : v3 < 0 → post 0 (f_count, f_top, f_listed, f_outputs, a_row, a_depth, a_name, a_value, a_moved, a_kind, a_with, a_length, a_sets, a_fresh, a_type, a_number, a_set, a_list, a_there, a_match, a_priority, a_out, a_on, a_todo, a_within, a_output))
    (hbad : ∀ kk row3 dep3 mv fr, v3 = nI kk → kk < 2 ^ 31 → td_ct (td_cutd a m d) (td_cutd a m d p' + 1) (p' + 1) e' < kk → (∀ j, j < c → row3 j = a_row j) → (∀ q, dep3 q = a_depth q) → (∀ s, s < 8 → fr s = 0) →
      post 0 (nI (c - m + m), f_top, f_listed, f_outputs, row3, dep3, a_name, a_value, mv, a_kind, a_with, a_length, a_sets, fr, a_type, a_number, a_set, a_list, a_there, a_match, a_priority, a_out, a_on, a_todo, a_within, a_output))
    (hgood : ∀ kk x row3 dep3 mv fr, v3 = nI kk → kk < 2 ^ 31 → td_Pl (c - m) (td_cutd a m d) p' kk x → (∀ i, i < c - m + m → row3 i = nI (td_insr x m (fun j => r (a + j)) (td_cutd a m r) i)) →
      (∀ j, j < m → dep3 (r (a + j)) = nI (d (a + j) + (d p + 1) - d a)) → (∀ q, (∀ j, j < m → r (a + j) ≠ q) → dep3 q = a_depth q) → (∀ s, s < 8 → fr s = 0) →
      post 1 (nI (c - m + m), f_top, f_listed, f_outputs, row3, dep3, a_name, a_value, mv, a_kind, a_with, a_length, a_sets, fr, a_type, a_number, a_set, a_list, a_there, a_match, a_priority, a_out, a_on, a_todo, a_within, a_output)) :
    wpY_move post (f_count, f_top, f_listed, f_outputs, a_row, a_depth, a_name, a_value, a_moved, a_kind, a_with, a_length, a_sets, a_fresh, a_type, a_number, a_set, a_list, a_there, a_match, a_priority, a_out, a_on, a_todo, a_within, a_output) (nI (r a)) (nI (r p)) v3 := by
  have c24 := T.1
  have he1 := he.1
  have he2 := he.2.1
  have hqa := hq.1
  have T' := td_cutT T hq ha he
  have ra := T.2.2.2.1 a ha
  have rp := T.2.2.2.1 p hp
  have hd : ∀ j, j < m → d a ≤ d (a + j) := fun j hj => by
    by_cases z : j = 0
    · subst z; exact Nat.le_refl _
    · have := he.2.2.1 (a + j) (by omega) (by omega); omega
  have hB : ∀ j, j < m → r (a + j) < 24 := fun j hj => T.2.2.2.1 _ (by omega)
  have hBi : ∀ i j, i < m → j < m → r (a + i) = r (a + j) → i = j := fun i j hi hj e => by have := T.2.2.2.2 _ _ (by omega) (by omega) e; omega
  have ecr : td_cutd a m r p' = r p := by
    rcases Nat.lt_or_ge p' a with z | z
    · rw [td_sh_lo z] at esh; rw [td_cutd_lo z, esh]
    · rw [td_sh_hi z] at esh; rw [td_cutd_hi z, esh]
  unfold wpY_move
  refine wy_where1 T Y ha (br_f (nI_pos (by omega)) (wy_where1 T Y hp (br_f (nI_pos (by omega)) (br_f (fun w => hne ?_) (wy_isBelow T Y ha hp (fun w => absurd w hno) (fun _ => br_t rfl ?_))))))
  · rw [nI_eq (by omega) (by omega)] at w
    exact (T.2.2.2.2 a p ha hp w).symm
  by_cases z : 0 ≤ v3
  rotate_left
  · exact br_f z (hneg (Int32.not_le.mp z))
  obtain ⟨kk, hkk, rfl⟩ := nI_of (x := v3) (Int32.not_lt.mpr z)
  refine br_t z (wy_behind T Y ha he (nm_r (e' := nI m) (by rw [pk_sub (by omega), show a + m - a = m by omega]) ⟨m + 1, wy_mv54 (c1 := c - m) (by omega) (by rw [Y.1, pk_sub (by omega)]) (fun mv hmv => ⟨c - m - a + 1, ?_⟩) m 0 a_moved (by omega) (fun j hj => by omega)⟩))
  have hmvB : ∀ j, j < m → mv j = nI (r (a + j)) := fun j hj => by rw [hmv j hj]; exact Y.2.1 _ (by omega)
  refine wy_shift (a_row := a_row) (m := m) (a := a) (c' := c - m) (W := fun n i row' => wY_move_99 post (nI (r a)) (nI (r p)) (nI kk) (nI a) (nI m) (nI (c - m)) f_top f_listed f_outputs n i row' a_depth a_name a_value mv a_kind a_with a_length a_sets a_fresh a_type a_number a_set a_list a_there a_match a_priority a_out a_on a_todo a_within a_output) (by omega) (fun n row1 g1 g2 => ?_) (fun n i row' x y hw => ?_) (by omega) (c - m - a) a a_row (by omega) (Nat.le_refl _) (fun j _ => rfl) (fun j x y => by omega) (fun j _ => rfl)
  rotate_left
  · exact br_f (nI_ge y (by omega)) ⟨by rw [nI_add]; exact vp_in_nI (by omega) (by omega), vp_in_nI (by omega) (by omega), nm_r (e' := upd row' i (row' (i + m))) (by rw [nI_add, nI_clamp (by omega), nI_clamp (by omega)]) (nm_r (nI_1 i) hw)⟩
  have Y1 : ∀ i, i < c - m → row1 i = nI (td_cutd a m r i) := fun i hi => by
    rcases Nat.lt_or_ge i a with y | y
    · rw [td_cutd_lo y, g1 i y]; exact Y.2.1 i (by omega)
    · rw [td_cutd_hi y, g2 i y hi]; exact Y.2.1 _ (by omega)
  have Y' : re_YT (c - m) (td_cutd a m r) (td_cutd a m d) (nI (c - m)) row1 a_depth := ⟨rfl, Y1, fun i hi => by
    rcases Nat.lt_or_ge i a with y | y
    · rw [td_cutd_lo y, td_cutd_lo y]; exact Y.2.2 i (by omega)
    · rw [td_cutd_hi y, td_cutd_hi y]; exact Y.2.2 _ (by omega)⟩
  refine br_t (nI_le (Nat.le_refl _) (by omega)) (wy_where T' Y' (fun w hw => ?_))
  rcases hw with ⟨i, hi, e, ew⟩ | ⟨hn, -⟩
  rotate_left
  · exact absurd (by rw [ecr]) (hn p' hp')
  have ei : i = p' := by
    have := T'.2.2.2.1 i hi
    rw [nI_eq (by omega) (by omega), ← ecr] at e
    exact (T'.2.2.2.2 p' i hp' hi e).symm
  subst ei
  subst ew
  refine wy_place T' Y' hp' he' hkk (fun x hx => br_f (nI_pos (by have := hx.2.1; omega)) ?_) (fun hct => br_t tz_m1lt ?_)
  · have hx1 := hx.1
    have hx2 := hx.2.1
    unfold wY_move_157
    refine br_f (by decide) (nm_r (e' := nI (x + (c - m - x) - 1)) ?_ ⟨c - m - x + 1, wy_mv176 (c1 := c - m) (row1 := row1) (by omega) (by omega) (by omega) hx2 rfl (fun w => absurd w (by decide)) (fun _ => ⟨vp_in_nI rp (by omega), vp_in_nI ra (by omega), fun row2 q1 q2 => ⟨m + 1, ?_⟩⟩) (c - m - x) row1 (by omega) (fun j _ => rfl) (fun j u v => by omega)⟩)
    · rw [show x + (c - m - x) - 1 = c - m - 1 by omega]
      exact pk_sub (a := c - m) (b := 1) (by omega)
    · refine wy_mv246 (B := fun j => r (a + j)) (dep0 := a_depth) (row2 := row2) (by omega) (Or.inr rfl) hmvB hB hBi (fun row3 dep3 fr w1 w2 w3 w4 w5 w6 => hgood kk x row3 dep3 mv fr rfl hkk hx ?_ (fun j hj => ?_) w5 w6) m 0 row2 a_depth (by omega) (fun j _ => rfl) (fun j hj => by omega) (fun j _ => rfl) (fun j hj => by omega) (fun q _ => rfl)
      · refine td_insr_cs (x := x) (fun i hi => ?_) (fun j hj => ?_) (fun i u v => ?_)
        · rw [td_insr_lo hi, w1 i hi, q1 i hi]; exact Y1 i (by omega)
        · rw [td_insr_in hj]; exact w2 j hj
        · rw [td_insr_hi u, w3 _ (by omega), q2 i u v]; exact Y1 i v
      · have hdj := hd j hj
        rw [w4 j hj, nI_clamp (by omega), nI_clamp (by omega), Y.2.2 p hp, Y.2.2 a ha, Y.2.2 (a + j) (by omega), nI_1]
        exact tz_by (by omega)
  · unfold wY_move_157
    refine br_t rfl (nm_r (e' := nI (a + (c - m - a) - 1)) ?_ ⟨c - m - a + 1, wy_mv176 (c1 := c - m) (row1 := row1) (by omega) (by omega) (by omega) (by omega) rfl (fun _ row2 q1 q2 => ⟨m + 1, ?_⟩) (fun w => absurd rfl w) (c - m - a) row1 (by omega) (fun j _ => rfl) (fun j u v => by omega)⟩)
    · rw [show a + (c - m - a) - 1 = c - m - 1 by omega]
      exact pk_sub (a := c - m) (b := 1) (by omega)
    · refine wy_mv246 (B := fun j => r (a + j)) (dep0 := a_depth) (row2 := row2) (by omega) (Or.inl rfl) hmvB hB hBi (fun row3 dep3 fr w1 w2 w3 w4 w5 w6 => hbad kk row3 dep3 mv fr rfl hkk hct (fun j hj => ?_) (fun q => ?_) w6) m 0 row2 a_depth (by omega) (fun j _ => rfl) (fun j hj => by omega) (fun j _ => rfl) (fun j hj => by omega) (fun q _ => rfl)
      · rcases Nat.lt_or_ge j a with u | u
        · rw [w1 j u, q1 j u]; exact g1 j u
        · rcases Nat.lt_or_ge j (a + m) with v | v
          · have := w2 (j - a) (by omega)
            rw [show a + (j - a) = j by omega] at this
            rw [this]; exact (Y.2.1 j hj).symm
          · rw [w3 j v]
            have q := q2 (j - m) (by omega) (by omega)
            rw [show j - m + m = j by omega] at q
            rw [q, g2 (j - m) (by omega) (by omega), show j - m + m = j by omega]
      · rcases Classical.em (∃ j, j < m ∧ r (a + j) = q) with ⟨j, hj, ej⟩ | u
        · rw [← ej, w4 j hj, Int32.add_zero]
        · exact w5 q (fun j hj e => u ⟨j, hj, e⟩)
end
