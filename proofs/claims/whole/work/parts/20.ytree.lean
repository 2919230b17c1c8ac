/-! walks of the reference over its tree: reading -/
def ty_wh (c : Nat) (r : Nat → Nat) (v p : Int32) : Prop := (∃ i, i < c ∧ v = nI (r i) ∧ p = nI i) ∨ ((∀ i, i < c → v ≠ nI (r i)) ∧ p = -1)
theorem tz_b0 : vp_nar .boolean 0 = 0 := rfl
theorem tz_b1 : vp_nar .boolean 1 = 1 := rfl
theorem tz_m1lt : (-1 : Int32) < 0 := by decide
theorem tz_n0m1 : ¬ (0 : Int32) ≤ -1 := by decide
theorem wy_in0 {post : Int32 → Prop} {v : Int32} {n : Nat} (hn : n < 2 ^ 31) (h1 : ∀ j, j ≤ n → v = nI j → post 1) (h0 : (∀ j, j ≤ n → v ≠ nI j) → post 0) : wpY_in post v 0 (nI n) := by
  unfold wpY_in
  by_cases z : v < 0
  · exact br_t z (h0 (fun j hj e => nI_pos (n := j) (by omega) (by rw [← e]; exact z)))
  · obtain ⟨j, hj, rfl⟩ := nI_of z
    by_cases y : j ≤ n
    · exact br_f z (br_f (nI_nlt y hn) (h1 j y rfl))
    · exact br_f z (br_t (nI_lt (by omega) hj) (h0 (fun l hl e => by rw [nI_eq hj (by omega)] at e; omega)))
section
variable {f_count f_top f_listed f_outputs : Int32} {a_row a_depth a_name a_value a_moved a_kind a_with a_length a_sets a_fresh a_type a_number a_set a_list a_there a_match a_priority a_out a_on a_todo a_within a_output : Nat → Int32} {c : Nat} {r d : Nat → Nat}
theorem wy_where {post : Int32 → Prop} {v : Int32} (T : td_T c r d) (Y : re_YT c r d f_count a_row a_depth) (h : ∀ p, ty_wh c r v p → post p) : wpY_where post (f_count, f_top, f_listed, f_outputs, a_row, a_depth, a_name, a_value, a_moved, a_kind, a_with, a_length, a_sets, a_fresh, a_type, a_number, a_set, a_list, a_there, a_match, a_priority, a_out, a_on, a_todo, a_within, a_output) v := by
  have c24 := T.1
  obtain ⟨rfl, hr, hd⟩ := Y
  have key : ∀ k i, i + k = c → (∀ j, j < i → v ≠ nI (r j)) → wY_where_2 post v (nI c) f_top f_listed f_outputs a_row a_depth a_name a_value a_moved a_kind a_with a_length a_sets a_fresh a_type a_number a_set a_list a_there a_match a_priority a_out a_on a_todo a_within a_output (k + 1) (nI i) := by
    intro k
    induction k with
    | zero =>
      intro i hi hv
      exact br_t (nI_le (by omega) (by omega)) (h _ (Or.inr ⟨fun j hj => hv j (by omega), rfl⟩))
    | succ k ih =>
      intro i hi hv
      have ei : a_row (nI i).toNatClampNeg = nI (r i) := by rw [nI_clamp (by omega)]; exact hr i (by omega)
      refine br_f (nI_ge (by omega) (by omega)) ⟨vp_in_nI (by omega) (by omega), ?_⟩
      by_cases z : v = nI (r i)
      · exact br_t (by rw [ei, z]) (h _ (Or.inl ⟨i, by omega, z, rfl⟩))
      · refine br_f (fun w => z (by rw [← w, ei])) (nm_r (nI_1 i) (ih (i + 1) (by omega) (fun j hj => ?_)))
        by_cases y : j = i
        · subst y; exact z
        · exact hv j (by omega)
  exact ⟨c + 1, key c 0 (by omega) (fun j hj => by omega)⟩
theorem wy_where1 {post : Int32 → Prop} {i : Nat} (T : td_T c r d) (Y : re_YT c r d f_count a_row a_depth) (hi : i < c) (h : post (nI i)) : wpY_where post (f_count, f_top, f_listed, f_outputs, a_row, a_depth, a_name, a_value, a_moved, a_kind, a_with, a_length, a_sets, a_fresh, a_type, a_number, a_set, a_list, a_there, a_match, a_priority, a_out, a_on, a_todo, a_within, a_output) (nI (r i)) := by
  refine wy_where T Y (fun p hp => ?_)
  rcases hp with ⟨j, hj, e, ep⟩ | ⟨hn, -⟩
  · rw [nI_eq (by have := T.2.2.2.1 i hi; omega) (by have := T.2.2.2.1 j hj; omega)] at e
    rw [ep, ← T.2.2.2.2 i j hi hj e]
    exact h
  · exact absurd rfl (hn i hi)
theorem wy_behind {post : Int32 → Prop} {i e : Nat} (T : td_T c r d) (Y : re_YT c r d f_count a_row a_depth) (hi : i < c) (he : td_En c d i e) (h : post (nI e)) : wpY_behind post (f_count, f_top, f_listed, f_outputs, a_row, a_depth, a_name, a_value, a_moved, a_kind, a_with, a_length, a_sets, a_fresh, a_type, a_number, a_set, a_list, a_there, a_match, a_priority, a_out, a_on, a_todo, a_within, a_output) (nI i) := by
  have c24 := T.1
  obtain ⟨rfl, hr, hd⟩ := Y
  have rw1 : ∀ j, j < c → a_row (nI j).toNatClampNeg = nI (r j) := fun j hj => by rw [nI_clamp (by omega)]; exact hr j hj
  have rw2 : ∀ j, j < c → a_depth (a_row (nI j).toNatClampNeg).toNatClampNeg = nI (d j) := fun j hj => by
    rw [rw1 j hj, nI_clamp (by have := T.2.2.2.1 j hj; omega)]; exact hd j hj
  have db : ∀ j, j < c → d j < 24 := fun j hj => by have := td_dc T.2.1 hj; omega
  have vr : ∀ j, j < c → vp_in (a_row (nI j).toNatClampNeg) 24 := fun j hj => by rw [rw1 j hj]; exact vp_in_nI (T.2.2.2.1 j hj) (by omega)
  obtain ⟨a1, a2, a3, a4⟩ := he
  have key : ∀ k j, j + k = e → i < j → wY_behind_4 post (nI i) (nI c) f_top f_listed f_outputs a_row a_depth a_name a_value a_moved a_kind a_with a_length a_sets a_fresh a_type a_number a_set a_list a_there a_match a_priority a_out a_on a_todo a_within a_output (k + 1) (nI j) := by
    intro k
    induction k with
    | zero =>
      intro j hj hij
      have ej : j = e := by omega
      subst ej
      by_cases z : j = c
      · exact br_t (nI_le (by omega) (by omega)) h
      · refine br_f (nI_ge (by omega) (by omega)) ⟨vp_in_nI (by omega) (by omega), vr j (by omega), vp_in_nI (by omega) (by omega), vr i hi, br_t ?_ h⟩
        rw [rw2 j (by omega), rw2 i hi]
        exact nI_le (a4 (by omega)) (by have := db i hi; omega)
    | succ k ih =>
      intro j hj hij
      refine br_f (nI_ge (by omega) (by omega)) ⟨vp_in_nI (by omega) (by omega), vr j (by omega), vp_in_nI (by omega) (by omega), vr i hi, br_f ?_ (nm_r (nI_1 j) (ih (j + 1) (by omega) (by omega)))⟩
      rw [rw2 j (by omega), rw2 i hi]
      exact nI_ge (a3 j hij (by omega)) (by have := db j (by omega); omega)
  exact nm_r (nI_1 i) ⟨e - i, by
    have := key (e - (i + 1)) (i + 1) (by omega) (by omega)
    rw [show e - (i + 1) + 1 = e - i by omega] at this
    exact this⟩
theorem wy_isBelow {post : Int32 → Prop} {i l : Nat} (T : td_T c r d) (Y : re_YT c r d f_count a_row a_depth) (hi : i < c) (hl : l < c) (h1 : td_An d i l → post 1) (h0 : ¬ td_An d i l → post 0) :
    wpY_isBelow post (f_count, f_top, f_listed, f_outputs, a_row, a_depth, a_name, a_value, a_moved, a_kind, a_with, a_length, a_sets, a_fresh, a_type, a_number, a_set, a_list, a_there, a_match, a_priority, a_out, a_on, a_todo, a_within, a_output) (nI (r l)) (nI (r i)) := by
  have c24 := T.1
  obtain ⟨e, he⟩ := td_endEx (c := c) (d := d) hi
  have hA := td_AnEn he hl
  have he2 := he.2.1
  unfold wpY_isBelow
  refine wy_where1 T Y hi (wy_where1 T Y hl ?_)
  by_cases z : l ≤ i
  · exact br_t (nI_le z (by omega)) (h0 (fun w => by have := w.1; omega))
  · refine br_f (nI_ge (by omega) (by omega)) (wy_behind T Y hi he ?_)
    by_cases y : e ≤ l
    · exact br_t (nI_le y (by omega)) (h0 (fun w => by rw [hA] at w; omega))
    · exact br_f (nI_ge (by omega) (by omega)) (h1 (hA.mpr ⟨by omega, by omega⟩))
theorem wy_parentOf {post : Int32 → Prop} {i : Nat} (T : td_T c r d) (Y : re_YT c r d f_count a_row a_depth) (hi : i < c) (h1 : ∀ p, td_Pa d p i → post (nI (r p))) (h0 : i = 0 → post (-1)) : wpY_parentOf post (f_count, f_top, f_listed, f_outputs, a_row, a_depth, a_name, a_value, a_moved, a_kind, a_with, a_length, a_sets, a_fresh, a_type, a_number, a_set, a_list, a_there, a_match, a_priority, a_out, a_on, a_todo, a_within, a_output) (nI (r i)) := by
  have c24 := T.1
  have Y' := Y
  obtain ⟨rfl, hr, hd⟩ := Y
  have rw1 : ∀ j, j < c → a_row (nI j).toNatClampNeg = nI (r j) := fun j hj => by rw [nI_clamp (by omega)]; exact hr j hj
  have rw2 : ∀ j, j < c → a_depth (a_row (nI j).toNatClampNeg).toNatClampNeg = nI (d j) := fun j hj => by
    rw [rw1 j hj, nI_clamp (by have := T.2.2.2.1 j hj; omega)]; exact hd j hj
  have rw3 : a_depth (nI (r i)).toNatClampNeg = nI (d i) := by rw [nI_clamp (by have := T.2.2.2.1 i hi; omega)]; exact hd i hi
  have db : ∀ j, j < c → d j < 24 := fun j hj => by have := td_dc T.2.1 hj; omega
  have vr : ∀ j, j < c → vp_in (a_row (nI j).toNatClampNeg) 24 := fun j hj => by rw [rw1 j hj]; exact vp_in_nI (T.2.2.2.1 j hj) (by omega)
  have key : ∀ j, j ≤ i → (∀ l, j < l → l ≤ i → d i ≤ d l) → wY_parentOf_6 post (nI (r i)) (nI c) f_top f_listed f_outputs a_row a_depth a_name a_value a_moved a_kind a_with a_length a_sets a_fresh a_type a_number a_set a_list a_there a_match a_priority a_out a_on a_todo a_within a_output (j + 2) (nI j) := by
    intro j
    induction j with
    | zero =>
      intro _ hl
      refine br_f (nI_pos (by omega)) ⟨vp_in_nI (by omega) (by omega), vr 0 (by omega), vp_in_nI (T.2.2.2.1 i hi) (by omega), ?_⟩
      by_cases z : d 0 < d i
      · refine br_t (by rw [rw2 0 (by omega), rw3]; exact nI_lt z (by have := db i hi; omega)) (br_t (nI_pos' (by omega)) ⟨vp_in_nI (by omega) (by omega), ?_⟩)
        rw [rw1 0 (by omega)]
        have i0 : 0 < i := by
          rcases Nat.eq_zero_or_pos i with w | w
          · rw [w] at z; omega
          · exact w
        exact h1 0 ⟨i0, z, fun l a b => hl l a (by omega)⟩
      · refine br_f (by rw [rw2 0 (by omega), rw3]; exact nI_nlt (by omega) (by have := db 0 (by omega); omega)) (nm_r (e' := -1) rfl (br_t tz_m1lt (br_f tz_n0m1 (h0 ?_))))
        rcases Nat.eq_zero_or_pos i with w | w
        · exact w
        · have := td_pos T.2.1 w hi
          have := T.2.1.1
          omega
    | succ j ih =>
      intro hj hl
      refine br_f (nI_pos (by omega)) ⟨vp_in_nI (by omega) (by omega), vr (j + 1) (by omega), vp_in_nI (T.2.2.2.1 i hi) (by omega), ?_⟩
      by_cases z : d (j + 1) < d i
      · refine br_t (by rw [rw2 (j + 1) (by omega), rw3]; exact nI_lt z (by have := db i hi; omega)) (br_t (nI_pos' (by omega)) ⟨vp_in_nI (by omega) (by omega), ?_⟩)
        rw [rw1 (j + 1) (by omega)]
        have i0 : j + 1 < i := by
          rcases Nat.lt_or_ge (j + 1) i with w | w
          · exact w
          · have : i = j + 1 := by omega
            rw [this] at z; omega
        exact h1 (j + 1) ⟨i0, z, fun l a b => hl l a (by omega)⟩
      · refine br_f (by rw [rw2 (j + 1) (by omega), rw3]; exact nI_nlt (by omega) (by have := db (j + 1) (by omega); omega)) (nm_r (pk_m1 j) (ih (by omega) (fun l a b => ?_)))
        by_cases y : l = j + 1
        · subst y; omega
        · exact hl l (by omega) b
  unfold wpY_parentOf
  exact wy_where1 T Y' hi ⟨i + 2, key i (Nat.le_refl _) (fun l a b => by omega)⟩
theorem wy_place {post : Int32 → Prop} {p e k : Nat} (T : td_T c r d) (Y : re_YT c r d f_count a_row a_depth) (hp : p < c) (he : td_En c d p e) (hk : k < 2 ^ 31)
    (h1 : ∀ x, td_Pl c d p k x → post (nI x)) (h0 : td_ct d (d p + 1) (p + 1) e < k → post (-1)) : wpY_place post (f_count, f_top, f_listed, f_outputs, a_row, a_depth, a_name, a_value, a_moved, a_kind, a_with, a_length, a_sets, a_fresh, a_type, a_number, a_set, a_list, a_there, a_match, a_priority, a_out, a_on, a_todo, a_within, a_output) (nI p) (nI k) := by
  have c24 := T.1
  have key : ∀ m t x, e - x ≤ m → t ≤ k → td_Pl c d p t x → wY_place_14 post (nI k) (nI e) f_count f_top f_listed f_outputs a_row a_depth a_name a_value a_moved a_kind a_with a_length a_sets a_fresh a_type a_number a_set a_list a_there a_match a_priority a_out a_on a_todo a_within a_output (m + 1) (nI x) (nI t) := by
    intro m
    induction m with
    | zero =>
      intro t x hm ht hx
      have xe := td_pl_le hx he
      have : x = e := by omega
      subst this
      by_cases z : t = k
      · subst z
        exact br_t (nI_le (Nat.le_refl _) hk) (h1 x hx)
      · refine br_f (nI_ge (by omega) hk) (br_t rfl (h0 ?_))
        rw [hx.2.2.2.2]; omega
    | succ m ih =>
      intro t x hm ht hx
      have xe := td_pl_le hx he
      have ec := he.2.1
      by_cases z : t = k
      · subst z
        exact br_t (nI_le (Nat.le_refl _) hk) (h1 x hx)
      · refine br_f (nI_ge (by omega) hk) ?_
        by_cases y : x = e
        · refine br_t (by rw [y]) (h0 ?_)
          rw [← y, hx.2.2.2.2]; omega
        · obtain ⟨f, hf⟩ := td_endEx (c := c) (d := d) (i := x) (by omega)
          have hxf := hf.1
          exact br_f (fun w => y ((nI_eq (by omega) (by omega)).mp w)) (wy_behind T Y (by omega) hf (nm_r (nI_1 t) (ih (t + 1) f (by omega) (by omega) (td_pl_s hx he (by omega) hf))))
  unfold wpY_place
  exact nm_r (nI_1 p) (wy_behind T Y hp he ⟨e + 1, key e 0 (p + 1) (by omega) (by omega) (td_pl_0 T.2.1 hp)⟩)
theorem wy_changed {post : SY → Prop} (h : ∀ fr, (∀ s, s < 8 → fr s = 0) → post (f_count, f_top, f_listed, f_outputs, a_row, a_depth, a_name, a_value, a_moved, a_kind, a_with, a_length, a_sets, fr, a_type, a_number, a_set, a_list, a_there, a_match, a_priority, a_out, a_on, a_todo, a_within, a_output)) : wpY_changed post (f_count, f_top, f_listed, f_outputs, a_row, a_depth, a_name, a_value, a_moved, a_kind, a_with, a_length, a_sets, a_fresh, a_type, a_number, a_set, a_list, a_there, a_match, a_priority, a_out, a_on, a_todo, a_within, a_output) := by
  have key : ∀ k i fr, i + k = 8 → (∀ s, s < i → fr s = 0) → wY_changed_2 post f_count f_top f_listed f_outputs (k + 1) (nI i) a_row a_depth a_name a_value a_moved a_kind a_with a_length a_sets fr a_type a_number a_set a_list a_there a_match a_priority a_out a_on a_todo a_within a_output := by
    intro k
    induction k with
    | zero => intro i fr hi hf; exact br_t (nI_le (a := 8) (b := i) (by omega) (by omega)) (h fr (fun s hs => hf s (by omega)))
    | succ k ih =>
      intro i fr hi hf
      have ei : (nI i).toNatClampNeg = i := nI_clamp (by omega)
      refine br_f (nI_ge (a := i) (b := 8) (by omega) (by omega)) ⟨vp_in_nI (by omega) (by omega), nm_r (e' := upd fr i 0) (by rw [ei, tz_b0]) (nm_r (nI_1 i) (ih (i + 1) _ (by omega) (fun s hs => ?_)))⟩
      by_cases z : s = i
      · subst z; exact pk_us
      · rw [pk_un z]; exact hf s (by omega)
  exact ⟨9, key 8 0 a_fresh rfl (fun s hs => by omega)⟩
end
