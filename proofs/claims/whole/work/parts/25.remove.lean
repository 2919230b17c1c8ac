/-! remove -/
theorem td_cutd_cs {a m c : Nat} {P : Nat → Prop} (hac : a ≤ c - m) (h1 : ∀ i, i < a → P i) (h2 : ∀ i, a + m ≤ i → i < c → P (i - m)) : ∀ i, i < c - m → P i := by
  intro i hi
  rcases Nat.lt_or_ge i a with z | z
  · exact h1 i z
  · have := h2 (i + m) (by omega) (by omega)
    rw [show i + m - m = i by omega] at this
    exact this
theorem td_cutT {c a m p : Nat} {r d : Nat → Nat} (T : td_T c r d) (hp : td_Pa d p a) (ha : a < c) (he : td_En c d a (a + m)) : td_T (c - m) (td_cutd a m r) (td_cutd a m d) := by
  have hpa := hp.1
  have c24 := T.1
  have he1 := he.1
  have he2 := he.2.1
  refine ⟨by omega, td_cut_ok T.2.1 hp ha he, by rw [td_cutd_lo (by omega)]; exact T.2.2.1, fun i hi => ?_, fun i j hi hj e => ?_⟩
  · rcases Nat.lt_or_ge i a with z | z
    · rw [td_cutd_lo z]; exact T.2.2.2.1 i (by omega)
    · rw [td_cutd_hi z]; exact T.2.2.2.1 _ (by omega)
  · rcases Nat.lt_or_ge i a with z | z <;> rcases Nat.lt_or_ge j a with y | y
    · rw [td_cutd_lo z, td_cutd_lo y] at e; exact T.2.2.2.2 i j (by omega) (by omega) e
    · rw [td_cutd_lo z, td_cutd_hi y] at e; have := T.2.2.2.2 i (j + m) (by omega) (by omega) e; omega
    · rw [td_cutd_hi z, td_cutd_lo y] at e; have := T.2.2.2.2 (i + m) j (by omega) (by omega) e; omega
    · rw [td_cutd_hi z, td_cutd_hi y] at e; have := T.2.2.2.2 (i + m) (j + m) (by omega) (by omega) e; omega
def tx_ui (u : Nat → Int32) (x : Int32) (i : Nat) (u' : Nat → Int32) : Prop := ∀ q, q < 24 → ((q < i ∧ bt x q = true) → u' q = 0) ∧ (¬ (q < i ∧ bt x q = true) → u' q = u q)
theorem tx_U_cut {c a m : Nat} {r d : Nat → Nat} {u u' : Nat → Int32} {x : Int32} (T : td_T c r d) (U : tx_U c r u) (ha : a < c) (he : td_En c d a (a + m)) (hx : ∀ l, l < c → (bt x (r l) = true ↔ (td_An d a l ∨ l = a))) (hu : tx_ui u x 24 u') :
    tx_U (c - m) (td_cutd a m r) u' := by
  have he1 := he.1
  have he2 := he.2.1
  have blk : ∀ l, l < c → (bt x (r l) = true ↔ (a ≤ l ∧ l < a + m)) := fun l hl => by
    rw [hx l hl, td_AnEn he hl]; omega
  intro q hq
  obtain ⟨h1, h2⟩ := hu q hq
  rcases U q hq with ⟨g, i, hi, ei⟩ | ⟨g, hno⟩
  · subst ei
    by_cases z : a ≤ i ∧ i < a + m
    · refine Or.inr ⟨h1 ⟨hq, (blk i hi).mpr z⟩, fun j hj e => ?_⟩
      rcases Nat.lt_or_ge j a with y | y
      · rw [td_cutd_lo y] at e; have := T.2.2.2.2 j i (by omega) hi e; omega
      · rw [td_cutd_hi y] at e; have := T.2.2.2.2 (j + m) i (by omega) hi e; omega
    · refine Or.inl ⟨(h2 (fun w => z ((blk i hi).mp w.2))).trans g, ?_⟩
      rcases Nat.lt_or_ge i a with y | y
      · exact ⟨i, by omega, td_cutd_lo y⟩
      · refine ⟨i - m, by omega, ?_⟩
        rw [td_cutd_hi (by omega), show i - m + m = i by omega]
  · have uq : u' q = 0 := by
      by_cases z : bt x q = true
      · exact h1 ⟨hq, z⟩
      · exact (h2 (fun w => z w.2)).trans g
    refine Or.inr ⟨uq, fun j hj e => ?_⟩
    rcases Nat.lt_or_ge j a with y | y
    · rw [td_cutd_lo y] at e; exact hno j (by omega) e
    · rw [td_cutd_hi y] at e; exact hno _ (by omega) e
section
variable {f_nodeCount f_draftLength f_resultLength : Int32} {a_inUse a_parentOf a_rankOf a_nameOf a_valueOf a_order a_along a_draftKind a_draftValue a_draftEnd a_tokenKind a_tokenValue a_tokenEnd a_slotLength a_setAt a_amount a_reached a_agenda a_isTemplate a_matchSlot a_priorityOf a_outSlot a_onSlot a_waiting a_result : Nat → Int32} {c : Nat} {r d : Nat → Nat}
theorem tx_blk {a : Nat} (T : td_T c r d) (hal : tx_Rep a_along (tx_R0 r d c)) (ha : a < c) : ∀ l, l < c → (bt (a_along (9 * 24 + r a)) (r l) = true ↔ (td_An d a l ∨ l = a)) := fun l hl => by
  rw [(hal 9 (by omega) (r a) (T.2.2.2.1 a ha)).2 (r l) (T.2.2.2.1 l hl), tx_R0_on T (Nat.le_refl _) ha hl, td_on9]
theorem tx_blkn {a e : Nat} (T : td_T c r d) (hal : tx_Rep a_along (tx_R0 r d c)) (ha : a < c) (he : td_En c d a e) : tc_n (bt (a_along (9 * 24 + r a))) 24 = e - a := by
  have e2 := tc_inj (r := r) (Q := fun l => tk_d (td_An d a l ∨ l = a)) c (bt (a_along (9 * 24 + r a))) T.2.2.2.1 T.2.2.2.2 (fun q hq => by
    rw [(hal 9 (by omega) (r a) (T.2.2.2.1 a ha)).2 q hq]
    constructor
    · rintro ⟨x, y, hx, hy, q1, q2, q3⟩
      rw [T.2.2.2.2 x a hx ha q1, td_on9] at q3
      exact ⟨y, hy, q2, tk_d_t.mpr q3⟩
    · rintro ⟨y, hy, q2, q3⟩
      exact ⟨a, y, ha, hy, rfl, q2, td_on9.mpr (tk_d_t.mp q3)⟩)
  have := he.2.1
  have := he.1
  rw [e2, tc_block he c (Nat.le_refl _), if_neg (by omega)]
  by_cases z : c ≤ e
  · rw [if_pos z]; omega
  · rw [if_neg z]
theorem wx_rm35 {post : Int32 → SX → Prop} {x : Int32} {c' m : Nat} (hc : f_nodeCount - nI m = nI c')
    (h : ∀ u', tx_ui a_inUse x 24 u' → wpX_layOut (fun u => post (nI m) u) (nI c', f_draftLength, f_resultLength, u', a_parentOf, a_rankOf, a_nameOf, a_valueOf, a_order, a_along, a_draftKind, a_draftValue, a_draftEnd, a_tokenKind, a_tokenValue, a_tokenEnd, a_slotLength, a_setAt, a_amount, a_reached, a_agenda, a_isTemplate, a_matchSlot, a_priorityOf, a_outSlot, a_onSlot, a_waiting, a_result)) :
    ∀ k i u', i + k = 24 → tx_ui a_inUse x i u' → wX_remove_35 post x (nI m) f_nodeCount f_draftLength f_resultLength (k + 1) (nI i) u' a_parentOf a_rankOf a_nameOf a_valueOf a_order a_along a_draftKind a_draftValue a_draftEnd a_tokenKind a_tokenValue a_tokenEnd a_slotLength a_setAt a_amount a_reached a_agenda a_isTemplate a_matchSlot a_priorityOf a_outSlot a_onSlot a_waiting a_result := by
  intro k
  induction k with
  | zero =>
    intro i u' hi hu
    have e : i = 24 := by omega
    subst e
    exact br_t (nI_le (a := 24) (b := 24) (by omega) (by omega)) (nm_r hc (h u' hu))
  | succ k ih =>
    intro i u' hi hu
    have ei : (nI i).toNatClampNeg = i := nI_clamp (by omega)
    refine br_f (nI_ge (a := i) (b := 24) (by omega) (by omega)) ?_
    by_cases z : bt x i = true
    · refine br_f (fun w => by rw [mk_f (by omega), z] at w; cases w) ⟨vp_in_nI (by omega) (by omega), nm_r (e' := upd u' i 0) (by rw [ei, tz_b0]) (nm_r (nI_1 i) (ih (i + 1) _ (by omega) (fun q hq => ?_)))⟩
      obtain ⟨h1, h2⟩ := hu q hq
      by_cases y : q = i
      · subst y
        rw [pk_us]
        exact ⟨fun _ => rfl, fun w => absurd ⟨by omega, z⟩ w⟩
      · rw [pk_un y]
        exact ⟨fun w => h1 ⟨by omega, w.2⟩, fun w => h2 (fun v => w ⟨by omega, v.2⟩)⟩
    · refine br_t ((mk_f (by omega)).mpr (tz_nb z)) (nm_r (nI_1 i) (ih (i + 1) _ (by omega) (fun q hq => ?_)))
      obtain ⟨h1, h2⟩ := hu q hq
      refine ⟨fun w => h1 ⟨?_, w.2⟩, fun w => h2 (fun v => w ⟨by omega, v.2⟩)⟩
      by_cases y : q = i
      · subst y; exact absurd w.2 z
      · omega
end
section
variable {f_count f_top f_listed f_outputs : Int32} {a_row a_depth a_name a_value a_moved a_kind a_with a_length a_sets a_fresh a_type a_number a_set a_list a_there a_match a_priority a_out a_on a_todo a_within a_output : Nat → Int32} {c : Nat} {r d : Nat → Nat}
theorem wy_shift {m a c' : Nat} {W : Nat → Int32 → (Nat → Int32) → Prop} (hc : a ≤ c')
    (h0 : ∀ n row', (∀ j, j < a → row' j = a_row j) → (∀ j, a ≤ j → j < c' → row' j = a_row (j + m)) → W (n + 1) (nI c') row')
    (hs : ∀ n i row', a ≤ i → i < c' → W n (nI (i + 1)) (upd row' i (row' (i + m))) → W (n + 1) (nI i) row') (hm : 0 < m) :
    ∀ k i row', i + k = c' → a ≤ i → (∀ j, j < a → row' j = a_row j) → (∀ j, a ≤ j → j < i → row' j = a_row (j + m)) → (∀ j, i ≤ j → row' j = a_row j) → W (k + 1) (nI i) row' := by
  intro k
  induction k with
  | zero =>
    intro i row' hi ha h1 h2 h3
    have e : i = c' := by omega
    subst e
    exact h0 0 row' h1 h2
  | succ k ih =>
    intro i row' hi ha h1 h2 h3
    refine hs (k + 1) i row' ha (by omega) (ih (i + 1) _ (by omega) (by omega) (fun j hj => ?_) (fun j x y => ?_) (fun j hj => ?_))
    · rw [pk_un (by omega)]; exact h1 j hj
    · by_cases z : j = i
      · subst z; rw [pk_us]; exact h3 _ (by omega)
      · rw [pk_un z]; exact h2 j x (by omega)
    · rw [pk_un (by omega)]; exact h3 j (by omega)
theorem wy_remove {post : Int32 → SY → Prop} {a m : Nat} (T : td_T c r d) (Y : re_YT c r d f_count a_row a_depth) (ha : a < c) (he : td_En c d a (a + m))
    (h : ∀ row' fr, (∀ j, j < a → row' j = a_row j) → (∀ j, a ≤ j → j < c - m → row' j = a_row (j + m)) → (∀ s, s < 8 → fr s = 0) → post (nI m) (nI (c - m), f_top, f_listed, f_outputs, row', a_depth, a_name, a_value, a_moved, a_kind, a_with, a_length, a_sets, fr, a_type, a_number, a_set, a_list, a_there, a_match, a_priority, a_out, a_on, a_todo, a_within, a_output)) : wpY_remove post (f_count, f_top, f_listed, f_outputs, a_row, a_depth, a_name, a_value, a_moved, a_kind, a_with, a_length, a_sets, a_fresh, a_type, a_number, a_set, a_list, a_there, a_match, a_priority, a_out, a_on, a_todo, a_within, a_output) (nI (r a)) := by
  have c24 := T.1
  have he1 := he.1
  have he2 := he.2.1
  unfold wpY_remove
  refine wy_where1 T Y ha (br_t (nI_pos' (by omega)) (wy_behind T Y ha he (nm_r (e' := nI m) ?_ (nm_r (e' := nI (c - m)) ?_ ⟨c - m - a + 1, ?_⟩))))
  · rw [pk_sub (by omega), show a + m - a = m by omega]
  · rw [Y.1, pk_sub (by omega)]
  · refine wy_shift (a_row := a_row) (m := m) (a := a) (c' := c - m) (W := fun n i row' => wY_remove_33 post (nI m) (nI (c - m)) f_top f_listed f_outputs n i row' a_depth a_name a_value a_moved a_kind a_with a_length a_sets a_fresh a_type a_number a_set a_list a_there a_match a_priority a_out a_on a_todo a_within a_output) (by omega) (fun n row' h1 h2 => br_t (nI_le (Nat.le_refl _) (by omega)) (wy_changed (fun fr hf => h row' fr h1 h2 hf))) (fun n i row' x y hw => ?_) (by omega) (c - m - a) a a_row (by omega) (Nat.le_refl _) (fun j _ => rfl) (fun j x y => by omega) (fun j _ => rfl)
    refine br_f (nI_ge y (by omega)) ⟨by rw [nI_add]; exact vp_in_nI (by omega) (by omega), vp_in_nI (by omega) (by omega), nm_r (e' := upd row' i (row' (i + m))) (by rw [nI_add, nI_clamp (by omega), nI_clamp (by omega)]) (nm_r (nI_1 i) hw)⟩
end
theorem i_vc_remove {k : Nat} {u : SX} {v : SY} (I : i_Rel k u v) (hk : k + 6 ≤ 3072) (v1 : Int32) : wpX_remove (fun r u' => wpY_remove (fun r' v' => r' = r ∧ i_Rel (k + 6) u' v') v v1) u v1 := by
  obtain ⟨f_nodeCount, f_draftLength, f_resultLength, a_inUse, a_parentOf, a_rankOf, a_nameOf, a_valueOf, a_order, a_along, a_draftKind, a_draftValue, a_draftEnd, a_tokenKind, a_tokenValue, a_tokenEnd, a_slotLength, a_setAt, a_amount, a_reached, a_agenda, a_isTemplate, a_matchSlot, a_priorityOf, a_outSlot, a_onSlot, a_waiting, a_result⟩ := u
  obtain ⟨f_count, f_top, f_listed, f_outputs, a_row, a_depth, a_name, a_value, a_moved, a_kind, a_with, a_length, a_sets, a_fresh, a_type, a_number, a_set, a_list, a_there, a_match, a_priority, a_out, a_on, a_todo, a_within, a_output⟩ := v
  have J := i_up I
  obtain ⟨c, n, m, r, d, len, T, X, Y, e1, e2, hdl, hK, hF, e3, e4, e5, e6, e7, hP, hm, hrl, hou, e8⟩ := I
  obtain ⟨hnc, U, P, ho, hal⟩ := X
  have c24 := T.1
  unfold wpX_remove
  refine wx_isNode T U (fun a ha ea => ?_) (fun hno => br_t rfl ?_)
  rotate_left
  · unfold wpY_remove
    refine wy_where T Y (fun w hw => ?_)
    rcases hw with ⟨i, hi, e, -⟩ | ⟨-, rfl⟩
    · exact absurd e (hno i hi)
    · exact br_f tz_n0m1 ⟨rfl, J⟩
  subst ea
  obtain ⟨e, he⟩ := td_endEx (c := c) (d := d) ha
  obtain ⟨b, rfl⟩ : ∃ b, e = a + b := ⟨e - a, by have := he.1; omega⟩
  have he1 := he.1
  have he2 := he.2.1
  have ra := T.2.2.2.1 a ha
  have ei : (216 : Int32) + nI (r a) = nI (9 * 24 + r a) := by rw [show (216 : Int32) = nI (9 * 24) from rfl, nI_add]
  have ec : ((216 : Int32) + nI (r a)).toNatClampNeg = 9 * 24 + r a := by rw [ei]; exact nI_clamp (by omega)
  have cnt := tx_blkn T hal ha he
  rw [show a + b - a = b by omega] at cnt
  refine br_f (by decide) ⟨by rw [ei]; exact vp_in_nI (by omega) (by omega), nm_r (e' := a_along (9 * 24 + r a)) (by rw [ec]) (wx_count ?_)⟩
  rw [cnt]
  refine wx_detach ra (fun rk1 hD => ⟨25, ?_⟩)
  by_cases a0 : a = 0
  · subst a0
    have bc : 0 + b = c := td_nx_rt T.2.1 he
    have T' : td_T 0 (fun _ => 0) (fun _ => 0) := ⟨by omega, ⟨rfl, fun i hi => by omega⟩, rfl, fun i hi => by omega, fun i j hi => by omega⟩
    refine wx_rm35 (c' := 0) (by rw [hnc, pk_sub (by omega), show c - b = 0 by omega]) (fun u' hu => ?_) 24 0 a_inUse rfl (fun q _ => ⟨fun w => by omega, fun _ => rfl⟩)
    have U' : tx_U 0 (fun _ => 0) u' := by
      have := tx_U_cut T U ha he (tx_blk T hal ha) hu
      intro q hq
      rcases this q hq with ⟨-, i, hi, -⟩ | ⟨x, -⟩
      · omega
      · exact Or.inr ⟨x, fun i hi => by omega⟩
    have P' : tx_PR 0 (fun _ => 0) (fun _ => 0) a_parentOf rk1 := ⟨fun q i hi => by omega, fun h => by omega⟩
    refine wx_layOut T' U' P' (fun od al hod hal' => wy_remove T Y ha he (fun row' fr h1 h2 h3 => ⟨rfl, 0, n, m, fun _ => 0, fun _ => 0, len, T', ⟨rfl, U', P', hod, hal'⟩, ⟨by rw [show c - b = 0 by omega], fun i hi => by omega, fun i hi => by omega⟩, e1, e2, hdl, hK, re_F0 h3, e3, e4, e5, e6, e7, hP, hm, hrl, hou, e8⟩))
  · obtain ⟨p, hp⟩ := td_ex T.2.1 (i := a) (by omega) ha
    have T' := td_cutT T hp ha he
    have hac : a ≤ c - b := by omega
    refine wx_rm35 (c' := c - b) (by rw [hnc, pk_sub (by omega)]) (fun u' hu => ?_) 24 0 a_inUse rfl (fun q _ => ⟨fun w => by omega, fun _ => rfl⟩)
    have U' := tx_U_cut T U ha he (tx_blk T hal ha) hu
    have P' := (tx_det T P U hp ha he hD).1
    refine wx_layOut T' U' P' (fun od al hod hal' => wy_remove T Y ha he (fun row' fr h1 h2 h3 => ⟨rfl, c - b, n, m, _, _, len, T', ⟨rfl, U', P', hod, hal'⟩, ⟨rfl, fun i hi => ?_, fun i hi => ?_⟩, e1, e2, hdl, hK, re_F0 h3, e3, e4, e5, e6, e7, hP, hm, hrl, hou, e8⟩))
    · rcases Nat.lt_or_ge i a with z | z
      · rw [td_cutd_lo z, h1 i z]; exact Y.2.1 i (by omega)
      · rw [td_cutd_hi z, h2 i z hi]; exact Y.2.1 _ (by omega)
    · rcases Nat.lt_or_ge i a with z | z
      · rw [td_cutd_lo z, td_cutd_lo z]; exact Y.2.2 i (by omega)
      · rw [td_cutd_hi z, td_cutd_hi z]; exact Y.2.2 _ (by omega)
