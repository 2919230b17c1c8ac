/-! a token worked out, by the reference -/
theorem te_Ws_sub {K W E : Nat → Nat} {b L y : Nat} (h : te_Ws K W E b L) (hb : b ≤ y) (hy : y < L) : te_Ws K W E y (E y) := by
  have EL := te_E_le h hb hy
  intro i h1 h2
  obtain ⟨w1, w2⟩ := h i (by omega) (by omega)
  have n := te_nest h y hy hb i h1 h2
  have le : ∀ u t, t + u = te_o (K i) (W i) → te_ch E (i + 1) t ≤ E i := by
    intro u
    induction u with
    | zero => intro t ht; rw [w1, ← ht]; exact Nat.le_refl _
    | succ u iu =>
      intro t ht
      have x := iu (t + 1) (by omega)
      have o := te_op h (i := i) (t := t) (by omega) (by omega) (by omega)
      have g := te_E_gt h (i := te_ch E (i + 1) t) (by omega) o.2.1
      rw [te_ch_s] at x
      omega
  refine ⟨w1, fun t ht => ⟨?_, (w2 t ht).2⟩⟩
  have o := te_op h (i := i) (t := t) (by omega) (by omega) ht
  have g := te_E_gt h (i := te_ch E (i + 1) t) (by omega) o.2.1
  have x := le (te_o (K i) (W i) - (t + 1)) (t + 1) (by omega)
  rw [te_ch_s] at x
  omega
section
variable {f_count f_top f_listed f_outputs : Int32} {a_row a_depth a_name a_value a_moved a_kind a_with a_length a_sets a_fresh a_type a_number a_set a_list a_there a_match a_priority a_out a_on a_todo a_within a_output : Nat → Int32} {c : Nat} {r d : Nat → Nat} {K W E : Nat → Nat} {V : Nat → Int32} {b L : Nat}
theorem wy_work {post : SY → Prop} {s tt y q : Nat} {pos last : Int32} (S : te_Sy K W E V a_kind a_with b L) (T : td_T c r d) (Y : re_YT c r d f_count a_row a_depth) (ey : 40 * s + tt = y) (hb : b ≤ y) (hy : y < L) (hq : q < 24)
    (h : ∀ top ty st nb, ty_En ty st nb 0 (K y) (a_sets (24 * y + q)) (tn_nv c r a_value K E V (fun j => a_sets (24 * j + q)) pos last y) → post (f_count, top, f_listed, f_outputs, a_row, a_depth, a_name, a_value, a_moved, a_kind, a_with, a_length, a_sets, a_fresh, ty, nb, st, a_list, a_there, a_match, a_priority, a_out, a_on, a_todo, a_within, a_output)) :
    wpY_workOut post (f_count, f_top, f_listed, f_outputs, a_row, a_depth, a_name, a_value, a_moved, a_kind, a_with, a_length, a_sets, a_fresh, a_type, a_number, a_set, a_list, a_there, a_match, a_priority, a_out, a_on, a_todo, a_within, a_output) (nI s) (nI tt) (nI q) pos last := by
  have S' := S
  obtain ⟨l1, l2, D, hV, hw⟩ := S
  have EL := te_E_le hw hb hy
  have Eg := te_E_gt hw hb hy
  have eqv := tn_nv_eq (c := c) (r := r) (val := a_value) (V := V) (σ := fun j => a_sets (24 * j + q)) (pos := pos) (last := last) hw (by omega)
  generalize hη : tn_nv c r a_value K E V (fun j => a_sets (24 * j + q)) pos last = η at h eqv
  have hs := te_Ws_sub hw hb hy
  have key : ∀ k i hh ty st nb, i = y + k → i ≤ E y → te_F E (E y) i hh → (∀ t, t < hh → ty_En ty st nb (hh - 1 - t) (K (te_ch E i t)) (a_sets (24 * te_ch E i t + q)) (η (te_ch E i t))) →
      wY_workOut_23 post (nI q) pos last (nI y) f_count f_listed f_outputs (k + 1) (nI i - 1) (nI hh) a_row a_depth a_name a_value a_moved a_kind a_with a_length a_sets a_fresh ty nb st a_list a_there a_match a_priority a_out a_on a_todo a_within a_output := by
    intro k
    induction k with
    | zero =>
      intro i hh ty st nb hi hiE f hst
      have e : i = y := by omega
      subst e
      have h1 : hh = 1 := by
        rcases Nat.lt_trichotomy hh 1 with z | z | z
        · have z0 : hh = 0 := by omega
          rw [z0] at f
          have : te_ch E i 0 = i := rfl
          have := f.1
          omega
        · exact z
        · have := f.2 1 z
          have : te_ch E i 1 = E i := rfl
          omega
      subst h1
      exact br_t ((tz_pm2 (by omega) (by omega)).mpr (Nat.le_refl _)) (h _ ty st nb (hst 0 (by omega)))
    | succ k ih =>
      intro i' hh ty st nb hi hiE f hst
      obtain ⟨i, rfl⟩ : ∃ i, i' = i + 1 := ⟨i' - 1, by omega⟩
      have hws := te_Ws_up hs (b' := i + 1) (by omega)
      have fl := te_F_le hws f
      have ge := te_ch_ge hws f
      obtain ⟨d1, d2, d3⟩ := D i (by omega) (by omega)
      have o3 := te_o3 (fun z => (d3 z).2)
      have wi := hs i (by omega) (by omega)
      have oh : te_o (K i) (W i) ≤ hh := by
        rcases Nat.lt_or_ge hh (te_o (K i) (W i)) with z | z
        · have := (wi.2 hh z).1
          have := f.1
          omega
        · exact z
      have ei : (nI i).toNatClampNeg = i := nI_clamp (by omega)
      have vi : vp_in (nI i) 360 := vp_in_nI (by omega) (by omega)
      have f' : te_F E (E y) i (hh - te_o (K i) (W i) + 1) := te_F_s f oh wi.1 (by omega)
      have top' : ∀ t, te_ch E i (t + 1) = te_ch E (i + 1) (te_o (K i) (W i) + t) := fun t => te_F_top (L := E y) (h := hh) wi.1
      rw [nI_pred]
      refine br_f (nI_nlt (by omega) (by omega)) ⟨vi, vi, ?_⟩
      rw [ei, d1]
      refine wy_operands (w := W i) d2 d3 (nm_r (pk_sub oh) (nm_e ⟨vi, ?_⟩))
      have c139 : ∀ x11 z0 : Int32, x11 = (if K i < 4 then a_sets (24 * i + q) else 0) → z0 = η i → wY_workOut_139 post (wY_workOut_23 post (nI q) pos last (nI y) f_count f_listed f_outputs (k + 1)) (nI q) pos last (nI y) (nI i) (nI (te_ty (K i))) x11 z0 f_count (nI (hh - te_o (K i) (W i))) f_listed f_outputs a_row a_depth a_name a_value a_moved a_kind a_with a_length a_sets a_fresh ty nb st a_list a_there a_match a_priority a_out a_on a_todo a_within a_output := by
        intro x11 z0 ex ez
        have vt : vp_in (nI (hh - te_o (K i) (W i))) 48 := vp_in_nI (by omega) (by omega)
        have et : (nI (hh - te_o (K i) (W i))).toNatClampNeg = hh - te_o (K i) (W i) := nI_clamp (by omega)
        unfold wY_workOut_139
        refine ⟨vt, nm_r (e' := upd ty (hh - te_o (K i) (W i)) (nI (te_ty (K i)))) (by rw [et]) ⟨vt, nm_r (e' := upd st (hh - te_o (K i) (W i)) x11) (by rw [et]) ⟨vt, nm_r (e' := upd nb (hh - te_o (K i) (W i)) z0) (by rw [et]) (nm_r (nI_1 _) (nm_r (tz_m1s _) (ih i _ _ _ _ (by omega) (by omega) f' (fun t ht => ?_))))⟩⟩⟩
        cases t with
        | zero =>
          rw [show hh - te_o (K i) (W i) + 1 - 1 - 0 = hh - te_o (K i) (W i) by omega]
          refine ⟨pk_us, ?_, ?_⟩
          · rw [pk_us]; exact ex
          · rw [pk_us]; exact ez
        | succ t =>
          obtain ⟨g1, g2, g3⟩ := hst (te_o (K i) (W i) + t) (by omega)
          rw [top' t]
          rw [show hh - te_o (K i) (W i) + 1 - 1 - (t + 1) = hh - 1 - (te_o (K i) (W i) + t) by omega]
          refine ⟨?_, ?_, ?_⟩
          · rw [pk_un (by omega)]; exact g1
          · rw [pk_un (by omega)]; exact g2
          · rw [pk_un (by omega)]; exact g3
      refine wy_typeOf d2 ?_
      have ev := eqv i (by omega) (by omega)
      have ie : (24 : Int32) * nI i + nI q = nI (24 * i + q) := by rw [show (24 : Int32) = nI 24 from rfl, pk_mul, nI_add]
      by_cases k4 : K i < 4
      · refine br_t (te_ty_e.mpr k4) ⟨by rw [ie]; exact vp_in_nI (by omega) (by omega), ?_⟩
        rw [ie, nI_clamp (by omega)]
        unfold wY_workOut_104
        refine br_t (te_ty_e.mpr k4) (c139 _ 0 (by rw [if_pos k4]) ?_)
        rw [ev]
        unfold tn_res
        rw [if_pos k4]
      · refine br_f (fun w => k4 (te_ty_e.mp w)) ?_
        unfold wY_workOut_104
        refine br_f (fun w => k4 (te_ty_e.mp w)) ⟨vi, vi, ?_⟩
        rw [ei, d1, hV i (by omega) (by omega)]
        have o7 : 7 ≤ K i → 0 < te_o (K i) (W i) := fun w => by
          rcases Nat.lt_or_ge (K i) 10 with z | z
          · rw [te_o1 w z]; omega
          · rcases Nat.lt_or_ge (K i) 17 with z' | z'
            · rw [te_o2 z z']; omega
            · rw [te_o17 z']; omega
        refine wy_result (a := hh - 1) (ka := K (i + 1)) (kb := K (E (i + 1))) (xa := a_sets (24 * (i + 1) + q)) (na := η (i + 1)) (xb := a_sets (24 * E (i + 1) + q)) (nb := η (E (i + 1))) T Y d2 (by omega) (fun w => ?_) (fun w => ⟨by omega, ?_⟩) (fun w1 w2 => ⟨?_, ?_⟩) (fun w1 w2 => (te_set1 hw (i := i) (by omega) (by omega) w1 w2).2) (c139 0 _ (by rw [if_neg k4]) ev.symm)
        · have := o7 w
          rw [nI_add, show hh - te_o (K i) (W i) + te_o (K i) (W i) = hh by omega]
          exact pk_sub (a := hh) (b := 1) (by omega)
        · have := o7 w
          have g := hst 0 (by omega)
          exact g
        · have := te_o2 (w := W i) w1 w2
          omega
        · have o2 := te_o2 (w := W i) w1 w2
          have g := hst 1 (by omega)
          exact g
  unfold wpY_workOut
  refine nm_r (e' := nI y) (by rw [show (40 : Int32) = nI 40 from rfl, pk_mul, nI_add, ey]) (wy_endOf S' hb hy (nm_e ⟨E y - y + 1, ?_⟩))
  have := key (E y - y) (E y) 0 a_type a_set a_number (by omega) (Nat.le_refl _) (te_F_0 _ _) (fun t ht => by omega)
  exact this
/-! the axes, by the reference -/
theorem wy_isOn {post : Int32 → Prop} {ax i l : Nat} (T : td_T c r d) (Y : re_YT c r d f_count a_row a_depth) (hi : i < c) (hl : l < c) (hax : ax < 11) (h1 : td_on d ax i l → post 1) (h0 : ¬ td_on d ax i l → post 0) :
    wpY_isOn post (f_count, f_top, f_listed, f_outputs, a_row, a_depth, a_name, a_value, a_moved, a_kind, a_with, a_length, a_sets, a_fresh, a_type, a_number, a_set, a_list, a_there, a_match, a_priority, a_out, a_on, a_todo, a_within, a_output) (nI ax) (nI (r i)) (nI (r l)) := by
  have c24 := T.1
  have ri := T.2.2.2.1 i hi
  have rl := T.2.2.2.1 l hl
  have erl : nI (r l) = nI (r i) ↔ l = i := by
    rw [nI_eq (by omega) (by omega)]
    exact ⟨fun e => T.2.2.2.2 l i hl hi e, fun e => by rw [e]⟩
  obtain ⟨e, he⟩ := td_endEx (c := c) (d := d) hi
  obtain ⟨f, hf⟩ := td_endEx (c := c) (d := d) hl
  have A1 := td_AnEn he hl
  have A2 := td_AnEn hf hi
  have he2 := he.2.1
  have hf2 := hf.2.1
  -- the last stage: x6 below, x7 above, x8 the parent, z0 sibling
  have s91 : ∀ x6 x7 x8 z0 : Int32, (x6 = 1 ∧ td_An d i l ∨ x6 = 0 ∧ ¬ td_An d i l) → (x7 = 1 ∧ td_An d l i ∨ x7 = 0 ∧ ¬ td_An d l i) → (nI (r l) = x8 ↔ td_Pa d l i) →
      (z0 = 1 ∧ (∃ p, td_Pa d p i ∧ td_Pa d p l) ∨ z0 = 0 ∧ ¬ (∃ p, td_Pa d p i ∧ td_Pa d p l)) → wY_isOn_91 post (nI ax) (nI (r i)) (nI (r l)) (nI i) (nI l) x6 x7 x8 z0 f_count f_top f_listed f_outputs a_row a_depth a_name a_value a_moved a_kind a_with a_length a_sets a_fresh a_type a_number a_set a_list a_there a_match a_priority a_out a_on a_todo a_within a_output := by
    intro x6 x7 x8 z0 H6 H7 H8 HZ
    have di : a_depth (nI (r i)).toNatClampNeg = nI (d i) := by rw [nI_clamp (by omega)]; exact Y.2.2 i hi
    have dl : a_depth (nI (r l)).toNatClampNeg = nI (d l) := by rw [nI_clamp (by omega)]; exact Y.2.2 l hl
    have dib := td_dc T.2.1 hi
    have dlb := td_dc T.2.1 hl
    have vi : vp_in (nI (r i)) 24 := vp_in_nI ri (by omega)
    have vl : vp_in (nI (r l)) 24 := vp_in_nI rl (by omega)
    have ne : ∀ {j : Nat}, j < 18 → ax ≠ j → ¬ nI ax = nI j := fun hj z w => z ((nI_eq (by omega) (by omega)).mp w)
    unfold wY_isOn_91
    refine br_f (nI_pos (by omega)) ?_
    by_cases z10 : ax = 10
    · subst z10
      rw [td_on10] at h1 h0
      refine br_t (by decide) ?_
      rcases H7 with ⟨rfl, w⟩ | ⟨rfl, w⟩
      · exact br_f (by decide) (h1 (Or.inl w))
      · refine br_t rfl ?_
        by_cases y : l = i
        · exact br_t (erl.mpr y) (h1 (Or.inr y))
        · exact br_f (fun v => y (erl.mp v)) (h0 (fun v => v.elim w y))
    refine br_f (nI_nlt (a := 9) (b := ax) (by omega) (by omega)) ?_
    by_cases z0' : ax = 0
    · subst z0'
      have on : td_on d 0 i l ↔ l = i := by unfold td_on; simp
      rw [on] at h1 h0
      refine br_t (by decide) ?_
      by_cases y : l = i
      · exact br_t (erl.mpr y) (h1 y)
      · exact br_f (fun v => y (erl.mp v)) (h0 y)
    refine br_f (ne (j := 0) (by omega) z0') ?_
    by_cases z1 : ax = 1
    · subst z1
      rw [td_on1] at h1 h0
      refine br_t (by decide) ?_
      rcases H6 with ⟨rfl, w⟩ | ⟨rfl, w⟩
      · refine br_f (by decide) ⟨vl, vi, ?_⟩
        rw [di, dl, nI_1]
        by_cases y : d l = d i + 1
        · exact br_t (by rw [y]) (h1 (td_AP w y))
        · exact br_f (fun v => y ((nI_eq (by omega) (by omega)).mp v)) (h0 (fun v => y (td_dp T.2.1 hl v)))
      · exact br_t rfl (h0 (fun v => w (td_PA v)))
    refine br_f (ne (j := 1) (by omega) z1) ?_
    by_cases z2 : ax = 2
    · subst z2
      have on : td_on d 2 i l ↔ td_Pa d l i := by unfold td_on; simp
      rw [on] at h1 h0
      refine br_t (by decide) ?_
      by_cases y : nI (r l) = x8
      · exact br_t y (h1 (H8.mp y))
      · exact br_f y (h0 (fun v => y (H8.mpr v)))
    refine br_f (ne (j := 2) (by omega) z2) ?_
    by_cases z3 : ax = 3
    · subst z3
      have on : td_on d 3 i l ↔ td_An d i l := by unfold td_on; simp
      rw [on] at h1 h0
      refine br_t (by decide) ?_
      rcases H6 with ⟨rfl, w⟩ | ⟨rfl, w⟩
      · exact ⟨rfl, h1 w⟩
      · exact ⟨rfl, h0 w⟩
    refine br_f (ne (j := 3) (by omega) z3) ?_
    by_cases z4 : ax = 4
    · subst z4
      have on : td_on d 4 i l ↔ td_An d l i := by unfold td_on; simp
      rw [on] at h1 h0
      refine br_t (by decide) ?_
      rcases H7 with ⟨rfl, w⟩ | ⟨rfl, w⟩
      · exact ⟨rfl, h1 w⟩
      · exact ⟨rfl, h0 w⟩
    refine br_f (ne (j := 4) (by omega) z4) ?_
    by_cases z5 : ax = 5
    · subst z5
      have on : td_on d 5 i l ↔ ((∃ p, td_Pa d p i ∧ td_Pa d p l) ∧ i < l) := by unfold td_on; simp
      rw [on] at h1 h0
      refine br_t (by decide) ?_
      rcases HZ with ⟨rfl, w⟩ | ⟨rfl, w⟩
      · refine br_f (by decide) ?_
        by_cases y : i < l
        · exact br_f (nI_ge y (by omega)) (h1 ⟨w, y⟩)
        · exact br_t (nI_le (by omega) (by omega)) (h0 (fun v => y v.2))
      · exact br_t rfl (h0 (fun v => w v.1))
    refine br_f (ne (j := 5) (by omega) z5) ?_
    by_cases z6 : ax = 6
    · subst z6
      have on : td_on d 6 i l ↔ ((∃ p, td_Pa d p i ∧ td_Pa d p l) ∧ l < i) := by unfold td_on; simp
      rw [on] at h1 h0
      refine br_t (by decide) ?_
      rcases HZ with ⟨rfl, w⟩ | ⟨rfl, w⟩
      · refine br_f (by decide) ?_
        by_cases y : l < i
        · exact br_f (nI_ge y (by omega)) (h1 ⟨w, y⟩)
        · exact br_t (nI_le (by omega) (by omega)) (h0 (fun v => y v.2))
      · exact br_t rfl (h0 (fun v => w v.1))
    refine br_f (ne (j := 6) (by omega) z6) ?_
    by_cases z7 : ax = 7
    · subst z7
      have on : td_on d 7 i l ↔ (i < l ∧ ¬ td_An d i l) := by unfold td_on; simp
      rw [on] at h1 h0
      refine br_t (by decide) ?_
      by_cases y : i < l
      · refine br_f (nI_ge y (by omega)) ?_
        rcases H6 with ⟨rfl, w⟩ | ⟨rfl, w⟩
        · exact br_f (by decide) (h0 (fun v => v.2 w))
        · exact br_t rfl (h1 ⟨y, w⟩)
      · exact br_t (nI_le (by omega) (by omega)) (h0 (fun v => y v.1))
    refine br_f (ne (j := 7) (by omega) z7) ?_
    by_cases z8 : ax = 8
    · subst z8
      have on : td_on d 8 i l ↔ (l < i ∧ ¬ td_An d l i) := by unfold td_on; simp
      rw [on] at h1 h0
      refine br_t (by decide) ?_
      by_cases y : l < i
      · refine br_f (nI_ge y (by omega)) ?_
        rcases H7 with ⟨rfl, w⟩ | ⟨rfl, w⟩
        · exact br_f (by decide) (h0 (fun v => v.2 w))
        · exact br_t rfl (h1 ⟨y, w⟩)
      · exact br_t (nI_le (by omega) (by omega)) (h0 (fun v => y v.1))
    refine br_f (ne (j := 8) (by omega) z8) ?_
    have z9 : ax = 9 := by omega
    subst z9
    rw [td_on9] at h1 h0
    refine br_t (by decide) ?_
    rcases H6 with ⟨rfl, w⟩ | ⟨rfl, w⟩
    · exact br_f (by decide) (h1 (Or.inl w))
    · refine br_t rfl ?_
      by_cases y : l = i
      · exact br_t (erl.mpr y) (h1 (Or.inr y))
      · exact br_f (fun v => y (erl.mp v)) (h0 (fun v => v.elim w y))
  have s62 : ∀ x6 x7 : Int32, (x6 = 1 ∧ td_An d i l ∨ x6 = 0 ∧ ¬ td_An d i l) → (x7 = 1 ∧ td_An d l i ∨ x7 = 0 ∧ ¬ td_An d l i) → wY_isOn_62 post (nI ax) (nI (r i)) (nI (r l)) (nI i) (nI l) x6 x7 f_count f_top f_listed f_outputs a_row a_depth a_name a_value a_moved a_kind a_with a_length a_sets a_fresh a_type a_number a_set a_list a_there a_match a_priority a_out a_on a_todo a_within a_output := by
    intro x6 x7 H6 H7
    unfold wY_isOn_62
    refine wy_parentOf T Y hi (fun p hp => ?_) (fun i0 => ?_)
    · have hpi := hp.1
      have rp := T.2.2.2.1 p (by omega)
      have H8 : nI (r l) = nI (r p) ↔ td_Pa d l i := by
        rw [nI_eq (by omega) (by omega)]
        exact ⟨fun e => by rw [T.2.2.2.2 l p hl (by omega) e]; exact hp, fun e => by rw [td_uq e hp]⟩
      refine br_f (nI_pos (by omega)) (wy_parentOf T Y hl (fun p2 hp2 => ?_) (fun l0 => ?_))
      · have hpl := hp2.1
        have rp2 := T.2.2.2.1 p2 (by omega)
        by_cases y : p = p2
        · exact br_t (by rw [y]) (s91 _ _ _ 1 H6 H7 H8 (Or.inl ⟨rfl, p, hp, by rw [y]; exact hp2⟩))
        · refine br_f (fun w => y ?_) (s91 _ _ _ 0 H6 H7 H8 (Or.inr ⟨rfl, fun ⟨p3, g1, g2⟩ => y (by rw [td_uq hp g1, td_uq hp2 g2])⟩))
          rw [nI_eq (by omega) (by omega)] at w
          exact T.2.2.2.2 p p2 (by omega) (by omega) w
      · exact br_f (tx_m1' (by omega)) (s91 _ _ _ 0 H6 H7 H8 (Or.inr ⟨rfl, fun ⟨p3, g1, g2⟩ => by rw [l0] at g2; exact td_p0 g2⟩))
    · refine br_t tz_m1lt (s91 _ _ _ 0 H6 H7 ⟨fun w => absurd w (tx_m1' (by omega)), fun w => ?_⟩ (Or.inr ⟨rfl, fun ⟨p3, g1, g2⟩ => ?_⟩))
      · rw [i0] at w; exact absurd w td_p0
      · rw [i0] at g1; exact td_p0 g1
  have s37 : ∀ x6 : Int32, (x6 = 1 ∧ td_An d i l ∨ x6 = 0 ∧ ¬ td_An d i l) → wY_isOn_37 post (nI ax) (nI (r i)) (nI (r l)) (nI i) (nI l) x6 f_count f_top f_listed f_outputs a_row a_depth a_name a_value a_moved a_kind a_with a_length a_sets a_fresh a_type a_number a_set a_list a_there a_match a_priority a_out a_on a_todo a_within a_output := by
    intro x6 H6
    unfold wY_isOn_37
    by_cases y : i ≤ l
    · exact br_t (nI_le y (by omega)) (s62 x6 0 H6 (Or.inr ⟨rfl, fun w => by have := w.1; omega⟩))
    · refine br_f (nI_ge (by omega) (by omega)) (wy_behind T Y hl hf ?_)
      by_cases w : f ≤ i
      · exact br_t (nI_le w (by omega)) (s62 x6 0 H6 (Or.inr ⟨rfl, fun v => by rw [A2] at v; omega⟩))
      · exact br_f (nI_ge (by omega) (by omega)) (s62 x6 1 H6 (Or.inl ⟨rfl, A2.mpr ⟨by omega, by omega⟩⟩))
  unfold wpY_isOn
  refine wy_where1 T Y hi (wy_where1 T Y hl ?_)
  by_cases y : l ≤ i
  · exact br_t (nI_le y (by omega)) (s37 0 (Or.inr ⟨rfl, fun w => by have := w.1; omega⟩))
  · refine br_f (nI_ge (by omega) (by omega)) (wy_behind T Y hi he ?_)
    by_cases w : e ≤ l
    · exact br_t (nI_le w (by omega)) (s37 0 (Or.inr ⟨rfl, fun v => by rw [A1] at v; omega⟩))
    · exact br_f (nI_ge (by omega) (by omega)) (s37 1 (Or.inl ⟨rfl, A1.mpr ⟨by omega, by omega⟩⟩))
end
