/-! sifting a list and stepping, by the reference -/
section
variable {f_count f_top f_listed f_outputs : Int32} {a_row a_depth a_name a_value a_moved a_kind a_with a_length a_sets a_fresh a_type a_number a_set a_list a_there a_match a_priority a_out a_on a_todo a_within a_output : Nat → Int32} {c : Nat} {r d : Nat → Nat} {K W E : Nat → Nat} {V : Nat → Int32} {b L : Nat}
theorem wy_sift {post : SY → Prop} {S0 : Nat → Bool} {ax s tt y : Nat} (S : te_Sy K W E V a_kind a_with b L) (T : td_T c r d) (Y : re_YT c r d f_count a_row a_depth) (ey : 40 * s + tt = y) (hb : b ≤ y) (hy : y < L)
    (hl : f_listed = nI (tc_n S0 c)) (hls : tk_Ls (fun i => r (tk_pi c ax i)) S0 a_list 0 c)
    (h : ∀ top ty nb st la, tk_Ls (fun i => r (tk_pi c ax i)) (fun i => S0 i && tk_H c r a_value K E V (fun t n => a_sets (24 * t + n)) y (tk_pi c ax i) (tc_n S0 i + 1) (tc_n S0 c)) la 0 c →
      post (f_count, top, nI (tc_n (fun i => S0 i && tk_H c r a_value K E V (fun t n => a_sets (24 * t + n)) y (tk_pi c ax i) (tc_n S0 i + 1) (tc_n S0 c)) c), f_outputs, a_row, a_depth, a_name, a_value, a_moved, a_kind, a_with, a_length, a_sets, a_fresh, ty, nb, st, la, a_there, a_match, a_priority, a_out, a_on, a_todo, a_within, a_output)) :
    wpY_sift post (f_count, f_top, f_listed, f_outputs, a_row, a_depth, a_name, a_value, a_moved, a_kind, a_with, a_length, a_sets, a_fresh, a_type, a_number, a_set, a_list, a_there, a_match, a_priority, a_out, a_on, a_todo, a_within, a_output) (nI s) (nI tt) := by
  have c24 := T.1
  subst hl
  have hw := S.2.2.2.2
  have L320 := S.1
  have cb : tc_n S0 c ≤ c := tc_le _ _
  obtain ⟨S1, hS1⟩ : ∃ S1 : Nat → Bool, S1 = (fun i => S0 i && tk_H c r a_value K E V (fun t n => a_sets (24 * t + n)) y (tk_pi c ax i) (tc_n S0 i + 1) (tc_n S0 c)) := ⟨_, rfl⟩
  rw [← hS1] at h
  have sub : ∀ j, j < c → S1 j = true → S0 j = true := fun j _ w => by
    rw [hS1] at w
    exact (Bool.and_eq_true _ _ ▸ w : S0 j = true ∧ _).1
  have key : ∀ k i top ty nb st la, i + k = c → tk_Ls (fun i => r (tk_pi c ax i)) S1 la 0 i → tk_Ls (fun i => r (tk_pi c ax i)) S0 la i c →
      wY_sift_13 post (nI s) (nI tt) (nI (tc_n S0 c)) (tc_n S0 c - tc_n S0 i + 1) (nI (tc_n S0 i)) f_count top (nI (tc_n S1 i)) f_outputs a_row a_depth a_name a_value a_moved a_kind a_with a_length a_sets a_fresh ty nb st la a_there a_match a_priority a_out a_on a_todo a_within a_output := by
    intro k
    induction k with
    | zero =>
      intro i top ty nb st la hi g1 g2
      have e : i = c := by omega
      subst e
      rw [Nat.sub_self]
      exact br_t (nI_le (Nat.le_refl _) (by omega)) (h top ty nb st la g1)
    | succ k ih =>
      intro i top ty nb st la hi g1 g2
      cases s0 : S0 i with
      | false =>
        have s1 : S1 i = false := by rw [hS1]; show (S0 i && _) = false; rw [s0]; rfl
        have nx := ih (i + 1) top ty nb st la (by omega) (tk_Ls_f g1 s1) (tk_Ls_n g2)
        rw [tc_ff s0, tc_ff s1] at nx
        exact nx
      | true =>
        have lt := tc_slt s0 (show i < c by omega)
        have m1 : tc_n S1 i ≤ tc_n S0 i := tc_sub (fun j hj => sub j (by omega))
        have ri := tk_o_lt (ax := ax) T i (by omega)
        have e5 : la (nI (tc_n S0 i)).toNatClampNeg = nI (r (tk_pi c ax i)) := by rw [nI_clamp (by omega)]; exact g2 i (Nat.le_refl _) (by omega) s0
        rw [show tc_n S0 c - tc_n S0 i + 1 = tc_n S0 c - (tc_n S0 i + 1) + 1 + 1 by omega]
        have c113 : ∀ (g : Int32) top ty nb st, (g = 1 ∧ S1 i = true ∨ g = 0 ∧ S1 i = false) → wY_sift_113 post (wY_sift_13 post (nI s) (nI tt) (nI (tc_n S0 c)) (tc_n S0 c - (tc_n S0 i + 1) + 1)) (nI s) (nI tt) (nI (tc_n S0 c)) (nI (tc_n S0 i)) (nI (r (tk_pi c ax i))) g f_count top (nI (tc_n S1 i)) f_outputs a_row a_depth a_name a_value a_moved a_kind a_with a_length a_sets a_fresh ty nb st la a_there a_match a_priority a_out a_on a_todo a_within a_output := by
          intro g top ty nb st hg
          unfold wY_sift_113
          rcases hg with ⟨rfl, w⟩ | ⟨rfl, w⟩
          · refine br_f (by decide) (nm_r (nI_1 _) ⟨vp_in_nI (by omega) (by omega), nm_r (e' := upd la (tc_n S1 i) (nI (r (tk_pi c ax i)))) (by rw [nI_clamp (by omega)]) (nm_r (nI_1 _) ?_)⟩)
            have nx := ih (i + 1) top ty nb st _ (by omega) (tk_Ls_t g1) (tk_Ls_k (T := S1) g2 s0 sub (by omega))
            rw [tc_t s0, tc_t w] at nx
            exact nx
          · refine br_t rfl (nm_r (nI_1 _) ?_)
            have nx := ih (i + 1) top ty nb st la (by omega) (tk_Ls_f g1 w) (tk_Ls_n g2)
            rw [tc_t s0, tc_ff w] at nx
            exact nx
        refine br_f (nI_ge lt (by omega)) ⟨vp_in_nI (by omega) (by omega), nm_r (e' := nI (r (tk_pi c ax i))) e5 ?_⟩
        rw [nI_1]
        refine wy_work S T Y ey hb hy ri (fun top' ty' st' nb' En => ?_)
        have ev := tn_nv_eq (c := c) (r := r) (val := a_value) (V := V) (σ := fun j => a_sets (24 * j + r (tk_pi c ax i))) (pos := nI (tc_n S0 i + 1)) (last := nI (tc_n S0 c)) hw (by omega) y hb hy
        have iff : S1 i = true ↔ tn_hold (K y) (a_sets (24 * y + r (tk_pi c ax i))) (tn_nv c r a_value K E V (fun j => a_sets (24 * j + r (tk_pi c ax i))) (nI (tc_n S0 i + 1)) (nI (tc_n S0 c)) y) (nI (tc_n S0 i + 1)) := by
          rw [hS1]
          show (S0 i && tk_H c r a_value K E V (fun t n => a_sets (24 * t + n)) y (tk_pi c ax i) (tc_n S0 i + 1) (tc_n S0 c)) = true ↔ _
          rw [s0, Bool.true_and]
          unfold tk_H
          rw [tk_d_t]
        generalize hη : tn_nv c r a_value K E V (fun j => a_sets (24 * j + r (tk_pi c ax i))) (nI (tc_n S0 i + 1)) (nI (tc_n S0 c)) = η at En ev iff
        obtain ⟨n1, n2, n3⟩ := En
        unfold tn_hold at iff
        dsimp only
        rw [n1, n2, n3]
        by_cases k4 : K y < 4
        · rw [if_pos k4] at iff
          rw [if_pos k4]
          refine br_t (te_ty_e.mpr k4) ?_
          by_cases w : a_sets (24 * y + r (tk_pi c ax i)) = 0
          · exact br_t w (c113 0 _ _ _ _ (Or.inr ⟨rfl, tz_nb (fun v => iff.mp v w)⟩))
          · exact br_f w (c113 1 _ _ _ _ (Or.inl ⟨rfl, iff.mpr w⟩))
        · rw [if_neg k4] at iff
          refine br_f (fun w => k4 (te_ty_e.mp w)) ?_
          by_cases k13 : K y < 13
          · rw [if_pos k13] at iff
            refine br_t (by rw [show te_ty (K y) = 1 by unfold te_ty; rw [if_neg k4, if_pos k13]]; rfl) ?_
            by_cases w : η y = nI (tc_n S0 i + 1)
            · exact br_t w (c113 1 _ _ _ _ (Or.inl ⟨rfl, iff.mpr w⟩))
            · exact br_f w (c113 0 _ _ _ _ (Or.inr ⟨rfl, tz_nb (fun v => w (iff.mp v))⟩))
          · rw [if_neg k13] at iff
            refine br_f (by rw [show te_ty (K y) = 2 by unfold te_ty; rw [if_neg k4, if_neg k13]]; decide) ?_
            have o1 := tn_01 (c := c) (r := r) (val := a_value) (pos := nI (tc_n S0 i + 1)) (last := nI (tc_n S0 c)) (k := K y) (v := V y) (ka := K (y + 1)) (xa := a_sets (24 * (y + 1) + r (tk_pi c ax i))) (na := η (y + 1)) (kb := K (E (y + 1))) (xb := a_sets (24 * E (y + 1) + r (tk_pi c ax i))) (nb := η (E (y + 1))) (by omega)
            rw [← ev] at o1
            rcases o1 with w | w
            · exact br_f (by rw [w]; decide) (c113 0 _ _ _ _ (Or.inr ⟨rfl, tz_nb (fun v => iff.mp v w)⟩))
            · exact br_t w (c113 1 _ _ _ _ (Or.inl ⟨rfl, iff.mpr (by rw [w]; decide)⟩))
  unfold wpY_sift
  have k0 := key c 0 f_top a_type a_number a_set a_list (by omega) (fun j a b' => by omega) hls
  exact ⟨_, k0⟩
theorem wy_all {post : Int32 → SY → Prop} {o : Nat → Nat} {S0 : Nat → Bool} (hc : c ≤ 24) (ho : ∀ i, i < c → o i < 24) (hl : f_listed = nI (tc_n S0 c)) (hls : tk_Ls o S0 a_list 0 c) (h : ∀ x, tk_Mi o S0 c x → post x (f_count, f_top, f_listed, f_outputs, a_row, a_depth, a_name, a_value, a_moved, a_kind, a_with, a_length, a_sets, a_fresh, a_type, a_number, a_set, a_list, a_there, a_match, a_priority, a_out, a_on, a_todo, a_within, a_output)) :
    ∃ n, wY_step_209 post f_count f_top f_listed f_outputs a_row a_depth a_name a_value a_moved a_kind a_with a_length a_sets a_fresh a_type a_number a_set a_list a_there a_match a_priority a_out a_on a_todo a_within a_output n 0 0 := by
  subst hl
  have cb : tc_n S0 c ≤ c := tc_le _ _
  have key : ∀ k i x, i + k = c → tk_Mi o S0 i x → wY_step_209 post f_count f_top (nI (tc_n S0 c)) f_outputs a_row a_depth a_name a_value a_moved a_kind a_with a_length a_sets a_fresh a_type a_number a_set a_list a_there a_match a_priority a_out a_on a_todo a_within a_output (tc_n S0 c - tc_n S0 i + 1) x (nI (tc_n S0 i)) := by
    intro k
    induction k with
    | zero =>
      intro i x hi hx
      have e : i = c := by omega
      subst e
      rw [Nat.sub_self]
      exact br_t (nI_le (Nat.le_refl _) (by omega)) (h x hx)
    | succ k ih =>
      intro i x hi hx
      cases s0 : S0 i with
      | false =>
        have nx := ih (i + 1) x (by omega) (tk_Mi_f hx s0)
        rw [tc_ff s0] at nx
        exact nx
      | true =>
        have lt := tc_slt s0 (show i < c by omega)
        rw [show tc_n S0 c - tc_n S0 i + 1 = tc_n S0 c - (tc_n S0 i + 1) + 1 + 1 by omega]
        have nx := ih (i + 1) _ (by omega) (tk_Mi_t hx (ho i (by omega)) s0)
        rw [tc_t s0] at nx
        refine br_f (nI_ge lt (by omega)) ⟨vp_in_nI (by omega) (by omega), nm_r ?_ (nm_r (nI_1 _) nx)⟩
        rw [nI_clamp (by omega), hls i (by omega) (by omega) s0]
  exact ⟨_, key c 0 0 (by omega) tk_Mi_0⟩
theorem wy_step {post : Int32 → SY → Prop} {s tt t m : Nat} (S : te_Sy K W E V a_kind a_with b L) (T : td_T c r d) (Y : re_YT c r d f_count a_row a_depth) (et : 40 * s + tt = t) (hs40 : 40 * s = b) (hb : b ≤ t) (ht : t < L) (hm : m < c) (h2 : K t = 2) (hax : W t % 16 ≤ 10)
    (h : ∀ x top li ty nb st la, tk_Mi (fun i => r (tk_pi c (W t % 16) i)) (tk_S c r d a_name a_value K W E V (fun t n => a_sets (24 * t + n)) t m (W t / 128)) c x →
      post x (f_count, top, li, f_outputs, a_row, a_depth, a_name, a_value, a_moved, a_kind, a_with, a_length, a_sets, a_fresh, ty, nb, st, la, a_there, a_match, a_priority, a_out, a_on, a_todo, a_within, a_output)) : wpY_step post (f_count, f_top, f_listed, f_outputs, a_row, a_depth, a_name, a_value, a_moved, a_kind, a_with, a_length, a_sets, a_fresh, a_type, a_number, a_set, a_list, a_there, a_match, a_priority, a_out, a_on, a_todo, a_within, a_output) (nI s) (nI tt) (nI (r m)) := by
  have c24 := T.1
  have S' := S
  obtain ⟨l1, l2, D, hV, hw⟩ := S
  obtain ⟨d1, d2, d3⟩ := D t hb ht
  obtain ⟨d4, d5⟩ := d3 h2
  have ot := te_o_st (w := W t) h2
  have o0 := te_op hw hb ht (t := 0) (by omega)
  have t1 : t + 1 < L := o0.2.1
  have e40 : (40 : Int32) * nI s + nI tt = nI t := by rw [show (40 : Int32) = nI 40 from rfl, pk_mul, nI_add, et]
  have rm := T.2.2.2.1 m hm
  have a1 : nI (W t) &&& 15 = nI (W t % 16) := pk_andN (by omega) 4 (by decide)
  have a2 : (nI (W t) >>> ((4 : Int32) &&& 31)) &&& 7 = nI (W t / 16 % 8) := by
    rw [pk_shrN (by omega) _ 4 (by decide)]
    exact pk_andN (by omega) 3 (by decide)
  have a3 : nI (W t) >>> ((7 : Int32) &&& 31) = nI (W t / 128) := pk_shrN (by omega) _ 7 (by decide)
  have chE : ∀ j, j < 1 + W t / 128 → te_ch E (t + 1) j < L ∧ t < te_ch E (t + 1) j := fun j hj => by
    have o := te_op hw hb ht (t := j) (by omega)
    exact ⟨o.2.1, o.1⟩
  -- the tests
  have tests : ∀ u j top li ty nb st la, j + u = W t / 128 → li = nI (tc_n (tk_S c r d a_name a_value K W E V (fun t n => a_sets (24 * t + n)) t m j) c) → tk_Ls (fun i => r (tk_pi c (W t % 16) i)) (tk_S c r d a_name a_value K W E V (fun t n => a_sets (24 * t + n)) t m j) la 0 c →
      wY_step_167 post (nI s) (nI (W t)) (u + 1) (nI (te_ch E (t + 1) (j + 1))) (nI j) f_count top li f_outputs a_row a_depth a_name a_value a_moved a_kind a_with a_length a_sets a_fresh ty nb st la a_there a_match a_priority a_out a_on a_todo a_within a_output := by
    intro u
    induction u with
    | zero =>
      intro j top li ty nb st la hj hli hla
      have e : j = W t / 128 := by omega
      rw [e] at hli hla
      refine br_t (by rw [a3]; exact nI_le (by omega) (by omega)) (wy_all c24 (tk_o_lt T) hli hla (fun x hx => h x top li ty nb st la hx))
    | succ u iu =>
      intro j top li ty nb st la hj hli hla
      obtain ⟨y1, y2⟩ := chE (j + 1) (by omega)
      have esub : nI (te_ch E (t + 1) (j + 1)) - (40 : Int32) * nI s = nI (te_ch E (t + 1) (j + 1) - b) := by
        rw [show (40 : Int32) = nI 40 from rfl, pk_mul, hs40, pk_sub (by omega)]
      refine br_f (by rw [a3]; exact nI_ge (by omega) (by omega)) ?_
      rw [esub]
      refine wy_sift (y := te_ch E (t + 1) (j + 1)) (S0 := tk_S c r d a_name a_value K W E V (fun t n => a_sets (24 * t + n)) t m j) (ax := W t % 16) S' T Y (by omega) (by omega) y1 hli hla (fun top' ty' nb' st' la' hla' => wy_endOf S' (by omega) y1 (nm_r (nI_1 j) (iu (j + 1) top' _ ty' nb' st' la' (by omega) rfl hla')))
  -- the list
  have ne : ∀ {j k : Nat}, j < 18 → k < 18 → k ≠ j → ¬ nI k = nI j := fun hj hk z w => z ((nI_eq (by omega) (by omega)).mp w)
  have lst : ∀ z0 : Int32, (z0 = 0 ∧ ¬ (0 < W t % 16 ∧ W t % 16 % 2 = 0) ∨ z0 = 1 ∧ (0 < W t % 16 ∧ W t % 16 % 2 = 0)) → ∀ k i la, i + k = c → tk_Ls (fun i => r (tk_pi c (W t % 16) i)) (tk_S c r d a_name a_value K W E V (fun t n => a_sets (24 * t + n)) t m 0) la 0 i →
      wY_step_56 post (nI s) (nI tt) (nI (r m)) (nI (W t)) (nI (W t % 16)) z0 (nI (W t / 16 % 8)) f_count f_top f_outputs (k + 1) (nI i) (nI (tc_n (tk_S c r d a_name a_value K W E V (fun t n => a_sets (24 * t + n)) t m 0) i)) a_row a_depth a_name a_value a_moved a_kind a_with a_length a_sets a_fresh a_type a_number a_set la a_there a_match a_priority a_out a_on a_todo a_within a_output := by
    intro z0 hz k
    induction k with
    | zero =>
      intro i la hi hla
      have e : i = c := by omega
      subst e
      refine br_t (by rw [Y.1]; exact nI_le (Nat.le_refl _) (by omega)) ?_
      rw [e40, nI_1]
      exact wy_endOf S' (by omega) t1 ⟨W t / 128 + 1, tests (W t / 128) 0 f_top _ a_type a_number a_set la (by omega) rfl hla⟩
    | succ k ih =>
      intro i la hi hla
      have pl := tk_pi_lt (ax := W t % 16) (show i < c by omega)
      have ri := tk_o_lt (ax := W t % 16) T i (by omega)
      have ib : tc_n (tk_S c r d a_name a_value K W E V (fun t n => a_sets (24 * t + n)) t m 0) i ≤ i := tc_le _ _
      have nxf : ¬ (td_on d (W t % 16) m (tk_pi c (W t % 16) i) ∧ (W t / 16 % 8 = 6 ∨ a_name (r (tk_pi c (W t % 16) i)) = nI (W t / 16 % 8))) → wY_step_56 post (nI s) (nI tt) (nI (r m)) (nI (W t)) (nI (W t % 16)) z0 (nI (W t / 16 % 8)) f_count f_top f_outputs (k + 1) (nI (i + 1)) (nI (tc_n (tk_S c r d a_name a_value K W E V (fun t n => a_sets (24 * t + n)) t m 0) i)) a_row a_depth a_name a_value a_moved a_kind a_with a_length a_sets a_fresh a_type a_number a_set la a_there a_match a_priority a_out a_on a_todo a_within a_output := fun w => by
        have s1 : tk_S c r d a_name a_value K W E V (fun t n => a_sets (24 * t + n)) t m 0 i = false := tk_d_f.mpr w
        have nx := ih (i + 1) la (by omega) (tk_Ls_f hla s1)
        rw [tc_ff s1] at nx
        exact nx
      have yes : (td_on d (W t % 16) m (tk_pi c (W t % 16) i) ∧ (W t / 16 % 8 = 6 ∨ a_name (r (tk_pi c (W t % 16) i)) = nI (W t / 16 % 8))) → wY_step_126 post (wY_step_56 post (nI s) (nI tt) (nI (r m)) (nI (W t)) (nI (W t % 16)) z0 (nI (W t / 16 % 8)) f_count f_top f_outputs (k + 1)) (nI s) (nI tt) (nI (r m)) (nI (W t)) (nI (W t % 16)) z0 (nI (W t / 16 % 8)) (nI i) (nI (r (tk_pi c (W t % 16) i))) f_count f_top (nI (tc_n (tk_S c r d a_name a_value K W E V (fun t n => a_sets (24 * t + n)) t m 0) i)) f_outputs a_row a_depth a_name a_value a_moved a_kind a_with a_length a_sets a_fresh a_type a_number a_set la a_there a_match a_priority a_out a_on a_todo a_within a_output := fun w => by
        have s1 : tk_S c r d a_name a_value K W E V (fun t n => a_sets (24 * t + n)) t m 0 i = true := tk_d_t.mpr w
        have nx := ih (i + 1) _ (by omega) (tk_Ls_t hla)
        rw [tc_t s1] at nx
        unfold wY_step_126
        exact nm_r (nI_1 _) ⟨vp_in_nI (by omega) (by omega), nm_r (by rw [nI_clamp (by omega)]) (nm_r (nI_1 i) nx)⟩
      have s88 : ∀ ix : Int32, ix = nI (tk_pi c (W t % 16) i) → wY_step_88 post (wY_step_56 post (nI s) (nI tt) (nI (r m)) (nI (W t)) (nI (W t % 16)) z0 (nI (W t / 16 % 8)) f_count f_top f_outputs (k + 1)) (nI s) (nI tt) (nI (r m)) (nI (W t)) (nI (W t % 16)) z0 (nI (W t / 16 % 8)) (nI i) ix f_count f_top (nI (tc_n (tk_S c r d a_name a_value K W E V (fun t n => a_sets (24 * t + n)) t m 0) i)) f_outputs a_row a_depth a_name a_value a_moved a_kind a_with a_length a_sets a_fresh a_type a_number a_set la a_there a_match a_priority a_out a_on a_todo a_within a_output := by
        intro ix eix
        subst eix
        unfold wY_step_88
        refine ⟨vp_in_nI (by omega) (by omega), nm_r (e' := nI (r (tk_pi c (W t % 16) i))) (by rw [nI_clamp (by omega)]; exact Y.2.1 _ pl) (wy_isOn T Y hm pl (by omega) (fun on => br_f (by decide) ?_) (fun on => br_t rfl (nm_r (nI_1 i) (nxf (fun w => on w.1)))))⟩
        by_cases z6 : W t / 16 % 8 = 6
        · exact br_t (by rw [z6]; rfl) (yes ⟨on, Or.inl z6⟩)
        · refine br_f (ne (j := 6) (by omega) (by omega) z6) ⟨vp_in_nI ri (by omega), ?_⟩
          rw [nI_clamp (n := r (tk_pi c (W t % 16) i)) (by omega)]
          by_cases w : a_name (r (tk_pi c (W t % 16) i)) = nI (W t / 16 % 8)
          · exact br_t w (yes ⟨on, Or.inr w⟩)
          · exact br_f w (nm_r (nI_1 i) (nxf (fun v => v.2.elim z6 w)))
      refine br_f (by rw [Y.1]; exact nI_ge (by omega) (by omega)) ?_
      rcases hz with ⟨z, hz⟩ | ⟨z, hz⟩
      · exact br_t z (s88 _ (by unfold tk_pi; rw [if_neg hz]))
      · refine br_f (by rw [z]; decide) (s88 _ ?_)
        unfold tk_pi
        rw [if_pos hz, Y.1, show nI c - 1 = nI (c - 1) from pk_sub (a := c) (b := 1) (by omega), pk_sub (by omega)]
  have s37 : ∀ z0 : Int32, (z0 = 0 ∧ ¬ (0 < W t % 16 ∧ W t % 16 % 2 = 0) ∨ z0 = 1 ∧ (0 < W t % 16 ∧ W t % 16 % 2 = 0)) → wY_step_37 post (nI s) (nI tt) (nI (r m)) (nI (W t)) (nI (W t % 16)) z0 f_count f_top f_listed f_outputs a_row a_depth a_name a_value a_moved a_kind a_with a_length a_sets a_fresh a_type a_number a_set a_list a_there a_match a_priority a_out a_on a_todo a_within a_output := by
    intro z0 hz
    unfold wY_step_37
    exact nm_r a2 ⟨c + 1, lst z0 hz c 0 a_list (by omega) (fun j a b' => by omega)⟩
  unfold wpY_step
  refine ⟨by rw [e40]; exact vp_in_nI (by omega) (by omega), nm_r (e' := nI (W t)) (by rw [e40, nI_clamp (by omega)]; exact d4) (nm_r a1 ?_)⟩
  by_cases z : W t % 16 = 0
  · exact br_t (by rw [z]; decide) (s37 0 (Or.inl ⟨rfl, by omega⟩))
  · refine br_f (nI_nle (by omega) (by omega)) ⟨by decide, ?_⟩
    rw [show nI (W t % 16) - nI (W t % 16) / 2 * 2 = nI (W t % 16 % 2) from pk_rem (a := W t % 16) (d := 2) (by omega) (by omega) (by omega)]
    by_cases w : W t % 16 % 2 = 0
    · exact br_t (by rw [w]; rfl) (s37 1 (Or.inr ⟨rfl, by omega, w⟩))
    · exact br_f (ne (j := 0) (by omega) (by omega) w) (s37 0 (Or.inl ⟨rfl, by omega⟩))
end
