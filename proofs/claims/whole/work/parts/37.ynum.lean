/-! numbers, by the reference -/
def te_Sy (K W E : Nat → Nat) (V : Nat → Int32) (kd wt : Nat → Int32) (b L : Nat) : Prop :=
  L ≤ 320 ∧ L ≤ b + 40 ∧ te_D K W kd wt b L ∧ (∀ i, b ≤ i → i < L → wt i = V i) ∧ te_Ws K W E b L
def ty_En (ty st nb : Nat → Int32) (p k : Nat) (x n : Int32) : Prop := ty p = nI (te_ty k) ∧ st p = (if k < 4 then x else 0) ∧ nb p = n
theorem te_ty_e {k : Nat} : nI (te_ty k) = 0 ↔ k < 4 := by
  have := te_ty2 k
  rw [← nI_0, nI_eq (by omega) (by omega), ← te_ty_0]
  omega
section
variable {f_count f_top f_listed f_outputs : Int32} {a_row a_depth a_name a_value a_moved a_kind a_with a_length a_sets a_fresh a_type a_number a_set a_list a_there a_match a_priority a_out a_on a_todo a_within a_output : Nat → Int32} {c : Nat} {r d : Nat → Nat} {K W E : Nat → Nat} {V : Nat → Int32} {b L : Nat}
theorem wy_endOf {post : Int32 → Prop} {i : Nat} (S : te_Sy K W E V a_kind a_with b L) (hb : b ≤ i) (hi : i < L) (h : post (nI (E i))) : wpY_endOf post (f_count, f_top, f_listed, f_outputs, a_row, a_depth, a_name, a_value, a_moved, a_kind, a_with, a_length, a_sets, a_fresh, a_type, a_number, a_set, a_list, a_there, a_match, a_priority, a_out, a_on, a_todo, a_within, a_output) (nI i) := by
  obtain ⟨l1, l2, D, hV, hw⟩ := S
  have EL := te_E_le hw hb hi
  have sc := te_scan hw (fun n m j => m + 3 * (320 - j) ≤ 10000 → wY_endOf_4 post f_count f_top f_listed f_outputs a_row a_depth a_name a_value a_moved a_kind a_with a_length a_sets a_fresh a_type a_number a_set a_list a_there a_match a_priority a_out a_on a_todo a_within a_output n (nI m) (nI j)) (fun n m j hj1 hj2 hp hm => by
    obtain ⟨d1, d2, d3⟩ := D j hj1 hj2
    have o3 := te_o3 (fun z => (d3 z).2)
    have ej : (nI j).toNatClampNeg = j := nI_clamp (by omega)
    have vj : vp_in (nI j) 360 := vp_in_nI (by omega) (by omega)
    refine br_f (nI_nle (by omega) (by omega)) ⟨vj, vj, ?_⟩
    rw [ej, d1]
    refine wy_operands (w := W j) d2 d3 (nm_r (e' := nI (m + te_o (K j) (W j))) ?_ (nm_r (nI_1 j) (hp (by omega))))
    rw [← nI_1, ← nI_add]
    grind) i hi hb 1 0 (fun _ => br_t (by decide) h)
  exact ⟨_, sc (by omega)⟩
theorem wy_counted {post : Int32 → Prop} {x : Int32} (h : post (nI (tc_n (bt x) 24))) : wpY_counted post (f_count, f_top, f_listed, f_outputs, a_row, a_depth, a_name, a_value, a_moved, a_kind, a_with, a_length, a_sets, a_fresh, a_type, a_number, a_set, a_list, a_there, a_match, a_priority, a_out, a_on, a_todo, a_within, a_output) x := by
  have key : ∀ k i, i + k = 24 → wY_counted_4 post x f_count f_top f_listed f_outputs a_row a_depth a_name a_value a_moved a_kind a_with a_length a_sets a_fresh a_type a_number a_set a_list a_there a_match a_priority a_out a_on a_todo a_within a_output (k + 1) (nI (tc_n (bt x) i)) (nI i) := by
    intro k
    induction k with
    | zero =>
      intro i hi
      have e : i = 24 := by omega
      subst e
      exact br_t (nI_le (a := 24) (b := 24) (by omega) (by omega)) h
    | succ k ih =>
      intro i hi
      exact br_f (nI_ge (a := i) (b := 24) (by omega) (by omega)) (nm_r (tc_step (by omega)) (nm_r (nI_1 i) (ih (i + 1) (by omega))))
  exact ⟨25, key 24 0 rfl⟩
theorem wy_summed {post : Int32 → Prop} {x : Int32} (h : post (tc_sum a_value (bt x) 24)) : wpY_summed post (f_count, f_top, f_listed, f_outputs, a_row, a_depth, a_name, a_value, a_moved, a_kind, a_with, a_length, a_sets, a_fresh, a_type, a_number, a_set, a_list, a_there, a_match, a_priority, a_out, a_on, a_todo, a_within, a_output) x := by
  have key : ∀ k i, i + k = 24 → wY_summed_4 post x f_count f_top f_listed f_outputs a_row a_depth a_name a_value a_moved a_kind a_with a_length a_sets a_fresh a_type a_number a_set a_list a_there a_match a_priority a_out a_on a_todo a_within a_output (k + 1) (tc_sum a_value (bt x) i) (nI i) := by
    intro k
    induction k with
    | zero =>
      intro i hi
      have e : i = 24 := by omega
      subst e
      exact br_t (nI_le (a := 24) (b := 24) (by omega) (by omega)) h
    | succ k ih =>
      intro i hi
      refine br_f (nI_ge (a := i) (b := 24) (by omega) (by omega)) ?_
      have s := tc_sum_s a_value (bt x) i
      have i1 := ih (i + 1) (by omega)
      by_cases z : bt x i = true
      · rw [if_pos z] at s
        rw [s] at i1
        exact br_t ((mk_t (by omega)).mpr z) ⟨vp_in_nI (by omega) (by omega), nm_r (by rw [nI_clamp (by omega)]) (nm_r (nI_1 i) i1)⟩
      · rw [if_neg z] at s
        rw [s] at i1
        exact br_f (fun w => z ((mk_t (by omega)).mp w)) (nm_r (nI_1 i) i1)
  exact ⟨25, key 24 0 rfl⟩
theorem wy_first {post : Int32 → Prop} {x : Int32} (T : td_T c r d) (Y : re_YT c r d f_count a_row a_depth) (h : post (tn_first r a_value x c 0)) : wpY_firstOf post (f_count, f_top, f_listed, f_outputs, a_row, a_depth, a_name, a_value, a_moved, a_kind, a_with, a_length, a_sets, a_fresh, a_type, a_number, a_set, a_list, a_there, a_match, a_priority, a_out, a_on, a_todo, a_within, a_output) x := by
  have c24 := T.1
  obtain ⟨rfl, ho, -⟩ := Y
  have key : ∀ k i, i + k = c → post (tn_first r a_value x k i) → wY_firstOf_2 post x (nI c) f_top f_listed f_outputs a_row a_depth a_name a_value a_moved a_kind a_with a_length a_sets a_fresh a_type a_number a_set a_list a_there a_match a_priority a_out a_on a_todo a_within a_output (k + 1) (nI i) := by
    intro k
    induction k with
    | zero => intro i hi h; exact br_t (nI_le (by omega) (by omega)) h
    | succ k ih =>
      intro i hi h
      have ri := T.2.2.2.1 i (by omega)
      have ei : a_row (nI i).toNatClampNeg = nI (r i) := by rw [nI_clamp (by omega)]; exact ho i (by omega)
      rw [tn_first_s] at h
      refine br_f (nI_ge (by omega) (by omega)) ⟨vp_in_nI (by omega) (by omega), ?_⟩
      rw [ei]
      by_cases z : bt x (r i) = true
      · rw [if_pos z] at h
        refine br_t ((mk_t (by omega)).mpr z) ⟨vp_in_nI (by omega) (by omega), vp_in_nI ri (by omega), ?_⟩
        rw [nI_clamp (by omega)]; exact h
      · rw [if_neg z] at h
        exact br_f (fun w => z ((mk_t (by omega)).mp w)) (nm_r (nI_1 i) (ih (i + 1) (by omega) h))
  exact ⟨c + 1, key c 0 (by omega) h⟩
theorem wy_isTrue {post : Int32 → Prop} {p k : Nat} {x n : Int32} (e : ty_En a_type a_set a_number p k x n) (hp : p < 48) (h1 : tn_tr k x n → post 1) (h0 : ¬ tn_tr k x n → post 0) : wpY_isTrue post (f_count, f_top, f_listed, f_outputs, a_row, a_depth, a_name, a_value, a_moved, a_kind, a_with, a_length, a_sets, a_fresh, a_type, a_number, a_set, a_list, a_there, a_match, a_priority, a_out, a_on, a_todo, a_within, a_output) (nI p) := by
  obtain ⟨e1, e2, e3⟩ := e
  have ep : (nI p).toNatClampNeg = p := nI_clamp (by omega)
  have vp : vp_in (nI p) 48 := vp_in_nI hp (by omega)
  unfold wpY_isTrue
  unfold tn_tr at h1 h0
  refine ⟨vp, ?_⟩
  rw [ep, e1]
  by_cases z : k < 4
  · rw [if_pos z] at h1 h0 e2
    refine br_t (te_ty_e.mpr z) ⟨vp, ?_⟩
    rw [e2]
    by_cases y : x = 0
    · exact br_t y (h0 (fun w => w y))
    · exact br_f y (h1 y)
  · rw [if_neg z] at h1 h0
    refine br_f (fun w => z (te_ty_e.mp w)) ⟨vp, ?_⟩
    rw [e3]
    by_cases y : n = 0
    · exact br_t y (h0 (fun w => w y))
    · exact br_f y (h1 y)
theorem wy_plain {post : Int32 → Prop} {p k : Nat} {x n : Int32} (T : td_T c r d) (Y : re_YT c r d f_count a_row a_depth) (e : ty_En a_type a_set a_number p k x n) (hp : p < 48) (h : post (tn_pl c r a_value k x n)) : wpY_plain post (f_count, f_top, f_listed, f_outputs, a_row, a_depth, a_name, a_value, a_moved, a_kind, a_with, a_length, a_sets, a_fresh, a_type, a_number, a_set, a_list, a_there, a_match, a_priority, a_out, a_on, a_todo, a_within, a_output) (nI p) := by
  obtain ⟨e1, e2, e3⟩ := e
  have ep : (nI p).toNatClampNeg = p := nI_clamp (by omega)
  have vp : vp_in (nI p) 48 := vp_in_nI hp (by omega)
  unfold wpY_plain
  unfold tn_pl at h
  refine ⟨vp, ?_⟩
  rw [ep, e1]
  by_cases z : k < 4
  · rw [if_pos z] at h e2
    refine br_t (te_ty_e.mpr z) ⟨vp, ?_⟩
    rw [e2]
    exact wy_first T Y h
  · rw [if_neg z] at h
    refine br_f (fun w => z (te_ty_e.mp w)) ⟨vp, ?_⟩
    rw [e3]
    exact h
theorem wy_cmp {post : Int32 → Prop} {kd a bb ka kb : Nat} {xa na xb nb : Int32} (hkd : kd = 13 ∨ kd = 14) (ea : ty_En a_type a_set a_number a ka xa na) (eb : ty_En a_type a_set a_number bb kb xb nb) (ha : a < 48) (hb' : bb < 48)
    (h1 : tn_Cm kd a_value ka xa na kb xb nb → post 1) (h0 : ¬ tn_Cm kd a_value ka xa na kb xb nb → post 0) : wpY_compare post (f_count, f_top, f_listed, f_outputs, a_row, a_depth, a_name, a_value, a_moved, a_kind, a_with, a_length, a_sets, a_fresh, a_type, a_number, a_set, a_list, a_there, a_match, a_priority, a_out, a_on, a_todo, a_within, a_output) (nI kd) (nI a) (nI bb) := by
  obtain ⟨a1, a2, a3⟩ := ea
  obtain ⟨b1, b2, b3⟩ := eb
  have va : vp_in (nI a) 48 := vp_in_nI ha (by omega)
  have vb : vp_in (nI bb) 48 := vp_in_nI hb' (by omega)
  have ta : a_type (nI a).toNatClampNeg = nI (te_ty ka) := by rw [nI_clamp (by omega)]; exact a1
  have tb : a_type (nI bb).toNatClampNeg = nI (te_ty kb) := by rw [nI_clamp (by omega)]; exact b1
  have sa : a_set (nI a).toNatClampNeg = (if ka < 4 then xa else 0) := by rw [nI_clamp (by omega)]; exact a2
  have sb : a_set (nI bb).toNatClampNeg = (if kb < 4 then xb else 0) := by rw [nI_clamp (by omega)]; exact b2
  have na' : a_number (nI a).toNatClampNeg = na := by rw [nI_clamp (by omega)]; exact a3
  have nb' : a_number (nI bb).toNatClampNeg = nb := by rw [nI_clamp (by omega)]; exact b3
  have inner : ∀ (J : Int32 → Prop) (m : Nat), m < 24 → tn_in ka xa m → ((¬ ∃ n, n < 24 ∧ tn_in kb xb n ∧ (if kd = 13 then tn_at ka a_value na m < tn_at kb a_value nb n else tn_at ka a_value na m = tn_at kb a_value nb n)) → J (nI (m + 1))) →
      ∀ k i, i + k = 24 → (∀ n, n < i → ¬ (tn_in kb xb n ∧ (if kd = 13 then tn_at ka a_value na m < tn_at kb a_value nb n else tn_at ka a_value na m = tn_at kb a_value nb n))) →
      wY_compare_74 post J (nI kd) (nI a) (nI bb) (nI m) (tn_at ka a_value na m) f_count f_top f_listed f_outputs a_row a_depth a_name a_value a_moved a_kind a_with a_length a_sets a_fresh a_type a_number a_set a_list a_there a_match a_priority a_out a_on a_todo a_within a_output (k + 1) (nI i) := by
    intro J m hm hmin hJ k
    induction k with
    | zero =>
      intro i hi hn
      refine br_t (nI_le (a := 24) (b := i) (by omega) (by omega)) (nm_r (nI_1 m) (hJ ?_))
      rintro ⟨n, hn24, w⟩
      exact hn n (by omega) w
    | succ k ih =>
      intro i hi hn
      have nx : ¬ (tn_in kb xb i ∧ (if kd = 13 then tn_at ka a_value na m < tn_at kb a_value nb i else tn_at ka a_value na m = tn_at kb a_value nb i)) → wY_compare_74 post J (nI kd) (nI a) (nI bb) (nI m) (tn_at ka a_value na m) f_count f_top f_listed f_outputs a_row a_depth a_name a_value a_moved a_kind a_with a_length a_sets a_fresh a_type a_number a_set a_list a_there a_match a_priority a_out a_on a_todo a_within a_output (k + 1) (nI (i + 1)) := fun w => ih (i + 1) (by omega) (fun n hn' => by
        by_cases y : n = i
        · subst y; exact w
        · exact hn n (by omega))
      have c140 : tn_in kb xb i → ∀ z0 : Int32, z0 = tn_at kb a_value nb i → wY_compare_140 post J (wY_compare_74 post J (nI kd) (nI a) (nI bb) (nI m) (tn_at ka a_value na m) f_count f_top f_listed f_outputs a_row a_depth a_name a_value a_moved a_kind a_with a_length a_sets a_fresh a_type a_number a_set a_list a_there a_match a_priority a_out a_on a_todo a_within a_output (k + 1)) (nI kd) (nI a) (nI bb) (nI m) (tn_at ka a_value na m) (nI i) z0 f_count f_top f_listed f_outputs a_row a_depth a_name a_value a_moved a_kind a_with a_length a_sets a_fresh a_type a_number a_set a_list a_there a_match a_priority a_out a_on a_todo a_within a_output := by
        intro hin z0 ez
        subst ez
        unfold wY_compare_140
        by_cases k13 : kd = 13
        · refine br_t (by rw [k13]; rfl) ?_
          by_cases y : tn_at ka a_value na m < tn_at kb a_value nb i
          · exact br_f (Int32.not_le.mpr y) (h1 ⟨m, i, hm, by omega, hmin, hin, by rw [if_pos k13]; exact y⟩)
          · exact br_t (Int32.not_lt.mp y) (nm_r (nI_1 i) (nx (fun w => y (by have := w.2; rw [if_pos k13] at this; exact this))))
        · refine br_f (fun w => k13 ((nI_eq (b := 13) (by omega) (by omega)).mp w)) ?_
          by_cases y : tn_at ka a_value na m = tn_at kb a_value nb i
          · exact br_t y (h1 ⟨m, i, hm, by omega, hmin, hin, by rw [if_neg k13]; exact y⟩)
          · exact br_f y (nm_r (nI_1 i) (nx (fun w => y (by have := w.2; rw [if_neg k13] at this; exact this))))
      have c115 : tn_in kb xb i → wY_compare_115 post J (wY_compare_74 post J (nI kd) (nI a) (nI bb) (nI m) (tn_at ka a_value na m) f_count f_top f_listed f_outputs a_row a_depth a_name a_value a_moved a_kind a_with a_length a_sets a_fresh a_type a_number a_set a_list a_there a_match a_priority a_out a_on a_todo a_within a_output (k + 1)) (nI kd) (nI a) (nI bb) (nI m) (tn_at ka a_value na m) (nI i) f_count f_top f_listed f_outputs a_row a_depth a_name a_value a_moved a_kind a_with a_length a_sets a_fresh a_type a_number a_set a_list a_there a_match a_priority a_out a_on a_todo a_within a_output := by
        intro hin
        unfold wY_compare_115
        refine ⟨vb, ?_⟩
        rw [tb]
        by_cases z : kb < 4
        · exact br_t (te_ty_e.mpr z) ⟨vp_in_nI (by omega) (by omega), c140 hin _ (by unfold tn_at; rw [if_pos z, nI_clamp (by omega)])⟩
        · exact br_f (fun w => z (te_ty_e.mp w)) ⟨vb, c140 hin _ (by unfold tn_at; rw [if_neg z, nb'])⟩
      refine br_f (nI_ge (a := i) (b := 24) (by omega) (by omega)) ⟨vb, ?_⟩
      rw [tb]
      by_cases z : kb < 4
      · refine br_t (te_ty_e.mpr z) ⟨vb, ?_⟩
        rw [sb, if_pos z]
        by_cases y : bt xb i = true
        · exact br_f (fun w => by rw [mk_f (by omega), y] at w; cases w) (c115 (by unfold tn_in; rw [if_pos z]; exact y))
        · exact br_t ((mk_f (by omega)).mpr (tz_nb y)) (nm_r (nI_1 i) (nx (fun w => y (by have := w.1; unfold tn_in at this; rw [if_pos z] at this; exact this))))
      · refine br_f (fun w => z (te_ty_e.mp w)) ?_
        by_cases y : i = 0
        · exact br_t (by rw [y]; decide) (c115 (by unfold tn_in; rw [if_neg z]; exact y))
        · exact br_f (nI_nle (by omega) (by omega)) (nm_r (nI_1 i) (nx (fun w => y (by have := w.1; unfold tn_in at this; rw [if_neg z] at this; exact this))))
  have outer : ∀ k i, i + k = 24 → (∀ m, m < i → ¬ ∃ n, n < 24 ∧ tn_in ka xa m ∧ tn_in kb xb n ∧ (if kd = 13 then tn_at ka a_value na m < tn_at kb a_value nb n else tn_at ka a_value na m = tn_at kb a_value nb n)) →
      wY_compare_3 post (nI kd) (nI a) (nI bb) f_count f_top f_listed f_outputs a_row a_depth a_name a_value a_moved a_kind a_with a_length a_sets a_fresh a_type a_number a_set a_list a_there a_match a_priority a_out a_on a_todo a_within a_output (k + 1) (nI i) := by
    intro k
    induction k with
    | zero =>
      intro i hi hn
      refine br_t (nI_le (a := 24) (b := i) (by omega) (by omega)) (h0 ?_)
      rintro ⟨m, n, hm, hn24, w1, w2, w3⟩
      exact hn m (by omega) ⟨n, hn24, w1, w2, w3⟩
    | succ k ih =>
      intro i hi hn
      have nx : ¬ tn_in ka xa i → wY_compare_3 post (nI kd) (nI a) (nI bb) f_count f_top f_listed f_outputs a_row a_depth a_name a_value a_moved a_kind a_with a_length a_sets a_fresh a_type a_number a_set a_list a_there a_match a_priority a_out a_on a_todo a_within a_output (k + 1) (nI (i + 1)) := fun w => ih (i + 1) (by omega) (fun m hm => by
        by_cases e : m = i
        · subst e
          rintro ⟨n, -, w1, -, -⟩
          exact w w1
        · exact hn m (by omega))
      have c44 : tn_in ka xa i → wY_compare_44 post (wY_compare_3 post (nI kd) (nI a) (nI bb) f_count f_top f_listed f_outputs a_row a_depth a_name a_value a_moved a_kind a_with a_length a_sets a_fresh a_type a_number a_set a_list a_there a_match a_priority a_out a_on a_todo a_within a_output (k + 1)) (nI kd) (nI a) (nI bb) (nI i) f_count f_top f_listed f_outputs a_row a_depth a_name a_value a_moved a_kind a_with a_length a_sets a_fresh a_type a_number a_set a_list a_there a_match a_priority a_out a_on a_todo a_within a_output := by
        intro hin
        have cont := inner (wY_compare_3 post (nI kd) (nI a) (nI bb) f_count f_top f_listed f_outputs a_row a_depth a_name a_value a_moved a_kind a_with a_length a_sets a_fresh a_type a_number a_set a_list a_there a_match a_priority a_out a_on a_todo a_within a_output (k + 1)) i (by omega) hin (fun w => ih (i + 1) (by omega) (fun m hm => by
          by_cases e : m = i
          · subst e
            rintro ⟨n, hn24, -, w2, w3⟩
            exact w ⟨n, hn24, w2, w3⟩
          · exact hn m (by omega))) 24 0 rfl (fun n hn' => by omega)
        unfold wY_compare_44
        refine ⟨va, ?_⟩
        rw [ta]
        by_cases z : ka < 4
        · exact br_t (te_ty_e.mpr z) ⟨vp_in_nI (by omega) (by omega), nm_r (e' := tn_at ka a_value na i) (by unfold tn_at; rw [if_pos z, nI_clamp (by omega)]) ⟨25, cont⟩⟩
        · exact br_f (fun w => z (te_ty_e.mp w)) ⟨va, nm_r (e' := tn_at ka a_value na i) (by unfold tn_at; rw [if_neg z, na']) ⟨25, cont⟩⟩
      refine br_f (nI_ge (a := i) (b := 24) (by omega) (by omega)) ⟨va, ?_⟩
      rw [ta]
      by_cases z : ka < 4
      · refine br_t (te_ty_e.mpr z) ⟨va, ?_⟩
        rw [sa, if_pos z]
        by_cases y : bt xa i = true
        · exact br_f (fun w => by rw [mk_f (by omega), y] at w; cases w) (c44 (by unfold tn_in; rw [if_pos z]; exact y))
        · exact br_t ((mk_f (by omega)).mpr (tz_nb y)) (nm_r (nI_1 i) (nx (fun w => y (by unfold tn_in at w; rw [if_pos z] at w; exact w))))
      · refine br_f (fun w => z (te_ty_e.mp w)) ?_
        by_cases y : i = 0
        · exact br_t (by rw [y]; decide) (c44 (by unfold tn_in; rw [if_neg z]; exact y))
        · exact br_f (nI_nle (by omega) (by omega)) (nm_r (nI_1 i) (nx (fun w => y (by unfold tn_in at w; rw [if_neg z] at w; exact w))))
  exact ⟨25, outer 24 0 rfl (fun m hm => by omega)⟩
theorem wy_result {post : Int32 → Prop} {k a ka kb : Nat} {v xa na xb nb pos last av : Int32} (T : td_T c r d) (Y : re_YT c r d f_count a_row a_depth) (hk : k < 18) (h4 : 4 ≤ k) (hav : 7 ≤ k → av = nI a)
    (ea : 7 ≤ k → a < 48 ∧ ty_En a_type a_set a_number a ka xa na) (eb : 10 ≤ k → k < 17 → 0 < a ∧ ty_En a_type a_set a_number (a - 1) kb xb nb) (ka4 : 7 ≤ k → k < 10 → ka < 4)
    (h : post (tn_res c r a_value pos last k v ka xa na kb xb nb)) : wpY_result post (f_count, f_top, f_listed, f_outputs, a_row, a_depth, a_name, a_value, a_moved, a_kind, a_with, a_length, a_sets, a_fresh, a_type, a_number, a_set, a_list, a_there, a_match, a_priority, a_out, a_on, a_todo, a_within, a_output) (nI k) v av pos last := by
  have ne : ∀ {i : Nat}, i < 18 → k ≠ i → ¬ nI k = nI i := fun hi z w => z ((nI_eq (by omega) (by omega)).mp w)
  unfold wpY_result
  refine br_f (nI_nlt (b := 4) (by omega) (by omega)) (br_f (nI_nlt (a := 17) (b := k) (by omega) (by omega)) ?_)
  by_cases z : k = 4
  · subst z; exact br_t (by decide) h
  refine br_f (ne (i := 4) (by omega) z) ?_
  by_cases z5 : k = 5
  · subst z5; exact br_t (by decide) h
  refine br_f (ne (i := 5) (by omega) z5) ?_
  by_cases z6 : k = 6
  · subst z6; exact br_t (by decide) h
  refine br_f (ne (i := 6) (by omega) z6) ?_
  have h7 : 7 ≤ k := by omega
  obtain ⟨a48, En⟩ := ea h7
  have eav := hav h7
  subst eav
  have ep : (nI a).toNatClampNeg = a := nI_clamp (by omega)
  have vp : vp_in (nI a) 48 := vp_in_nI a48 (by omega)
  have es : k < 10 → a_set (nI a).toNatClampNeg = xa := fun w => by rw [ep, En.2.1, if_pos (ka4 h7 w)]
  by_cases z7 : k = 7
  · subst z7
    refine br_t (by decide) ⟨vp, ?_⟩
    rw [es (by omega)]
    exact wy_counted h
  refine br_f (ne (i := 7) (by omega) z7) ?_
  by_cases z8 : k = 8
  · subst z8
    refine br_t (by decide) ⟨vp, ?_⟩
    rw [es (by omega)]
    exact wy_summed h
  refine br_f (ne (i := 8) (by omega) z8) ?_
  by_cases z9 : k = 9
  · subst z9
    refine br_t (by decide) ⟨vp, ?_⟩
    rw [es (by omega)]
    exact wy_first T Y h
  refine br_f (ne (i := 9) (by omega) z9) ?_
  by_cases z17 : k = 17
  · subst z17
    refine br_f (by decide) (br_f (by decide) (br_f (by decide) (br_f (by decide) (br_f (by decide) (br_f (by decide) (br_f (by decide) (br_t (by decide) (wy_isTrue En a48 (fun w => br_f (by decide) ?_) (fun w => br_t rfl ?_)))))))))
    · have e : tn_res c r a_value pos last 17 v ka xa na kb xb nb = 0 := tn_b_f (fun x => x w)
      rw [e] at h; exact h
    · have e : tn_res c r a_value pos last 17 v ka xa na kb xb nb = 1 := tn_b_t w
      rw [e] at h; exact h
  obtain ⟨a0, Eb⟩ := eb (by omega) (by omega)
  have am : nI a - 1 = nI (a - 1) := pk_sub (a := a) (b := 1) (by omega)
  have pln : wY_result_193 (fun x => post x) (nI k) (nI a) f_count f_top f_listed f_outputs a_row a_depth a_name a_value a_moved a_kind a_with a_length a_sets a_fresh a_type a_number a_set a_list a_there a_match a_priority a_out a_on a_todo a_within a_output ∨ 13 ≤ k := by
    by_cases y : k < 13
    · refine Or.inl ?_
      unfold wY_result_193
      rw [am]
      refine wy_plain T Y En a48 (wy_plain T Y Eb (by omega) ?_)
      by_cases y10 : k = 10
      · subst y10; exact br_t (by decide) h
      refine br_f (ne (i := 10) (by omega) y10) ?_
      by_cases y11 : k = 11
      · subst y11; exact br_t (by decide) h
      have y12 : k = 12 := by omega
      subst y12
      exact br_f (by decide) h
    · exact Or.inr (by omega)
  have cmp : k = 13 ∨ k = 14 → wY_result_113 (fun x => post x) (nI k) (nI a) f_count f_top f_listed f_outputs a_row a_depth a_name a_value a_moved a_kind a_with a_length a_sets a_fresh a_type a_number a_set a_list a_there a_match a_priority a_out a_on a_todo a_within a_output := by
    intro y
    have e : tn_res c r a_value pos last k v ka xa na kb xb nb = tn_b (tn_Cm k a_value ka xa na kb xb nb) := by
      rcases y with y | y <;> subst y <;> rfl
    rw [e] at h
    unfold wY_result_113
    rw [am]
    refine wy_cmp y En Eb a48 (by omega) (fun w => br_f (by decide) ?_) (fun w => br_t rfl ?_)
    · rw [tn_b_t w] at h; exact h
    · rw [tn_b_f w] at h; exact h
  by_cases z10 : k = 10
  · exact br_t (by rw [z10]; rfl) (pln.resolve_right (by omega))
  refine br_f (ne (i := 10) (by omega) z10) ?_
  by_cases z11 : k = 11
  · exact br_t (by rw [z11]; rfl) (pln.resolve_right (by omega))
  refine br_f (ne (i := 11) (by omega) z11) ?_
  by_cases z12 : k = 12
  · exact br_t (by rw [z12]; rfl) (pln.resolve_right (by omega))
  refine br_f (ne (i := 12) (by omega) z12) ?_
  by_cases z13 : k = 13
  · exact br_t (by rw [z13]; rfl) (cmp (Or.inl z13))
  refine br_f (ne (i := 13) (by omega) z13) ?_
  by_cases z14 : k = 14
  · exact br_t (by rw [z14]; rfl) (cmp (Or.inr z14))
  refine br_f (ne (i := 14) (by omega) z14) ?_
  rw [am]
  by_cases z15 : k = 15
  · subst z15
    have e : tn_res c r a_value pos last 15 v ka xa na kb xb nb = tn_b (tn_tr ka xa na ∧ tn_tr kb xb nb) := rfl
    rw [e] at h
    refine br_t (by decide) (wy_isTrue En a48 (fun w => br_f (by decide) (wy_isTrue Eb (by omega) (fun w2 => br_f (by decide) ?_) (fun w2 => br_t rfl ?_))) (fun w => br_t rfl ?_))
    · rw [tn_b_t ⟨w, w2⟩] at h; exact h
    · rw [tn_b_f (fun x => w2 x.2)] at h; exact h
    · rw [tn_b_f (fun x => w x.1)] at h; exact h
  have z16 : k = 16 := by omega
  subst z16
  have e : tn_res c r a_value pos last 16 v ka xa na kb xb nb = tn_b (tn_tr ka xa na ∨ tn_tr kb xb nb) := rfl
  rw [e] at h
  refine br_f (by decide) (br_t (by decide) (wy_isTrue En a48 (fun w => br_f (by decide) ?_) (fun w => br_t rfl (wy_isTrue Eb (by omega) (fun w2 => br_f (by decide) ?_) (fun w2 => br_t rfl ?_)))))
  · rw [tn_b_t (Or.inl w)] at h; exact h
  · rw [tn_b_t (Or.inr w2)] at h; exact h
  · rw [tn_b_f (fun x => x.elim w w2)] at h; exact h
end
