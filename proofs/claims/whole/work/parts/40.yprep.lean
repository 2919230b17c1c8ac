/-! all sets of a slot, by the reference -/
section
variable {c : Nat} {r d : Nat → Nat} {nm val : Nat → Int32} {K W E : Nat → Nat} {V : Nat → Int32} {b L : Nat}
theorem tk_fillS {t : Nat} {σ σ' : Nat → Nat → Int32} (hw : te_Ws K W E b L) (hL : L ≤ 320) (hb : b ≤ t) (ht : t < L) (Q : tk_Eq c r d nm val K W E V (t + 1) L σ) (same : ∀ j, t < j → j < L → ∀ m, m < c → σ' j (r m) = σ j (r m))
    (g2 : K t < 4 → ∀ m, m < c → mk_24 (σ' t (r m)) ∧ ∀ q, q < 24 → (bt (σ' t (r m)) q = true ↔ tk_M c r d nm val K W E V σ t m q)) : tk_Eq c r d nm val K W E V t L σ' := by
  intro i h1 h2
  by_cases z : i = t
  · subst z
    intro h4 m hm
    obtain ⟨x1, x2⟩ := g2 h4 m hm
    exact ⟨x1, fun q hq => (x2 q hq).trans (tk_M_c hw (by omega) hb ht h4 hm (fun j a b' _ m hm => (same j a b' m hm).symm))⟩
  · exact tk_Q_c hw (by omega) (by omega) h2 (fun j a b' _ m hm => (same j (by omega) b' m hm).symm) (Q i (by omega) h2)
end
section
variable {f_count f_top f_listed f_outputs : Int32} {a_row a_depth a_name a_value a_moved a_kind a_with a_length a_sets a_fresh a_type a_number a_set a_list a_there a_match a_priority a_out a_on a_todo a_within a_output : Nat → Int32} {c : Nat} {r d : Nat → Nat} {K W E : Nat → Nat} {V : Nat → Int32} {b L : Nat}
theorem ty_ix {t n : Nat} : nI (24 * t) + nI n = nI (24 * t + n) := nI_add _ _
theorem ty_ix24 {t n : Nat} : nI (24 * t) + 24 + nI n = nI (24 * (t + 1) + n) := by
  rw [show (24 : Int32) = nI 24 from rfl, nI_add, nI_add]
  exact congrArg nI (by omega)
def ty_Out (A B : Nat → Int32) (t : Nat) : Prop := ∀ j, (j < 24 * t ∨ 24 * (t + 1) ≤ j) → B j = A j
theorem wy_ptok {post : SY → Prop} {J : Int32 → Int32 → Int32 → Int32 → Int32 → (Nat → Int32) → (Nat → Int32) → (Nat → Int32) → (Nat → Int32) → (Nat → Int32) → (Nat → Int32) → (Nat → Int32) → (Nat → Int32) → (Nat → Int32) → (Nat → Int32) → (Nat → Int32) → (Nat → Int32) → (Nat → Int32) → (Nat → Int32) → (Nat → Int32) → (Nat → Int32) → (Nat → Int32) → (Nat → Int32) → (Nat → Int32) → (Nat → Int32) → (Nat → Int32) → (Nat → Int32) → Prop} {s tt t : Nat}
    (S : te_Sy K W E V a_kind a_with b L) (T : td_T c r d) (Y : re_YT c r d f_count a_row a_depth) (c0 : 0 < c) (et : 40 * s + tt = t) (hs40 : 40 * s = b) (hb : b ≤ t) (ht : t < L) (h4 : K t < 4) (hax : K t = 2 → W t % 16 ≤ 10)
    (Q : tk_Eq c r d a_name a_value K W E V (t + 1) L (fun t n => a_sets (24 * t + n)))
    (h : ∀ B top li ty nb st la, ty_Out a_sets B t → (∀ m, m < c → mk_24 (B (24 * t + r m)) ∧ ∀ q, q < 24 → (bt (B (24 * t + r m)) q = true ↔ tk_M c r d a_name a_value K W E V (fun t n => a_sets (24 * t + n)) t m q)) →
      J (nI tt + (-1)) f_count top li f_outputs a_row a_depth a_name a_value a_moved a_kind a_with a_length B a_fresh ty nb st la a_there a_match a_priority a_out a_on a_todo a_within a_output) :
    ∃ n64, wY_prepare_64 post J (nI s) (nI tt) (nI (K t)) (nI (24 * t)) f_count f_top f_listed f_outputs n64 0 a_row a_depth a_name a_value a_moved a_kind a_with a_length a_sets a_fresh a_type a_number a_set a_list a_there a_match a_priority a_out a_on a_todo a_within a_output := by
  have c24 := T.1
  have S' := S
  obtain ⟨l1, l2, D, hV, hw⟩ := S
  have ne : ∀ {j : Nat}, j < 18 → K t ≠ j → ¬ nI (K t) = nI j := fun hj z w => z ((nI_eq (by omega) (by omega)).mp w)
  have e41 : (40 : Int32) * nI s + nI tt + 1 = nI (t + 1) := by rw [show (40 : Int32) = nI 40 from rfl, pk_mul, nI_add, et, nI_1]
  -- no step: the end
  have e190 : K t ≠ 2 → ∀ B, ty_Out a_sets B t → (∀ m, m < c → mk_24 (B (24 * t + r m)) ∧ ∀ q, q < 24 → (bt (B (24 * t + r m)) q = true ↔ tk_M c r d a_name a_value K W E V (fun t n => a_sets (24 * t + n)) t m q)) →
      ∃ n190, wY_prepare_190 post J (nI s) (nI tt) (nI (K t)) (nI (24 * t)) n190 0 f_count f_top f_listed f_outputs a_row a_depth a_name a_value a_moved a_kind a_with a_length B a_fresh a_type a_number a_set a_list a_there a_match a_priority a_out a_on a_todo a_within a_output := fun z B g1 g2 =>
    ⟨1, br_f (by rw [Y.1]; exact nI_nle c0 (by omega)) (br_f (ne (j := 2) (by omega) z) (nm_e (h B f_top f_listed a_type a_number a_set a_list g1 g2)))⟩
  -- the step's loop
  have s190 : K t = 2 → ∀ k m B top li ty nb st la, m + k = c → ty_Out a_sets B t →
      (∀ n, n < 24 → mk_24 (B (24 * t + n)) ∧ ∀ q, q < 24 → (bt (B (24 * t + n)) q = true ↔ ∃ m', m' < m ∧ bt (a_sets (24 * (t + 1) + n)) (r m') = true ∧ ∃ i, i < c ∧ r (tk_pi c (W t % 16) i) = q ∧ tk_S c r d a_name a_value K W E V (fun t n => a_sets (24 * t + n)) t m' (W t / 128) i = true)) →
      wY_prepare_190 post J (nI s) (nI tt) (nI (K t)) (nI (24 * t)) (k + 1) (nI m) f_count top li f_outputs a_row a_depth a_name a_value a_moved a_kind a_with a_length B a_fresh ty nb st la a_there a_match a_priority a_out a_on a_todo a_within a_output := by
    intro z2 k
    have t1 : t + 1 < L := (te_op hw hb ht (t := 0) (by rw [te_o_st z2]; omega)).2.1
    induction k with
    | zero =>
      intro m B top li ty nb st la hm g1 g2
      have e : m = c := by omega
      subst e
      refine br_t (by rw [Y.1]; exact nI_le (Nat.le_refl _) (by omega)) (nm_e (h B top li ty nb st la g1 (fun l hl => ?_)))
      obtain ⟨w1, w2⟩ := g2 (r l) (T.2.2.2.1 l hl)
      refine ⟨w1, fun q hq => ?_⟩
      rw [w2 q hq]
      unfold tk_M
      rw [if_neg (by omega), if_neg (by omega), if_neg (by omega)]
    | succ k ih =>
      intro m B top li ty nb st la hm g1 g2
      have rm := T.2.2.2.1 m (by omega)
      refine br_f (by rw [Y.1]; exact nI_ge (by omega) (by omega)) (br_t (by rw [z2]; rfl) ⟨vp_in_nI (by omega) (by omega), nm_r (e' := nI (r m)) (by rw [nI_clamp (by omega)]; exact Y.2.1 m (by omega)) (wy_step (m := m) S' T Y et hs40 hb ht (by omega) z2 (hax z2) (fun x top' li' ty' nb' st' la' hx => ⟨25, ?_⟩))⟩)
      have sc : ∀ i, i < c → tk_S c r d a_name a_value K W E V (fun t n => B (24 * t + n)) t m (W t / 128) i = tk_S c r d a_name a_value K W E V (fun t n => a_sets (24 * t + n)) t m (W t / 128) i :=
        tk_S_c hw (by omega) hb ht z2 (fun j a b' _ l hl => g1 (24 * j + r l) (Or.inr (by omega))) (W t / 128) (Nat.le_refl _)
      have hx' := tk_Mi_c hx sc
      have from' : ∀ n, n < 24 → ∀ B' : Nat → Int32, ty_Out a_sets B' t → B' (24 * (t + 1) + n) = a_sets (24 * (t + 1) + n) := fun n hn B' g => g _ (Or.inr (by omega))
      have inner : ∀ u i B', i + u = 24 → ty_Out a_sets B' t →
          (∀ n, n < i → mk_24 (B' (24 * t + n)) ∧ ∀ q, q < 24 → (bt (B' (24 * t + n)) q = true ↔ ∃ m', m' < m + 1 ∧ bt (a_sets (24 * (t + 1) + n)) (r m') = true ∧ ∃ i, i < c ∧ r (tk_pi c (W t % 16) i) = q ∧ tk_S c r d a_name a_value K W E V (fun t n => a_sets (24 * t + n)) t m' (W t / 128) i = true)) →
          (∀ n, i ≤ n → n < 24 → B' (24 * t + n) = B (24 * t + n)) →
          wY_prepare_226 post J (wY_prepare_190 post J (nI s) (nI tt) (nI (K t)) (nI (24 * t)) (k + 1)) (nI s) (nI tt) (nI (K t)) (nI (24 * t)) (nI m) (nI (r m)) x f_count top' li' f_outputs (u + 1) (nI i) a_row a_depth a_name a_value a_moved a_kind a_with a_length B' a_fresh ty' nb' st' la' a_there a_match a_priority a_out a_on a_todo a_within a_output := by
        intro u
        induction u with
        | zero =>
          intro i B' hi q1 q2 q3
          have e : i = 24 := by omega
          subst e
          exact br_t (nI_le (a := 24) (b := 24) (by omega) (by omega)) (nm_r (nI_1 m) (ih (m + 1) B' top' li' ty' nb' st' la' (by omega) q1 q2))
        | succ u iu =>
          intro i B' hi q1 q2 q3
          have fi := from' i (by omega) B' q1
          obtain ⟨w1, w2⟩ := g2 i (by omega)
          have bi := q3 i (Nat.le_refl _) (by omega)
          have ei1 : (nI (24 * t) + 24 + nI i).toNatClampNeg = 24 * (t + 1) + i := by rw [ty_ix24]; exact nI_clamp (by omega)
          refine br_f (nI_ge (a := i) (b := 24) (by omega) (by omega)) ⟨by rw [ty_ix24]; exact vp_in_nI (by omega) (by omega), ?_⟩
          rw [ei1, fi]
          by_cases z : bt (a_sets (24 * (t + 1) + i)) (r m) = true
          · refine br_t ((mk_t (by omega)).mpr z) ⟨by rw [ty_ix]; exact vp_in_nI (by omega) (by omega), by rw [ty_ix]; exact vp_in_nI (by omega) (by omega), nm_r (e' := upd B' (24 * t + i) (B (24 * t + i) ||| x)) (by rw [ty_ix, nI_clamp (by omega), bi]) (nm_r (nI_1 i) (iu (i + 1) _ (by omega) (fun j hj => ?_) (fun n hn => ?_) (fun n a b' => ?_)))⟩
            · rw [pk_un (by omega)]; exact q1 j hj
            · by_cases y : n = i
              · subst y
                rw [pk_us]
                refine ⟨mk_24_or w1 hx'.1, fun q hq => ?_⟩
                rw [b_or, Bool.or_eq_true, w2 q hq, hx'.2 q hq]
                constructor
                · rintro (⟨m', v1, v2⟩ | v)
                  · exact ⟨m', by omega, v2⟩
                  · exact ⟨m, by omega, z, v⟩
                · rintro ⟨m', v1, v2, v3⟩
                  by_cases e : m' = m
                  · subst e; exact Or.inr v3
                  · exact Or.inl ⟨m', by omega, v2, v3⟩
              · rw [pk_un (by omega)]; exact q2 n (by omega)
            · rw [pk_un (by omega)]; exact q3 n (by omega) b'
          · refine br_f (fun w => z ((mk_t (by omega)).mp w)) (nm_r (nI_1 i) (iu (i + 1) _ (by omega) q1 (fun n hn => ?_) (fun n a b' => q3 n (by omega) b')))
            by_cases y : n = i
            · subst y
              rw [bi]
              refine ⟨w1, fun q hq => ?_⟩
              rw [w2 q hq]
              constructor
              · rintro ⟨m', v1, v2⟩
                exact ⟨m', by omega, v2⟩
              · rintro ⟨m', v1, v2, v3⟩
                by_cases e : m' = m
                · subst e; exact absurd v2 z
                · exact ⟨m', by omega, v2, v3⟩
            · exact q2 n (by omega)
      exact inner 24 0 B rfl g1 (fun n hn => by omega) (fun n _ _ => rfl)
  -- the union's loop
  have u137 : K t = 3 → ∀ B0, ty_Out a_sets B0 t → ∀ u i B, i + u = 24 → ty_Out a_sets B t → (∀ n, n < i → B (24 * t + n) = a_sets (24 * (t + 1) + n) ||| a_sets (24 * E (t + 1) + n)) →
      wY_prepare_137 post J (nI s) (nI tt) (nI (K t)) (nI (24 * t)) (nI (E (t + 1))) f_count f_top f_listed f_outputs (u + 1) (nI i) a_row a_depth a_name a_value a_moved a_kind a_with a_length B a_fresh a_type a_number a_set a_list a_there a_match a_priority a_out a_on a_todo a_within a_output := by
    intro z3 B0 _ u
    have s2 := te_two hw hb ht (te_o_un z3)
    have o0 := te_op hw hb ht (t := 0) (by rw [te_o_un z3]; omega)
    have o1 := te_op hw hb ht (t := 1) (by rw [te_o_un z3]; omega)
    have l0 : ∀ t', te_lo (K t) t' = 0 := fun t' => te_lo0 (by omega) (by omega)
    rw [l0] at o0 o1
    induction u with
    | zero =>
      intro i B hi g1 g2
      refine br_t (nI_le (a := 24) (b := i) (by omega) (by omega)) (e190 (by omega) B g1 (fun m hm => ?_))
      have q1 := (Q (t + 1) (Nat.le_refl _) s2.1 (te_ty_0.mp o0.2.2) m hm).1
      have q2 := (Q (E (t + 1)) (by omega) s2.2.2.1 (te_ty_0.mp o1.2.2) m hm).1
      rw [g2 (r m) (by have := T.2.2.2.1 m hm; omega)]
      refine ⟨mk_24_or q1 q2, fun q hq => ?_⟩
      rw [b_or, Bool.or_eq_true]
      unfold tk_M
      rw [if_neg (by omega), if_neg (by omega), if_pos z3]
    | succ u iu =>
      intro i B hi g1 g2
      have e2 : (24 : Int32) * nI (E (t + 1)) + nI i = nI (24 * E (t + 1) + i) := by rw [show (24 : Int32) = nI 24 from rfl, pk_mul, nI_add]
      refine br_f (nI_ge (a := i) (b := 24) (by omega) (by omega)) ⟨by rw [ty_ix24]; exact vp_in_nI (by omega) (by omega), by rw [e2]; exact vp_in_nI (by omega) (by omega), by rw [ty_ix]; exact vp_in_nI (by omega) (by omega), nm_r (e' := upd B (24 * t + i) (a_sets (24 * (t + 1) + i) ||| a_sets (24 * E (t + 1) + i))) ?_ (nm_r (nI_1 i) (iu (i + 1) _ (by omega) (fun j hj => ?_) (fun n hn => ?_)))⟩
      · rw [ty_ix24, e2, ty_ix, nI_clamp (by omega), nI_clamp (by omega), nI_clamp (by omega), g1 _ (Or.inr (by omega)), g1 _ (Or.inr (by omega))]
      · rw [pk_un (by omega)]; exact g1 j hj
      · by_cases y : n = i
        · subst y; exact pk_us
        · rw [pk_un (by omega)]; exact g2 n (by omega)
  -- the first loop
  have k64 : ∀ u i B, i + u = 24 → ty_Out a_sets B t → (∀ n, n < i → B (24 * t + n) = if K t = 0 then (1 : Int32) <<< (nI n &&& 31) else if K t = 1 then (1 : Int32) <<< (nI (r 0) &&& 31) else 0) →
      wY_prepare_64 post J (nI s) (nI tt) (nI (K t)) (nI (24 * t)) f_count f_top f_listed f_outputs (u + 1) (nI i) a_row a_depth a_name a_value a_moved a_kind a_with a_length B a_fresh a_type a_number a_set a_list a_there a_match a_priority a_out a_on a_todo a_within a_output := by
    intro u
    induction u with
    | zero =>
      intro i B hi g1 g2
      have e : i = 24 := by omega
      subst e
      refine br_t (nI_le (a := 24) (b := 24) (by omega) (by omega)) ?_
      by_cases z3 : K t = 3
      · refine br_t (by rw [z3]; rfl) ?_
        rw [e41]
        have s2 := te_two hw hb ht (te_o_un z3)
        exact wy_endOf S' (by omega) s2.1 ⟨25, u137 z3 B g1 24 0 B rfl g1 (fun n hn => by omega)⟩
      · refine br_f (ne (j := 3) (by omega) z3) ?_
        by_cases z2 : K t = 2
        · refine ⟨c + 1, s190 z2 c 0 B f_top f_listed a_type a_number a_set a_list (by omega) g1 (fun n hn => ?_)⟩
          rw [g2 n hn, if_neg (by omega), if_neg (by omega)]
          refine ⟨mk_24_0, fun q hq => ?_⟩
          rw [b_0]
          exact ⟨fun w => (by cases w), fun ⟨m', w, _⟩ => by omega⟩
        · refine e190 z2 B g1 (fun m hm => ?_)
          have rm := T.2.2.2.1 m hm
          rw [g2 (r m) rm]
          by_cases z0 : K t = 0
          · rw [if_pos z0]
            refine ⟨mk_24_sh rm, fun q hq => ?_⟩
            rw [mk_sh _ (by omega), decide_eq_true_iff]
            unfold tk_M
            rw [if_pos z0]
          · have z1 : K t = 1 := by omega
            have r0 := T.2.2.2.1 0 c0
            rw [if_neg z0, if_pos z1]
            refine ⟨mk_24_sh r0, fun q hq => ?_⟩
            rw [mk_sh _ (by omega), decide_eq_true_iff]
            unfold tk_M
            rw [if_neg z0, if_pos z1]
    | succ u iu =>
      intro i B hi g1 g2
      have go : ∀ v, v = (if K t = 0 then (1 : Int32) <<< (nI i &&& 31) else if K t = 1 then (1 : Int32) <<< (nI (r 0) &&& 31) else 0) → (vp_in (nI (24 * t) + nI i) 7680 ∧ ∀ B', B' = upd B (nI (24 * t) + nI i).toNatClampNeg v → ∀ x5, x5 = nI i + 1 → wY_prepare_64 post J (nI s) (nI tt) (nI (K t)) (nI (24 * t)) f_count f_top f_listed f_outputs (u + 1) x5 a_row a_depth a_name a_value a_moved a_kind a_with a_length B' a_fresh a_type a_number a_set a_list a_there a_match a_priority a_out a_on a_todo a_within a_output) := fun v hv =>
        ⟨by rw [ty_ix]; exact vp_in_nI (by omega) (by omega), nm_r (e' := upd B (24 * t + i) v) (by rw [ty_ix, nI_clamp (by omega)]) (nm_r (nI_1 i) (iu (i + 1) _ (by omega) (fun j hj => by rw [pk_un (by omega)]; exact g1 j hj) (fun n hn => by
          by_cases y : n = i
          · subst y; rw [pk_us]; exact hv
          · rw [pk_un (by omega)]; exact g2 n (by omega))))⟩
      refine br_f (nI_ge (a := i) (b := 24) (by omega) (by omega)) ?_
      by_cases z0 : K t = 0
      · exact br_t (by rw [z0]; rfl) (go _ (by rw [if_pos z0]))
      refine br_f (ne (j := 0) (by omega) z0) ?_
      by_cases z1 : K t = 1
      · refine br_t (by rw [z1]; rfl) (go _ ?_)
        rw [if_neg z0, if_pos z1, Y.2.1 0 c0]
      · exact br_f (ne (j := 1) (by omega) z1) (go _ (by rw [if_neg z0, if_neg z1]))
  exact ⟨25, k64 24 0 a_sets rfl (fun j _ => rfl) (fun n hn => by omega)⟩
theorem wy_prep26 {post : SY → Prop} {s n : Nat} (S : te_Sy K W E V a_kind a_with (40 * s) (40 * s + n)) (T : td_T c r d) (Y : re_YT c r d f_count a_row a_depth) (c0 : 0 < c) (hax : ∀ i, 40 * s ≤ i → i < 40 * s + n → K i = 2 → W i % 16 ≤ 10)
    (h : ∀ B top li ty nb st la, tk_Eq c r d a_name a_value K W E V (40 * s) (40 * s + n) (fun t n => B (24 * t + n)) → (∀ j, (j < 24 * (40 * s) ∨ 24 * (40 * s + n) ≤ j) → B j = a_sets j) →
      post (f_count, top, li, f_outputs, a_row, a_depth, a_name, a_value, a_moved, a_kind, a_with, a_length, B, a_fresh, ty, nb, st, la, a_there, a_match, a_priority, a_out, a_on, a_todo, a_within, a_output)) :
    ∃ n26, wY_prepare_26 post (nI s) n26 (nI n - 1) f_count f_top f_listed f_outputs a_row a_depth a_name a_value a_moved a_kind a_with a_length a_sets a_fresh a_type a_number a_set a_list a_there a_match a_priority a_out a_on a_todo a_within a_output := by
  have S' := S
  obtain ⟨l1, l2, D, hV, hw⟩ := S
  have key : ∀ k B top li ty nb st la, k ≤ n → tk_Eq c r d a_name a_value K W E V (40 * s + k) (40 * s + n) (fun t n => B (24 * t + n)) → (∀ j, (j < 24 * (40 * s) ∨ 24 * (40 * s + n) ≤ j) → B j = a_sets j) →
      wY_prepare_26 post (nI s) (k + 1) (nI k - 1) f_count top li f_outputs a_row a_depth a_name a_value a_moved a_kind a_with a_length B a_fresh ty nb st la a_there a_match a_priority a_out a_on a_todo a_within a_output := by
    intro k
    induction k with
    | zero =>
      intro B top li ty nb st la hk Q hB
      exact br_t (by decide) (h B top li ty nb st la Q hB)
    | succ k ih =>
      intro B top li ty nb st la hk Q hB
      rw [nI_pred]
      obtain ⟨d1, d2, -⟩ := D (40 * s + k) (by omega) (by omega)
      have e40 : (40 : Int32) * nI s + nI k = nI (40 * s + k) := by rw [show (40 : Int32) = nI 40 from rfl, pk_mul, nI_add]
      refine br_f (nI_pos (by omega)) ⟨by rw [e40]; exact vp_in_nI (by omega) (by omega), nm_r (e' := nI (K (40 * s + k))) (by rw [e40, nI_clamp (by omega)]; exact d1) ?_⟩
      by_cases z4 : K (40 * s + k) < 4
      · refine br_t (nI_le (b := 3) (by omega) (by omega)) (nm_r (e' := nI (24 * (40 * s + k))) (by rw [e40, show (24 : Int32) = nI 24 from rfl, pk_mul]) (wy_ptok (t := 40 * s + k) S' T Y c0 rfl rfl (by omega) (by omega) z4 (hax _ (by omega) (by omega)) Q (fun B' top' li' ty' nb' st' la' g1 g2 => ?_)))
        rw [tz_m1s]
        refine ih B' top' li' ty' nb' st' la' (by omega) (tk_fillS hw l1 (by omega) (by omega) Q (fun j a b' m hm => g1 _ (Or.inr (by omega))) (fun _ => g2)) (fun j hj => (g1 j (by omega)).trans (hB j hj))
      · refine br_f (nI_ge (a := 3) (by omega) (by omega)) (nm_r (tz_m1s _) (ih B top li ty nb st la (by omega) (fun i h1 h2 => ?_) hB))
        by_cases y : i = 40 * s + k
        · subst y
          exact fun w => absurd w z4
        · exact Q i (by omega) h2
  exact ⟨n + 1, key n a_sets f_top f_listed a_type a_number a_set a_list (Nat.le_refl _) (fun i h1 h2 => by omega) (fun j _ => rfl)⟩
end
