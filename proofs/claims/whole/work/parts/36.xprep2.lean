/-! all sets of a slot, by the component: the simple ones, and the whole slot -/
section
variable {f_nodeCount f_draftLength f_resultLength : Int32} {a_inUse a_parentOf a_rankOf a_nameOf a_valueOf a_order a_along a_draftKind a_draftValue a_draftEnd a_tokenKind a_tokenValue a_tokenEnd a_slotLength a_setAt a_amount a_reached a_agenda a_isTemplate a_matchSlot a_priorityOf a_outSlot a_onSlot a_waiting a_result : Nat → Int32} {c : Nat} {r d : Nat → Nat} {K W E : Nat → Nat} {V : Nat → Int32} {b L : Nat}
theorem wx_fillSimple {post : SX → Prop} {t : Nat} (S : te_Sl K W E V a_tokenKind a_tokenValue a_tokenEnd b L) (T : td_T c r d) (hnc : f_nodeCount = nI c) (ho : ∀ i, i < c → a_order i = nI (r i)) (hb : b ≤ t) (ht : t < L) (h4 : K t < 4) (h2 : K t ≠ 2)
    (Q : tk_Eq c r d a_nameOf a_valueOf K W E V (t + 1) L (fun t n => a_setAt (t * 24 + n)))
    (h : ∀ A, (∀ j, (∀ m, m < c → j ≠ t * 24 + r m) → A j = a_setAt j) → (∀ m, m < c → mk_24 (A (t * 24 + r m)) ∧ ∀ q, q < 24 → (bt (A (t * 24 + r m)) q = true ↔ tk_M c r d a_nameOf a_valueOf K W E V (fun t n => a_setAt (t * 24 + n)) t m q)) →
      post (f_nodeCount, f_draftLength, f_resultLength, a_inUse, a_parentOf, a_rankOf, a_nameOf, a_valueOf, a_order, a_along, a_draftKind, a_draftValue, a_draftEnd, a_tokenKind, a_tokenValue, a_tokenEnd, a_slotLength, A, a_amount, a_reached, a_agenda, a_isTemplate, a_matchSlot, a_priorityOf, a_outSlot, a_onSlot, a_waiting, a_result)) : wpX_fillSimpleSet post (f_nodeCount, f_draftLength, f_resultLength, a_inUse, a_parentOf, a_rankOf, a_nameOf, a_valueOf, a_order, a_along, a_draftKind, a_draftValue, a_draftEnd, a_tokenKind, a_tokenValue, a_tokenEnd, a_slotLength, a_setAt, a_amount, a_reached, a_agenda, a_isTemplate, a_matchSlot, a_priorityOf, a_outSlot, a_onSlot, a_waiting, a_result) (nI t) := by
  have c24 := T.1
  obtain ⟨l1, l2, D, hE, hw⟩ := S
  obtain ⟨d1, d2, d3⟩ := D t hb ht
  have et : (nI t).toNatClampNeg = t := nI_clamp (by omega)
  have vt : vp_in (nI t) 320 := vp_in_nI (by omega) (by omega)
  subst hnc
  have key : ∀ k i A, i + k = c → (∀ j, (∀ m, m < i → j ≠ t * 24 + r m) → A j = a_setAt j) → (∀ m, m < i → mk_24 (A (t * 24 + r m)) ∧ ∀ q, q < 24 → (bt (A (t * 24 + r m)) q = true ↔ tk_M c r d a_nameOf a_valueOf K W E V (fun t n => a_setAt (t * 24 + n)) t m q)) →
      wX_fillSimpleSet_2 post (nI t) (nI c) f_draftLength f_resultLength (k + 1) (nI i) a_inUse a_parentOf a_rankOf a_nameOf a_valueOf a_order a_along a_draftKind a_draftValue a_draftEnd a_tokenKind a_tokenValue a_tokenEnd a_slotLength A a_amount a_reached a_agenda a_isTemplate a_matchSlot a_priorityOf a_outSlot a_onSlot a_waiting a_result := by
    intro k
    induction k with
    | zero =>
      intro i A hi g1 g2
      have e : i = c := by omega
      subst e
      exact br_t (nI_le (Nat.le_refl _) (by omega)) (h A g1 g2)
    | succ k ih =>
      intro i A hi g1 g2
      have ri := T.2.2.2.1 i (by omega)
      have s89 : ∀ x : Int32, mk_24 x → (∀ q, q < 24 → (bt x q = true ↔ tk_M c r d a_nameOf a_valueOf K W E V (fun t n => a_setAt (t * 24 + n)) t i q)) → wX_fillSimpleSet_89 post (wX_fillSimpleSet_2 post (nI t) (nI c) f_draftLength f_resultLength (k + 1)) (nI t) (nI i) (nI (r i)) x (nI c) f_draftLength f_resultLength a_inUse a_parentOf a_rankOf a_nameOf a_valueOf a_order a_along a_draftKind a_draftValue a_draftEnd a_tokenKind a_tokenValue a_tokenEnd a_slotLength A a_amount a_reached a_agenda a_isTemplate a_matchSlot a_priorityOf a_outSlot a_onSlot a_waiting a_result := by
        intro x hx1 hx2
        unfold wX_fillSimpleSet_89
        refine ⟨by rw [te_ix]; exact vp_in_nI (by omega) (by omega), nm_r (e' := upd A (t * 24 + r i) x) (by rw [te_ix, nI_clamp (by omega)]) (nm_r (nI_1 i) (ih (i + 1) _ (by omega) (fun j hj => ?_) (fun m hm' => ?_)))⟩
        · rw [pk_un (hj i (by omega))]
          exact g1 j (fun m hm' => hj m (by omega))
        · by_cases z : m = i
          · subst z
            rw [pk_us]
            exact ⟨hx1, hx2⟩
          · rw [pk_un (fun e => z (T.2.2.2.2 m i (by omega) (by omega) (by omega)))]
            exact g2 m (by omega)
      refine br_f (nI_ge (by omega) (by omega)) ⟨vp_in_nI (by omega) (by omega), nm_r (e' := nI (r i)) (by rw [nI_clamp (by omega)]; exact ho i (by omega)) (nm_e ⟨vt, ?_⟩)⟩
      rw [et, d1]
      by_cases z1 : K t = 1
      · refine br_t (by rw [z1]; rfl) (s89 1 (fun q hq => by rw [mk_b1, decide_eq_false (by omega)]) (fun q hq => ?_))
        rw [mk_b1, decide_eq_true_iff]
        unfold tk_M
        rw [if_neg (by omega), if_pos z1, T.2.2.1]
      refine br_f (fun w => z1 ((nI_eq (b := 1) (by omega) (by omega)).mp w)) ⟨vt, ?_⟩
      by_cases z3 : K t = 3
      · have s := te_two hw hb ht (te_o_un z3)
        have o0 := te_op hw hb ht (t := 0) (by rw [te_o_un z3]; omega)
        have o1 := te_op hw hb ht (t := 1) (by rw [te_o_un z3]; omega)
        have l0 : ∀ t', te_lo (K t) t' = 0 := fun t' => te_lo0 (by omega) (by omega)
        rw [l0] at o0 o1
        have q1 := (Q (t + 1) (Nat.le_refl _) s.1 (te_ty_0.mp o0.2.2) i (by omega)).1
        have q2 := (Q (E (t + 1)) (by omega) s.2.2.1 (te_ty_0.mp o1.2.2) i (by omega)).1
        have f1 : A ((t + 1) * 24 + r i) = a_setAt ((t + 1) * 24 + r i) := g1 _ (fun m hm' e => by have := T.2.2.2.1 m (by omega); omega)
        have f2 : A (E (t + 1) * 24 + r i) = a_setAt (E (t + 1) * 24 + r i) := g1 _ (fun m hm' e => by have := T.2.2.2.1 m (by omega); omega)
        refine br_t (by rw [z3]; rfl) (nm_r (nI_1 t) ⟨vp_in_nI (by omega) (by omega), nm_r (e' := nI (E (t + 1))) (by rw [nI_clamp (by omega)]; exact (hE (t + 1) (by omega) s.1).1) ⟨by rw [te_ix]; exact vp_in_nI (by omega) (by omega), by rw [te_ix]; exact vp_in_nI (by omega) (by omega), nm_r (e' := a_setAt ((t + 1) * 24 + r i) ||| a_setAt (E (t + 1) * 24 + r i)) (by rw [te_ix, te_ix, nI_clamp (by omega), nI_clamp (by omega), f1, f2]) (s89 _ (mk_24_or q1 q2) (fun q hq => ?_))⟩⟩)
        rw [b_or, Bool.or_eq_true]
        unfold tk_M
        rw [if_neg (by omega), if_neg z1, if_pos z3]
      · have z0 : K t = 0 := by omega
        refine br_f (fun w => z3 ((nI_eq (b := 3) (by omega) (by omega)).mp w)) (s89 _ (mk_24_sh ri) (fun q hq => ?_))
        rw [mk_sh _ (by omega), decide_eq_true_iff]
        unfold tk_M
        rw [if_pos z0]
  exact ⟨c + 1, key c 0 a_setAt (by omega) (fun j _ => rfl) (fun m hm' => by omega)⟩
/-- the equation at a token just filled, and those behind it -/
theorem tk_fill {t : Nat} {A B : Nat → Int32} (T : td_T c r d) (hw : te_Ws K W E b L) (hL : L ≤ 320) (hb : b ≤ t) (ht : t < L)
    (Q : tk_Eq c r d a_nameOf a_valueOf K W E V (t + 1) L (fun t n => A (t * 24 + n))) (g1 : ∀ j, (∀ m, m < c → j ≠ t * 24 + r m) → B j = A j)
    (g2 : K t < 4 → ∀ m, m < c → mk_24 (B (t * 24 + r m)) ∧ ∀ q, q < 24 → (bt (B (t * 24 + r m)) q = true ↔ tk_M c r d a_nameOf a_valueOf K W E V (fun t n => A (t * 24 + n)) t m q)) :
    tk_Eq c r d a_nameOf a_valueOf K W E V t L (fun t n => B (t * 24 + n)) := by
  have same : ∀ j, t < j → ∀ m, m < c → B (j * 24 + r m) = A (j * 24 + r m) := fun j hj m hm => g1 _ (fun m' hm' e => by have := T.2.2.2.1 m' hm'; have := T.2.2.2.1 m hm; omega)
  intro i h1 h2
  by_cases z : i = t
  · subst z
    intro h4 m hm
    obtain ⟨x1, x2⟩ := g2 h4 m hm
    exact ⟨x1, fun q hq => (x2 q hq).trans (tk_M_c hw (by omega) hb ht h4 hm (fun j a b' _ m hm => (same j a m hm).symm))⟩
  · exact tk_Q_c hw (by omega) (by omega) h2 (fun j a b' _ m hm => (same j (by omega) m hm).symm) (Q i (by omega) h2)
theorem wx_prepare {post : SX → Prop} {s n : Nat} (S : te_Sl K W E V a_tokenKind a_tokenValue a_tokenEnd (40 * s) (40 * s + n)) (hsl : a_slotLength s = nI n) (hs : s < 8) (T : td_T c r d) (c0 : 0 < c) (hnc : f_nodeCount = nI c) (ho : ∀ i, i < c → a_order i = nI (r i)) (hal : tx_Rep a_along (tx_R0 r d c))
    (hax : ∀ i, 40 * s ≤ i → i < 40 * s + n → K i = 2 → W i % 16 ≤ 10)
    (h : ∀ A re am ag, tk_Eq c r d a_nameOf a_valueOf K W E V (40 * s) (40 * s + n) (fun t n => A (t * 24 + n)) → (∀ j, (j < 40 * s * 24 ∨ (40 * s + n) * 24 ≤ j) → A j = a_setAt j) → post (f_nodeCount, f_draftLength, f_resultLength, a_inUse, a_parentOf, a_rankOf, a_nameOf, a_valueOf, a_order, a_along, a_draftKind, a_draftValue, a_draftEnd, a_tokenKind, a_tokenValue, a_tokenEnd, a_slotLength, A, am, re, ag, a_isTemplate, a_matchSlot, a_priorityOf, a_outSlot, a_onSlot, a_waiting, a_result)) :
    wpX_prepare post (f_nodeCount, f_draftLength, f_resultLength, a_inUse, a_parentOf, a_rankOf, a_nameOf, a_valueOf, a_order, a_along, a_draftKind, a_draftValue, a_draftEnd, a_tokenKind, a_tokenValue, a_tokenEnd, a_slotLength, a_setAt, a_amount, a_reached, a_agenda, a_isTemplate, a_matchSlot, a_priorityOf, a_outSlot, a_onSlot, a_waiting, a_result) (nI s) := by
  have S' := S
  obtain ⟨l1, l2, D, hE, hw⟩ := S
  have key : ∀ k A re am ag, 40 * s + k ≤ 40 * s + n → tk_Eq c r d a_nameOf a_valueOf K W E V (40 * s + k) (40 * s + n) (fun t n => A (t * 24 + n)) → (∀ j, (j < 40 * s * 24 ∨ (40 * s + n) * 24 ≤ j) → A j = a_setAt j) →
      wX_prepare_16 post (nI (40 * s)) (k + 1) (nI (40 * s + k) - 1) f_nodeCount f_draftLength f_resultLength a_inUse a_parentOf a_rankOf a_nameOf a_valueOf a_order a_along a_draftKind a_draftValue a_draftEnd a_tokenKind a_tokenValue a_tokenEnd a_slotLength A am re ag a_isTemplate a_matchSlot a_priorityOf a_outSlot a_onSlot a_waiting a_result := by
    intro k
    induction k with
    | zero =>
      intro A re am ag hk Q hA
      exact br_t ((tz_pm2 (by omega) (by omega)).mpr (by omega)) (h A re am ag Q hA)
    | succ k ih =>
      intro A re am ag hk Q hA
      rw [show 40 * s + (k + 1) = 40 * s + k + 1 by omega, nI_pred]
      obtain ⟨d1, d2, -⟩ := D (40 * s + k) (by omega) (by omega)
      have et : (nI (40 * s + k)).toNatClampNeg = 40 * s + k := nI_clamp (by omega)
      have vt : vp_in (nI (40 * s + k)) 320 := vp_in_nI (by omega) (by omega)
      have nxt : ∀ B re am ag, (∀ j, (∀ m, m < c → j ≠ (40 * s + k) * 24 + r m) → B j = A j) → (K (40 * s + k) < 4 → ∀ m, m < c → mk_24 (B ((40 * s + k) * 24 + r m)) ∧ ∀ q, q < 24 → (bt (B ((40 * s + k) * 24 + r m)) q = true ↔ tk_M c r d a_nameOf a_valueOf K W E V (fun t n => A (t * 24 + n)) (40 * s + k) m q)) →
          wX_prepare_16 post (nI (40 * s)) (k + 1) (nI (40 * s + k) - 1) f_nodeCount f_draftLength f_resultLength a_inUse a_parentOf a_rankOf a_nameOf a_valueOf a_order a_along a_draftKind a_draftValue a_draftEnd a_tokenKind a_tokenValue a_tokenEnd a_slotLength B am re ag a_isTemplate a_matchSlot a_priorityOf a_outSlot a_onSlot a_waiting a_result := fun B re am ag g1 g2 =>
        ih B re am ag (by omega) (tk_fill T hw l1 (by omega) (by omega) Q g1 g2) (fun j hj => (g1 j (fun m hm e => by have := T.2.2.2.1 m hm; omega)).trans (hA j hj))
      refine br_f (nI_nlt (by omega) (by omega)) ⟨vt, ?_⟩
      rw [et, d1]
      by_cases z2 : K (40 * s + k) = 2
      · exact br_t (by rw [z2]; rfl) (wx_fillStep S' T c0 hnc ho hal (by omega) (by omega) z2 (hax _ (by omega) (by omega) z2) Q (fun B re am ag g1 g2 => nm_r (tz_m1s _) (nxt B re am ag g1 (fun _ => g2))))
      · refine br_f (fun w => z2 ((nI_eq (b := 2) (by omega) (by omega)).mp w)) ⟨vt, ?_⟩
        by_cases z4 : K (40 * s + k) < 4
        · exact br_f (nI_nlt (a := 3) (by omega) (by omega)) (wx_fillSimple S' T hnc ho (by omega) (by omega) z4 z2 Q (fun B g1 g2 => nm_r (tz_m1s _) (nxt B re am ag g1 (fun _ => g2))))
        · exact br_t (nI_lt (a := 3) (by omega) (by omega)) (nm_r (tz_m1s _) (nxt A re am ag (fun _ _ => rfl) (fun w => absurd w z4)))
  unfold wpX_prepare
  refine nm_r (e' := nI (40 * s)) (by rw [show (40 : Int32) = nI 40 from rfl, pk_mul, Nat.mul_comm]) ⟨vp_in_nI hs (by omega), nm_r (e' := nI (40 * s + n) - 1) (by rw [nI_clamp (by omega), hsl, nI_add]) ⟨n + 1, key n a_setAt a_reached a_amount a_agenda (Nat.le_refl _) (fun i h1 h2 => by omega) (fun j _ => rfl)⟩⟩
end
