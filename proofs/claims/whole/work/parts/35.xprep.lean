/-! all sets of a slot, by the component -/
theorem tz_pm2 {m j : Nat} (hm : m < 2 ^ 31) (hj : j < 2 ^ 31) : nI m - 1 < nI j ↔ m ≤ j := by
  rcases Nat.eq_zero_or_pos m with z | z
  · subst z
    refine ⟨fun _ => Nat.zero_le _, fun _ => ?_⟩
    rw [show nI 0 - 1 = (-1 : Int32) from by decide]
    exact Int32.lt_of_lt_of_le tz_m1lt (nI_pos' hj)
  · rw [show nI m - 1 = nI (m - 1) from pk_sub (a := m) (b := 1) z, nI_ltI (by omega) hj]
    omega
section
variable {f_nodeCount f_draftLength f_resultLength : Int32} {a_inUse a_parentOf a_rankOf a_nameOf a_valueOf a_order a_along a_draftKind a_draftValue a_draftEnd a_tokenKind a_tokenValue a_tokenEnd a_slotLength a_setAt a_amount a_reached a_agenda a_isTemplate a_matchSlot a_priorityOf a_outSlot a_onSlot a_waiting a_result : Nat → Int32} {c : Nat} {r d : Nat → Nat} {K W E : Nat → Nat} {V : Nat → Int32} {b L : Nat}
theorem wx_axis {post : Int32 → Prop} {w : Nat} (hw : w < 2 ^ 31) (h : post (nI (w % 16))) : wpX_axisOf post (f_nodeCount, f_draftLength, f_resultLength, a_inUse, a_parentOf, a_rankOf, a_nameOf, a_valueOf, a_order, a_along, a_draftKind, a_draftValue, a_draftEnd, a_tokenKind, a_tokenValue, a_tokenEnd, a_slotLength, a_setAt, a_amount, a_reached, a_agenda, a_isTemplate, a_matchSlot, a_priorityOf, a_outSlot, a_onSlot, a_waiting, a_result) (nI w) := by
  unfold wpX_axisOf
  show post (nI w &&& 15)
  rw [show nI w &&& 15 = nI (w % 16) from pk_andN (by omega) 4 (by decide)]
  exact h
theorem wx_tests {post : Int32 → Prop} {w : Nat} (hw : w < 2 ^ 31) (h : post (nI (w / 128))) : wpX_testsOf post (f_nodeCount, f_draftLength, f_resultLength, a_inUse, a_parentOf, a_rankOf, a_nameOf, a_valueOf, a_order, a_along, a_draftKind, a_draftValue, a_draftEnd, a_tokenKind, a_tokenValue, a_tokenEnd, a_slotLength, a_setAt, a_amount, a_reached, a_agenda, a_isTemplate, a_matchSlot, a_priorityOf, a_outSlot, a_onSlot, a_waiting, a_result) (nI w) := by
  unfold wpX_testsOf
  show post (nI w >>> ((7 : Int32) &&& 31))
  rw [pk_shrN hw _ 7 (by decide)]
  exact h
theorem wx_sname {post : Int32 → Prop} {w : Nat} (hw : w < 2 ^ 31) (h : post (nI (w / 16 % 8))) : wpX_stepNameOf post (f_nodeCount, f_draftLength, f_resultLength, a_inUse, a_parentOf, a_rankOf, a_nameOf, a_valueOf, a_order, a_along, a_draftKind, a_draftValue, a_draftEnd, a_tokenKind, a_tokenValue, a_tokenEnd, a_slotLength, a_setAt, a_amount, a_reached, a_agenda, a_isTemplate, a_matchSlot, a_priorityOf, a_outSlot, a_onSlot, a_waiting, a_result) (nI w) := by
  unfold wpX_stepNameOf
  show post ((nI w >>> ((4 : Int32) &&& 31)) &&& 7)
  rw [pk_shrN hw _ 4 (by decide), show nI (w / 2 ^ 4) &&& 7 = nI (w / 2 ^ 4 % 8) from pk_andN (by omega) 3 (by decide)]
  exact h
theorem wx_gather {post : SX → Prop} {t : Nat} (T : td_T c r d) (hnc : f_nodeCount = nI c) (ho : ∀ i, i < c → a_order i = nI (r i)) (ht : t + 1 < 320)
    (hm : ∀ m, m < c → ∀ g, g < 24 → bt (a_setAt ((t + 1) * 24 + r m)) g = true → mk_24 (a_reached g))
    (h : ∀ A, (∀ j, (∀ m, m < c → j ≠ t * 24 + r m) → A j = a_setAt j) → (∀ m, m < c → mk_24 (A (t * 24 + r m)) ∧ ∀ q, q < 24 → (bt (A (t * 24 + r m)) q = true ↔ ∃ g, g < 24 ∧ bt (a_setAt ((t + 1) * 24 + r m)) g = true ∧ bt (a_reached g) q = true)) → post (f_nodeCount, f_draftLength, f_resultLength, a_inUse, a_parentOf, a_rankOf, a_nameOf, a_valueOf, a_order, a_along, a_draftKind, a_draftValue, a_draftEnd, a_tokenKind, a_tokenValue, a_tokenEnd, a_slotLength, A, a_amount, a_reached, a_agenda, a_isTemplate, a_matchSlot, a_priorityOf, a_outSlot, a_onSlot, a_waiting, a_result)) :
    wpX_gatherReached post (f_nodeCount, f_draftLength, f_resultLength, a_inUse, a_parentOf, a_rankOf, a_nameOf, a_valueOf, a_order, a_along, a_draftKind, a_draftValue, a_draftEnd, a_tokenKind, a_tokenValue, a_tokenEnd, a_slotLength, a_setAt, a_amount, a_reached, a_agenda, a_isTemplate, a_matchSlot, a_priorityOf, a_outSlot, a_onSlot, a_waiting, a_result) (nI t) := by
  have c24 := T.1
  subst hnc
  have key : ∀ k i A, i + k = c → (∀ j, (∀ m, m < i → j ≠ t * 24 + r m) → A j = a_setAt j) → (∀ m, m < i → mk_24 (A (t * 24 + r m)) ∧ ∀ q, q < 24 → (bt (A (t * 24 + r m)) q = true ↔ ∃ g, g < 24 ∧ bt (a_setAt ((t + 1) * 24 + r m)) g = true ∧ bt (a_reached g) q = true)) →
      wX_gatherReached_2 post (nI t) (nI c) f_draftLength f_resultLength (k + 1) (nI i) a_inUse a_parentOf a_rankOf a_nameOf a_valueOf a_order a_along a_draftKind a_draftValue a_draftEnd a_tokenKind a_tokenValue a_tokenEnd a_slotLength A a_amount a_reached a_agenda a_isTemplate a_matchSlot a_priorityOf a_outSlot a_onSlot a_waiting a_result := by
    intro k
    induction k with
    | zero =>
      intro i A hi g1 g2
      have e : i = c := by omega
      subst e
      exact br_t (nI_le (Nat.le_refl _) (by omega)) (h A g1 g2)
    | succ k ih =>
      intro i A hi g1 g2
      have ri := T.2.2.2.1 i (by omega)
      have i1 : (nI t + 1) * 24 + nI (r i) = nI ((t + 1) * 24 + r i) := by rw [nI_1, te_ix]
      have fr : A ((t + 1) * 24 + r i) = a_setAt ((t + 1) * 24 + r i) := g1 _ (fun m hm' e => by have := T.2.2.2.1 m (by omega); omega)
      have inner : ∀ k' g st, g + k' = 24 → mk_24 st → (∀ q, q < 24 → (bt st q = true ↔ ∃ g', g' < g ∧ bt (a_setAt ((t + 1) * 24 + r i)) g' = true ∧ bt (a_reached g') q = true)) →
          wX_gatherReached_38 post (wX_gatherReached_2 post (nI t) (nI c) f_draftLength f_resultLength (k + 1)) (nI t) (nI i) (nI (r i)) (a_setAt ((t + 1) * 24 + r i)) (nI c) f_draftLength f_resultLength a_inUse a_parentOf a_rankOf a_nameOf a_valueOf a_order a_along a_draftKind a_draftValue a_draftEnd a_tokenKind a_tokenValue a_tokenEnd a_slotLength A a_amount a_reached a_agenda a_isTemplate a_matchSlot a_priorityOf a_outSlot a_onSlot a_waiting a_result (k' + 1) st (nI g) := by
        intro k'
        induction k' with
        | zero =>
          intro g st hg h24 hst
          have e : g = 24 := by omega
          subst e
          refine br_t (nI_le (a := 24) (b := 24) (by omega) (by omega)) ⟨by rw [te_ix]; exact vp_in_nI (by omega) (by omega), nm_r (e' := upd A (t * 24 + r i) st) (by rw [te_ix, nI_clamp (by omega)]) (nm_r (nI_1 i) (ih (i + 1) _ (by omega) (fun j hj => ?_) (fun m hm' => ?_)))⟩
          · rw [pk_un (hj i (by omega))]
            exact g1 j (fun m hm' => hj m (by omega))
          · by_cases z : m = i
            · subst z
              rw [pk_us]
              exact ⟨h24, hst⟩
            · rw [pk_un (fun e => z (T.2.2.2.2 m i (by omega) (by omega) (by omega)))]
              exact g2 m (by omega)
        | succ k' ih' =>
          intro g st hg h24 hst
          refine br_f (nI_ge (a := g) (b := 24) (by omega) (by omega)) ?_
          by_cases z : bt (a_setAt ((t + 1) * 24 + r i)) g = true
          · have hm24 := hm i (by omega) g (by omega) z
            refine br_f (fun w => by rw [mk_f (by omega), z] at w; cases w) ⟨vp_in_nI (by omega) (by omega), nm_r (e' := st ||| a_reached g) (by rw [nI_clamp (by omega)]) (nm_r (nI_1 g) (ih' (g + 1) _ (by omega) (mk_24_or h24 hm24) (fun q hq => ?_)))⟩
            rw [b_or, Bool.or_eq_true, hst q hq]
            constructor
            · rintro (⟨g', w1, w2⟩ | w)
              · exact ⟨g', by omega, w2⟩
              · exact ⟨g, by omega, z, w⟩
            · rintro ⟨g', w1, w2, w3⟩
              by_cases y : g' = g
              · subst y; exact Or.inr w3
              · exact Or.inl ⟨g', by omega, w2, w3⟩
          · refine br_t ((mk_f (by omega)).mpr (tz_nb z)) (nm_r (nI_1 g) (ih' (g + 1) _ (by omega) h24 (fun q hq => ?_)))
            rw [hst q hq]
            constructor
            · rintro ⟨g', w1, w2⟩
              exact ⟨g', by omega, w2⟩
            · rintro ⟨g', w1, w2, w3⟩
              by_cases y : g' = g
              · subst y; exact absurd w2 z
              · exact ⟨g', by omega, w2, w3⟩
      refine br_f (nI_ge (by omega) (by omega)) ⟨vp_in_nI (by omega) (by omega), nm_r (e' := nI (r i)) (by rw [nI_clamp (by omega)]; exact ho i (by omega)) ⟨by rw [i1]; exact vp_in_nI (by omega) (by omega), nm_r (e' := a_setAt ((t + 1) * 24 + r i)) (by rw [i1, nI_clamp (by omega)]; exact fr) ⟨25, inner 24 0 0 rfl mk_24_0 (fun q hq => ?_)⟩⟩⟩
      rw [b_0]
      exact ⟨fun w => (by cases w), fun ⟨g', w1, _⟩ => by omega⟩
  exact ⟨c + 1, key c 0 a_setAt (by omega) (fun j _ => rfl) (fun m hm' => by omega)⟩
/-- the list before any test -/
theorem tk_S0_Mi {t m : Nat} {x y : Int32} (T : td_T c r d) (hm : m < c) (hx : mk_24 x ∧ ∀ q, q < 24 → (bt x q = true ↔ tx_R0 r d c (W t % 16) (r m) q)) (hy : tk_Mi r (fun i => tk_d (W t / 16 % 8 = 6 ∨ a_nameOf (r i) = nI (W t / 16 % 8))) c y) {σ : Nat → Nat → Int32} :
    tk_Mi (fun i => r (tk_pi c (W t % 16) i)) (tk_S c r d a_nameOf a_valueOf K W E V σ t m 0) c (x &&& y) := by
  refine ⟨mk_24_and hx.1, fun q hq => ?_⟩
  rw [b_and, Bool.and_eq_true, hx.2 q hq, hy.2 q hq]
  constructor
  · rintro ⟨⟨a, l, ha, hl, e1, e2, e3⟩, ⟨l', hl', e4, e5⟩⟩
    rw [T.2.2.2.2 a m ha hm e1] at e3
    have ll : l' = l := T.2.2.2.2 l' l hl' hl (by rw [e4, e2])
    subst ll
    have pp := tk_pi_pi (ax := W t % 16) hl
    refine ⟨tk_pi c (W t % 16) l', tk_pi_lt hl, (by show r (tk_pi c (W t % 16) (tk_pi c (W t % 16) l')) = q; rw [pp]; exact e2), ?_⟩
    show tk_d _ = true
    rw [pp]
    exact tk_d_t.mpr ⟨e3, tk_d_t.mp e5⟩
  · rintro ⟨i, hi, e1, e2⟩
    have e3 := tk_d_t.mp e2
    exact ⟨⟨m, tk_pi c (W t % 16) i, hm, tk_pi_lt hi, rfl, e1, e3.1⟩, ⟨tk_pi c (W t % 16) i, tk_pi_lt hi, e1, tk_d_t.mpr e3.2⟩⟩
theorem wx_fillStep {post : SX → Prop} {t : Nat} (S : te_Sl K W E V a_tokenKind a_tokenValue a_tokenEnd b L) (T : td_T c r d) (c0 : 0 < c) (hnc : f_nodeCount = nI c) (ho : ∀ i, i < c → a_order i = nI (r i)) (hal : tx_Rep a_along (tx_R0 r d c)) (hb : b ≤ t) (ht : t < L) (h2 : K t = 2) (hax : W t % 16 ≤ 10)
    (Q : tk_Eq c r d a_nameOf a_valueOf K W E V (t + 1) L (fun t n => a_setAt (t * 24 + n)))
    (h : ∀ A re am ag, (∀ j, (∀ m, m < c → j ≠ t * 24 + r m) → A j = a_setAt j) → (∀ m, m < c → mk_24 (A (t * 24 + r m)) ∧ ∀ q, q < 24 → (bt (A (t * 24 + r m)) q = true ↔ tk_M c r d a_nameOf a_valueOf K W E V (fun t n => a_setAt (t * 24 + n)) t m q)) →
      post (f_nodeCount, f_draftLength, f_resultLength, a_inUse, a_parentOf, a_rankOf, a_nameOf, a_valueOf, a_order, a_along, a_draftKind, a_draftValue, a_draftEnd, a_tokenKind, a_tokenValue, a_tokenEnd, a_slotLength, A, am, re, ag, a_isTemplate, a_matchSlot, a_priorityOf, a_outSlot, a_onSlot, a_waiting, a_result)) : wpX_fillStep post (f_nodeCount, f_draftLength, f_resultLength, a_inUse, a_parentOf, a_rankOf, a_nameOf, a_valueOf, a_order, a_along, a_draftKind, a_draftValue, a_draftEnd, a_tokenKind, a_tokenValue, a_tokenEnd, a_slotLength, a_setAt, a_amount, a_reached, a_agenda, a_isTemplate, a_matchSlot, a_priorityOf, a_outSlot, a_onSlot, a_waiting, a_result) (nI t) := by
  have c24 := T.1
  have S' := S
  obtain ⟨l1, l2, D, hE, hw⟩ := S
  obtain ⟨d1, d2, d3⟩ := D t hb ht
  obtain ⟨d4, d5⟩ := d3 h2
  have ot := te_o_st (w := W t) h2
  have o0 := te_op hw hb ht (t := 0) (by omega)
  have t1 : t + 1 < L := o0.2.1
  have k1 : K (t + 1) < 4 := by
    have := o0.2.2
    rw [show te_lo (K t) 0 = 0 by unfold te_lo; rw [if_pos h2, if_pos rfl]] at this
    exact te_ty_0.mp this
  have et : (nI t).toNatClampNeg = t := nI_clamp (by omega)
  have tins := tk_in (te_Ws_up hw (b' := t + 1) (by omega)) c0 Q (t + 1) t1 (Nat.le_refl _) k1
  have chE : ∀ j, j < 1 + W t / 128 → te_ch E (t + 1) j < L ∧ t < te_ch E (t + 1) j := fun j hj => by
    have o := te_op hw hb ht (t := j) (by omega)
    exact ⟨o.2.1, o.1⟩
  subst hnc
  have outer : ∀ nmd, tk_Mi r (fun i => tk_d (W t / 16 % 8 = 6 ∨ a_nameOf (r i) = nI (W t / 16 % 8))) c nmd → ∀ k i re am ag, i + k = c →
      (∀ m, m < i → tk_Mi (fun i => r (tk_pi c (W t % 16) i)) (tk_S c r d a_nameOf a_valueOf K W E V (fun t n => a_setAt (t * 24 + n)) t m (W t / 128)) c (re (r m))) →
      wX_fillStep_38 post (nI t) (nI (W t % 16)) (nI (W t / 128)) nmd (k + 1) (nI i) (nI c) f_draftLength f_resultLength a_inUse a_parentOf a_rankOf a_nameOf a_valueOf a_order a_along a_draftKind a_draftValue a_draftEnd a_tokenKind a_tokenValue a_tokenEnd a_slotLength a_setAt am re ag a_isTemplate a_matchSlot a_priorityOf a_outSlot a_onSlot a_waiting a_result := by
    intro nmd hn k
    induction k with
    | zero =>
      intro i re am ag hi hre
      have e : i = c := by omega
      subst e
      refine br_t (nI_le (Nat.le_refl _) (by omega)) (wx_gather T rfl ho (by omega) (fun m hm g hg hgb => ?_) (fun A g1 g2 => h A re am ag g1 (fun m hm => ⟨(g2 m hm).1, fun q hq => ?_⟩)))
      · obtain ⟨l, hl, el⟩ := tins m hm g hg hgb
        rw [← el]
        exact (hre l hl).1
      · rw [(g2 m hm).2 q hq]
        unfold tk_M
        rw [if_neg (by omega), if_neg (by omega), if_neg (by omega)]
        constructor
        · rintro ⟨g, hg, w1, w2⟩
          obtain ⟨l, hl, el⟩ := tins m hm g hg w1
          subst el
          exact ⟨l, hl, w1, ((hre l hl).2 q hq).mp w2⟩
        · rintro ⟨l, hl, w1, w2⟩
          exact ⟨r l, T.2.2.2.1 l hl, w1, ((hre l hl).2 q hq).mpr w2⟩
    | succ k ih =>
      intro i re am ag hi hre
      have ri := T.2.2.2.1 i (by omega)
      have inner : ∀ u j x am ag, j + u = W t / 128 → tk_Mi (fun i => r (tk_pi c (W t % 16) i)) (tk_S c r d a_nameOf a_valueOf K W E V (fun t n => a_setAt (t * 24 + n)) t i j) c x →
          wX_fillStep_86 post (wX_fillStep_38 post (nI t) (nI (W t % 16)) (nI (W t / 128)) nmd (k + 1)) (nI t) (nI (W t % 16)) (nI (W t / 128)) nmd (nI i) (nI (r i)) (u + 1) x (nI (te_ch E (t + 1) (j + 1))) (nI j) (nI c) f_draftLength f_resultLength a_inUse a_parentOf a_rankOf a_nameOf a_valueOf a_order a_along a_draftKind a_draftValue a_draftEnd a_tokenKind a_tokenValue a_tokenEnd a_slotLength a_setAt am re ag a_isTemplate a_matchSlot a_priorityOf a_outSlot a_onSlot a_waiting a_result := by
        intro u
        induction u with
        | zero =>
          intro j x am ag hj hx
          have e : j = W t / 128 := by omega
          refine br_t (nI_le (by omega) (by omega)) ⟨vp_in_nI ri (by omega), nm_r (e' := upd re (r i) x) (by rw [nI_clamp (by omega)]) (nm_r (nI_1 i) (ih (i + 1) _ am ag (by omega) (fun m hm => ?_)))⟩
          by_cases z : m = i
          · subst z
            rw [pk_us, ← e]; exact hx
          · rw [pk_un (fun w => z (T.2.2.2.2 m i (by omega) (by omega) w))]
            exact hre m (by omega)
        | succ u iu =>
          intro j x am ag hj hx
          obtain ⟨y1, y2⟩ := chE (j + 1) (by omega)
          refine br_f (nI_ge (by omega) (by omega)) (wx_sift (y := te_ch E (t + 1) (j + 1)) S' T rfl ho (by omega) y1 (by omega) hx (fun res am' ag' hres => ⟨vp_in_nI (by omega) (by omega), nm_r (e' := nI (te_ch E (t + 1) (j + 1 + 1))) ?_ (nm_r (nI_1 j) (iu (j + 1) res am' ag' (by omega) hres))⟩))
          rw [nI_clamp (by omega), (hE _ (by omega) y1).1]
          rfl
      refine br_f (nI_ge (by omega) (by omega)) ⟨vp_in_nI (by omega) (by omega), nm_r (e' := nI (r i)) (by rw [nI_clamp (by omega)]; exact ho i (by omega)) ⟨by rw [te_ix]; exact vp_in_nI (by omega) (by omega), nm_r (e' := a_along (W t % 16 * 24 + r i) &&& nmd) (by rw [te_ix, nI_clamp (by omega)]) ⟨by rw [nI_1]; exact vp_in_nI (by omega) (by omega), nm_r (e' := nI (te_ch E (t + 1) 1)) ?_ ⟨W t / 128 + 1, inner (W t / 128) 0 _ am ag (by omega) (tk_S0_Mi T (by omega) (hal (W t % 16) (by omega) (r i) ri) hn)⟩⟩⟩⟩
      rw [nI_1, nI_clamp (by omega)]
      exact (hE (t + 1) (by omega) t1).1
  unfold wpX_fillStep
  refine ⟨vp_in_nI (by omega) (by omega), nm_r (e' := nI (W t)) (by rw [et]; exact d4) (wx_axis (by omega) (wx_tests (by omega) (wx_sname (by omega) (wx_named T rfl ho (by omega) (fun nmd hn => ⟨c + 1, outer nmd hn c 0 a_reached a_amount a_agenda (by omega) (fun m hm => by omega)⟩)))))⟩
end
