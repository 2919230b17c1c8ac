/-! the tokens that are worked out as numbers: those that lie in no set -/
def tg_nx (K E : Nat → Nat) (j : Nat) : Nat := if K j < 4 then E j else j + 1
def tg_it (K E : Nat → Nat) (j : Nat) : Nat → Nat
  | 0 => j
  | n + 1 => tg_nx K E (tg_it K E j n)
theorem tg_it_s (K E : Nat → Nat) (j n : Nat) : tg_it K E j (n + 1) = tg_nx K E (tg_it K E j n) := rfl
theorem tg_it_add (K E : Nat → Nat) (j a : Nat) : ∀ n, tg_it K E (tg_it K E j a) n = tg_it K E j (a + n)
  | 0 => rfl
  | n + 1 => by rw [tg_it_s, tg_it_add K E j a n]; rfl
theorem tg_nx_gt {K W E : Nat → Nat} {b L j : Nat} (h : te_Ws K W E b L) (hb : b ≤ j) (hj : j < L) : j < tg_nx K E j ∧ tg_nx K E j ≤ E j := by
  have g := te_E_gt h hb hj
  unfold tg_nx
  split <;> omega
theorem tg_reach {K W E : Nat → Nat} {b L : Nat} (h : te_Ws K W E b L) : ∀ j, j < L → b ≤ j → ∃ n, 0 < n ∧ tg_it K E j n = E j ∧ ∀ t, t < n → tg_it K E j t < E j := by
  refine te_down L ?_
  intro j hj ih hb
  have g := te_E_gt h hb hj
  by_cases z : K j < 4
  · refine ⟨1, by omega, ?_, fun t ht => ?_⟩
    · show tg_nx K E j = E j
      unfold tg_nx; rw [if_pos z]
    · have : t = 0 := by omega
      subst this; exact g
  · obtain ⟨w1, w2⟩ := h j hb hj
    have bd := (te_bnd h j hj hb).2.2
    have nx : tg_nx K E j = j + 1 := by unfold tg_nx; rw [if_neg z]
    have mono : ∀ t, t < te_o (K j) (W j) → te_ch E (j + 1) t < te_ch E (j + 1) (t + 1) := fun t ht => by
      rw [te_ch_s]
      exact te_E_gt h (by have := bd t (by omega); omega) (w2 t ht).1
    have le : ∀ u t, t + u = te_o (K j) (W j) → te_ch E (j + 1) t ≤ E j := by
      intro u
      induction u with
      | zero => intro t ht; rw [w1, ← ht]; exact Nat.le_refl _
      | succ u iu => intro t ht; have x := iu (t + 1) (by omega); have y := mono t (by omega); omega
    have key : ∀ t, t ≤ te_o (K j) (W j) → ∃ n, 0 < n ∧ tg_it K E j n = te_ch E (j + 1) t ∧ ∀ s, s < n → tg_it K E j s < te_ch E (j + 1) t := by
      intro t
      induction t with
      | zero =>
        intro _
        refine ⟨1, by omega, nx, fun s hs => ?_⟩
        have : s = 0 := by omega
        subst this
        show j < j + 1
        omega
      | succ t it =>
        intro ht
        obtain ⟨n, n0, n1, n2⟩ := it (by omega)
        have c := w2 t (by omega)
        have bt' := bd t (by omega)
        obtain ⟨m, m0, m1, m2⟩ := ih _ bt'.1 c.1 (by omega)
        have mt := mono t (by omega)
        refine ⟨n + m, by omega, ?_, fun s hs => ?_⟩
        · rw [← tg_it_add, n1, m1, te_ch_s]
        · rcases Nat.lt_or_ge s n with y | y
          · have := n2 s y; omega
          · have x := m2 (s - n) (by omega)
            rw [← n1, tg_it_add, show n + (s - n) = s by omega, n1] at x
            rw [te_ch_s]; exact x
    obtain ⟨n, n0, n1, n2⟩ := key _ (Nat.le_refl _)
    rw [← w1] at n1 n2
    exact ⟨n, n0, n1, n2⟩
/-- the agenda of a token: how many, and that operands stand on it -/
theorem tg_op1 {K W E : Nat → Nat} {b L y due k j : Nat} (h : te_Ws K W E b L) (hb : b ≤ y) (hy : y < L) (hd : tg_it K E y due = E y) (hlt : ∀ t, t < due → tg_it K E y t < E y) (hge : ∀ t, t ≤ due → y ≤ tg_it K E y t)
    (hk : k < due) (ej : tg_it K E y k = j) (h4 : ¬ K j < 4) (ho : 0 < te_o (K j) (W j)) : tg_it K E y (k + 1) = j + 1 ∧ k + 1 < due ∧ j + 1 < L := by
  have e1 : tg_it K E y (k + 1) = j + 1 := by
    rw [tg_it_s, ej]; unfold tg_nx; rw [if_neg h4]
  have jl := hlt k hk
  have jg := hge k (by omega)
  have EL := te_E_le h hb hy
  rw [ej] at jl jg
  have o := te_op h (i := j) (by omega) (by omega) ho
  have n := te_nest h y hy hb j jg jl
  have g := te_E_gt h (i := j + 1) (by omega) o.2.1
  have x : E (j + 1) ≤ E j := te_nest h j (by omega) (by omega) (j + 1) (by omega) (by
    have w := (h j (by omega) (by omega)).1
    have bd := (te_bnd h j (by omega) (by omega))
    by_cases z : te_o (K j) (W j) = 1
    · rw [z] at w; rw [w]; exact g
    · have o2 := te_op h (i := j) (t := 1) (by omega) (by omega) (by omega)
      have g2 : te_ch E (j + 1) 1 = E (j + 1) := rfl
      obtain ⟨nn, n0, n1, n2⟩ := tg_reach h j (by omega) (by omega)
      rcases Nat.lt_or_ge 1 nn with q | q
      · have := n2 1 q
        have e : tg_it K E j 1 = j + 1 := by show tg_nx K E j = j + 1; unfold tg_nx; rw [if_neg h4]
        omega
      · have e : nn = 1 := by omega
        rw [e] at n1
        have e' : tg_it K E j 1 = j + 1 := by show tg_nx K E j = j + 1; unfold tg_nx; rw [if_neg h4]
        have bd2 := bd.2.2 (te_o (K j) (W j)) (Nat.le_refl _)
        have m1 : ∀ u, 1 + u ≤ te_o (K j) (W j) → E (j + 1) ≤ te_ch E (j + 1) (1 + u) := by
          intro u
          induction u with
          | zero => intro _; exact Nat.le_refl _
          | succ u iu =>
            intro hu
            have a1 := iu (by omega)
            have a2 := te_op h (i := j) (t := 1 + u) (by omega) (by omega) (by omega)
            have a3 := te_E_gt h (i := te_ch E (j + 1) (1 + u)) (by omega) a2.2.1
            show _ ≤ E (te_ch E (j + 1) (1 + u))
            omega
        have a4 := m1 (te_o (K j) (W j) - 1) (by omega)
        rw [show 1 + (te_o (K j) (W j) - 1) = te_o (K j) (W j) by omega, ← w] at a4
        omega)
  refine ⟨e1, ?_, o.2.1⟩
  rcases Nat.lt_or_ge (k + 1) due with q | q
  · exact q
  · have e : k + 1 = due := by omega
    rw [e, hd] at e1
    omega
theorem tg_op2 {K W E : Nat → Nat} {b L y due k j : Nat} (h : te_Ws K W E b L) (hb : b ≤ y) (hy : y < L) (hd : tg_it K E y due = E y) (hlt : ∀ t, t < due → tg_it K E y t < E y) (hge : ∀ t, t ≤ due → y ≤ tg_it K E y t)
    (hk : k < due) (ej : tg_it K E y k = j) (h4 : ¬ K j < 4) (ho : te_o (K j) (W j) = 2) : ∃ k2, k + 1 < k2 ∧ k2 < due ∧ tg_it K E y k2 = E (j + 1) := by
  obtain ⟨e1, k1, -⟩ := tg_op1 h hb hy hd hlt hge hk ej h4 (by omega)
  have jl := hlt k hk
  have jg := hge k (by omega)
  have EL := te_E_le h hb hy
  rw [ej] at jl jg
  have s := te_two h (i := j) (by omega) (by omega) ho
  have n := te_nest h y hy hb j jg jl
  have g2 := te_E_gt h (i := E (j + 1)) (by omega) s.2.2.1
  obtain ⟨m, m0, m1, m2⟩ := tg_reach h (j + 1) s.1 (by omega)
  have e2 : tg_it K E y (k + 1 + m) = E (j + 1) := by rw [← tg_it_add, e1, m1]
  refine ⟨k + 1 + m, by omega, ?_, e2⟩
  rcases Nat.lt_or_ge (k + 1 + m) due with q | q
  · exact q
  · have x : tg_it K E (j + 1) (due - (k + 1)) = E y := by
      rw [← e1, tg_it_add, show k + 1 + (due - (k + 1)) = due by omega, hd]
    rcases Nat.lt_or_ge (due - (k + 1)) m with w | w
    · have := m2 _ w
      omega
    · have e : due - (k + 1) = m := by omega
      rw [e, m1] at x
      omega
