/-! what set tokens give at a node: equations token by token -/
noncomputable def tk_d (P : Prop) : Bool := @decide P (Classical.propDecidable P)
theorem tk_d_t {P : Prop} : tk_d P = true ↔ P := @decide_eq_true_iff P (Classical.propDecidable P)
theorem tk_d_f {P : Prop} : tk_d P = false ↔ ¬ P := @decide_eq_false_iff_not P (Classical.propDecidable P)
theorem tk_d_c {P Q : Prop} (h : P ↔ Q) : tk_d P = tk_d Q := by rw [propext h]
def td_on (d : Nat → Nat) (ax i k : Nat) : Prop :=
  if ax = 0 then k = i else if ax = 1 then td_Pa d i k else if ax = 2 then td_Pa d k i else if ax = 3 then td_An d i k else if ax = 4 then td_An d k i
  else if ax = 5 then (∃ p, td_Pa d p i ∧ td_Pa d p k) ∧ i < k else if ax = 6 then (∃ p, td_Pa d p i ∧ td_Pa d p k) ∧ k < i
  else if ax = 7 then i < k ∧ ¬ td_An d i k else if ax = 8 then k < i ∧ ¬ td_An d k i else if ax = 9 then td_An d i k ∨ k = i else td_An d k i ∨ k = i
def tk_pi (c ax i : Nat) : Nat := if 0 < ax ∧ ax % 2 = 0 then c - 1 - i else i
theorem tk_pi_lt {c ax i : Nat} (h : i < c) : tk_pi c ax i < c := by unfold tk_pi; split <;> omega
theorem tk_pi_pi {c ax i : Nat} (h : i < c) : tk_pi c ax (tk_pi c ax i) = i := by
  unfold tk_pi
  by_cases z : 0 < ax ∧ ax % 2 = 0
  · rw [if_pos z, if_pos z]; omega
  · rw [if_neg z, if_neg z]
section
variable (c : Nat) (r d : Nat → Nat) (nm val : Nat → Int32) (K W E : Nat → Nat) (V : Nat → Int32)
/-- the test at token y, at the node of place n, as the p-th of l -/
noncomputable def tk_H (σ : Nat → Nat → Int32) (y n p l : Nat) : Bool :=
  tk_d (tn_hold (K y) (σ y (r n)) (tn_nv c r val K E V (fun j => σ j (r n)) (nI p) (nI l) y) (nI p))
/-- the list of step t from place m, after j tests: who is on it, by its order along the axis -/
noncomputable def tk_S (σ : Nat → Nat → Int32) (t m : Nat) : Nat → Nat → Bool
  | 0 => fun i => tk_d (td_on d (W t % 16) m (tk_pi c (W t % 16) i) ∧ (W t / 16 % 8 = 6 ∨ nm (r (tk_pi c (W t % 16) i)) = nI (W t / 16 % 8)))
  | j + 1 => fun i => tk_S σ t m j i && tk_H c r val K E V σ (te_ch E (t + 1) (j + 1)) (tk_pi c (W t % 16) i) (tc_n (tk_S σ t m j) i + 1) (tc_n (tk_S σ t m j) c)
def tk_M (σ : Nat → Nat → Int32) (t m q : Nat) : Prop :=
  if K t = 0 then q = r m else if K t = 1 then q = r 0
  else if K t = 3 then (bt (σ (t + 1) (r m)) q = true ∨ bt (σ (E (t + 1)) (r m)) q = true)
  else ∃ m', m' < c ∧ bt (σ (t + 1) (r m)) (r m') = true ∧ ∃ i, i < c ∧ r (tk_pi c (W t % 16) i) = q ∧ tk_S c r d nm val K W E V σ t m' (W t / 128) i = true
def tk_Q (σ : Nat → Nat → Int32) (t : Nat) : Prop :=
  K t < 4 → ∀ m, m < c → mk_24 (σ t (r m)) ∧ ∀ q, q < 24 → (bt (σ t (r m)) q = true ↔ tk_M c r d nm val K W E V σ t m q)
def tk_Eq (b L : Nat) (σ : Nat → Nat → Int32) : Prop := ∀ t, b ≤ t → t < L → tk_Q c r d nm val K W E V σ t
end
section
variable {c : Nat} {r d : Nat → Nat} {nm val : Nat → Int32} {K W E : Nat → Nat} {V : Nat → Int32}
theorem tk_S_s {σ : Nat → Nat → Int32} {t m j i : Nat} : tk_S c r d nm val K W E V σ t m (j + 1) i = (tk_S c r d nm val K W E V σ t m j i && tk_H c r val K E V σ (te_ch E (t + 1) (j + 1)) (tk_pi c (W t % 16) i) (tc_n (tk_S c r d nm val K W E V σ t m j) i + 1) (tc_n (tk_S c r d nm val K W E V σ t m j) c)) := rfl
theorem tk_H_c {σ σ' : Nat → Nat → Int32} {b L y n p l : Nat} (h : te_Ws K W E b L) (hL : L ≤ 400) (hb : b ≤ y) (hy : y < L) (hn : n < c)
    (hσ : ∀ j, y ≤ j → j < L → K j < 4 → ∀ m, m < c → σ j (r m) = σ' j (r m)) : tk_H c r val K E V σ y n p l = tk_H c r val K E V σ' y n p l := by
  unfold tk_H
  have e : tn_hold (K y) (σ y (r n)) (tn_nv c r val K E V (fun j => σ j (r n)) (nI p) (nI l) y) (nI p) = tn_hold (K y) (σ' y (r n)) (tn_nv c r val K E V (fun j => σ' j (r n)) (nI p) (nI l) y) (nI p) :=
    tn_hold_c ⟨fun z => hσ y (Nat.le_refl _) hy z n hn, fun _ => tn_cong h (i0 := y) (tn_nv_eq h hL) (tn_nv_eq h hL) (fun j a c' z => hσ j a c' z n hn) y hy hb (Nat.le_refl _)⟩
  rw [e]
theorem te_o_st {k w : Nat} (h : k = 2) : te_o k w = 1 + w / 128 := by unfold te_o; rw [if_pos h]
theorem te_o_un {k w : Nat} (h : k = 3) : te_o k w = 2 := by unfold te_o; rw [if_neg (by omega), if_pos h]
theorem tk_S_c {σ σ' : Nat → Nat → Int32} {b L t m : Nat} (h : te_Ws K W E b L) (hL : L ≤ 400) (hb : b ≤ t) (ht : t < L) (h2 : K t = 2)
    (hσ : ∀ j, t < j → j < L → K j < 4 → ∀ m, m < c → σ j (r m) = σ' j (r m)) : ∀ j, j ≤ W t / 128 → ∀ i, i < c → tk_S c r d nm val K W E V σ t m j i = tk_S c r d nm val K W E V σ' t m j i := by
  intro j
  induction j with
  | zero => intro _ i _; rfl
  | succ j ih =>
    intro hj i hi
    have o := te_op h hb ht (t := j + 1) (by rw [te_o_st h2]; omega)
    rw [tk_S_s, tk_S_s, ih (by omega) i hi, tc_ext (n := i) (fun x hx => ih (by omega) x (by omega)), tc_ext (n := c) (fun x hx => ih (by omega) x hx),
      tk_H_c h hL (by omega) o.2.1 (tk_pi_lt hi) (fun y a b' z => hσ y (by omega) b' z)]
theorem tk_M_c {σ σ' : Nat → Nat → Int32} {b L t m q : Nat} (h : te_Ws K W E b L) (hL : L ≤ 400) (hb : b ≤ t) (ht : t < L) (h4 : K t < 4) (hm : m < c)
    (hσ : ∀ j, t < j → j < L → K j < 4 → ∀ m, m < c → σ j (r m) = σ' j (r m)) : tk_M c r d nm val K W E V σ t m q ↔ tk_M c r d nm val K W E V σ' t m q := by
  unfold tk_M
  by_cases z0 : K t = 0
  · rw [if_pos z0, if_pos z0]
  by_cases z1 : K t = 1
  · rw [if_neg z0, if_neg z0, if_pos z1, if_pos z1]
  by_cases z3 : K t = 3
  · have s := te_two h hb ht (te_o_un z3)
    have o0 := te_op h hb ht (t := 0) (by rw [te_o_un z3]; omega)
    have o1 := te_op h hb ht (t := 1) (by rw [te_o_un z3]; omega)
    have l0 : ∀ t', te_lo (K t) t' = 0 := fun t' => te_lo0 (by omega) (by omega)
    rw [l0] at o0 o1
    rw [if_neg z0, if_neg z0, if_neg z1, if_neg z1, if_pos z3, if_pos z3, hσ (t + 1) (by omega) s.1 (te_ty_0.mp o0.2.2) m hm, hσ (E (t + 1)) (by omega) s.2.2.1 (te_ty_0.mp o1.2.2) m hm]
  · have z2 : K t = 2 := by omega
    have o0 := te_op h hb ht (t := 0) (by rw [te_o_st z2]; omega)
    have l0 : te_lo (K t) 0 = 0 := by unfold te_lo; rw [if_pos z2, if_pos rfl]
    rw [l0] at o0
    rw [if_neg z0, if_neg z0, if_neg z1, if_neg z1, if_neg z3, if_neg z3, hσ (t + 1) (by omega) o0.2.1 (te_ty_0.mp o0.2.2) m hm]
    constructor
    · rintro ⟨m', a, b', i, x, y, z⟩
      exact ⟨m', a, b', i, x, y, by rw [← tk_S_c h hL hb ht z2 hσ _ (Nat.le_refl _) i x]; exact z⟩
    · rintro ⟨m', a, b', i, x, y, z⟩
      exact ⟨m', a, b', i, x, y, by rw [tk_S_c h hL hb ht z2 hσ _ (Nat.le_refl _) i x]; exact z⟩
/-- an equation looks at later tokens alone -/
theorem tk_Q_c {σ σ' : Nat → Nat → Int32} {b L t : Nat} (h : te_Ws K W E b L) (hL : L ≤ 400) (hb : b ≤ t) (ht : t < L)
    (hσ : ∀ j, t ≤ j → j < L → K j < 4 → ∀ m, m < c → σ j (r m) = σ' j (r m)) (Q : tk_Q c r d nm val K W E V σ t) : tk_Q c r d nm val K W E V σ' t := by
  intro h4 m hm
  obtain ⟨a, b'⟩ := Q h4 m hm
  rw [hσ t (Nat.le_refl _) ht h4 m hm] at a b'
  exact ⟨a, fun q hq => (b' q hq).trans (tk_M_c h hL hb ht h4 hm (fun j x y z => hσ j (by omega) y z))⟩
theorem tk_uq {σ σ' : Nat → Nat → Int32} {b L : Nat} (h : te_Ws K W E b L) (hL : L ≤ 400) (Q : tk_Eq c r d nm val K W E V b L σ) (Q' : tk_Eq c r d nm val K W E V b L σ') :
    ∀ t, t < L → b ≤ t → K t < 4 → ∀ m, m < c → σ t (r m) = σ' t (r m) := by
  refine te_down L ?_
  intro t ht ih hb h4 m hm
  obtain ⟨a, a'⟩ := Q t hb ht h4 m hm
  obtain ⟨x, x'⟩ := Q' t hb ht h4 m hm
  apply mk_ext a x
  intro q hq
  have e := (a' q hq).trans ((tk_M_c h hL hb ht h4 hm (fun j u v w => ih j u v (by omega) w)).trans (x' q hq).symm)
  cases y : bt (σ t (r m)) q <;> cases y' : bt (σ' t (r m)) q
  · rfl
  · rw [y, y'] at e; exact absurd (e.mpr rfl) (by decide)
  · rw [y, y'] at e; exact absurd (e.mp rfl) (by decide)
  · rfl
/-- only nodes of the tree are in a set -/
theorem tk_in {σ : Nat → Nat → Int32} {b L : Nat} (h : te_Ws K W E b L) (h0 : 0 < c) (Q : tk_Eq c r d nm val K W E V b L σ) :
    ∀ t, t < L → b ≤ t → K t < 4 → ∀ m, m < c → ∀ q, q < 24 → bt (σ t (r m)) q = true → ∃ l, l < c ∧ r l = q := by
  refine te_down L ?_
  intro t ht ih hb h4 m hm q hq hq'
  have e := ((Q t hb ht h4 m hm).2 q hq).mp hq'
  unfold tk_M at e
  by_cases z0 : K t = 0
  · rw [if_pos z0] at e; exact ⟨m, hm, e.symm⟩
  by_cases z1 : K t = 1
  · rw [if_neg z0, if_pos z1] at e; exact ⟨0, h0, e.symm⟩
  by_cases z3 : K t = 3
  · have s := te_two h hb ht (te_o_un z3)
    have o0 := te_op h hb ht (t := 0) (by rw [te_o_un z3]; omega)
    have o1 := te_op h hb ht (t := 1) (by rw [te_o_un z3]; omega)
    have l0 : ∀ t', te_lo (K t) t' = 0 := fun t' => te_lo0 (by omega) (by omega)
    rw [l0] at o0 o1
    rw [if_neg z0, if_neg z1, if_pos z3] at e
    rcases e with e | e
    · exact ih (t + 1) (by omega) s.1 (by omega) (te_ty_0.mp o0.2.2) m hm q hq e
    · exact ih (E (t + 1)) (by omega) s.2.2.1 (by omega) (te_ty_0.mp o1.2.2) m hm q hq e
  · rw [if_neg z0, if_neg z1, if_neg z3] at e
    obtain ⟨m', a, b', i, x, y, z⟩ := e
    exact ⟨_, tk_pi_lt x, y⟩
end
