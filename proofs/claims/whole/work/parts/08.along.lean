/-! the lists along the axes as masks; how linking adds to them -/
def tx_Rep (al : Nat → Int32) (R : Nat → Nat → Nat → Prop) : Prop :=
  ∀ a, a < 11 → ∀ q, q < 24 → mk_24 (al (a * 24 + q)) ∧ ∀ q', q' < 24 → (bt (al (a * 24 + q)) q' = true ↔ R a q q')
theorem tx_rep_c {al : Nat → Int32} {R R' : Nat → Nat → Nat → Prop} (h : tx_Rep al R) (e : ∀ a q q', a < 11 → q < 24 → q' < 24 → (R a q q' ↔ R' a q q')) : tx_Rep al R' :=
  fun a ha q hq => ⟨(h a ha q hq).1, fun q' hq' => ((h a ha q hq).2 q' hq').trans (e a q q' ha hq hq')⟩
theorem tx_one {al : Nat → Int32} {R : Nat → Nat → Nat → Prop} {x e l : Nat} (h : tx_Rep al R) (hx : x < 11) (he : e < 24) (hl : l < 24) :
    tx_Rep (upd al (x * 24 + e) (al (x * 24 + e) ||| ((1 : Int32) <<< (nI l &&& 31)))) (fun a q q' => R a q q' ∨ (a = x ∧ q = e ∧ q' = l)) := by
  intro a ha q hq
  by_cases z : a * 24 + q = x * 24 + e
  · have e1 : a = x := by omega
    have e2 : q = e := by omega
    subst e1 e2
    rw [pk_us]
    refine ⟨mk_24_or (h a ha q hq).1 (mk_24_sh hl), fun q' hq' => ?_⟩
    rw [b_or, mk_sh l (by omega), Bool.or_eq_true, (h a ha q hq).2 q' hq', decide_eq_true_iff]
    constructor
    · rintro (y | y)
      · exact Or.inl y
      · exact Or.inr ⟨rfl, rfl, y⟩
    · rintro (y | y)
      · exact Or.inl y
      · exact Or.inr y.2.2
  · rw [pk_un z]
    refine ⟨(h a ha q hq).1, fun q' hq' => ?_⟩
    rw [(h a ha q hq).2 q' hq']
    constructor
    · exact Or.inl
    · rintro (y | y)
      · exact y
      · exact absurd (by rw [y.1, y.2.1]) z
theorem tx_set {al : Nat → Int32} {R : Nat → Nat → Nat → Prop} {x e l : Nat} (h : tx_Rep al R) (hx : x < 11) (he : e < 24) (hl : l < 24) (h0 : ∀ q', q' < 24 → ¬ R x e q') :
    tx_Rep (upd al (x * 24 + e) ((1 : Int32) <<< (nI l &&& 31))) (fun a q q' => R a q q' ∨ (a = x ∧ q = e ∧ q' = l)) := by
  intro a ha q hq
  by_cases z : a * 24 + q = x * 24 + e
  · have e1 : a = x := by omega
    have e2 : q = e := by omega
    subst e1 e2
    rw [pk_us]
    refine ⟨mk_24_sh hl, fun q' hq' => ?_⟩
    rw [mk_sh l (by omega), decide_eq_true_iff]
    constructor
    · exact fun y => Or.inr ⟨rfl, rfl, y⟩
    · rintro (y | y)
      · exact absurd y (h0 q' hq')
      · exact y.2.2
  · rw [pk_un z]
    refine ⟨(h a ha q hq).1, fun q' hq' => ?_⟩
    rw [(h a ha q hq).2 q' hq']
    constructor
    · exact Or.inl
    · rintro (y | y)
      · exact y
      · exact absurd (by rw [y.1, y.2.1]) z
theorem tx_link {al : Nat → Int32} {R : Nat → Nat → Nat → Prop} {x e l : Nat} (h : tx_Rep al R) (hx : x + 1 < 11) (he : e < 24) (hl : l < 24) (al' : Nat → Int32)
    (ea : al' = upd al (x * 24 + e) (al (x * 24 + e) ||| ((1 : Int32) <<< (nI l &&& 31)))) :
    tx_Rep (upd al' ((x + 1) * 24 + l) (al' ((x + 1) * 24 + l) ||| ((1 : Int32) <<< (nI e &&& 31)))) (fun a q q' => R a q q' ∨ (a = x ∧ q = e ∧ q' = l) ∨ (a = x + 1 ∧ q = l ∧ q' = e)) := by
  have h1 := tx_one h (x := x) (by omega) he hl
  rw [← ea] at h1
  exact tx_rep_c (tx_one h1 hx hl he) (fun a q q' _ _ _ => or_assoc)
/-! the axes between two places -/
def td_fw (d : Nat → Nat) (a j i : Nat) : Prop :=
  (a = 1 ∧ td_Pa d j i) ∨ (a = 3 ∧ td_An d j i) ∨ (a = 5 ∧ ∃ p, td_Pa d p j ∧ td_Pa d p i) ∨ (a = 7 ∧ ¬ td_An d j i) ∨ (a = 9 ∧ td_An d j i)
theorem td_a11 {a : Nat} (h : a < 11) : a = 0 ∨ a = 1 ∨ a = 2 ∨ a = 3 ∨ a = 4 ∨ a = 5 ∨ a = 6 ∨ a = 7 ∨ a = 8 ∨ a = 9 ∨ a = 10 := by omega
theorem td_nPa {d : Nat → Nat} {i j : Nat} (h : j ≤ i) : ¬ td_Pa d i j := fun z => by have := z.1; omega
theorem td_nAn {d : Nat → Nat} {i j : Nat} (h : j ≤ i) : ¬ td_An d i j := fun z => by have := z.1; omega
theorem td_on_f {d : Nat → Nat} {a j i : Nat} (ha : a < 11) (h : j < i) : td_on d a j i ↔ td_fw d a j i := by
  have n1 : ¬ td_Pa d i j := td_nPa (by omega)
  have n2 : ¬ td_An d i j := td_nAn (by omega)
  have n3 : ¬ i < j := by omega
  have n4 : ¬ i = j := by omega
  unfold td_on td_fw
  rcases td_a11 ha with z | z | z | z | z | z | z | z | z | z | z <;> subst z <;> simp [n1, n2, n3, n4, h]
theorem td_on_b {d : Nat → Nat} {a j i : Nat} (ha : a < 11) (h : j < i) : td_on d a i j ↔ (1 ≤ a ∧ td_fw d (a - 1) j i) := by
  have n1 : ¬ td_Pa d i j := td_nPa (by omega)
  have n2 : ¬ td_An d i j := td_nAn (by omega)
  have n3 : ¬ i < j := by omega
  have n4 : ¬ j = i := by omega
  have n5 : (∃ p, td_Pa d p i ∧ td_Pa d p j) ↔ (∃ p, td_Pa d p j ∧ td_Pa d p i) := ⟨fun ⟨p, x, y⟩ => ⟨p, y, x⟩, fun ⟨p, x, y⟩ => ⟨p, y, x⟩⟩
  unfold td_on td_fw
  rcases td_a11 ha with z | z | z | z | z | z | z | z | z | z | z <;> subst z <;> simp [n1, n2, n3, n4, n5, h]
theorem td_on_s {d : Nat → Nat} {a i : Nat} (ha : a < 11) : td_on d a i i ↔ (a = 0 ∨ a = 9 ∨ a = 10) := by
  have n1 : ¬ td_Pa d i i := td_nPa (Nat.le_refl _)
  have n2 : ¬ td_An d i i := td_nAn (Nat.le_refl _)
  have n3 : ¬ i < i := by omega
  unfold td_on
  rcases td_a11 ha with z | z | z | z | z | z | z | z | z | z | z <;> subst z <;> simp [n1, n2, n3]
/-- what stands in the lists when the places below i are linked, and place i with those below j -/
def tx_R (r d : Nat → Nat) (i j : Nat) (a q q' : Nat) : Prop :=
  ∃ x y, ((x < i ∧ y < i) ∨ (x = i ∧ y = i) ∨ (x < j ∧ y = i) ∨ (x = i ∧ y < j)) ∧ r x = q ∧ r y = q' ∧ td_on d a x y
/-- the same, place i not begun -/
def tx_R0 (r d : Nat → Nat) (i : Nat) (a q q' : Nat) : Prop := ∃ x y, x < i ∧ y < i ∧ r x = q ∧ r y = q' ∧ td_on d a x y
theorem tx_R_end {r d : Nat → Nat} {i a q q' : Nat} : tx_R r d i i a q q' ↔ tx_R0 r d (i + 1) a q q' := by
  unfold tx_R tx_R0
  constructor
  · rintro ⟨x, y, h, e⟩
    exact ⟨x, y, by omega, by omega, e⟩
  · rintro ⟨x, y, h1, h2, e⟩
    exact ⟨x, y, by omega, e⟩
theorem tx_R_beg {r d : Nat → Nat} {i a q q' : Nat} (ha : a < 11) : (tx_R0 r d i a q q' ∨ ((a = 0 ∨ a = 9 ∨ a = 10) ∧ q = r i ∧ q' = r i)) ↔ tx_R r d i 0 a q q' := by
  unfold tx_R tx_R0
  constructor
  · rintro (⟨x, y, h1, h2, e⟩ | ⟨h, e1, e2⟩)
    · exact ⟨x, y, Or.inl ⟨h1, h2⟩, e⟩
    · exact ⟨i, i, Or.inr (Or.inl ⟨rfl, rfl⟩), e1.symm, e2.symm, (td_on_s ha).mpr h⟩
  · rintro ⟨x, y, h, e1, e2, e3⟩
    rcases h with h | h | h | h
    · exact Or.inl ⟨x, y, h.1, h.2, e1, e2, e3⟩
    · rw [h.1] at e1 e3
      rw [h.2] at e2 e3
      exact Or.inr ⟨(td_on_s ha).mp e3, e1.symm, e2.symm⟩
    · omega
    · omega
theorem tx_R_s {r d : Nat → Nat} {i j a q q' : Nat} (ha : a < 11) (hj : j < i) :
    (tx_R r d i j a q q' ∨ (td_fw d a j i ∧ q = r j ∧ q' = r i) ∨ ((1 ≤ a ∧ td_fw d (a - 1) j i) ∧ q = r i ∧ q' = r j)) ↔ tx_R r d i (j + 1) a q q' := by
  unfold tx_R
  constructor
  · rintro (⟨x, y, h, e⟩ | ⟨h, e1, e2⟩ | ⟨h, e1, e2⟩)
    · exact ⟨x, y, by omega, e⟩
    · exact ⟨j, i, by omega, e1.symm, e2.symm, (td_on_f ha hj).mpr h⟩
    · exact ⟨i, j, by omega, e1.symm, e2.symm, (td_on_b ha hj).mpr h⟩
  · rintro ⟨x, y, h, e1, e2, e3⟩
    by_cases z1 : x = j ∧ y = i
    · rw [z1.1] at e1 e3
      rw [z1.2] at e2 e3
      exact Or.inr (Or.inl ⟨(td_on_f ha hj).mp e3, e1.symm, e2.symm⟩)
    · by_cases z2 : x = i ∧ y = j
      · rw [z2.1] at e1 e3
        rw [z2.2] at e2 e3
        exact Or.inr (Or.inr ⟨(td_on_b ha hj).mp e3, e1.symm, e2.symm⟩)
      · exact Or.inl ⟨x, y, by omega, e1, e2, e3⟩
/-! how many children, how large a block -/
theorem tc_children {c : Nat} {d : Nat → Nat} (h : td_OK c d) {p e : Nat} (he : td_En c d p e) : ∀ hi, hi ≤ c → tc_n (fun l => tk_d (td_Pa d p l)) hi = td_ct d (d p + 1) (p + 1) (if hi ≤ e then hi else e) := by
  intro hi
  induction hi with
  | zero => intro _; rw [if_pos (by omega)]; rfl
  | succ hi ih =>
    intro hc
    rw [tc_s, ih (by omega)]
    obtain ⟨a1, a2, a3, a4⟩ := he
    rcases Nat.lt_or_ge hi e with z | z
    · rw [if_pos (show hi ≤ e by omega), if_pos (show hi + 1 ≤ e by omega), td_ct_s]
      have iff : td_Pa d p hi ↔ (p + 1 ≤ hi ∧ d hi = d p + 1) := by
        constructor
        · intro y; exact ⟨y.1, td_dp h (by omega) y⟩
        · rintro ⟨y1, y2⟩
          exact td_AP ⟨y1, fun j u v => a3 j u (by omega)⟩ y2
      by_cases y : td_Pa d p hi
      · rw [if_pos (tk_d_t.mpr y), if_pos (iff.mp y)]
      · rw [if_neg (fun x => y (tk_d_t.mp x)), if_neg (fun x => y (iff.mpr x))]
    · have n : ¬ td_Pa d p hi := by
        intro y
        have y1 := td_PA y
        have y2 := y1.2 e a1 z
        have y3 := a4 (by omega)
        omega
      rw [if_neg (fun x => n (tk_d_t.mp x)), if_neg (show ¬ hi + 1 ≤ e by omega)]
      by_cases w : hi ≤ e
      · have : hi = e := by omega
        rw [if_pos w, this, Nat.add_zero]
      · rw [if_neg w, Nat.add_zero]
theorem tc_block {c : Nat} {d : Nat → Nat} {p e : Nat} (he : td_En c d p e) : ∀ hi, hi ≤ c → tc_n (fun l => tk_d (td_An d p l ∨ l = p)) hi = (if hi ≤ p then 0 else if hi ≤ e then hi - p else e - p) := by
  intro hi
  induction hi with
  | zero => intro _; rw [if_pos (by omega)]; rfl
  | succ hi ih =>
    intro hc
    rw [tc_s, ih (by omega)]
    have iff : (td_An d p hi ∨ hi = p) ↔ (p ≤ hi ∧ hi < e) := by
      rw [td_AnEn he (by omega)]
      have := he.1
      omega
    have a1 := he.1
    by_cases y : p ≤ hi ∧ hi < e
    · rw [if_pos (tk_d_t.mpr (iff.mpr y)), if_neg (show ¬ hi + 1 ≤ p by omega), if_pos (show hi + 1 ≤ e by omega)]
      by_cases w : hi ≤ p
      · rw [if_pos w]; omega
      · rw [if_neg w, if_pos (by omega)]; omega
    · rw [if_neg (fun x => y (iff.mp (tk_d_t.mp x)))]
      by_cases w : hi + 1 ≤ p
      · rw [if_pos w, if_pos (by omega)]
      · rw [if_neg w, if_neg (show ¬ hi ≤ p by omega), if_neg (show ¬ hi + 1 ≤ e by omega)]
        by_cases v : hi ≤ e
        · rw [if_pos v]; omega
        · rw [if_neg v, Nat.add_zero]
