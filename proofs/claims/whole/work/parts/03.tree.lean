/-! the tree as positions in document order with depths: parents, counts of earlier siblings, blocks -/
def td_OK (c : Nat) (d : Nat → Nat) : Prop := d 0 = 0 ∧ ∀ i, i + 1 < c → 1 ≤ d (i + 1) ∧ d (i + 1) ≤ d i + 1
def td_Pa (d : Nat → Nat) (p i : Nat) : Prop := p < i ∧ d p < d i ∧ ∀ j, p < j → j < i → d i ≤ d j
def td_An (d : Nat → Nat) (i l : Nat) : Prop := i < l ∧ ∀ j, i < j → j ≤ l → d i < d j
def td_En (c : Nat) (d : Nat → Nat) (i e : Nat) : Prop := i < e ∧ e ≤ c ∧ (∀ j, i < j → j < e → d i < d j) ∧ (e < c → d e ≤ d i)
def td_ct (d : Nat → Nat) (D lo : Nat) : Nat → Nat
  | 0 => 0
  | hi + 1 => td_ct d D lo hi + (if lo ≤ hi ∧ d hi = D then 1 else 0)
theorem td_ct_s (d : Nat → Nat) (D lo hi : Nat) : td_ct d D lo (hi + 1) = td_ct d D lo hi + (if lo ≤ hi ∧ d hi = D then 1 else 0) := rfl
theorem td_ct_le {d : Nat → Nat} {D lo a : Nat} : ∀ {b : Nat}, a ≤ b → td_ct d D lo a ≤ td_ct d D lo b
  | 0, h => by
    have e : a = 0 := by omega
    subst e; exact Nat.le_refl _
  | b + 1, h => by
    by_cases z : a = b + 1
    · subst z; exact Nat.le_refl _
    · have i := td_ct_le (d := d) (D := D) (lo := lo) (a := a) (b := b) (by omega)
      rw [td_ct_s]
      split <;> omega
theorem td_ct_0 {d : Nat → Nat} {D lo : Nat} : ∀ {hi : Nat}, hi ≤ lo → td_ct d D lo hi = 0
  | 0, _ => rfl
  | hi + 1, h => by rw [td_ct_s, td_ct_0 (hi := hi) (by omega), if_neg (by omega)]
theorem td_ct_iff {d d' : Nat → Nat} {D D' lo : Nat} : ∀ {hi : Nat}, (∀ j, lo ≤ j → j < hi → (d' j = D' ↔ d j = D)) → td_ct d' D' lo hi = td_ct d D lo hi
  | 0, _ => rfl
  | hi + 1, h => by
    rw [td_ct_s, td_ct_s, td_ct_iff (hi := hi) (fun j a b => h j a (by omega))]
    by_cases z : lo ≤ hi
    · have e := h hi z (by omega)
      by_cases y : d hi = D
      · rw [if_pos ⟨z, e.mpr y⟩, if_pos ⟨z, y⟩]
      · rw [if_neg (fun x => y (e.mp x.2)), if_neg (fun x => y x.2)]
    · rw [if_neg (by omega), if_neg (by omega)]
theorem td_ct_eq {d d' : Nat → Nat} {D lo hi : Nat} (h : ∀ j, lo ≤ j → j < hi → d' j = d j) : td_ct d' D lo hi = td_ct d D lo hi :=
  td_ct_iff (fun j a b => by rw [h j a b])
theorem td_ct_z {d : Nat → Nat} {D lo : Nat} : ∀ {hi : Nat}, (∀ j, lo ≤ j → j < hi → d j ≠ D) → td_ct d D lo hi = 0
  | 0, _ => rfl
  | hi + 1, h => by
    rw [td_ct_s, td_ct_z (hi := hi) (fun j a b => h j a (by omega)), if_neg (fun z => h hi z.1 (by omega) z.2)]
theorem td_ct_sh {d d' : Nat → Nat} {D lo m : Nat} : ∀ {hi : Nat}, (∀ j, lo ≤ j → j < hi → d' (j + m) = d j) → td_ct d' D (lo + m) (hi + m) = td_ct d D lo hi
  | 0, _ => by rw [td_ct_0 (by omega), td_ct_0 (by omega)]
  | hi + 1, h => by
    by_cases z : lo ≤ hi
    · rw [show hi + 1 + m = hi + m + 1 by omega, td_ct_s, td_ct_s, td_ct_sh (hi := hi) (fun j a b => h j a (by omega)), h hi z (by omega)]
      by_cases y : d hi = D
      · rw [if_pos ⟨by omega, y⟩, if_pos ⟨z, y⟩]
      · rw [if_neg (fun x => y x.2), if_neg (fun x => y x.2)]
    · rw [td_ct_0 (by omega), td_ct_0 (by omega)]
theorem td_ct_sp {d : Nat → Nat} {D lo mid : Nat} (h1 : lo ≤ mid) : ∀ {hi : Nat}, mid ≤ hi → td_ct d D lo hi = td_ct d D lo mid + td_ct d D mid hi
  | 0, h => by
    have e : mid = 0 := by omega
    subst e; rfl
  | hi + 1, h => by
    by_cases z : mid = hi + 1
    · subst z
      have e0 : td_ct d D (hi + 1) (hi + 1) = 0 := td_ct_0 (Nat.le_refl _)
      omega
    · rw [td_ct_s, td_ct_s, td_ct_sp h1 (hi := hi) (by omega)]
      have e1 : (if lo ≤ hi ∧ d hi = D then 1 else 0) = (if mid ≤ hi ∧ d hi = D then 1 else 0) := by
        by_cases y : d hi = D
        · rw [if_pos ⟨by omega, y⟩, if_pos ⟨by omega, y⟩]
        · rw [if_neg (fun x => y x.2), if_neg (fun x => y x.2)]
      rw [e1]
      exact Nat.add_assoc _ _ _
theorem td_ct_lt {d : Nat → Nat} {D lo i j : Nat} (h1 : lo ≤ i) (h2 : i < j) (h : d i = D) : td_ct d D lo i < td_ct d D lo j := by
  have a := td_ct_s d D lo i
  rw [if_pos ⟨h1, h⟩] at a
  have b := td_ct_le (d := d) (D := D) (lo := lo) (a := i + 1) (b := j) (by omega)
  omega
theorem td_ct_c {d : Nat → Nat} {D lo : Nat} : ∀ (hi : Nat), td_ct d D lo hi ≤ hi
  | 0 => Nat.le_refl _
  | hi + 1 => by
    have h := td_ct_c (d := d) (D := D) (lo := lo) hi
    rw [td_ct_s]
    split <;> omega
theorem td_pos {c : Nat} {d : Nat → Nat} (h : td_OK c d) {i : Nat} (h0 : 0 < i) (hi : i < c) : 1 ≤ d i := by
  obtain ⟨k, rfl⟩ : ∃ k, i = k + 1 := ⟨i - 1, by omega⟩
  exact (h.2 k hi).1
theorem td_dc {c : Nat} {d : Nat → Nat} (h : td_OK c d) : ∀ {i : Nat}, i < c → d i ≤ i
  | 0, _ => by rw [h.1]; exact Nat.le_refl _
  | i + 1, hi => by
    have a := td_dc h (i := i) (by omega)
    have b := (h.2 i hi).2
    omega
theorem td_last {d : Nat → Nat} {D : Nat} (h0 : d 0 < D) : ∀ k, ∃ p, p < k + 1 ∧ d p < D ∧ ∀ j, p < j → j < k + 1 → D ≤ d j
  | 0 => ⟨0, by omega, h0, fun j a b => by omega⟩
  | k + 1 => by
    by_cases z : d (k + 1) < D
    · exact ⟨k + 1, by omega, z, fun j a b => by omega⟩
    · obtain ⟨p, h1, h2, h3⟩ := td_last h0 k
      refine ⟨p, by omega, h2, fun j a b => ?_⟩
      by_cases y : j = k + 1
      · subst y; omega
      · exact h3 j a (by omega)
theorem td_ex {c : Nat} {d : Nat → Nat} (h : td_OK c d) {i : Nat} (h0 : 0 < i) (hi : i < c) : ∃ p, td_Pa d p i := by
  have hp := td_pos h h0 hi
  obtain ⟨k, rfl⟩ : ∃ k, i = k + 1 := ⟨i - 1, by omega⟩
  obtain ⟨p, h1, h2, h3⟩ := td_last (d := d) (D := d (k + 1)) (by rw [h.1]; omega) k
  exact ⟨p, h1, h2, h3⟩
theorem td_uq {d : Nat → Nat} {p q i : Nat} (hp : td_Pa d p i) (hq : td_Pa d q i) : p = q := by
  obtain ⟨a1, a2, a3⟩ := hp
  obtain ⟨b1, b2, b3⟩ := hq
  rcases Nat.lt_trichotomy p q with z | z | z
  · have := a3 q z b1; omega
  · exact z
  · have := b3 p z a1; omega
theorem td_dp {c : Nat} {d : Nat → Nat} (h : td_OK c d) {p i : Nat} (hi : i < c) (hp : td_Pa d p i) : d i = d p + 1 := by
  obtain ⟨a1, a2, a3⟩ := hp
  have b := (h.2 p (by omega)).2
  by_cases z : p + 1 = i
  · rw [z] at b; omega
  · have := a3 (p + 1) (by omega) (by omega); omega
theorem td_p0 {d : Nat → Nat} {p : Nat} : ¬ td_Pa d p 0 := fun h => by have := h.1; omega
theorem td_PA {d : Nat → Nat} {p i : Nat} (h : td_Pa d p i) : td_An d p i := by
  obtain ⟨a1, a2, a3⟩ := h
  refine ⟨a1, fun j x y => ?_⟩
  by_cases z : j = i
  · subst z; exact a2
  · have := a3 j x (by omega); omega
theorem td_AP {d : Nat → Nat} {i l : Nat} (h : td_An d i l) (e : d l = d i + 1) : td_Pa d i l :=
  ⟨h.1, by omega, fun j a b => by have := h.2 j a (by omega); omega⟩
theorem td_anPa {d : Nat → Nat} {p l i : Nat} (hp : td_Pa d p l) : td_An d i l ↔ (i = p ∨ td_An d i p) := by
  obtain ⟨a1, a2, a3⟩ := hp
  constructor
  · rintro ⟨b1, b2⟩
    rcases Nat.lt_trichotomy i p with z | z | z
    · exact Or.inr ⟨z, fun j x y => b2 j x (by omega)⟩
    · exact Or.inl z
    · have := a3 i z b1
      have := b2 l b1 (Nat.le_refl _)
      omega
  · rintro (e | ⟨b1, b2⟩)
    · subst e; exact td_PA ⟨a1, a2, a3⟩
    · refine ⟨by omega, fun j x y => ?_⟩
      have hip := b2 p b1 (Nat.le_refl _)
      by_cases z : j ≤ p
      · exact b2 j x z
      · by_cases w : j = l
        · subst w; omega
        · have := a3 j (by omega) (by omega); omega
theorem td_endEx {c : Nat} {d : Nat → Nat} {i : Nat} (hi : i < c) : ∃ e, td_En c d i e := by
  obtain ⟨k, h1', h2'⟩ := pk_least (fun k => i + 1 + k = c ∨ d (i + 1 + k) ≤ d i) ⟨c - i - 1, Or.inl (by omega)⟩
  have h1 : i + 1 + k = c ∨ d (i + 1 + k) ≤ d i := h1'
  have h2 : ∀ j, j < k → ¬ (i + 1 + j = c ∨ d (i + 1 + j) ≤ d i) := h2'
  refine ⟨i + 1 + k, by omega, ?_, fun j a b => ?_, fun z => ?_⟩
  · rcases Nat.lt_or_ge c (i + 1 + k) with z | z
    · exact absurd (Or.inl (by omega)) (h2 (c - i - 1) (by omega))
    · exact z
  · have := h2 (j - i - 1) (by omega)
    rw [show i + 1 + (j - i - 1) = j by omega] at this
    omega
  · omega
theorem td_endUq {c : Nat} {d : Nat → Nat} {i e f : Nat} (he : td_En c d i e) (hf : td_En c d i f) : e = f := by
  obtain ⟨a1, a2, a3, a4⟩ := he
  obtain ⟨b1, b2, b3, b4⟩ := hf
  rcases Nat.lt_trichotomy e f with z | z | z
  · have := b3 e a1 z
    have := a4 (by omega)
    omega
  · exact z
  · have := a3 f b1 z
    have := b4 (by omega)
    omega
theorem td_AnEn {c : Nat} {d : Nat → Nat} {i e l : Nat} (he : td_En c d i e) (hl : l < c) : td_An d i l ↔ (i < l ∧ l < e) := by
  obtain ⟨a1, a2, a3, a4⟩ := he
  constructor
  · rintro ⟨b1, b2⟩
    refine ⟨b1, ?_⟩
    rcases Nat.lt_or_ge l e with z | z
    · exact z
    · have := b2 e a1 z
      have := a4 (by omega)
      omega
  · rintro ⟨b1, b2⟩
    exact ⟨b1, fun j x y => a3 j x (by omega)⟩
theorem td_AnDec {c : Nat} {d : Nat → Nat} {i l : Nat} (hi : i < c) (hl : l < c) : td_An d i l ∨ ¬ td_An d i l := by
  obtain ⟨e, he⟩ := td_endEx (d := d) hi
  rw [td_AnEn he hl]
  omega
/-! two children of one parent: the later has the greater count -/
theorem td_rk_lt {c : Nat} {d : Nat → Nat} (h : td_OK c d) {p i j : Nat} (hj : j < c) (hi : td_Pa d p i) (hp : td_Pa d p j) (z : i < j) : td_ct d (d i) (p + 1) i < td_ct d (d j) (p + 1) j := by
  rw [td_dp h (by omega) hi, td_dp h hj hp]
  exact td_ct_lt (by have := hi.1; omega) z (td_dp h (by omega) hi)
theorem td_rk_uq {c : Nat} {d : Nat → Nat} (h : td_OK c d) {p i j : Nat} (hi : i < c) (hj : j < c) (pi : td_Pa d p i) (pj : td_Pa d p j) (e : td_ct d (d i) (p + 1) i = td_ct d (d j) (p + 1) j) : i = j := by
  rcases Nat.lt_trichotomy i j with z | z | z
  · have := td_rk_lt h hj pi pj z; omega
  · exact z
  · have := td_rk_lt h hi pj pi z; omega
