/-! a block put in (and, read backwards, cut out): parents and counts -/
def td_Ins (c a m p : Nat) (d b d' : Nat → Nat) : Prop :=
  0 < m ∧ p < a ∧ a ≤ c ∧ (∀ j, p < j → j < a → d p + 1 ≤ d j) ∧ (a < c → d a ≤ d p + 1) ∧ b 0 = d p + 1 ∧ (∀ j, 0 < j → j < m → d p + 1 < b j) ∧
  (∀ i, i < a → d' i = d i) ∧ (∀ j, j < m → d' (a + j) = b j) ∧ (∀ i, a ≤ i → i < c → d' (i + m) = d i)
theorem td_ins_lo {c a m p : Nat} {d b d' : Nat → Nat} (I : td_Ins c a m p d b d') {q i : Nat} (hi : i < a) (h : td_Pa d q i) : td_Pa d' q i ∧ td_ct d' (d' i) (q + 1) i = td_ct d (d i) (q + 1) i := by
  obtain ⟨m0, pa, ac, hbt, hac, b0, hb, e1, e2, e3⟩ := I
  obtain ⟨h1, h2, h3⟩ := h
  refine ⟨⟨h1, by rw [e1 q (by omega), e1 i hi]; exact h2, fun j x y => by rw [e1 i hi, e1 j (by omega)]; exact h3 j x y⟩, ?_⟩
  rw [e1 i hi]
  exact td_ct_eq (fun j x y => e1 j (by omega))
theorem td_ins_bc {c a m p : Nat} {d b d' : Nat → Nat} (I : td_Ins c a m p d b d') {D : Nat} (hD : D ≤ d p + 1) : td_ct d' D a (a + m) = if D = d p + 1 then 1 else 0 := by
  obtain ⟨m0, pa, ac, hbt, hac, b0, hb, e1, e2, e3⟩ := I
  have s := td_ct_sp (d := d') (D := D) (lo := a) (mid := a + 1) (by omega) (hi := a + m) (by omega)
  have z : td_ct d' D (a + 1) (a + m) = 0 := td_ct_z (fun j x y => by
    obtain ⟨t, rfl⟩ : ∃ t, j = a + t := ⟨j - a, by omega⟩
    rw [e2 t (by omega)]
    have := hb t (by omega) (by omega)
    omega)
  have f := td_ct_s d' D a a
  rw [td_ct_0 (Nat.le_refl a)] at f
  have e20 := e2 0 m0
  rw [Nat.add_zero, b0] at e20
  rw [e20] at f
  by_cases y : D = d p + 1
  · rw [if_pos ⟨Nat.le_refl _, y.symm⟩] at f
    rw [if_pos y]
    omega
  · rw [if_neg (fun x => y x.2.symm)] at f
    rw [if_neg y]
    omega
theorem td_ins_hi {c a m p : Nat} {d b d' : Nat → Nat} (I : td_Ins c a m p d b d') {q i : Nat} (hi : i < c) (ha : a ≤ i) (h : td_Pa d q i) :
    (a ≤ q ∧ td_Pa d' (q + m) (i + m) ∧ td_ct d' (d' (i + m)) (q + m + 1) (i + m) = td_ct d (d i) (q + 1) i) ∨
    (q < a ∧ td_Pa d' q (i + m) ∧ d i ≤ d p + 1 ∧ (d i = d p + 1 → q = p) ∧ td_ct d' (d' (i + m)) (q + 1) (i + m) = td_ct d (d i) (q + 1) i + (if d i = d p + 1 then 1 else 0)) := by
  have bc := fun D hD => td_ins_bc I (D := D) hD
  obtain ⟨m0, pa, ac, hbt, hac, b0, hb, e1, e2, e3⟩ := I
  have h' := h
  obtain ⟨h1, h2, h3⟩ := h
  rcases Nat.lt_or_ge q a with z | z
  · right
    have hD : d i ≤ d p + 1 := by
      by_cases y : a = i
      · have := hac (by omega)
        rw [y] at this; exact this
      · have := h3 a z (by omega)
        have := hac (by omega)
        omega
    refine ⟨z, ⟨by omega, by rw [e1 q z, e3 i ha hi]; exact h2, ?_⟩, hD, ?_, ?_⟩
    · intro j x y
      rw [e3 i ha hi]
      rcases Nat.lt_or_ge j a with w | w
      · rw [e1 j w]; exact h3 j x (by omega)
      · rcases Nat.lt_or_ge j (a + m) with v | v
        · obtain ⟨t, rfl⟩ : ∃ t, j = a + t := ⟨j - a, by omega⟩
          rw [e2 t (by omega)]
          by_cases t0 : t = 0
          · subst t0; omega
          · have := hb t (by omega) (by omega); omega
        · obtain ⟨t, rfl⟩ : ∃ t, j = t + m := ⟨j - m, by omega⟩
          rw [e3 t (by omega) (by omega)]; exact h3 t (by omega) (by omega)
    · intro e
      refine td_uq h' ⟨by omega, by omega, fun j x y => ?_⟩
      rcases Nat.lt_or_ge j a with w | w
      · have := hbt j x w; omega
      · exact h3 j (by omega) y
    · have s1 := td_ct_sp (d := d') (D := d i) (lo := q + 1) (mid := a) (by omega) (hi := i + m) (by omega)
      have s2 := td_ct_sp (d := d') (D := d i) (lo := a) (mid := a + m) (by omega) (hi := i + m) (by omega)
      have s3 := td_ct_sp (d := d) (D := d i) (lo := q + 1) (mid := a) (by omega) (hi := i) ha
      have u1 : td_ct d' (d i) (q + 1) a = td_ct d (d i) (q + 1) a := td_ct_eq (fun j x y => e1 j y)
      have u2 : td_ct d' (d i) (a + m) (i + m) = td_ct d (d i) a i := td_ct_sh (fun j x y => e3 j x (by omega))
      rw [e3 i ha hi, s1, s2, u1, u2, bc _ hD, s3]
      omega
  · left
    refine ⟨z, ⟨by omega, by rw [e3 q z (by omega), e3 i ha hi]; exact h2, fun j x y => ?_⟩, ?_⟩
    · obtain ⟨t, rfl⟩ : ∃ t, j = t + m := ⟨j - m, by omega⟩
      rw [e3 i ha hi, e3 t (by omega) (by omega)]; exact h3 t (by omega) (by omega)
    · rw [e3 i ha hi, show q + m + 1 = q + 1 + m by omega]
      exact td_ct_sh (fun j x y => e3 j (by omega) (by omega))
theorem td_ins_new {c a m p : Nat} {d b d' : Nat → Nat} (I : td_Ins c a m p d b d') : td_Pa d' p a ∧ td_ct d' (d' a) (p + 1) a = td_ct d (d p + 1) (p + 1) a := by
  obtain ⟨m0, pa, ac, hbt, hac, b0, hb, e1, e2, e3⟩ := I
  have e20 := e2 0 m0
  rw [Nat.add_zero, b0] at e20
  refine ⟨⟨pa, by rw [e1 p pa, e20]; omega, fun j x y => by rw [e20, e1 j y]; exact hbt j x y⟩, ?_⟩
  rw [e20]
  exact td_ct_eq (fun j x y => e1 j y)
theorem td_ins_bk {c a m p : Nat} {d b d' : Nat → Nat} (I : td_Ins c a m p d b d') {q i : Nat} (hi : i < m) (h : td_Pa b q i) : td_Pa d' (a + q) (a + i) ∧ td_ct d' (d' (a + i)) (a + q + 1) (a + i) = td_ct b (b i) (q + 1) i := by
  obtain ⟨m0, pa, ac, hbt, hac, b0, hb, e1, e2, e3⟩ := I
  obtain ⟨h1, h2, h3⟩ := h
  refine ⟨⟨by omega, by rw [e2 q (by omega), e2 i hi]; exact h2, fun j x y => ?_⟩, ?_⟩
  · obtain ⟨t, rfl⟩ : ∃ t, j = a + t := ⟨j - a, by omega⟩
    rw [e2 i hi, e2 t (by omega)]; exact h3 t (by omega) (by omega)
  · rw [e2 i hi, show a + q + 1 = q + 1 + a by omega, show a + i = i + a by omega]
    exact td_ct_sh (fun j x y => by rw [show j + a = a + j by omega]; exact e2 j (by omega))
theorem td_ins_ok {c a m p : Nat} {d b d' : Nat → Nat} (I : td_Ins c a m p d b d') (h : td_OK c d) (hbb : ∀ j, j + 1 < m → b (j + 1) ≤ b j + 1) : td_OK (c + m) d' := by
  obtain ⟨m0, pa, ac, hbt, hac, b0, hb, e1, e2, e3⟩ := I
  refine ⟨by rw [e1 0 (by omega)]; exact h.1, fun i hi => ?_⟩
  have e20 := e2 0 m0
  rw [Nat.add_zero, b0] at e20
  rcases Nat.lt_trichotomy (i + 1) a with z | z | z
  · rw [e1 i (by omega), e1 (i + 1) z]; exact h.2 i (by omega)
  · rw [z, e20, e1 i (by omega)]
    by_cases y : p = i
    · subst y; omega
    · have := hbt i (by omega) (by omega); omega
  · rcases Nat.lt_trichotomy (i + 1) (a + m) with w | w | w
    · obtain ⟨t, rfl⟩ : ∃ t, i = a + t := ⟨i - a, by omega⟩
      rw [show a + t + 1 = a + (t + 1) by omega, e2 t (by omega), e2 (t + 1) (by omega)]
      have := hb (t + 1) (by omega) (by omega)
      have := hbb t (by omega)
      omega
    · obtain ⟨t, rfl⟩ : ∃ t, i = a + t := ⟨i - a, by omega⟩
      rw [w, e2 t (by omega), e3 a (Nat.le_refl _) (by omega)]
      have x1 := hac (by omega)
      have x2 := td_pos h (i := a) (by omega) (by omega)
      by_cases t0 : t = 0
      · subst t0; omega
      · have := hb t (by omega) (by omega); omega
    · obtain ⟨t, rfl⟩ : ∃ t, i = t + m := ⟨i - m, by omega⟩
      rw [show t + m + 1 = t + 1 + m by omega, e3 t (by omega) (by omega), e3 (t + 1) (by omega) (by omega)]
      exact h.2 t (by omega)
/-! a block cut out: d is its picture with the block put back in -/
def td_cutd (a m : Nat) (d : Nat → Nat) : Nat → Nat := fun i => if i < a then d i else d (i + m)
theorem td_cutd_lo {a m : Nat} {d : Nat → Nat} {i : Nat} (h : i < a) : td_cutd a m d i = d i := if_pos h
theorem td_cutd_hi {a m : Nat} {d : Nat → Nat} {i : Nat} (h : a ≤ i) : td_cutd a m d i = d (i + m) := if_neg (by omega)
theorem td_cut {c a m p : Nat} {d : Nat → Nat} (h : td_OK c d) (hp : td_Pa d p a) (ha : a < c) (he : td_En c d a (a + m)) : td_Ins (c - m) a m p (td_cutd a m d) (fun j => d (a + j)) d := by
  have dp := td_dp h ha hp
  obtain ⟨a1, a2, a3, a4⟩ := he
  obtain ⟨h1, h2, h3⟩ := hp
  refine ⟨by omega, h1, by omega, fun j x y => ?_, fun x => ?_, ?_, fun j x y => ?_, fun i x => ?_, fun j x => rfl, fun i x y => ?_⟩
  · rw [td_cutd_lo h1, td_cutd_lo y, ← dp]; exact h3 j x y
  · rw [td_cutd_lo h1, td_cutd_hi (Nat.le_refl _), ← dp]; exact a4 (by omega)
  · rw [td_cutd_lo h1]; exact dp
  · rw [td_cutd_lo h1, ← dp]; exact a3 (a + j) (by omega) (by omega)
  · exact (td_cutd_lo x).symm
  · exact (td_cutd_hi x).symm
theorem td_cut_ok {c a m p : Nat} {d : Nat → Nat} (h : td_OK c d) (hp : td_Pa d p a) (ha : a < c) (he : td_En c d a (a + m)) : td_OK (c - m) (td_cutd a m d) := by
  obtain ⟨a1, a2, a3, a4⟩ := he
  have h1 := hp.1
  refine ⟨by rw [td_cutd_lo (by omega)]; exact h.1, fun i hi => ?_⟩
  rcases Nat.lt_trichotomy (i + 1) a with z | z | z
  · rw [td_cutd_lo z, td_cutd_lo (by omega)]; exact h.2 i (by omega)
  · rw [td_cutd_hi (by omega), td_cutd_lo (by omega)]
    have x1 := td_pos h (i := i + 1 + m) (by omega) (by omega)
    have x2 := a4 (by omega)
    have x3 := (h.2 i (by omega)).2
    rw [z] at x3 ⊢
    rw [z] at x1
    omega
  · rw [td_cutd_hi (by omega), td_cutd_hi (by omega), show i + 1 + m = i + m + 1 by omega]
    exact h.2 (i + m) (by omega)
/-! places for the k-th child -/
def td_Pl (c : Nat) (d : Nat → Nat) (p k x : Nat) : Prop := p < x ∧ x ≤ c ∧ (∀ j, p < j → j < x → d p + 1 ≤ d j) ∧ (x < c → d x ≤ d p + 1) ∧ td_ct d (d p + 1) (p + 1) x = k
theorem td_pl_0 {c : Nat} {d : Nat → Nat} (h : td_OK c d) {p : Nat} (hp : p < c) : td_Pl c d p 0 (p + 1) :=
  ⟨by omega, by omega, fun j x y => by omega, fun x => (h.2 p x).2, td_ct_0 (Nat.le_refl _)⟩
theorem td_pl_le {c : Nat} {d : Nat → Nat} {p k x e : Nat} (h : td_Pl c d p k x) (he : td_En c d p e) : x ≤ e := by
  obtain ⟨a1, a2, a3, a4, a5⟩ := h
  obtain ⟨b1, b2, b3, b4⟩ := he
  rcases Nat.lt_or_ge e x with z | z
  · have := a3 e b1 z
    have := b4 (by omega)
    omega
  · exact z
theorem td_pl_d {c : Nat} {d : Nat → Nat} {p k x e : Nat} (h : td_Pl c d p k x) (he : td_En c d p e) (z : x < e) : d x = d p + 1 := by
  obtain ⟨a1, a2, a3, a4, a5⟩ := h
  obtain ⟨b1, b2, b3, b4⟩ := he
  have := a4 (by omega)
  have := b3 x a1 z
  omega
theorem td_pl_s {c : Nat} {d : Nat → Nat} {p k x e f : Nat} (h : td_Pl c d p k x) (he : td_En c d p e) (z : x < e) (hf : td_En c d x f) : td_Pl c d p (k + 1) f := by
  have dx := td_pl_d h he z
  obtain ⟨a1, a2, a3, a4, a5⟩ := h
  obtain ⟨b1, b2, b3, b4⟩ := he
  obtain ⟨c1, c2, c3, c4⟩ := hf
  refine ⟨by omega, c2, fun j u v => ?_, fun u => by have := c4 u; omega, ?_⟩
  · rcases Nat.lt_trichotomy j x with w | w | w
    · exact a3 j u w
    · subst w; omega
    · have := c3 j w v; omega
  · have s := td_ct_sp (d := d) (D := d p + 1) (lo := p + 1) (mid := x + 1) (by omega) (hi := f) (by omega)
    have t := td_ct_s d (d p + 1) (p + 1) x
    rw [if_pos ⟨by omega, dx⟩, a5] at t
    have z0 : td_ct d (d p + 1) (x + 1) f = 0 := td_ct_z (fun j u v => by have := c3 j (by omega) v; omega)
    omega
theorem td_pl_rk {c : Nat} {d : Nat → Nat} (h : td_OK c d) {p k x i : Nat} (hx : td_Pl c d p k x) (hi : i < c) (hp : td_Pa d p i) : x ≤ i ↔ k ≤ td_ct d (d i) (p + 1) i := by
  have di := td_dp h hi hp
  obtain ⟨a1, a2, a3, a4, a5⟩ := hx
  rw [di, ← a5]
  constructor
  · exact fun z => td_ct_le z
  · intro z
    rcases Nat.lt_or_ge i x with y | y
    · have := td_ct_lt (d := d) (D := d p + 1) (lo := p + 1) (i := i) (j := x) (by have := hp.1; omega) y di
      omega
    · exact y
theorem td_pl_ch {c : Nat} {d : Nat → Nat} {p k x e : Nat} (h : td_Pl c d p k x) (he : td_En c d p e) (z : x < e) : td_Pa d p x ∧ td_ct d (d x) (p + 1) x = k := by
  have dx := td_pl_d h he z
  obtain ⟨a1, a2, a3, a4, a5⟩ := h
  exact ⟨⟨a1, by omega, fun j u v => by have := a3 j u v; omega⟩, by rw [dx]; exact a5⟩
theorem td_pl_up {c : Nat} {d : Nat → Nat} {p k x e : Nat} (h : td_Pl c d p k x) (he : td_En c d p e) : k ≤ td_ct d (d p + 1) (p + 1) e := by
  have := td_pl_le h he
  rw [← h.2.2.2.2]
  exact td_ct_le this
/-! the position behind i, as found by climbing -/
theorem td_nx_ch {d : Nat → Nat} {i : Nat} (e : d (i + 1) = d i + 1) : td_Pa d i (i + 1) ∧ td_ct d (d (i + 1)) (i + 1) (i + 1) = 0 :=
  ⟨⟨by omega, by omega, fun j x y => by omega⟩, td_ct_0 (Nat.le_refl _)⟩
theorem td_nx_no {c : Nat} {d : Nat → Nat} {i l : Nat} (hl : l < c) (e : i + 1 < c → d (i + 1) ≤ d i) : ¬ td_Pa d i l := by
  rintro ⟨h1, h2, h3⟩
  have := e (by omega)
  by_cases z : i + 1 = l
  · rw [z] at this; omega
  · have := h3 (i + 1) (by omega) (by omega); omega
theorem td_nx_sb {c : Nat} {d : Nat → Nat} {a q e : Nat} (hq : td_Pa d q a) (he : td_En c d a e) (z : d e = d a) : td_Pa d q e ∧ td_ct d (d e) (q + 1) e = td_ct d (d a) (q + 1) a + 1 := by
  obtain ⟨a1, a2, a3, a4⟩ := he
  obtain ⟨h1, h2, h3⟩ := hq
  refine ⟨⟨by omega, by omega, fun j x y => ?_⟩, ?_⟩
  · rcases Nat.lt_trichotomy j a with w | w | w
    · have := h3 j x w; omega
    · subst w; omega
    · have := a3 j w y; omega
  · rw [z]
    have s := td_ct_sp (d := d) (D := d a) (lo := q + 1) (mid := a + 1) (by omega) (hi := e) (by omega)
    have t := td_ct_s d (d a) (q + 1) a
    rw [if_pos ⟨by omega, rfl⟩] at t
    have z0 : td_ct d (d a) (a + 1) e = 0 := td_ct_z (fun j u v => by have := a3 j (by omega) v; omega)
    omega
theorem td_nx_up {c : Nat} {d : Nat → Nat} (h : td_OK c d) {a q e : Nat} (ha : a < c) (hq : td_Pa d q a) (he : td_En c d a e) (z : e < c → d e ≠ d a) : td_En c d q e ∧ ∀ l, l < c → td_Pa d q l → td_ct d (d l) (q + 1) l ≠ td_ct d (d a) (q + 1) a + 1 := by
  have da := td_dp h ha hq
  have qa := td_PA hq
  obtain ⟨a1, a2, a3, a4⟩ := he
  have h1 := hq.1
  refine ⟨⟨by omega, a2, fun j x y => ?_, fun x => by have := a4 x; have := z x; omega⟩, fun l hl hp n => ?_⟩
  · rcases Nat.lt_or_ge a j with w | w
    · have := a3 j w y; omega
    · exact qa.2 j x w
  · have dl := td_dp h hl hp
    rcases Nat.lt_trichotomy l a with w | w | w
    · have := td_rk_lt h ha hp hq w; omega
    · subst w; omega
    · rcases Nat.lt_trichotomy l e with v | v | v
      · have := a3 l w v; omega
      · subst v; exact z hl (by omega)
      · have x1 := hp.2.2 e (by omega) v
        have x2 := a4 (by omega)
        have x3 := z (by omega)
        omega
theorem td_nx_rt {c : Nat} {d : Nat → Nat} (h : td_OK c d) {e : Nat} (he : td_En c d 0 e) : e = c := by
  obtain ⟨a1, a2, a3, a4⟩ := he
  rcases Nat.lt_or_ge e c with z | z
  · have := a4 z
    have := td_pos h a1 z
    have := h.1
    omega
  · omega
theorem td_pl_uq {c : Nat} {d : Nat → Nat} {p k x y e : Nat} (hx : td_Pl c d p k x) (hy : td_Pl c d p k y) (he : td_En c d p e) : x = y := by
  have xe := td_pl_le hx he
  have ye := td_pl_le hy he
  rcases Nat.lt_trichotomy x y with z | z | z
  · have dx := td_pl_d hx he (by omega)
    have := td_ct_lt (d := d) (D := d p + 1) (lo := p + 1) (i := x) (j := y) hx.1 z dx
    rw [hx.2.2.2.2, hy.2.2.2.2] at this
    omega
  · exact z
  · have dy := td_pl_d hy he (by omega)
    have := td_ct_lt (d := d) (D := d p + 1) (lo := p + 1) (i := y) (j := x) hy.1 z dy
    rw [hx.2.2.2.2, hy.2.2.2.2] at this
    omega
theorem td_pl_ex {c : Nat} {d : Nat → Nat} (h : td_OK c d) {p e : Nat} (hp : p < c) (he : td_En c d p e) : ∀ k, k ≤ td_ct d (d p + 1) (p + 1) e → ∃ x, td_Pl c d p k x
  | 0, _ => ⟨p + 1, td_pl_0 h hp⟩
  | k + 1, hk => by
    obtain ⟨x, hx⟩ := td_pl_ex h hp he k (by omega)
    have xe := td_pl_le hx he
    have ec := he.2.1
    have z : x < e := by
      rcases Nat.lt_or_ge x e with z | z
      · exact z
      · have : x = e := by omega
        rw [← this, hx.2.2.2.2] at hk
        omega
    obtain ⟨f, hf⟩ := td_endEx (c := c) (d := d) (i := x) (by omega)
    exact ⟨f, td_pl_s hx he z hf⟩
