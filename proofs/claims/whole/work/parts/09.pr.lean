/-! parents and ranks by node: a block cut out, a block put in -/
def td_T (c : Nat) (r d : Nat → Nat) : Prop := c ≤ 24 ∧ td_OK c d ∧ r 0 = 0 ∧ (∀ i, i < c → r i < 24) ∧ (∀ i j, i < c → j < c → r i = r j → i = j)
def tx_PR (c : Nat) (r d : Nat → Nat) (pa rk : Nat → Int32) : Prop :=
  (∀ q i, i < c → td_Pa d q i → pa (r i) = nI (r q) ∧ rk (r i) = nI (td_ct d (d i) (q + 1) i)) ∧ (0 < c → pa (r 0) = -1 ∧ rk (r 0) = 0)
def tx_PRb (m : Nat) (B b : Nat → Nat) (pa rk : Nat → Int32) : Prop :=
  ∀ q j, j < m → td_Pa b q j → pa (B j) = nI (B q) ∧ rk (B j) = nI (td_ct b (b j) (q + 1) j)
def tx_U (c : Nat) (r : Nat → Nat) (u : Nat → Int32) : Prop := ∀ q, q < 24 → ((u q = 1 ∧ ∃ i, i < c ∧ r i = q) ∨ (u q = 0 ∧ ∀ i, i < c → r i ≠ q))
theorem tx_m1 {n : Nat} (h : n < 2 ^ 31) : ¬ (-1 : Int32) = nI n := fun e => nI_pos h (by rw [← e]; decide)
theorem tx_m1' {n : Nat} (h : n < 2 ^ 31) : ¬ nI n = (-1 : Int32) := fun e => tx_m1 h e.symm
def tx_Det (u pa rk : Nat → Int32) (n : Nat) (rk1 : Nat → Int32) : Prop :=
  ∀ q, q < 24 → ((u q ≠ 0 ∧ pa q = pa n ∧ rk n < rk q) → rk1 q = rk q - 1) ∧ (¬ (u q ≠ 0 ∧ pa q = pa n ∧ rk n < rk q) → rk1 q = rk q)
def tx_Att (u pa rk : Nat → Int32) (n : Nat) (par k : Int32) (pa2 rk2 : Nat → Int32) : Prop :=
  pa2 n = par ∧ rk2 n = k ∧ ∀ q, q < 24 → q ≠ n → pa2 q = pa q ∧ ((u q ≠ 0 ∧ pa q = par ∧ k ≤ rk q) → rk2 q = rk q + 1) ∧ (¬ (u q ≠ 0 ∧ pa q = par ∧ k ≤ rk q) → rk2 q = rk q)
theorem tx_U_1 {c : Nat} {r : Nat → Nat} {u : Nat → Int32} (h : tx_U c r u) {i : Nat} (hi : i < c) (hr : r i < 24) : u (r i) ≠ 0 := by
  rcases h (r i) hr with x | x
  · rw [x.1]; decide
  · exact absurd rfl (x.2 i hi)
theorem tx_ctb {d : Nat → Nat} {D lo i c : Nat} (hi : i < c) (hc : c ≤ 24) : td_ct d D lo i < 24 := by
  have := td_ct_c (d := d) (D := D) (lo := lo) i
  omega
theorem tx_det_aux {c a p : Nat} {r d : Nat → Nat} {u pa rk rk1 : Nat → Int32} (T : td_T c r d) (P : tx_PR c r d pa rk) (hu : tx_U c r u) (hp : td_Pa d p a) (ha : a < c) (D : tx_Det u pa rk (r a) rk1) :
    ∀ q i, i < c → td_Pa d q i → rk1 (r i) = nI (td_ct d (d i) (q + 1) i - (if q = p ∧ a < i then 1 else 0)) := by
  intro q i hi hq
  obtain ⟨t1, t2, t3, t4, t5⟩ := T
  obtain ⟨a1, a2⟩ := P.1 p a ha hp
  obtain ⟨b1, b2⟩ := P.1 q i hi hq
  have hqi := hq.1
  have hpa := hp.1
  have ca := tx_ctb (d := d) (D := d a) (lo := p + 1) ha t1
  have ci := tx_ctb (d := d) (D := d i) (lo := q + 1) hi t1
  obtain ⟨d1, d2⟩ := D (r i) (t4 i hi)
  have rq := t4 q (by omega)
  have rp := t4 p (by omega)
  by_cases z : q = p ∧ a < i
  · rw [if_pos z]
    obtain ⟨z1, z2⟩ := z
    subst z1
    have lt := td_rk_lt t2 hi hp hq z2
    have x := d1 ⟨tx_U_1 hu hi (t4 i hi), by rw [a1, b1], by rw [a2, b2]; exact nI_lt lt (by omega)⟩
    rw [x, b2]
    exact pk_sub (a := _) (b := 1) (by omega)
  · rw [if_neg z, Nat.sub_zero, ← b2]
    apply d2
    rintro ⟨-, y2, y3⟩
    rw [a1, b1, nI_eq (by omega) (by omega)] at y2
    have e := t5 q p (by omega) (by omega) y2
    subst e
    rw [a2, b2, nI_ltI (by omega) (by omega)] at y3
    rcases Nat.lt_trichotomy a i with w | w | w
    · exact z ⟨rfl, w⟩
    · subst w; omega
    · have := td_rk_lt t2 ha hq hp w
      omega
theorem tx_det {c a m p : Nat} {r d : Nat → Nat} {u pa rk rk1 : Nat → Int32} (T : td_T c r d) (P : tx_PR c r d pa rk) (hu : tx_U c r u) (hp : td_Pa d p a) (ha : a < c) (he : td_En c d a (a + m)) (D : tx_Det u pa rk (r a) rk1) :
    tx_PR (c - m) (td_cutd a m r) (td_cutd a m d) pa rk1 ∧ tx_PRb m (fun j => r (a + j)) (fun j => d (a + j)) pa rk1 := by
  have aux := tx_det_aux T P hu hp ha D
  have I := td_cut T.2.1 hp ha he
  have ok := td_cut_ok T.2.1 hp ha he
  have hpa := hp.1
  have hm := he.1
  have hmc := he.2.1
  refine ⟨⟨fun q i hi hq => ?_, fun h0 => ?_⟩, fun q j hj hq => ?_⟩
  · rcases Nat.lt_or_ge i a with z | z
    · obtain ⟨x1, x2⟩ := td_ins_lo I z hq
      have y1 := (P.1 q i (by omega) x1).1
      have y2 := aux q i (by omega) x1
      rw [if_neg (by omega), Nat.sub_zero, x2] at y2
      have hqi := hq.1
      rw [td_cutd_lo z, td_cutd_lo (by omega), y1, y2]
      exact ⟨rfl, rfl⟩
    · rcases td_ins_hi I hi z hq with ⟨w, x1, x2⟩ | ⟨w, x1, x0, x3, x2⟩
      · have y1 := (P.1 _ _ (by omega) x1).1
        have y2 := aux _ _ (by omega) x1
        rw [if_neg (by omega), Nat.sub_zero, x2] at y2
        rw [td_cutd_hi z, td_cutd_hi w, y1, y2]
        exact ⟨rfl, rfl⟩
      · have y1 := (P.1 _ _ (by omega) x1).1
        have y2 := aux _ _ (by omega) x1
        have e : (if q = p ∧ a < i + m then 1 else 0) = (if td_cutd a m d i = td_cutd a m d p + 1 then 1 else 0) := by
          by_cases v : q = p
          · have := td_dp ok hi hq
            rw [v] at this
            rw [if_pos ⟨v, by omega⟩, if_pos this]
          · rw [if_neg (fun u => v u.1), if_neg (fun u => v (x3 u))]
        rw [x2, e, Nat.add_sub_cancel] at y2
        rw [td_cutd_hi z, td_cutd_lo w, y1, y2]
        exact ⟨rfl, rfl⟩
  · have y := P.2 (by omega)
    rw [td_cutd_lo (by omega)]
    refine ⟨y.1, ?_⟩
    have hr0 := T.2.2.2.1 0 (by omega)
    rw [(D (r 0) hr0).2, y.2]
    rintro ⟨-, y2, -⟩
    rw [y.1, (P.1 p a ha hp).1] at y2
    exact tx_m1 (by have := T.2.2.2.1 p (by omega); omega) y2
  · obtain ⟨x1, x2⟩ := td_ins_bk I hj hq
    have y1 := (P.1 _ _ (by omega) x1).1
    have y2 := aux _ _ (by omega) x1
    rw [if_neg (by omega), Nat.sub_zero, x2] at y2
    exact ⟨y1, y2⟩
theorem tx_PRb_sh {m x y : Nat} {B b b' : Nat → Nat} {pa rk : Nat → Int32} (h : tx_PRb m B b pa rk) (e : ∀ j, j < m → b' j + x = b j + y) : tx_PRb m B b' pa rk := by
  rintro q j hj ⟨h1, h2, h3⟩
  have eq := e q (by omega)
  have ej := e j hj
  obtain ⟨g1, g2⟩ := h q j hj ⟨h1, by omega, fun l u v => by have := h3 l u v; have := e l (by omega); omega⟩
  refine ⟨g1, ?_⟩
  rw [g2]
  exact congrArg nI (td_ct_iff (fun l u v => by have := e l (by omega); omega))
/-- B put in at x -/
def td_insr (x m : Nat) (B r : Nat → Nat) : Nat → Nat := fun i => if i < x then r i else if i < x + m then B (i - x) else r (i - m)
theorem td_insr_lo {x m : Nat} {B r : Nat → Nat} {i : Nat} (h : i < x) : td_insr x m B r i = r i := if_pos h
theorem td_insr_in {x m : Nat} {B r : Nat → Nat} {j : Nat} (h : j < m) : td_insr x m B r (x + j) = B j := by
  unfold td_insr
  rw [if_neg (by omega), if_pos (by omega), show x + j - x = j by omega]
theorem td_insr_hi {x m : Nat} {B r : Nat → Nat} {i : Nat} (h : x ≤ i) : td_insr x m B r (i + m) = r i := by
  unfold td_insr
  rw [if_neg (by omega), if_neg (by omega), show i + m - m = i by omega]
theorem td_insr_cs {x m c : Nat} {P : Nat → Prop} (h1 : ∀ i, i < x → P i) (h2 : ∀ j, j < m → P (x + j)) (h3 : ∀ i, x ≤ i → i < c → P (i + m)) : ∀ i, i < c + m → P i := by
  intro i hi
  rcases Nat.lt_or_ge i x with z | z
  · exact h1 i z
  · rcases Nat.lt_or_ge i (x + m) with w | w
    · have := h2 (i - x) (by omega)
      rw [show x + (i - x) = i by omega] at this
      exact this
    · have := h3 (i - m) (by omega) (by omega)
      rw [show i - m + m = i by omega] at this
      exact this
theorem td_insT {c x m p : Nat} {r d b d' B : Nat → Nat} (T : td_T c r d) (I : td_Ins c x m p d b d') (hc : c + m ≤ 24) (hbb : ∀ j, j + 1 < m → b (j + 1) ≤ b j + 1) (hB : ∀ j, j < m → B j < 24)
    (hi : ∀ i j, i < m → j < m → B i = B j → i = j) (hd : ∀ i j, i < c → j < m → r i ≠ B j) : td_T (c + m) (td_insr x m B r) d' := by
  have hx := I.2.1
  have hxc := I.2.2.1
  refine ⟨hc, td_ins_ok I T.2.1 hbb, ?_, ?_, ?_⟩
  · rw [td_insr_lo (by omega)]; exact T.2.2.1
  · refine td_insr_cs (x := x) ?_ ?_ ?_
    · intro i h; rw [td_insr_lo h]; exact T.2.2.2.1 i (by omega)
    · intro j h; rw [td_insr_in h]; exact hB j h
    · intro i h1 h2; rw [td_insr_hi h1]; exact T.2.2.2.1 i h2
  · intro i j hi1 hj1
    revert i j
    have key : ∀ i, i < c + m → ∀ j, j < c + m → td_insr x m B r i = td_insr x m B r j → i = j := by
      refine td_insr_cs (x := x) ?_ ?_ ?_
      · intro i h
        refine td_insr_cs (x := x) ?_ ?_ ?_
        · intro j h' e; rw [td_insr_lo h, td_insr_lo h'] at e; exact T.2.2.2.2 i j (by omega) (by omega) e
        · intro j h' e; rw [td_insr_lo h, td_insr_in h'] at e; exact absurd e (hd i j (by omega) h')
        · intro j h1 h2 e; rw [td_insr_lo h, td_insr_hi h1] at e; have := T.2.2.2.2 i j (by omega) (by omega) e; omega
      · intro i h
        refine td_insr_cs (x := x) ?_ ?_ ?_
        · intro j h' e; rw [td_insr_in h, td_insr_lo h'] at e; exact absurd e.symm (hd j i (by omega) h)
        · intro j h' e; rw [td_insr_in h, td_insr_in h'] at e; have := hi i j h h' e; omega
        · intro j h1 h2 e; rw [td_insr_in h, td_insr_hi h1] at e; exact absurd e.symm (hd j i h2 h)
      · intro i g1 g2
        refine td_insr_cs (x := x) ?_ ?_ ?_
        · intro j h' e; rw [td_insr_hi g1, td_insr_lo h'] at e; have := T.2.2.2.2 i j (by omega) (by omega) e; omega
        · intro j h' e; rw [td_insr_hi g1, td_insr_in h'] at e; exact absurd e (hd i j g2 h')
        · intro j h1 h2 e; rw [td_insr_hi g1, td_insr_hi h1] at e; have := T.2.2.2.2 i j g2 h2 e; omega
    exact fun i j a b' => key i a j b'
theorem tx_att {c x m p k : Nat} {r d b d' B : Nat → Nat} {u pa rk pa2 rk2 : Nat → Int32} (T : td_T c r d) (P : tx_PR c r d pa rk) (Pb : tx_PRb m B b pa rk) (I : td_Ins c x m p d b d') (hk : td_Pl c d p k x)
    (T' : td_T (c + m) (td_insr x m B r) d') (hB : ∀ j, j < m → B j < 24) (hi : ∀ i j, i < m → j < m → B i = B j → i = j) (hd : ∀ i j, i < c → j < m → r i ≠ B j)
    (hu : ∀ i, i < c → u (r i) ≠ 0) (A : tx_Att u pa rk (B 0) (nI (r p)) (nI k) pa2 rk2) : tx_PR (c + m) (td_insr x m B r) d' pa2 rk2 := by
  obtain ⟨A1, A2, A3⟩ := A
  have ok' := T'.2.1
  have m0 := I.1
  have hpx := I.2.1
  have hxc := I.2.2.1
  have c24 := T.1
  have c24' := T'.1
  have kb : k < 24 := by
    rw [← hk.2.2.2.2]
    have := td_ct_c (d := d) (D := d p + 1) (lo := p + 1) x
    have := hk.2.1
    have := T'.1
    omega
  have rk_old : ∀ q i, i < c → td_Pa d q i → rk2 (r i) = nI (td_ct d (d i) (q + 1) i + (if q = p ∧ x ≤ i then 1 else 0)) := by
    intro q i hi1 hq
    obtain ⟨b1, b2⟩ := P.1 q i hi1 hq
    obtain ⟨-, a1, a2⟩ := A3 (r i) (T.2.2.2.1 i hi1) (hd i 0 hi1 m0)
    have ci := tx_ctb (d := d) (D := d i) (lo := q + 1) hi1 T.1
    have hqi := hq.1
    have rq := T.2.2.2.1 q (by omega)
    have rp := T.2.2.2.1 p (by omega)
    by_cases z : q = p ∧ x ≤ i
    · rw [if_pos z]
      obtain ⟨z1, z2⟩ := z
      subst z1
      rw [a1 ⟨hu i hi1, b1, by rw [b2]; exact nI_le ((td_pl_rk T.2.1 hk hi1 hq).mp z2) (by omega)⟩, b2, nI_1]
    · rw [if_neg z, Nat.add_zero, ← b2]
      apply a2
      rintro ⟨-, y2, y3⟩
      rw [b1, nI_eq (by omega) (by omega)] at y2
      have e := T.2.2.2.2 q p (by omega) (by omega) y2
      subst e
      rw [b2, nI_leI (by omega) (by omega)] at y3
      exact z ⟨rfl, (td_pl_rk T.2.1 hk hi1 hq).mpr y3⟩
  have pa_old : ∀ i, i < c → pa2 (r i) = pa (r i) := fun i h => (A3 (r i) (T.2.2.2.1 i h) (hd i 0 h m0)).1
  refine ⟨?_, fun _ => ?_⟩
  · intro q
    refine td_insr_cs (x := x) ?_ ?_ ?_
    · intro i h hq
      by_cases i0 : i = 0
      · subst i0; exact absurd hq td_p0
      · obtain ⟨q0, hq0⟩ := td_ex T.2.1 (i := i) (by omega) (by omega)
        obtain ⟨x1, x2⟩ := td_ins_lo I h hq0
        have e := td_uq hq x1
        subst e
        have hqi := hq.1
        have y1 := (P.1 q i (by omega) hq0).1
        have y2 := rk_old q i (by omega) hq0
        rw [if_neg (by omega), Nat.add_zero] at y2
        rw [td_insr_lo h, td_insr_lo (by omega), pa_old i (by omega), y1, y2, x2]
        exact ⟨rfl, rfl⟩
    · intro j h hq
      by_cases j0 : j = 0
      · subst j0
        obtain ⟨x1, x2⟩ := td_ins_new I
        have e := td_uq hq x1
        subst e
        rw [td_insr_in h, td_insr_lo hpx, A1, A2]
        rw [Nat.add_zero, x2, hk.2.2.2.2]
        exact ⟨rfl, rfl⟩
      · obtain ⟨q0, hq0⟩ : ∃ q0, td_Pa b q0 j := by
          obtain ⟨k', rfl⟩ : ∃ k', j = k' + 1 := ⟨j - 1, by omega⟩
          obtain ⟨p', h1, h2, h3⟩ := td_last (d := b) (D := b (k' + 1)) (by rw [I.2.2.2.2.2.1]; exact I.2.2.2.2.2.2.1 (k' + 1) (by omega) h) k'
          exact ⟨p', h1, h2, h3⟩
        obtain ⟨x1, x2⟩ := td_ins_bk I h hq0
        have e := td_uq hq x1
        subst e
        have hqj := hq0.1
        obtain ⟨y1, y2⟩ := Pb q0 j h hq0
        have ne : B j ≠ B 0 := fun z => by have := hi j 0 h m0 z; omega
        obtain ⟨a0, a1, a2⟩ := A3 (B j) (hB j h) ne
        rw [td_insr_in h, td_insr_in (by omega), a0, y1, x2, ← y2]
        refine ⟨rfl, a2 ?_⟩
        rintro ⟨-, z2, -⟩
        have rp := T.2.2.2.1 p (by omega)
        have bq := hB q0 (by omega)
        rw [y1, nI_eq (by omega) (by omega)] at z2
        exact hd p q0 (by omega) (by omega) z2.symm
    · intro i h1 h2 hq
      obtain ⟨q0, hq0⟩ := td_ex T.2.1 (i := i) (by omega) h2
      have y1 := (P.1 q0 i h2 hq0).1
      have y2 := rk_old q0 i h2 hq0
      rcases td_ins_hi I h2 h1 hq0 with ⟨w, x1, x2⟩ | ⟨w, x1, x0, x3, x2⟩
      · have e := td_uq hq x1
        subst e
        rw [if_neg (by omega), Nat.add_zero] at y2
        rw [td_insr_hi h1, td_insr_hi w, pa_old i h2, y1, y2, x2]
        exact ⟨rfl, rfl⟩
      · have e := td_uq hq x1
        subst e
        have e2 : (if q = p ∧ x ≤ i then 1 else 0) = (if d i = d p + 1 then 1 else 0) := by
          by_cases v : q = p
          · have := td_dp T.2.1 h2 hq0
            rw [v] at this
            rw [if_pos ⟨v, h1⟩, if_pos this]
          · rw [if_neg (fun u => v u.1), if_neg (fun u => v (x3 u))]
        rw [e2] at y2
        rw [td_insr_hi h1, td_insr_lo w, pa_old i h2, y1, y2, x2]
        exact ⟨rfl, rfl⟩
  · have y := P.2 (by omega)
    rw [td_insr_lo (by omega), pa_old 0 (by omega)]
    refine ⟨y.1, ?_⟩
    obtain ⟨-, -, a2⟩ := A3 (r 0) (T.2.2.2.1 0 (by omega)) (hd 0 0 (by omega) m0)
    rw [a2, y.2]
    rintro ⟨-, z2, -⟩
    have rp := T.2.2.2.1 p (by omega)
    rw [y.1] at z2
    exact tx_m1 (by omega) z2
