/-! counts: pieces, all, the children that are left when a block is cut out -/
theorem tc_add (S : Nat → Bool) (lo : Nat) : ∀ n, tc_n S (lo + n) = tc_n S lo + tc_n (fun i => S (lo + i)) n
  | 0 => by show tc_n S lo = tc_n S lo + 0; omega
  | n + 1 => by
    show tc_n S (lo + n + 1) = _
    rw [tc_s, tc_s, tc_add S lo n]
    exact Nat.add_assoc _ _ _
theorem tc_all {S : Nat → Bool} : ∀ {n : Nat}, (∀ i, i < n → S i = true) → tc_n S n = n
  | 0, _ => rfl
  | n + 1, h => by rw [tc_s, tc_all (n := n) (fun i hi => h i (by omega)), if_pos (h n (by omega))]
theorem tc_lt {S : Nat → Bool} {a : Nat} (ha : S a = false) : ∀ {n : Nat}, a < n → tc_n S n < n
  | 0, h => by omega
  | n + 1, h => by
    rw [tc_s]
    by_cases z : a = n
    · rw [← z, if_neg (by rw [ha]; decide)]
      have := tc_le S a
      omega
    · have := tc_lt (n := n) ha (by omega)
      split <;> omega
theorem tx_full {c : Nat} {r d : Nat → Nat} (T : td_T c r d) : (∀ q, q < 24 → ∃ i, i < c ∧ r i = q) ↔ c = 24 := by
  have e := tc_inj (r := r) (Q := fun _ => true) c (fun q => tk_d (∃ i, i < c ∧ r i = q)) T.2.2.2.1 T.2.2.2.2 (fun q _ => by
    show tk_d _ = true ↔ _
    rw [tk_d_t]
    exact ⟨fun ⟨i, a, b⟩ => ⟨i, a, b, rfl⟩, fun ⟨i, a, b, _⟩ => ⟨i, a, b⟩⟩)
  rw [tc_all (S := fun _ => true) (n := c) (fun _ _ => rfl)] at e
  constructor
  · intro h
    rw [tc_all (n := 24) (fun q hq => tk_d_t.mpr (h q hq))] at e
    exact e.symm
  · intro h q hq
    rcases Classical.em (∃ i, i < c ∧ r i = q) with z | z
    · exact z
    · have := tc_lt (S := fun q => tk_d (∃ i, i < c ∧ r i = q)) (a := q) (tk_d_f.mpr z) hq
      omega
def td_sh (a m i : Nat) : Nat := if i < a then i else i + m
theorem td_sh_lo {a m i : Nat} (h : i < a) : td_sh a m i = i := if_pos h
theorem td_sh_hi {a m i : Nat} (h : a ≤ i) : td_sh a m i = i + m := if_neg (by omega)
theorem td_sh_inj {a m i j : Nat} (h : td_sh a m i = td_sh a m j) : i = j := by
  rcases Nat.lt_or_ge i a with x | x <;> rcases Nat.lt_or_ge j a with y | y
  · rw [td_sh_lo x, td_sh_lo y] at h; exact h
  · rw [td_sh_lo x, td_sh_hi y] at h; omega
  · rw [td_sh_hi x, td_sh_lo y] at h; omega
  · rw [td_sh_hi x, td_sh_hi y] at h; omega
theorem td_cut_iff {c a m p : Nat} {d : Nat → Nat} (h : td_OK c d) (hp : td_Pa d p a) (ha : a < c) (he : td_En c d a (a + m)) {q l : Nat} (hl : l < c - m) :
    td_Pa d (td_sh a m q) (td_sh a m l) ↔ td_Pa (td_cutd a m d) q l := by
  have I := td_cut h hp ha he
  have ok := td_cut_ok h hp ha he
  have hpa := hp.1
  have fwd : ∀ q, td_Pa (td_cutd a m d) q l → td_Pa d (td_sh a m q) (td_sh a m l) := by
    intro q hq
    have hql := hq.1
    rcases Nat.lt_or_ge l a with z | z
    · rw [td_sh_lo z, td_sh_lo (by omega)]
      exact (td_ins_lo I z hq).1
    · rw [td_sh_hi z]
      rcases td_ins_hi I hl z hq with ⟨w, x, -⟩ | ⟨w, x, -⟩
      · rw [td_sh_hi w]; exact x
      · rw [td_sh_lo w]; exact x
  refine ⟨fun x => ?_, fwd q⟩
  by_cases l0 : l = 0
  · subst l0
    rw [td_sh_lo (i := 0) (by omega)] at x
    exact absurd x td_p0
  · obtain ⟨q0, hq0⟩ := td_ex ok (i := l) (by omega) hl
    have e := td_sh_inj (td_uq x (fwd q0 hq0))
    rw [e]; exact hq0
theorem tc_cut {c a m p : Nat} {d : Nat → Nat} (h : td_OK c d) (hp : td_Pa d p a) (ha : a < c) (he : td_En c d a (a + m)) (q : Nat) :
    tc_n (fun l => tk_d (td_Pa d (td_sh a m q) l)) c = tc_n (fun l => tk_d (td_Pa (td_cutd a m d) q l)) (c - m) + (if td_sh a m q = p then 1 else 0) := by
  have I := td_cut h hp ha he
  have hpa := hp.1
  have am := he.1
  have amc := he.2.1
  have e1 : c = a + (m + (c - m - a)) := by omega
  have e2 : c - m = a + (c - m - a) := by omega
  have s1 : tc_n (fun l => tk_d (td_Pa d (td_sh a m q) l)) c = tc_n (fun l => tk_d (td_Pa d (td_sh a m q) l)) a + (tc_n (fun j => tk_d (td_Pa d (td_sh a m q) (a + j))) m + tc_n (fun j => tk_d (td_Pa d (td_sh a m q) (a + (m + j)))) (c - m - a)) := by
    have x := tc_add (fun l => tk_d (td_Pa d (td_sh a m q) l)) a (m + (c - m - a))
    rw [← e1] at x
    rw [x, tc_add (fun j => tk_d (td_Pa d (td_sh a m q) (a + j))) m (c - m - a)]
  have s2 : tc_n (fun l => tk_d (td_Pa (td_cutd a m d) q l)) (c - m) = tc_n (fun l => tk_d (td_Pa (td_cutd a m d) q l)) a + tc_n (fun j => tk_d (td_Pa (td_cutd a m d) q (a + j))) (c - m - a) := by
    have x := tc_add (fun l => tk_d (td_Pa (td_cutd a m d) q l)) a (c - m - a)
    rw [← e2] at x
    exact x
  have u1 : tc_n (fun l => tk_d (td_Pa d (td_sh a m q) l)) a = tc_n (fun l => tk_d (td_Pa (td_cutd a m d) q l)) a := tc_ext (fun l hl => by
    have x := td_cut_iff h hp ha he (q := q) (l := l) (by omega)
    rw [td_sh_lo hl] at x
    exact tk_d_c x)
  have u3 : tc_n (fun j => tk_d (td_Pa d (td_sh a m q) (a + (m + j)))) (c - m - a) = tc_n (fun j => tk_d (td_Pa (td_cutd a m d) q (a + j))) (c - m - a) := tc_ext (fun j hj => by
    have x := td_cut_iff h hp ha he (q := q) (l := a + j) (by omega)
    rw [td_sh_hi (i := a + j) (by omega), show a + j + m = a + (m + j) by omega] at x
    exact tk_d_c x)
  have nb : td_sh a m q < a ∨ a + m ≤ td_sh a m q := by
    rcases Nat.lt_or_ge q a with z | z
    · rw [td_sh_lo z]; exact Or.inl z
    · rw [td_sh_hi z]; exact Or.inr (by omega)
  have u2 : tc_n (fun j => tk_d (td_Pa d (td_sh a m q) (a + j))) m = (if td_sh a m q = p then 1 else 0) := by
    have x := tc_add (fun j => tk_d (td_Pa d (td_sh a m q) (a + j))) 1 (m - 1)
    rw [show 1 + (m - 1) = m by omega] at x
    have y : tc_n (fun i => tk_d (td_Pa d (td_sh a m q) (a + (1 + i)))) (m - 1) = 0 := tc_f (fun j hj => by
      apply tk_d_f.mpr
      intro w
      obtain ⟨q0, hq0⟩ : ∃ q0, td_Pa (fun j => d (a + j)) q0 (1 + j) := by
        obtain ⟨p', h1, h2, h3⟩ := td_last (d := fun j => d (a + j)) (D := d (a + (j + 1))) (he.2.2.1 (a + (j + 1)) (by omega) (by omega)) j
        exact ⟨p', by omega, by rw [show 1 + j = j + 1 by omega]; exact h2, fun l u v => by rw [show 1 + j = j + 1 by omega]; exact h3 l u (by omega)⟩
      have g := (td_ins_bk I (i := 1 + j) (by omega) hq0).1
      have e := td_uq w g
      have := hq0.1
      omega)
    have t : tc_n (fun j => tk_d (td_Pa d (td_sh a m q) (a + j))) 1 = (if td_sh a m q = p then 1 else 0) := by
      show 0 + (if tk_d (td_Pa d (td_sh a m q) (a + 0)) = true then 1 else 0) = _
      rw [Nat.zero_add, Nat.add_zero]
      by_cases z : td_sh a m q = p
      · rw [if_pos (tk_d_t.mpr (by rw [z]; exact hp)), if_pos z]
      · rw [if_neg (fun w => z (td_uq (tk_d_t.mp w) hp)), if_neg z]
    omega
  omega
