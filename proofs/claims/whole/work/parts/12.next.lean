/-! the child of a rank; the place behind, by climbing -/
def tx_cs (u pa rk : Nat → Int32) (n k res : Int32) : Prop :=
  (∃ q, q < 24 ∧ u q ≠ 0 ∧ pa q = n ∧ rk q = k ∧ res = nI q) ∨ ((∀ q, q < 24 → u q ≠ 0 → pa q = n → rk q ≠ k) ∧ res = -1)
section
variable {c : Nat} {r d : Nat → Nat} {u pa rk : Nat → Int32}
theorem tx_co (T : td_T c r d) (U : tx_U c r u) (P : tx_PR c r d pa rk) {p : Nat} {k res : Int32} (hp : p < c) (h : tx_cs u pa rk (nI (r p)) k res) :
    (∃ l, l < c ∧ td_Pa d p l ∧ k = nI (td_ct d (d l) (p + 1) l) ∧ res = nI (r l)) ∨ ((∀ l, l < c → td_Pa d p l → k ≠ nI (td_ct d (d l) (p + 1) l)) ∧ res = -1) := by
  have rp := T.2.2.2.1 p hp
  rcases h with ⟨q, hq, hu, hpa, hk, hr⟩ | ⟨h, hr⟩
  · left
    rcases U q hq with ⟨-, l, hl, hlq⟩ | ⟨h0, -⟩
    · subst hlq
      by_cases l0 : l = 0
      · subst l0
        rw [(P.2 hl).1] at hpa
        exact absurd hpa (tx_m1 (by omega))
      · obtain ⟨q', hq'⟩ := td_ex T.2.1 (i := l) (by omega) hl
        obtain ⟨a1, a2⟩ := P.1 q' l hl hq'
        have hql := hq'.1
        have rq := T.2.2.2.1 q' (by omega)
        rw [a1, nI_eq (by omega) (by omega)] at hpa
        have e := T.2.2.2.2 q' p (by omega) hp hpa
        subst e
        exact ⟨l, hl, hq', by rw [← hk, a2], hr⟩
    · exact absurd h0 hu
  · right
    exact ⟨fun l hl hP e => h (r l) (T.2.2.2.1 l hl) (tx_U_1 U hl (T.2.2.2.1 l hl)) (P.1 p l hl hP).1 ((P.1 p l hl hP).2.trans e.symm), hr⟩
theorem tx_first (T : td_T c r d) (U : tx_U c r u) (P : tx_PR c r d pa rk) {i : Nat} {res : Int32} (hi : i < c) (h : tx_cs u pa rk (nI (r i)) 0 res) :
    (i + 1 < c ∧ res = nI (r (i + 1))) ∨ (res = -1 ∧ td_En c d i (i + 1)) := by
  by_cases z : i + 1 < c ∧ d (i + 1) = d i + 1
  · obtain ⟨x1, x2⟩ := td_nx_ch (d := d) (i := i) z.2
    rcases tx_co T U P hi h with ⟨l, hl, hP, e, hr⟩ | ⟨h', -⟩
    · have cl := tx_ctb (d := d) (D := d l) (lo := i + 1) hl T.1
      rw [← nI_0, nI_eq (by omega) (by omega)] at e
      have := td_rk_uq T.2.1 hl z.1 hP x1 (by omega)
      subst this
      exact Or.inl ⟨z.1, hr⟩
    · exact absurd (by rw [x2]; rfl) (h' (i + 1) z.1 x1)
  · have w : i + 1 < c → d (i + 1) ≤ d i := fun y => by have := (T.2.1.2 i y).2; omega
    rcases tx_co T U P hi h with ⟨l, hl, hP, -, -⟩ | ⟨-, hr⟩
    · exact absurd hP (td_nx_no hl w)
    · exact Or.inr ⟨hr, by omega, hi, fun j a b => by omega, w⟩
theorem tx_climb (T : td_T c r d) (U : tx_U c r u) (P : tx_PR c r d pa rk) {a q e : Nat} {res : Int32} (ha : a < c) (hq : td_Pa d q a) (he : td_En c d a e) (h : tx_cs u pa rk (pa (r a)) (rk (r a) + 1) res) :
    (e < c ∧ res = nI (r e)) ∨ (res = -1 ∧ td_En c d q e) := by
  have hqa := hq.1
  obtain ⟨p1, p2⟩ := P.1 q a ha hq
  rw [p1, p2, nI_1] at h
  have ca := tx_ctb (d := d) (D := d a) (lo := q + 1) ha T.1
  by_cases z : e < c ∧ d e = d a
  · obtain ⟨x1, x2⟩ := td_nx_sb hq he z.2
    rcases tx_co T U P (by omega) h with ⟨l, hl, hP, e', hr⟩ | ⟨h', -⟩
    · have cl := tx_ctb (d := d) (D := d l) (lo := q + 1) hl T.1
      rw [nI_eq (by omega) (by omega)] at e'
      have := td_rk_uq T.2.1 hl z.1 hP x1 (by omega)
      subst this
      exact Or.inl ⟨z.1, hr⟩
    · exact absurd (by rw [x2]) (h' e z.1 x1)
  · obtain ⟨x1, x2⟩ := td_nx_up T.2.1 ha hq he (fun y w => z ⟨y, w⟩)
    rcases tx_co T U P (by omega) h with ⟨l, hl, hP, e', -⟩ | ⟨-, hr⟩
    · have cl := tx_ctb (d := d) (D := d l) (lo := q + 1) hl T.1
      rw [nI_eq (by omega) (by omega)] at e'
      exact absurd e'.symm (x2 l hl hP)
    · exact Or.inr ⟨hr, x1⟩
end
