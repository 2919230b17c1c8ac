/-! lists along an axis: as masks, and as rows of nodes -/
theorem tc_t {S : Nat → Bool} {n : Nat} (h : S n = true) : tc_n S (n + 1) = tc_n S n + 1 := by rw [tc_s, if_pos h]
theorem tc_ff {S : Nat → Bool} {n : Nat} (h : S n = false) : tc_n S (n + 1) = tc_n S n := by rw [tc_s, if_neg (by rw [h]; decide), Nat.add_zero]
theorem tc_slt {S : Nat → Bool} {i j : Nat} (h : S i = true) (z : i < j) : tc_n S i < tc_n S j := by
  have a := tc_t h
  have b := tc_mono S (a := i + 1) (b := j) (by omega)
  omega
theorem tc_surj {S : Nat → Bool} {k : Nat} : ∀ {n : Nat}, k < tc_n S n → ∃ j, j < n ∧ S j = true ∧ tc_n S j = k
  | 0, h => by
    have : tc_n S 0 = 0 := rfl
    omega
  | n + 1, h => by
    cases z : S n with
    | false =>
      rw [tc_ff z] at h
      obtain ⟨j, a, b⟩ := tc_surj h
      exact ⟨j, by omega, b⟩
    | true =>
      rw [tc_t z] at h
      by_cases y : k = tc_n S n
      · exact ⟨n, by omega, z, y.symm⟩
      · obtain ⟨j, a, b⟩ := tc_surj (S := S) (n := n) (k := k) (by omega)
        exact ⟨j, by omega, b⟩
theorem tc_sub {S T : Nat → Bool} : ∀ {n : Nat}, (∀ i, i < n → T i = true → S i = true) → tc_n T n ≤ tc_n S n
  | 0, _ => Nat.le_refl _
  | n + 1, h => by
    have a := tc_sub (n := n) (fun i hi => h i (by omega))
    cases z : T n with
    | false => rw [tc_ff z]; have := tc_mono S (a := n) (b := n + 1) (by omega); omega
    | true => rw [tc_t z, tc_t (h n (by omega) z)]; omega
def tk_Mi (o : Nat → Nat) (S : Nat → Bool) (i : Nat) (x : Int32) : Prop := mk_24 x ∧ ∀ q, q < 24 → (bt x q = true ↔ ∃ j, j < i ∧ o j = q ∧ S j = true)
theorem tk_Mi_0 {o : Nat → Nat} {S : Nat → Bool} : tk_Mi o S 0 0 :=
  ⟨mk_24_0, fun q _ => ⟨fun h => (by rw [b_0] at h; cases h), fun ⟨j, a, _⟩ => by omega⟩⟩
theorem tk_Mi_t {o : Nat → Nat} {S : Nat → Bool} {i : Nat} {x : Int32} (h : tk_Mi o S i x) (ho : o i < 24) (hs : S i = true) : tk_Mi o S (i + 1) (x ||| ((1 : Int32) <<< (nI (o i) &&& 31))) := by
  refine ⟨mk_24_or h.1 (mk_24_sh ho), fun q hq => ?_⟩
  rw [b_or, mk_sh _ (by omega), Bool.or_eq_true, h.2 q hq, decide_eq_true_iff]
  constructor
  · rintro (⟨j, a, b, e⟩ | e)
    · exact ⟨j, by omega, b, e⟩
    · exact ⟨i, by omega, e.symm, hs⟩
  · rintro ⟨j, a, b, e⟩
    by_cases z : j = i
    · subst z; exact Or.inr b.symm
    · exact Or.inl ⟨j, by omega, b, e⟩
theorem tk_Mi_f {o : Nat → Nat} {S : Nat → Bool} {i : Nat} {x : Int32} (h : tk_Mi o S i x) (hs : S i = false) : tk_Mi o S (i + 1) x := by
  refine ⟨h.1, fun q hq => ?_⟩
  rw [h.2 q hq]
  constructor
  · rintro ⟨j, a, b, e⟩
    exact ⟨j, by omega, b, e⟩
  · rintro ⟨j, a, b, e⟩
    by_cases z : j = i
    · subst z; rw [hs] at e; cases e
    · exact ⟨j, by omega, b, e⟩
theorem tk_Mi_c {o : Nat → Nat} {S T : Nat → Bool} {i : Nat} {x : Int32} (h : tk_Mi o S i x) (e : ∀ j, j < i → S j = T j) : tk_Mi o T i x := by
  refine ⟨h.1, fun q hq => ?_⟩
  rw [h.2 q hq]
  exact ⟨fun ⟨j, a, b, g⟩ => ⟨j, a, b, by rw [← e j a]; exact g⟩, fun ⟨j, a, b, g⟩ => ⟨j, a, b, by rw [e j a]; exact g⟩⟩
theorem tk_Mi_u {o : Nat → Nat} {S : Nat → Bool} {i : Nat} {x y : Int32} (h : tk_Mi o S i x) (g : tk_Mi o S i y) : x = y := by
  apply mk_ext h.1 g.1
  intro q hq
  have e := (h.2 q hq).trans (g.2 q hq).symm
  cases a : bt x q <;> cases b : bt y q
  · rfl
  · rw [a, b] at e; exact absurd (e.mpr rfl) (by decide)
  · rw [a, b] at e; exact absurd (e.mp rfl) (by decide)
  · rfl
theorem tk_Mi_bt {o : Nat → Nat} {S : Nat → Bool} {c i : Nat} {x : Int32} (h : tk_Mi o S c x) (hl : ∀ j, j < c → o j < 24) (hj : ∀ i j, i < c → j < c → o i = o j → i = j) (hi : i < c) : bt x (o i) = S i := by
  have e := h.2 (o i) (hl i hi)
  cases a : bt x (o i) <;> cases b : S i
  · rfl
  · exact absurd (e.mpr ⟨i, hi, rfl, b⟩) (by rw [a]; decide)
  · obtain ⟨j, u, v, w⟩ := e.mp a
    rw [hj j i u hi v, b] at w
    cases w
  · rfl
theorem tk_Mi_cnt {o : Nat → Nat} {S : Nat → Bool} {c : Nat} {x : Int32} (h : tk_Mi o S c x) (hl : ∀ j, j < c → o j < 24) (hj : ∀ i j, i < c → j < c → o i = o j → i = j) : tc_n (bt x) 24 = tc_n S c :=
  tc_inj c (bt x) hl hj (fun q hq => h.2 q hq)
/-- the row of nodes: the places from lo up to hi that are on the list stand where the count says -/
def tk_Ls (o : Nat → Nat) (S : Nat → Bool) (la : Nat → Int32) (lo hi : Nat) : Prop := ∀ j, lo ≤ j → j < hi → S j = true → la (tc_n S j) = nI (o j)
theorem tk_Ls_t {o : Nat → Nat} {S : Nat → Bool} {la : Nat → Int32} {i : Nat} (h : tk_Ls o S la 0 i) : tk_Ls o S (upd la (tc_n S i) (nI (o i))) 0 (i + 1) := by
  intro j a b e
  by_cases z : j = i
  · subst z; exact pk_us
  · have := tc_slt (S := S) (i := j) (j := i) e (by omega)
    rw [pk_un (by omega)]
    exact h j a (by omega) e
theorem tk_Ls_f {o : Nat → Nat} {S : Nat → Bool} {la : Nat → Int32} {i : Nat} (h : tk_Ls o S la 0 i) (hs : S i = false) : tk_Ls o S la 0 (i + 1) := by
  intro j a b e
  by_cases z : j = i
  · subst z; rw [hs] at e; cases e
  · exact h j a (by omega) e
theorem tk_Ls_k {o : Nat → Nat} {S T : Nat → Bool} {la : Nat → Int32} {i c : Nat} {x : Int32} (h : tk_Ls o S la i c) (hs : S i = true) (hT : ∀ j, j < c → T j = true → S j = true) (hi : i < c) : tk_Ls o S (upd la (tc_n T i) x) (i + 1) c := by
  intro j a b e
  have u := tc_slt (S := S) (i := i) (j := j) hs (by omega)
  have v := tc_sub (S := S) (T := T) (n := i) (fun l hl => hT l (by omega))
  rw [pk_un (by omega)]
  exact h j (by omega) b e
theorem tk_Ls_n {o : Nat → Nat} {S : Nat → Bool} {la : Nat → Int32} {i c : Nat} (h : tk_Ls o S la i c) : tk_Ls o S la (i + 1) c := fun j a b e => h j (by omega) b e
