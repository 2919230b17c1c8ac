/-! tokens of an expression: operands, types, ends -/
def te_o (k w : Nat) : Nat := if k = 2 then 1 + w / 128 else if k = 3 then 2 else if k < 7 then 0 else if k < 10 then 1 else if k < 17 then 2 else 1
def te_ty (k : Nat) : Nat := if k < 4 then 0 else if k < 13 then 1 else 2
def te_lo (k t : Nat) : Nat := if k = 2 then (if t = 0 then 0 else 2) else if k < 10 then 0 else if k < 15 then 1 else 2
def te_ch (E : Nat → Nat) (j : Nat) : Nat → Nat
  | 0 => j
  | m + 1 => E (te_ch E j m)
theorem te_ch_s (E : Nat → Nat) (j m : Nat) : te_ch E j (m + 1) = E (te_ch E j m) := rfl
theorem te_ch_E (E : Nat → Nat) (j : Nat) : ∀ m, te_ch E (E j) m = te_ch E j (m + 1)
  | 0 => rfl
  | m + 1 => by rw [te_ch_s, te_ch_E E j m]; rfl
theorem te_ch_add (E : Nat → Nat) (j a : Nat) : ∀ m, te_ch E (te_ch E j a) m = te_ch E j (a + m)
  | 0 => rfl
  | m + 1 => by rw [te_ch_s, te_ch_add E j a m]; rfl
/-- token i stands well in an expression that ends at L -/
def te_W (K W E : Nat → Nat) (L i : Nat) : Prop :=
  E i = te_ch E (i + 1) (te_o (K i) (W i)) ∧ ∀ t, t < te_o (K i) (W i) → te_ch E (i + 1) t < L ∧ te_ty (K (te_ch E (i + 1) t)) ≤ te_lo (K i) t
def te_Ws (K W E : Nat → Nat) (b L : Nat) : Prop := ∀ i, b ≤ i → i < L → te_W K W E L i
theorem te_down {P : Nat → Prop} (L : Nat) (h : ∀ i, i < L → (∀ j, i < j → j < L → P j) → P i) : ∀ i, i < L → P i := by
  have key : ∀ k i, L - i ≤ k → i < L → P i := by
    intro k
    induction k with
    | zero => intro i a b; omega
    | succ k ih => intro i a b; exact h i b (fun j x y => ih j (by omega) y)
  exact fun i hi => key (L - i) i (Nat.le_refl _) hi
theorem te_bnd {K W E : Nat → Nat} {b L : Nat} (h : te_Ws K W E b L) : ∀ i, i < L → b ≤ i → i < E i ∧ E i ≤ L ∧ ∀ t, t ≤ te_o (K i) (W i) → i < te_ch E (i + 1) t ∧ te_ch E (i + 1) t ≤ L := by
  refine te_down L ?_
  intro i hi ih hb
  obtain ⟨h1, h2⟩ := h i hb hi
  have key : ∀ t, t ≤ te_o (K i) (W i) → i < te_ch E (i + 1) t ∧ te_ch E (i + 1) t ≤ L := by
    intro t
    induction t with
    | zero => intro _; exact ⟨Nat.lt_succ_self _, hi⟩
    | succ t it =>
      intro ht
      have a := it (by omega)
      have c := h2 t (by omega)
      have e := ih _ a.1 c.1 (by omega)
      rw [te_ch_s]
      exact ⟨by omega, e.2.1⟩
  have z := key _ (Nat.le_refl _)
  rw [← h1] at z
  exact ⟨z.1, z.2, key⟩
theorem te_E_gt {K W E : Nat → Nat} {b L i : Nat} (h : te_Ws K W E b L) (hb : b ≤ i) (hi : i < L) : i < E i := (te_bnd h i hi hb).1
theorem te_E_le {K W E : Nat → Nat} {b L i : Nat} (h : te_Ws K W E b L) (hb : b ≤ i) (hi : i < L) : E i ≤ L := (te_bnd h i hi hb).2.1
/-- the t-th operand of i: where it stands, what it is -/
theorem te_op {K W E : Nat → Nat} {b L i t : Nat} (h : te_Ws K W E b L) (hb : b ≤ i) (hi : i < L) (ht : t < te_o (K i) (W i)) :
    i < te_ch E (i + 1) t ∧ te_ch E (i + 1) t < L ∧ te_ty (K (te_ch E (i + 1) t)) ≤ te_lo (K i) t :=
  ⟨((te_bnd h i hi hb).2.2 t (by omega)).1, ((h i hb hi).2 t ht).1, ((h i hb hi).2 t ht).2⟩
/-- what lies within a token's operands ends within them -/
theorem te_nest {K W E : Nat → Nat} {b L : Nat} (h : te_Ws K W E b L) : ∀ q, q < L → b ≤ q → ∀ i, q ≤ i → i < E q → E i ≤ E q := by
  refine te_down L ?_
  intro q hq ih hb i h1 h2
  by_cases z : i = q
  · subst z; exact Nat.le_refl _
  · obtain ⟨w1, w2⟩ := h q hb hq
    have bd := (te_bnd h q hq hb).2.2
    have key : ∀ t, t ≤ te_o (K q) (W q) → i < te_ch E (q + 1) t → E i ≤ te_ch E (q + 1) t := by
      intro t
      induction t with
      | zero => intro _ y; have : te_ch E (q + 1) 0 = q + 1 := rfl; omega
      | succ t it =>
        intro ht y
        have a := bd t (by omega)
        have c := w2 t (by omega)
        rcases Nat.lt_or_ge i (te_ch E (q + 1) t) with w | w
        · have := it (by omega) w
          have := (te_bnd h _ c.1 (by omega)).1
          rw [te_ch_s]; omega
        · rw [te_ch_s] at y ⊢
          exact ih _ a.1 c.1 (by omega) i w y
    rw [w1] at h2 ⊢
    exact key _ (Nat.le_refl _) h2
/-- a count of missing tokens comes down by one over each expression -/
theorem te_scan {K W E : Nat → Nat} {b L : Nat} (h : te_Ws K W E b L) (P : Nat → Nat → Nat → Prop)
    (hs : ∀ n m i, b ≤ i → i < L → P n (m + te_o (K i) (W i)) (i + 1) → P (n + 1) (m + 1) i) :
    ∀ i, i < L → b ≤ i → ∀ n m, P n m (E i) → P (n + (E i - i)) (m + 1) i := by
  refine te_down L ?_
  intro i hi ih hb n m hp
  obtain ⟨w1, w2⟩ := h i hb hi
  have bd := (te_bnd h i hi hb).2.2
  have key : ∀ u t, t + u = te_o (K i) (W i) → P (n + (E i - te_ch E (i + 1) t)) (m + u) (te_ch E (i + 1) t) := by
    intro u
    induction u with
    | zero =>
      intro t ht
      have e : te_ch E (i + 1) t = E i := by rw [w1, ← ht]; rfl
      rw [e, Nat.sub_self]
      exact hp
    | succ u iu =>
      intro t ht
      have a := bd t (by omega)
      have c := w2 t (by omega)
      have r := iu (t + 1) (by omega)
      have g := ih _ a.1 c.1 (by omega) _ _ (show P (n + (E i - te_ch E (i + 1) (t + 1))) (m + u) (E (te_ch E (i + 1) t)) from r)
      have x1 := (te_bnd h _ c.1 (by omega)).1
      have x2 : te_ch E (i + 1) (t + 1) ≤ E i := by
        have mono : ∀ v, t + 1 + v ≤ te_o (K i) (W i) → te_ch E (i + 1) (t + 1) ≤ te_ch E (i + 1) (t + 1 + v) := by
          intro v
          induction v with
          | zero => intro _; exact Nat.le_refl _
          | succ v iv =>
            intro hv
            have y1 := iv (by omega)
            have y2 := w2 (t + 1 + v) (by omega)
            have y3 := bd (t + 1 + v) (by omega)
            have y4 := (te_bnd h _ y2.1 (by omega)).1
            have y5 : te_ch E (i + 1) (t + 1 + (v + 1)) = E (te_ch E (i + 1) (t + 1 + v)) := rfl
            omega
        have := mono u (by omega)
        rw [show t + 1 + u = te_o (K i) (W i) by omega, ← w1] at this
        exact this
      rw [te_ch_s] at g x2
      rw [show n + (E i - te_ch E (i + 1) t) = n + (E i - E (te_ch E (i + 1) t)) + (E (te_ch E (i + 1) t) - te_ch E (i + 1) t) by omega, show m + (u + 1) = m + u + 1 by omega]
      exact g
  have k0 := key (te_o (K i) (W i)) 0 (by omega)
  have e0 : te_ch E (i + 1) 0 = i + 1 := rfl
  rw [e0] at k0
  have x1 := (te_bnd h i hi hb).1
  rw [show n + (E i - i) = n + (E i - (i + 1)) + 1 by omega]
  exact hs _ _ _ hb hi k0
/-- the expressions that stand from i on: h of them up to L -/
def te_F (E : Nat → Nat) (L i h : Nat) : Prop := te_ch E i h = L ∧ ∀ t, t < h → te_ch E i t < L
theorem te_F_0 (E : Nat → Nat) (L : Nat) : te_F E L L 0 := ⟨rfl, fun t ht => by omega⟩
theorem te_F_s {E : Nat → Nat} {L i h o : Nat} (f : te_F E L (i + 1) h) (ho : o ≤ h) (e : E i = te_ch E (i + 1) o) (hi : i < L) : te_F E L i (h - o + 1) := by
  have key : ∀ t, te_ch E i (t + 1) = te_ch E (i + 1) (o + t) := by
    intro t
    rw [← te_ch_E, e, te_ch_add]
  refine ⟨by rw [key, show o + (h - o) = h by omega]; exact f.1, fun t ht => ?_⟩
  cases t with
  | zero => exact hi
  | succ t => rw [key]; exact f.2 _ (by omega)
theorem te_F_top {E : Nat → Nat} {L i h o t : Nat} (e : E i = te_ch E (i + 1) o) : te_ch E i (t + 1) = te_ch E (i + 1) (o + t) := by
  rw [← te_ch_E, e, te_ch_add]
theorem te_F_u {K W E : Nat → Nat} {b L i h g : Nat} (hw : te_Ws K W E b L) (hb : b ≤ i) (f : te_F E L i h) (f' : te_F E L i g) : h = g := by
  rcases Nat.lt_trichotomy h g with z | z | z
  · have := f'.2 h z; have := f.1; omega
  · exact z
  · have := f.2 g z; have := f'.1; omega
theorem te_ch_ext {E E' : Nat → Nat} {j : Nat} : ∀ {m : Nat}, (∀ t, t < m → E' (te_ch E j t) = E (te_ch E j t)) → te_ch E' j m = te_ch E j m
  | 0, _ => rfl
  | m + 1, h => by
    rw [te_ch_s, te_ch_s, te_ch_ext (m := m) (fun t ht => h t (by omega)), h m (by omega)]
theorem te_ch_ge {K W E : Nat → Nat} {b n h : Nat} (hw : te_Ws K W E b n) (f : te_F E n b h) : ∀ t, t ≤ h → b + t ≤ te_ch E b t := by
  intro t
  induction t with
  | zero => intro _; exact Nat.le_refl _
  | succ t ih =>
    intro ht
    have a := ih (by omega)
    have b' := f.2 t (by omega)
    have c := te_E_gt hw (by omega) b'
    rw [te_ch_s]
    omega
theorem te_F_le {K W E : Nat → Nat} {b n h : Nat} (hw : te_Ws K W E b n) (f : te_F E n b h) : b + h ≤ n := by
  have := te_ch_ge hw f h (Nat.le_refl _)
  rw [f.1] at this
  exact this
theorem te_W_ext {K W E E' : Nat → Nat} {b L i : Nat} (h : te_Ws K W E b L) (hb : b ≤ i) (hi : i < L) (e : ∀ j, b ≤ j → E' j = E j) : te_W K W E' L i := by
  have bd := (te_bnd h i hi hb).2.2
  have key : ∀ t, t ≤ te_o (K i) (W i) → te_ch E' (i + 1) t = te_ch E (i + 1) t := by
    intro t ht
    apply te_ch_ext
    intro s hs
    have := bd s (by omega)
    exact e _ (by omega)
  obtain ⟨w1, w2⟩ := h i hb hi
  refine ⟨by rw [key _ (Nat.le_refl _), e i hb]; exact w1, fun t ht => ?_⟩
  rw [key t (by omega)]
  exact w2 t ht
/-- one more token in front -/
theorem te_step {K W E E' : Nat → Nat} {n i h o : Nat} (hw : te_Ws K W E (i + 1) n) (f : te_F E n (i + 1) h) (hi : i < n) (ho : te_o (K i) (W i) = o) (hoh : o ≤ h)
    (ht : ∀ t, t < o → te_ty (K (te_ch E (i + 1) t)) ≤ te_lo (K i) t) (e : ∀ j, i + 1 ≤ j → E' j = E j) (ei : E' i = te_ch E (i + 1) o) :
    te_Ws K W E' i n ∧ te_F E' n i (h - o + 1) ∧ ∀ t, o + t ≤ h → te_ch E' i (t + 1) = te_ch E (i + 1) (o + t) := by
  have ge := te_ch_ge hw f
  have key : ∀ t, t ≤ h → te_ch E' (i + 1) t = te_ch E (i + 1) t := by
    intro t ht'
    apply te_ch_ext
    intro s hs
    have := ge s (by omega)
    exact e _ (by omega)
  have ei' : E' i = te_ch E' (i + 1) o := by rw [key o hoh]; exact ei
  have f' : te_F E' n (i + 1) h := ⟨by rw [key h (Nat.le_refl _)]; exact f.1, fun t ht' => by rw [key t (by omega)]; exact f.2 t ht'⟩
  refine ⟨fun j h1 h2 => ?_, te_F_s f' hoh ei' hi, fun t ht' => ?_⟩
  · by_cases z : j = i
    · subst z
      refine ⟨by rw [ho]; exact ei', fun t ht' => ?_⟩
      rw [ho] at ht'
      rw [key t (by omega)]
      exact ⟨f.2 t (by omega), ht t ht'⟩
    · exact te_W_ext hw (by omega) h2 e
  · rw [te_F_top (L := n) (i := i) (h := h) (o := o) ei', key _ ht']
