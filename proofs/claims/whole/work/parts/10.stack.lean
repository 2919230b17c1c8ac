/-! the nodes of a mask in document order; the stack of nodes to be handled -/
def tt_l (r : Nat → Nat) (x : Int32) : Nat → Nat → List Nat
  | 0, _ => []
  | k + 1, i => if bt x (r i) = true then r i :: tt_l r x k (i + 1) else tt_l r x k (i + 1)
theorem tt_l_s (r : Nat → Nat) (x : Int32) (k i : Nat) : tt_l r x (k + 1) i = if bt x (r i) = true then r i :: tt_l r x k (i + 1) else tt_l r x k (i + 1) := rfl
theorem tt_l_c {r : Nat → Nat} {x x' : Int32} : ∀ {k i : Nat}, (∀ j, i ≤ j → j < i + k → bt x (r j) = bt x' (r j)) → tt_l r x k i = tt_l r x' k i
  | 0, _, _ => rfl
  | k + 1, i, h => by
    rw [tt_l_s, tt_l_s, h i (Nat.le_refl _) (by omega), tt_l_c (k := k) (i := i + 1) (fun j a b => h j (by omega) (by omega))]
theorem tt_l_in {r : Nat → Nat} {x : Int32} {q : Nat} : ∀ {k i : Nat}, q ∈ tt_l r x k i → ∃ j, i ≤ j ∧ j < i + k ∧ r j = q ∧ bt x q = true
  | 0, _, h => by simp [tt_l] at h
  | k + 1, i, h => by
    rw [tt_l_s] at h
    by_cases z : bt x (r i) = true
    · rw [if_pos z] at h
      rcases List.mem_cons.mp h with y | y
      · exact ⟨i, Nat.le_refl _, by omega, y.symm, by rw [y]; exact z⟩
      · obtain ⟨j, a, b, c⟩ := tt_l_in y
        exact ⟨j, by omega, by omega, c⟩
    · rw [if_neg z] at h
      obtain ⟨j, a, b, c⟩ := tt_l_in h
      exact ⟨j, by omega, by omega, c⟩
theorem tt_l_hd {r : Nat → Nat} {x x' : Int32} {q : Nat} {tl : List Nat} (hx : ∀ i, i < 24 → bt x' i = (bt x i && !decide (i = q))) : ∀ {k i : Nat}, (∀ j, i ≤ j → j < i + k → r j < 24) →
    (∀ a b, i ≤ a → a < i + k → i ≤ b → b < i + k → r a = r b → a = b) → tt_l r x k i = q :: tl → tt_l r x' k i = tl
  | 0, _, _, _, h => by simp [tt_l] at h
  | k + 1, i, hr, hj, h => by
    rw [tt_l_s] at h ⊢
    by_cases z : bt x (r i) = true
    · rw [if_pos z] at h
      obtain ⟨e1, e2⟩ := List.cons.inj h
      have y : ¬ bt x' (r i) = true := by
        rw [hx _ (hr i (Nat.le_refl _) (by omega)), e1]
        simp
      rw [if_neg y, ← e2]
      refine tt_l_c (fun j a b => ?_)
      rw [hx _ (hr j (by omega) (by omega)), decide_eq_false (fun w => ?_)]
      · simp
      · have := hj j i (by omega) (by omega) (by omega) (by omega) (by rw [w, e1])
        omega
    · rw [if_neg z] at h
      have y : ¬ bt x' (r i) = true := by
        rw [hx _ (hr i (Nat.le_refl _) (by omega))]
        have : bt x (r i) = false := by cases w : bt x (r i) with
          | false => rfl
          | true => exact absurd w z
        rw [this]; simp
      rw [if_neg y]
      exact tt_l_hd hx (fun j a b => hr j (by omega) (by omega)) (fun a b p1 p2 p3 p4 => hj a b (by omega) (by omega) (by omega) (by omega)) h
theorem tt_l_len (r : Nat → Nat) (x : Int32) : ∀ k i, (tt_l r x k i).length ≤ k
  | 0, _ => Nat.le_refl _
  | k + 1, i => by
    have := tt_l_len r x k (i + 1)
    rw [tt_l_s]
    split
    · rw [List.length_cons]; omega
    · omega
def tt_at : List Nat → Nat → Int32
  | [], _ => -1
  | x :: _, 0 => nI x
  | _ :: xs, k + 1 => tt_at xs k
/-- the stack of the reference, its top first -/
def tt_St (todo wi : Nat → Int32) : List (Nat × Nat) → Prop
  | [] => True
  | x :: s => todo s.length = nI x.1 ∧ wi s.length = nI x.2 ∧ tt_St todo wi s
theorem tt_St_up {todo wi : Nat → Int32} {a b : Int32} {k : Nat} : ∀ {s : List (Nat × Nat)}, s.length ≤ k → tt_St todo wi s → tt_St (upd todo k a) (upd wi k b) s
  | [], _, _ => trivial
  | x :: s, h, hs => by
    rw [List.length_cons] at h
    exact ⟨by rw [pk_un (by omega)]; exact hs.1, by rw [pk_un (by omega)]; exact hs.2.1, tt_St_up (by omega) hs.2.2⟩
theorem tt_St_push {todo wi : Nat → Int32} {s : List (Nat × Nat)} {n w : Nat} (hs : tt_St todo wi s) : tt_St (upd todo s.length (nI n)) (upd wi s.length (nI w)) ((n, w) :: s) :=
  ⟨pk_us, pk_us, tt_St_up (Nat.le_refl _) hs⟩
/-- the masks of the depths below k, the deepest first -/
def tt_fl (c : Nat) (r : Nat → Nat) (w : Nat → Int32) : Nat → List (Nat × Nat)
  | 0 => []
  | k + 1 => (tt_l r (w k) c 0).map (fun n => (n, k)) ++ tt_fl c r w k
theorem tt_fl_s (c : Nat) (r : Nat → Nat) (w : Nat → Int32) (k : Nat) : tt_fl c r w (k + 1) = (tt_l r (w k) c 0).map (fun n => (n, k)) ++ tt_fl c r w k := rfl
theorem tt_fl_up {c : Nat} {r : Nat → Nat} {w : Nat → Int32} {a : Int32} {j : Nat} : ∀ {k : Nat}, k ≤ j → tt_fl c r (upd w j a) k = tt_fl c r w k
  | 0, _ => rfl
  | k + 1, h => by rw [tt_fl_s, tt_fl_s, pk_un (by omega), tt_fl_up (by omega)]
theorem tt_fl_len {c : Nat} {r : Nat → Nat} {w : Nat → Int32} : ∀ k, (tt_fl c r w k).length ≤ c * k
  | 0 => Nat.zero_le _
  | k + 1 => by
    have a := tt_fl_len (c := c) (r := r) (w := w) k
    have b := tt_l_len r (w k) c 0
    rw [tt_fl_s, List.length_append, List.length_map, Nat.mul_succ]
    omega
