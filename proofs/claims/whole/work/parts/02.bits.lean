/-! masks of nodes as Int32, counts of bits -/
theorem mk_b1 (i : Nat) : bt 1 i = decide (i = 0) := by
  rcases Nat.lt_or_ge i 32 with h | h
  · exact (by decide +kernel : ∀ i, i < 32 → bt 1 i = decide (i = 0)) i h
  · rw [b_big h, decide_eq_false (by omega)]
theorem mk_sh (q : Nat) (hq : q < 32) (i : Nat) : bt ((1 : Int32) <<< (nI q &&& 31)) i = decide (i = q) := by
  unfold bt
  rw [nf_sh q hq, BitVec.getLsbD_twoPow]
  by_cases e : q = i
  · subst e; simp [hq]
  · have e' : ¬ i = q := fun z => e z.symm
    simp [e, e']
theorem mk_bit (x : Int32) (q : Nat) (hq : q < 32) : (x >>> (nI q &&& 31)) &&& 1 = if bt x q = true then 1 else 0 := by
  apply b_ext
  intro i hi
  rw [b_and, b_sshr q hq x hi, mk_b1]
  by_cases z : i = 0
  · subst z
    rw [if_pos (by omega), Nat.add_zero]
    cases h : bt x q <;> simp [mk_b1, b_0]
  · rw [decide_eq_false z, Bool.and_false]
    cases h : bt x q <;> simp [mk_b1, b_0, z]
theorem mk_f {x : Int32} {q : Nat} (hq : q < 32) : (x >>> (nI q &&& 31)) &&& 1 = 0 ↔ bt x q = false := by
  rw [mk_bit x q hq]
  cases bt x q <;> simp
theorem mk_t {x : Int32} {q : Nat} (hq : q < 32) : (x >>> (nI q &&& 31)) &&& 1 = 1 ↔ bt x q = true := by
  rw [mk_bit x q hq]
  cases bt x q <;> simp
theorem mk_z {x : Int32} : x = 0 ↔ ∀ i, i < 32 → bt x i = false :=
  ⟨fun h i _ => by rw [h]; exact b_0 i, fun h => b_ext (fun i hi => by rw [h i hi, b_0])⟩
theorem mk_not (y : Int32) {i : Nat} (hi : i < 32) : bt (y ^^^ (-1)) i = !bt y i := by
  rw [b_xor, b_m1 i hi]; cases bt y i <;> rfl
theorem mk_clr (x : Int32) {q i : Nat} (hq : q < 32) (hi : i < 32) : bt (x &&& (((1 : Int32) <<< (nI q &&& 31)) ^^^ (-1))) i = (bt x i && !decide (i = q)) := by
  rw [b_and, mk_not _ hi, mk_sh q hq]
def mk_24 (x : Int32) : Prop := ∀ i, 24 ≤ i → bt x i = false
theorem mk_24_0 : mk_24 0 := fun i _ => b_0 i
theorem mk_24_sh {q : Nat} (hq : q < 24) : mk_24 ((1 : Int32) <<< (nI q &&& 31)) := fun i hi => by
  rw [mk_sh q (by omega), decide_eq_false (by omega)]
theorem mk_24_or {x y : Int32} (hx : mk_24 x) (hy : mk_24 y) : mk_24 (x ||| y) := fun i hi => by rw [b_or, hx i hi, hy i hi]; rfl
theorem mk_24_and {x y : Int32} (hx : mk_24 x) : mk_24 (x &&& y) := fun i hi => by rw [b_and, hx i hi]; rfl
theorem mk_ext {x y : Int32} (hx : mk_24 x) (hy : mk_24 y) (h : ∀ i, i < 24 → bt x i = bt y i) : x = y := b_ext (fun i _ => by
  rcases Nat.lt_or_ge i 24 with z | z
  · exact h i z
  · rw [hx i z, hy i z])
theorem mk_z24 {x : Int32} (hx : mk_24 x) : x = 0 ↔ ∀ i, i < 24 → bt x i = false :=
  ⟨fun h i _ => by rw [h]; exact b_0 i, fun h => mk_ext hx mk_24_0 (fun i hi => by rw [h i hi, b_0])⟩
def tc_n (S : Nat → Bool) : Nat → Nat
  | 0 => 0
  | n + 1 => tc_n S n + (if S n = true then 1 else 0)
theorem tc_s (S : Nat → Bool) (n : Nat) : tc_n S (n + 1) = tc_n S n + (if S n = true then 1 else 0) := rfl
theorem tc_le (S : Nat → Bool) : ∀ n, tc_n S n ≤ n
  | 0 => Nat.le_refl _
  | n + 1 => by
    have h := tc_le S n
    rw [tc_s]
    split <;> omega
theorem tc_mono (S : Nat → Bool) {a : Nat} : ∀ {b : Nat}, a ≤ b → tc_n S a ≤ tc_n S b
  | 0, h => by
    have e : a = 0 := by omega
    subst e; exact Nat.le_refl _
  | b + 1, h => by
    by_cases z : a = b + 1
    · subst z; exact Nat.le_refl _
    · have i := tc_mono S (a := a) (b := b) (by omega)
      rw [tc_s]
      split <;> omega
theorem tc_ext {S T : Nat → Bool} : ∀ {n : Nat}, (∀ i, i < n → S i = T i) → tc_n S n = tc_n T n
  | 0, _ => rfl
  | n + 1, h => by rw [tc_s, tc_s, tc_ext (n := n) (fun i hi => h i (by omega)), h n (by omega)]
theorem tc_f {S : Nat → Bool} : ∀ {n : Nat}, (∀ i, i < n → S i = false) → tc_n S n = 0
  | 0, _ => rfl
  | n + 1, h => by rw [tc_s, tc_f (n := n) (fun i hi => h i (by omega)), h n (by omega)]; rfl
theorem tc_rm {S : Nat → Bool} {a : Nat} (ha : S a = true) : ∀ {n : Nat}, a < n → tc_n S n = tc_n (fun q => S q && !decide (q = a)) n + 1
  | 0, h => by omega
  | n + 1, h => by
    rw [tc_s, tc_s]
    by_cases z : a = n
    · subst z
      have e : tc_n (fun q => S q && !decide (q = a)) a = tc_n S a := tc_ext (fun i hi => by
        show (S i && !decide (i = a)) = S i
        rw [decide_eq_false (by omega)]; simp)
      rw [e, ha]
      simp
    · rw [tc_rm (n := n) ha (by omega)]
      have e : (S n && !decide (n = a)) = S n := by rw [decide_eq_false (by omega)]; simp
      simp only [e]
      omega
theorem tc_inj {r : Nat → Nat} {Q : Nat → Bool} : ∀ (c : Nat) (S : Nat → Bool), (∀ i, i < c → r i < 24) → (∀ i j, i < c → j < c → r i = r j → i = j) →
    (∀ q, q < 24 → (S q = true ↔ ∃ l, l < c ∧ r l = q ∧ Q l = true)) → tc_n S 24 = tc_n Q c := by
  intro c
  induction c with
  | zero =>
    intro S _ _ hS
    show tc_n S 24 = 0
    apply tc_f
    intro i hi
    cases h : S i with
    | false => rfl
    | true =>
      obtain ⟨l, hl, -⟩ := (hS i hi).mp h
      omega
  | succ c ih =>
    intro S hr hj hS
    rw [tc_s Q c]
    cases hq : Q c with
    | false =>
      rw [ih S (fun i hi => hr i (by omega)) (fun i j hi hk => hj i j (by omega) (by omega))]
      · simp
      · intro q hq24
        rw [hS q hq24]
        constructor
        · rintro ⟨l, hl, h1, h2⟩
          have : l ≠ c := fun z => by subst z; rw [hq] at h2; cases h2
          exact ⟨l, by omega, h1, h2⟩
        · rintro ⟨l, hl, h1, h2⟩
          exact ⟨l, by omega, h1, h2⟩
    | true =>
      have hc := hr c (by omega)
      have hs : S (r c) = true := (hS _ hc).mpr ⟨c, by omega, rfl, hq⟩
      rw [tc_rm hs hc, ih (fun q => S q && !decide (q = r c)) (fun i hi => hr i (by omega)) (fun i j hi hk => hj i j (by omega) (by omega))]
      · simp
      · intro q hq24
        show (S q && !decide (q = r c)) = true ↔ _
        rw [Bool.and_eq_true, hS q hq24]
        constructor
        · rintro ⟨⟨l, hl, h1, h2⟩, h3⟩
          have : l ≠ c := fun z => by subst z; simp [h1] at h3
          exact ⟨l, by omega, h1, h2⟩
        · rintro ⟨l, hl, h1, h2⟩
          refine ⟨⟨l, by omega, h1, h2⟩, ?_⟩
          have : ¬ q = r c := fun z => by
            have := hj l c (by omega) (by omega) (by rw [h1, z])
            omega
          simp [this]
def tc_sum (v : Nat → Int32) (S : Nat → Bool) : Nat → Int32
  | 0 => 0
  | n + 1 => if S n = true then tc_sum v S n + v n else tc_sum v S n
theorem tc_sum_s (v : Nat → Int32) (S : Nat → Bool) (n : Nat) : tc_sum v S (n + 1) = if S n = true then tc_sum v S n + v n else tc_sum v S n := rfl
