section
theorem pk_us {f : Nat → Int32} {k : Nat} {x : Int32} : upd f k x k = x := if_pos rfl
theorem pk_un {f : Nat → Int32} {k j : Nat} {x : Int32} (h : j ≠ k) : upd f k x j = f j := if_neg h
theorem pk_sub {a b : Nat} (h : b ≤ a) : nI a - nI b = nI (a - b) := by
  obtain ⟨c, rfl⟩ : ∃ c, a = c + b := ⟨a - b, by omega⟩
  rw [← nI_add, Int32.add_sub_cancel, Nat.add_sub_cancel]
theorem pk_m1 (n : Nat) : nI (n + 1) + (-1) = nI n := by
  rw [← nI_1, Int32.add_assoc, show (1 : Int32) + (-1) = 0 from rfl, Int32.add_zero]
theorem pk_mul (a b : Nat) : nI a * nI b = nI (a * b) := (Int32.ofNat_mul a b).symm
theorem pk_div {a d : Nat} (ha : a < 2 ^ 31) (h0 : 0 < d) (hd : d < 2 ^ 31) : nI a / nI d = nI (a / d) := by
  apply Int32.toInt_inj.mp
  rw [lg_idiv_nonneg (by rw [nI_toInt ha]; omega) (by rw [nI_toInt hd]; omega), nI_toInt ha, nI_toInt hd, nI_toInt (Nat.lt_of_le_of_lt (Nat.div_le_self a d) ha)]
  first | rfl | exact (Int.natCast_ediv _ _).symm
theorem pk_rem {a d : Nat} (ha : a < 2 ^ 31) (h0 : 0 < d) (hd : d < 2 ^ 31) : nI a - nI a / nI d * nI d = nI (a % d) := by
  rw [pk_div ha h0 hd, pk_mul, pk_sub (Nat.div_mul_le_self a d)]
  exact congrArg nI (by have := Nat.div_add_mod' a d; omega)
theorem pk_sub_toInt {a b : Nat} (ha : a < 2 ^ 30) (hb : b < 2 ^ 30) : (nI a - nI b).toInt = (a : Int) - b := by
  rw [Int32.toInt_sub, nI_toInt (by omega), nI_toInt (by omega)]
  exact Int.bmod_eq_of_le (by omega) (by omega)
theorem pk_sneg {a b : Nat} (hb : b < 2 ^ 30) (h : a < b) : nI a - nI b < 0 := by
  rw [Int32.lt_iff_toInt_lt, pk_sub_toInt (by omega) hb, show (0 : Int32).toInt = 0 from by decide]
  omega
theorem pk_ix (x : Int32) {n : Nat} (hn : n < 2 ^ 31) : x < 0 ∨ nI n ≤ x ∨ ∃ j : Nat, j < n ∧ x = nI j := by
  by_cases h : x < 0
  · exact Or.inl h
  · obtain ⟨j, hj, rfl⟩ := nI_of h
    by_cases h2 : j < n
    · exact Or.inr (Or.inr ⟨j, h2, rfl⟩)
    · exact Or.inr (Or.inl (nI_le (by omega) hj))
theorem pk_le {x y : Int32} {A B : Prop} (a b : Nat) (f : a ≤ b → A) (g : b < a → B) (hx : x = nI a := by rfl) (hy : y = nI b := by rfl) (ha : a < 2 ^ 31 := by omega) (hb : b < 2 ^ 31 := by omega) : (x ≤ y → A) ∧ (¬ x ≤ y → B) := by
  subst hx hy
  rw [nI_leI ha hb]
  exact ⟨f, fun z => g (by omega)⟩
theorem pk_lt {x y : Int32} {A B : Prop} (a b : Nat) (f : a < b → A) (g : b ≤ a → B) (hx : x = nI a := by rfl) (hy : y = nI b := by rfl) (ha : a < 2 ^ 31 := by omega) (hb : b < 2 ^ 31 := by omega) : (x < y → A) ∧ (¬ x < y → B) := by
  subst hx hy
  rw [nI_ltI ha hb]
  exact ⟨f, fun z => g (by omega)⟩
theorem pk_eq {x y : Int32} {A B : Prop} (a b : Nat) (f : a = b → A) (g : a ≠ b → B) (hx : x = nI a := by rfl) (hy : y = nI b := by rfl) (ha : a < 2 ^ 31 := by omega) (hb : b < 2 ^ 31 := by omega) : (x = y → A) ∧ (¬ x = y → B) := by
  subst hx hy
  rw [nI_eq ha hb]
  exact ⟨f, g⟩
theorem pk_in {x : Int32} (n N : Nat) (h : n < N) (hx : x = nI n := by rfl) (hN : N < 2 ^ 31 := by omega) : vp_in x N := by
  subst hx
  exact vp_in_nI h hN
theorem pk_cl {x : Int32} (n : Nat) (hx : x = nI n := by rfl) (h : n < 2 ^ 31 := by omega) : x.toNatClampNeg = n := by
  subst hx
  exact nI_clamp h
theorem pk_tn {n : Nat} (h : n < 2 ^ 32) : (nI n).toBitVec.toNat = n := Nat.mod_eq_of_lt h
theorem pk_and (x : Int32) {m : Int32} (k : Nat) (hm : m.toBitVec.toNat = 2 ^ k - 1) : x &&& m = nI (x.toBitVec.toNat % 2 ^ k) := by
  apply Int32.toBitVec_inj.mp
  apply BitVec.eq_of_toNat_eq
  rw [Int32.toBitVec_and, BitVec.toNat_and, hm, Nat.and_two_pow_sub_one_eq_mod]
  show _ = (BitVec.ofNat 32 _).toNat
  rw [BitVec.toNat_ofNat]
  exact (Nat.mod_eq_of_lt (Nat.lt_of_le_of_lt (Nat.mod_le _ _) x.toBitVec.isLt)).symm
theorem pk_andN {n : Nat} (h : n < 2 ^ 32) {m : Int32} (k : Nat) (hm : m.toBitVec.toNat = 2 ^ k - 1) : nI n &&& m = nI (n % 2 ^ k) := by
  rw [pk_and _ k hm, pk_tn h]
theorem pk_andE (x : Int32) {m : Int32} (k : Nat) (hm : m.toBitVec.toNat = 2 ^ k - 1) : ∃ j : Nat, j < 2 ^ k ∧ x &&& m = nI j := ⟨_, Nat.mod_lt _ (Nat.two_pow_pos k), pk_and x k hm⟩
theorem pk_andIn (x : Int32) {m : Int32} (k : Nat) (hm : m.toBitVec.toNat = 2 ^ k - 1) (hk : k ≤ 30) : vp_in (x &&& m) (2 ^ k) := by
  obtain ⟨j, hj, e⟩ := pk_andE x k hm
  rw [e]
  exact vp_in_nI hj (Nat.lt_of_le_of_lt (Nat.pow_le_pow_right (by decide) hk) (by decide))
theorem pk_shl (a s : Int32) (k : Nat) (hs : (s.toBitVec.smod 32).toNat = k) : (a <<< s).toBitVec.toNat = a.toBitVec.toNat * 2 ^ k % 2 ^ 32 := by
  show (a.toBitVec <<< (s.toBitVec.smod 32).toNat).toNat = _
  rw [hs, BitVec.toNat_shiftLeft, Nat.shiftLeft_eq]
theorem pk_shlN {n : Nat} (s : Int32) (k : Nat) (hs : (s.toBitVec.smod 32).toNat = k) (h : n * 2 ^ k < 2 ^ 32) : nI n <<< s = nI (n * 2 ^ k) := by
  apply Int32.toBitVec_inj.mp
  apply BitVec.eq_of_toNat_eq
  have hn : n < 2 ^ 32 := Nat.lt_of_le_of_lt (Nat.le_mul_of_pos_right n (Nat.two_pow_pos k)) h
  rw [pk_shl _ _ k hs, pk_tn hn, pk_tn h, Nat.mod_eq_of_lt h]
theorem pk_shr (a s : Int32) (k : Nat) (hs : (s.toBitVec.smod 32).toNat = k) : (a >>> s).toInt = a.toInt >>> k := by
  show (a.toBitVec.sshiftRight (s.toBitVec.smod 32).toNat).toInt = _
  rw [hs, BitVec.toInt_sshiftRight]
  rfl
theorem pk_shrN {n : Nat} (h : n < 2 ^ 31) (s : Int32) (k : Nat) (hs : (s.toBitVec.smod 32).toNat = k) : nI n >>> s = nI (n / 2 ^ k) := by
  apply Int32.toInt_inj.mp
  have h2 : n / 2 ^ k ≤ n := Nat.div_le_self _ _
  rw [pk_shr _ _ k hs, nI_toInt h, nI_toInt (by omega), Int.shiftRight_eq_div_pow]
  rfl
theorem pk_loop {σ : Type} (W : Nat → Nat → σ → Prop) (I : Nat → σ → Prop) (e i0 : Nat) (s : σ) (hi : i0 ≤ e) (h0 : I i0 s) (hx : ∀ n s, I e s → W (n + 1) e s)
    (hs : ∀ n i s, i < e → I i s → (∀ s', I (i + 1) s' → W n (i + 1) s') → W (n + 1) i s) : ∃ n, W n i0 s :=
  ⟨e + 1, loop_i W I e hx hs (e + 1) i0 s hi (by omega) h0⟩
theorem pk_loopD {σ : Type} (W : Nat → Nat → σ → Prop) (I : Nat → σ → Prop) (hx : ∀ n s, I 0 s → W (n + 1) 0 s)
    (hs : ∀ n i s, I (i + 1) s → (∀ s', I i s' → W n i s') → W (n + 1) (i + 1) s) : ∀ (e : Nat) (s : σ), I e s → W (e + 1) e s := by
  intro e
  induction e with
  | zero => exact fun s h => hx 0 s h
  | succ e ih => exact fun s h => hs (e + 1) e s h (fun s' h' => ih s' h')
theorem lp1 {A1 : Type} (W : Nat → A1 → Prop) (I : A1 → Prop) (μ : A1 → Nat) (hs : ∀ (n : Nat) (a1 : A1), I a1 → (∀ (b1 : A1), I b1 → μ b1 < μ a1 → W n b1) → W (n + 1) a1) (a1 : A1) (h : I a1) : ∃ n, W n a1 :=
  loop_m (σ := A1) (fun n s => W n s) (fun s => I s) (fun s => μ s) (fun n s hI hk => hs n s hI (fun b1 h9 hm => hk b1 h9 hm)) a1 h
theorem lp2 {A1 A2 : Type} (W : Nat → A1 → A2 → Prop) (I : A1 → A2 → Prop) (μ : A1 → A2 → Nat) (hs : ∀ (n : Nat) (a1 : A1) (a2 : A2), I a1 a2 → (∀ (b1 : A1) (b2 : A2), I b1 b2 → μ b1 b2 < μ a1 a2 → W n b1 b2) → W (n + 1) a1 a2) (a1 : A1) (a2 : A2) (h : I a1 a2) : ∃ n, W n a1 a2 :=
  loop_m (σ := A1 × A2) (fun n s => W n s.1 s.2) (fun s => I s.1 s.2) (fun s => μ s.1 s.2) (fun n s hI hk => hs n s.1 s.2 hI (fun b1 b2 h9 hm => hk (b1, b2) h9 hm)) (a1, a2) h
theorem lp3 {A1 A2 A3 : Type} (W : Nat → A1 → A2 → A3 → Prop) (I : A1 → A2 → A3 → Prop) (μ : A1 → A2 → A3 → Nat) (hs : ∀ (n : Nat) (a1 : A1) (a2 : A2) (a3 : A3), I a1 a2 a3 → (∀ (b1 : A1) (b2 : A2) (b3 : A3), I b1 b2 b3 → μ b1 b2 b3 < μ a1 a2 a3 → W n b1 b2 b3) → W (n + 1) a1 a2 a3) (a1 : A1) (a2 : A2) (a3 : A3) (h : I a1 a2 a3) : ∃ n, W n a1 a2 a3 :=
  loop_m (σ := A1 × A2 × A3) (fun n s => W n s.1 s.2.1 s.2.2) (fun s => I s.1 s.2.1 s.2.2) (fun s => μ s.1 s.2.1 s.2.2) (fun n s hI hk => hs n s.1 s.2.1 s.2.2 hI (fun b1 b2 b3 h9 hm => hk (b1, b2, b3) h9 hm)) (a1, a2, a3) h
theorem lp4 {A1 A2 A3 A4 : Type} (W : Nat → A1 → A2 → A3 → A4 → Prop) (I : A1 → A2 → A3 → A4 → Prop) (μ : A1 → A2 → A3 → A4 → Nat) (hs : ∀ (n : Nat) (a1 : A1) (a2 : A2) (a3 : A3) (a4 : A4), I a1 a2 a3 a4 → (∀ (b1 : A1) (b2 : A2) (b3 : A3) (b4 : A4), I b1 b2 b3 b4 → μ b1 b2 b3 b4 < μ a1 a2 a3 a4 → W n b1 b2 b3 b4) → W (n + 1) a1 a2 a3 a4) (a1 : A1) (a2 : A2) (a3 : A3) (a4 : A4) (h : I a1 a2 a3 a4) : ∃ n, W n a1 a2 a3 a4 :=
  loop_m (σ := A1 × A2 × A3 × A4) (fun n s => W n s.1 s.2.1 s.2.2.1 s.2.2.2) (fun s => I s.1 s.2.1 s.2.2.1 s.2.2.2) (fun s => μ s.1 s.2.1 s.2.2.1 s.2.2.2) (fun n s hI hk => hs n s.1 s.2.1 s.2.2.1 s.2.2.2 hI (fun b1 b2 b3 b4 h9 hm => hk (b1, b2, b3, b4) h9 hm)) (a1, a2, a3, a4) h
theorem lp5 {A1 A2 A3 A4 A5 : Type} (W : Nat → A1 → A2 → A3 → A4 → A5 → Prop) (I : A1 → A2 → A3 → A4 → A5 → Prop) (μ : A1 → A2 → A3 → A4 → A5 → Nat) (hs : ∀ (n : Nat) (a1 : A1) (a2 : A2) (a3 : A3) (a4 : A4) (a5 : A5), I a1 a2 a3 a4 a5 → (∀ (b1 : A1) (b2 : A2) (b3 : A3) (b4 : A4) (b5 : A5), I b1 b2 b3 b4 b5 → μ b1 b2 b3 b4 b5 < μ a1 a2 a3 a4 a5 → W n b1 b2 b3 b4 b5) → W (n + 1) a1 a2 a3 a4 a5) (a1 : A1) (a2 : A2) (a3 : A3) (a4 : A4) (a5 : A5) (h : I a1 a2 a3 a4 a5) : ∃ n, W n a1 a2 a3 a4 a5 :=
  loop_m (σ := A1 × A2 × A3 × A4 × A5) (fun n s => W n s.1 s.2.1 s.2.2.1 s.2.2.2.1 s.2.2.2.2) (fun s => I s.1 s.2.1 s.2.2.1 s.2.2.2.1 s.2.2.2.2) (fun s => μ s.1 s.2.1 s.2.2.1 s.2.2.2.1 s.2.2.2.2) (fun n s hI hk => hs n s.1 s.2.1 s.2.2.1 s.2.2.2.1 s.2.2.2.2 hI (fun b1 b2 b3 b4 b5 h9 hm => hk (b1, b2, b3, b4, b5) h9 hm)) (a1, a2, a3, a4, a5) h
theorem lp6 {A1 A2 A3 A4 A5 A6 : Type} (W : Nat → A1 → A2 → A3 → A4 → A5 → A6 → Prop) (I : A1 → A2 → A3 → A4 → A5 → A6 → Prop) (μ : A1 → A2 → A3 → A4 → A5 → A6 → Nat) (hs : ∀ (n : Nat) (a1 : A1) (a2 : A2) (a3 : A3) (a4 : A4) (a5 : A5) (a6 : A6), I a1 a2 a3 a4 a5 a6 → (∀ (b1 : A1) (b2 : A2) (b3 : A3) (b4 : A4) (b5 : A5) (b6 : A6), I b1 b2 b3 b4 b5 b6 → μ b1 b2 b3 b4 b5 b6 < μ a1 a2 a3 a4 a5 a6 → W n b1 b2 b3 b4 b5 b6) → W (n + 1) a1 a2 a3 a4 a5 a6) (a1 : A1) (a2 : A2) (a3 : A3) (a4 : A4) (a5 : A5) (a6 : A6) (h : I a1 a2 a3 a4 a5 a6) : ∃ n, W n a1 a2 a3 a4 a5 a6 :=
  loop_m (σ := A1 × A2 × A3 × A4 × A5 × A6) (fun n s => W n s.1 s.2.1 s.2.2.1 s.2.2.2.1 s.2.2.2.2.1 s.2.2.2.2.2) (fun s => I s.1 s.2.1 s.2.2.1 s.2.2.2.1 s.2.2.2.2.1 s.2.2.2.2.2) (fun s => μ s.1 s.2.1 s.2.2.1 s.2.2.2.1 s.2.2.2.2.1 s.2.2.2.2.2) (fun n s hI hk => hs n s.1 s.2.1 s.2.2.1 s.2.2.2.1 s.2.2.2.2.1 s.2.2.2.2.2 hI (fun b1 b2 b3 b4 b5 b6 h9 hm => hk (b1, b2, b3, b4, b5, b6) h9 hm)) (a1, a2, a3, a4, a5, a6) h
theorem lp7 {A1 A2 A3 A4 A5 A6 A7 : Type} (W : Nat → A1 → A2 → A3 → A4 → A5 → A6 → A7 → Prop) (I : A1 → A2 → A3 → A4 → A5 → A6 → A7 → Prop) (μ : A1 → A2 → A3 → A4 → A5 → A6 → A7 → Nat) (hs : ∀ (n : Nat) (a1 : A1) (a2 : A2) (a3 : A3) (a4 : A4) (a5 : A5) (a6 : A6) (a7 : A7), I a1 a2 a3 a4 a5 a6 a7 → (∀ (b1 : A1) (b2 : A2) (b3 : A3) (b4 : A4) (b5 : A5) (b6 : A6) (b7 : A7), I b1 b2 b3 b4 b5 b6 b7 → μ b1 b2 b3 b4 b5 b6 b7 < μ a1 a2 a3 a4 a5 a6 a7 → W n b1 b2 b3 b4 b5 b6 b7) → W (n + 1) a1 a2 a3 a4 a5 a6 a7) (a1 : A1) (a2 : A2) (a3 : A3) (a4 : A4) (a5 : A5) (a6 : A6) (a7 : A7) (h : I a1 a2 a3 a4 a5 a6 a7) : ∃ n, W n a1 a2 a3 a4 a5 a6 a7 :=
  loop_m (σ := A1 × A2 × A3 × A4 × A5 × A6 × A7) (fun n s => W n s.1 s.2.1 s.2.2.1 s.2.2.2.1 s.2.2.2.2.1 s.2.2.2.2.2.1 s.2.2.2.2.2.2) (fun s => I s.1 s.2.1 s.2.2.1 s.2.2.2.1 s.2.2.2.2.1 s.2.2.2.2.2.1 s.2.2.2.2.2.2) (fun s => μ s.1 s.2.1 s.2.2.1 s.2.2.2.1 s.2.2.2.2.1 s.2.2.2.2.2.1 s.2.2.2.2.2.2) (fun n s hI hk => hs n s.1 s.2.1 s.2.2.1 s.2.2.2.1 s.2.2.2.2.1 s.2.2.2.2.2.1 s.2.2.2.2.2.2 hI (fun b1 b2 b3 b4 b5 b6 b7 h9 hm => hk (b1, b2, b3, b4, b5, b6, b7) h9 hm)) (a1, a2, a3, a4, a5, a6, a7) h
theorem lp8 {A1 A2 A3 A4 A5 A6 A7 A8 : Type} (W : Nat → A1 → A2 → A3 → A4 → A5 → A6 → A7 → A8 → Prop) (I : A1 → A2 → A3 → A4 → A5 → A6 → A7 → A8 → Prop) (μ : A1 → A2 → A3 → A4 → A5 → A6 → A7 → A8 → Nat) (hs : ∀ (n : Nat) (a1 : A1) (a2 : A2) (a3 : A3) (a4 : A4) (a5 : A5) (a6 : A6) (a7 : A7) (a8 : A8), I a1 a2 a3 a4 a5 a6 a7 a8 → (∀ (b1 : A1) (b2 : A2) (b3 : A3) (b4 : A4) (b5 : A5) (b6 : A6) (b7 : A7) (b8 : A8), I b1 b2 b3 b4 b5 b6 b7 b8 → μ b1 b2 b3 b4 b5 b6 b7 b8 < μ a1 a2 a3 a4 a5 a6 a7 a8 → W n b1 b2 b3 b4 b5 b6 b7 b8) → W (n + 1) a1 a2 a3 a4 a5 a6 a7 a8) (a1 : A1) (a2 : A2) (a3 : A3) (a4 : A4) (a5 : A5) (a6 : A6) (a7 : A7) (a8 : A8) (h : I a1 a2 a3 a4 a5 a6 a7 a8) : ∃ n, W n a1 a2 a3 a4 a5 a6 a7 a8 :=
  loop_m (σ := A1 × A2 × A3 × A4 × A5 × A6 × A7 × A8) (fun n s => W n s.1 s.2.1 s.2.2.1 s.2.2.2.1 s.2.2.2.2.1 s.2.2.2.2.2.1 s.2.2.2.2.2.2.1 s.2.2.2.2.2.2.2) (fun s => I s.1 s.2.1 s.2.2.1 s.2.2.2.1 s.2.2.2.2.1 s.2.2.2.2.2.1 s.2.2.2.2.2.2.1 s.2.2.2.2.2.2.2) (fun s => μ s.1 s.2.1 s.2.2.1 s.2.2.2.1 s.2.2.2.2.1 s.2.2.2.2.2.1 s.2.2.2.2.2.2.1 s.2.2.2.2.2.2.2) (fun n s hI hk => hs n s.1 s.2.1 s.2.2.1 s.2.2.2.1 s.2.2.2.2.1 s.2.2.2.2.2.1 s.2.2.2.2.2.2.1 s.2.2.2.2.2.2.2 hI (fun b1 b2 b3 b4 b5 b6 b7 b8 h9 hm => hk (b1, b2, b3, b4, b5, b6, b7, b8) h9 hm)) (a1, a2, a3, a4, a5, a6, a7, a8) h
theorem pk_least (P : Nat → Prop) (h : ∃ k, P k) : ∃ k, P k ∧ ∀ j, j < k → ¬ P j := by
  obtain ⟨k, hk⟩ := h
  induction k using Nat.strongRecOn with
  | ind k ih =>
    by_cases e : ∃ j, j < k ∧ P j
    · obtain ⟨j, hj, pj⟩ := e
      exact ih j hj pj
    · exact ⟨k, hk, fun j hj pj => e ⟨j, hj, pj⟩⟩
theorem sb_m1 {p : Nat} (h : 0 < p) : nI p + (-1) = nI (p - 1) := by
  obtain ⟨q, rfl⟩ : ∃ q, p = q + 1 := ⟨p - 1, by omega⟩
  exact pk_m1 q
def bt (x : Int32) (i : Nat) : Bool := x.toBitVec.getLsbD i
theorem b_ext {x y : Int32} (h : ∀ i, i < 32 → bt x i = bt y i) : x = y := Int32.toBitVec_inj.mp (BitVec.eq_of_getLsbD_eq (fun i hi => h i hi))
theorem b_or (x y : Int32) (i : Nat) : bt (x ||| y) i = (bt x i || bt y i) := by unfold bt; rw [Int32.toBitVec_or, BitVec.getLsbD_or]
theorem b_and (x y : Int32) (i : Nat) : bt (x &&& y) i = (bt x i && bt y i) := by unfold bt; rw [Int32.toBitVec_and, BitVec.getLsbD_and]
theorem b_xor (x y : Int32) (i : Nat) : bt (x ^^^ y) i = (bt x i ^^ bt y i) := by unfold bt; rw [Int32.toBitVec_xor, BitVec.getLsbD_xor]
theorem b_big {x : Int32} {i : Nat} (h : 32 ≤ i) : bt x i = false := BitVec.getLsbD_of_ge _ _ h
theorem b_m1 : ∀ i, i < 32 → bt (-1) i = true := by decide +kernel
theorem b_0 (i : Nat) : bt 0 i = false := BitVec.getLsbD_zero
theorem s_l : ∀ n, n < 32 → ((nI n &&& 31).toBitVec.smod 32).toNat = n := by decide +kernel
theorem b_shl (n : Nat) (hn : n < 32) (x : Int32) {i : Nat} (hi : i < 32) : bt (x <<< (nI n &&& 31)) i = (decide (n ≤ i) && bt x (i - n)) := by
  unfold bt
  rw [Int32.toBitVec_shiftLeft]
  show (x.toBitVec <<< ((nI n &&& 31).toBitVec.smod 32).toNat).getLsbD i = _
  rw [s_l n hn, BitVec.getLsbD_shiftLeft]
  rcases Nat.lt_or_ge i n with h | h
  · simp [h, Nat.not_le.mpr h]
  · simp [hi, h, Nat.not_lt.mpr h]
theorem b_sshr (n : Nat) (hn : n < 32) (x : Int32) {i : Nat} (hi : i < 32) : bt (x >>> (nI n &&& 31)) i = if n + i < 32 then bt x (n + i) else bt x 31 := by
  unfold bt
  rw [Int32.toBitVec_shiftRight]
  show (x.toBitVec.sshiftRight ((nI n &&& 31).toBitVec.smod 32).toNat).getLsbD i = _
  rw [s_l n hn, BitVec.getLsbD_sshiftRight, BitVec.msb_eq_getLsbD_last]
  simp [hi]
theorem nx_and (a b : Nat) : nI a &&& nI b = nI (a &&& b) := by
  apply Int32.toBitVec_inj.1
  show BitVec.ofNat 32 a &&& BitVec.ofNat 32 b = BitVec.ofNat 32 (a &&& b)
  apply BitVec.eq_of_getLsbD_eq
  intro i hi
  simp [hi]
theorem nf_sh : ∀ l, l < 32 → ((1 : Int32) <<< (nI l &&& 31)).toBitVec = BitVec.twoPow 32 l := by decide +kernel
theorem wb_of32 (x : Int32) : ∃ n, n < 2 ^ 32 ∧ x = nI n := ⟨x.toBitVec.toNat, x.toBitVec.isLt, Int32.toBitVec_inj.mp (by show _ = BitVec.ofNat 32 _; simp)⟩
end
section
/-! masks of nodes as Int32, counts of bits -/
theorem mk_b1 (i : Nat) : bt 1 i = decide (i = 0) := by
  rcases Nat.lt_or_ge i 32 with h | h
  · exact (by decide +kernel : ∀ i, i < 32 → bt 1 i = decide (i = 0)) i h
  · rw [b_big h, decide_eq_false (by omega)]
theorem mk_sh (q : Nat) (hq : q < 32) (i : Nat) : bt ((1 : Int32) <<< (nI q &&& 31)) i = decide (i = q) := by
  unfold bt
  rw [nf_sh q hq, BitVec.getLsbD_twoPow]
  by_cases e : q = i
  · subst e; simp [hq]
  · have e' : ¬ i = q := fun z => e z.symm
    simp [e, e']
theorem mk_bit (x : Int32) (q : Nat) (hq : q < 32) : (x >>> (nI q &&& 31)) &&& 1 = if bt x q = true then 1 else 0 := by
  apply b_ext
  intro i hi
  rw [b_and, b_sshr q hq x hi, mk_b1]
  by_cases z : i = 0
  · subst z
    rw [if_pos (by omega), Nat.add_zero]
    cases h : bt x q <;> simp [mk_b1, b_0]
  · rw [decide_eq_false z, Bool.and_false]
    cases h : bt x q <;> simp [mk_b1, b_0, z]
theorem mk_f {x : Int32} {q : Nat} (hq : q < 32) : (x >>> (nI q &&& 31)) &&& 1 = 0 ↔ bt x q = false := by
  rw [mk_bit x q hq]
  cases bt x q <;> simp
theorem mk_t {x : Int32} {q : Nat} (hq : q < 32) : (x >>> (nI q &&& 31)) &&& 1 = 1 ↔ bt x q = true := by
  rw [mk_bit x q hq]
  cases bt x q <;> simp
theorem mk_z {x : Int32} : x = 0 ↔ ∀ i, i < 32 → bt x i = false :=
  ⟨fun h i _ => by rw [h]; exact b_0 i, fun h => b_ext (fun i hi => by rw [h i hi, b_0])⟩
theorem mk_not (y : Int32) {i : Nat} (hi : i < 32) : bt (y ^^^ (-1)) i = !bt y i := by
  rw [b_xor, b_m1 i hi]; cases bt y i <;> rfl
theorem mk_clr (x : Int32) {q i : Nat} (hq : q < 32) (hi : i < 32) : bt (x &&& (((1 : Int32) <<< (nI q &&& 31)) ^^^ (-1))) i = (bt x i && !decide (i = q)) := by
  rw [b_and, mk_not _ hi, mk_sh q hq]
def mk_24 (x : Int32) : Prop := ∀ i, 24 ≤ i → bt x i = false
theorem mk_24_0 : mk_24 0 := fun i _ => b_0 i
theorem mk_24_sh {q : Nat} (hq : q < 24) : mk_24 ((1 : Int32) <<< (nI q &&& 31)) := fun i hi => by
  rw [mk_sh q (by omega), decide_eq_false (by omega)]
theorem mk_24_or {x y : Int32} (hx : mk_24 x) (hy : mk_24 y) : mk_24 (x ||| y) := fun i hi => by rw [b_or, hx i hi, hy i hi]; rfl
theorem mk_24_and {x y : Int32} (hx : mk_24 x) : mk_24 (x &&& y) := fun i hi => by rw [b_and, hx i hi]; rfl
theorem mk_ext {x y : Int32} (hx : mk_24 x) (hy : mk_24 y) (h : ∀ i, i < 24 → bt x i = bt y i) : x = y := b_ext (fun i _ => by
  rcases Nat.lt_or_ge i 24 with z | z
  · exact h i z
  · rw [hx i z, hy i z])
theorem mk_z24 {x : Int32} (hx : mk_24 x) : x = 0 ↔ ∀ i, i < 24 → bt x i = false :=
  ⟨fun h i _ => by rw [h]; exact b_0 i, fun h => mk_ext hx mk_24_0 (fun i hi => by rw [h i hi, b_0])⟩
def tc_n (S : Nat → Bool) : Nat → Nat
  | 0 => 0
  | n + 1 => tc_n S n + (if S n = true then 1 else 0)
theorem tc_s (S : Nat → Bool) (n : Nat) : tc_n S (n + 1) = tc_n S n + (if S n = true then 1 else 0) := rfl
theorem tc_le (S : Nat → Bool) : ∀ n, tc_n S n ≤ n
  | 0 => Nat.le_refl _
  | n + 1 => by
    have h := tc_le S n
    rw [tc_s]
    split <;> omega
theorem tc_mono (S : Nat → Bool) {a : Nat} : ∀ {b : Nat}, a ≤ b → tc_n S a ≤ tc_n S b
  | 0, h => by
    have e : a = 0 := by omega
    subst e; exact Nat.le_refl _
  | b + 1, h => by
    by_cases z : a = b + 1
    · subst z; exact Nat.le_refl _
    · have i := tc_mono S (a := a) (b := b) (by omega)
      rw [tc_s]
      split <;> omega
theorem tc_ext {S T : Nat → Bool} : ∀ {n : Nat}, (∀ i, i < n → S i = T i) → tc_n S n = tc_n T n
  | 0, _ => rfl
  | n + 1, h => by rw [tc_s, tc_s, tc_ext (n := n) (fun i hi => h i (by omega)), h n (by omega)]
theorem tc_f {S : Nat → Bool} : ∀ {n : Nat}, (∀ i, i < n → S i = false) → tc_n S n = 0
  | 0, _ => rfl
  | n + 1, h => by rw [tc_s, tc_f (n := n) (fun i hi => h i (by omega)), h n (by omega)]; rfl
theorem tc_rm {S : Nat → Bool} {a : Nat} (ha : S a = true) : ∀ {n : Nat}, a < n → tc_n S n = tc_n (fun q => S q && !decide (q = a)) n + 1
  | 0, h => by omega
  | n + 1, h => by
    rw [tc_s, tc_s]
    by_cases z : a = n
    · subst z
      have e : tc_n (fun q => S q && !decide (q = a)) a = tc_n S a := tc_ext (fun i hi => by
        show (S i && !decide (i = a)) = S i
        rw [decide_eq_false (by omega)]; simp)
      rw [e, ha]
      simp
    · rw [tc_rm (n := n) ha (by omega)]
      have e : (S n && !decide (n = a)) = S n := by rw [decide_eq_false (by omega)]; simp
      simp only [e]
      omega
theorem tc_inj {r : Nat → Nat} {Q : Nat → Bool} : ∀ (c : Nat) (S : Nat → Bool), (∀ i, i < c → r i < 24) → (∀ i j, i < c → j < c → r i = r j → i = j) →
    (∀ q, q < 24 → (S q = true ↔ ∃ l, l < c ∧ r l = q ∧ Q l = true)) → tc_n S 24 = tc_n Q c := by
  intro c
  induction c with
  | zero =>
    intro S _ _ hS
    show tc_n S 24 = 0
    apply tc_f
    intro i hi
    cases h : S i with
    | false => rfl
    | true =>
      obtain ⟨l, hl, -⟩ := (hS i hi).mp h
      omega
  | succ c ih =>
    intro S hr hj hS
    rw [tc_s Q c]
    cases hq : Q c with
    | false =>
      rw [ih S (fun i hi => hr i (by omega)) (fun i j hi hk => hj i j (by omega) (by omega))]
      · simp
      · intro q hq24
        rw [hS q hq24]
        constructor
        · rintro ⟨l, hl, h1, h2⟩
          have : l ≠ c := fun z => by subst z; rw [hq] at h2; cases h2
          exact ⟨l, by omega, h1, h2⟩
        · rintro ⟨l, hl, h1, h2⟩
          exact ⟨l, by omega, h1, h2⟩
    | true =>
      have hc := hr c (by omega)
      have hs : S (r c) = true := (hS _ hc).mpr ⟨c, by omega, rfl, hq⟩
      rw [tc_rm hs hc, ih (fun q => S q && !decide (q = r c)) (fun i hi => hr i (by omega)) (fun i j hi hk => hj i j (by omega) (by omega))]
      · simp
      · intro q hq24
        show (S q && !decide (q = r c)) = true ↔ _
        rw [Bool.and_eq_true, hS q hq24]
        constructor
        · rintro ⟨⟨l, hl, h1, h2⟩, h3⟩
          have : l ≠ c := fun z => by subst z; simp [h1] at h3
          exact ⟨l, by omega, h1, h2⟩
        · rintro ⟨l, hl, h1, h2⟩
          refine ⟨⟨l, by omega, h1, h2⟩, ?_⟩
          have : ¬ q = r c := fun z => by
            have := hj l c (by omega) (by omega) (by rw [h1, z])
            omega
          simp [this]
def tc_sum (v : Nat → Int32) (S : Nat → Bool) : Nat → Int32
  | 0 => 0
  | n + 1 => if S n = true then tc_sum v S n + v n else tc_sum v S n
theorem tc_sum_s (v : Nat → Int32) (S : Nat → Bool) (n : Nat) : tc_sum v S (n + 1) = if S n = true then tc_sum v S n + v n else tc_sum v S n := rfl
end
section
/-! the tree as positions in document order with depths: parents, counts of earlier siblings, blocks -/
def td_OK (c : Nat) (d : Nat → Nat) : Prop := d 0 = 0 ∧ ∀ i, i + 1 < c → 1 ≤ d (i + 1) ∧ d (i + 1) ≤ d i + 1
def td_Pa (d : Nat → Nat) (p i : Nat) : Prop := p < i ∧ d p < d i ∧ ∀ j, p < j → j < i → d i ≤ d j
def td_An (d : Nat → Nat) (i l : Nat) : Prop := i < l ∧ ∀ j, i < j → j ≤ l → d i < d j
def td_En (c : Nat) (d : Nat → Nat) (i e : Nat) : Prop := i < e ∧ e ≤ c ∧ (∀ j, i < j → j < e → d i < d j) ∧ (e < c → d e ≤ d i)
def td_ct (d : Nat → Nat) (D lo : Nat) : Nat → Nat
  | 0 => 0
  | hi + 1 => td_ct d D lo hi + (if lo ≤ hi ∧ d hi = D then 1 else 0)
theorem td_ct_s (d : Nat → Nat) (D lo hi : Nat) : td_ct d D lo (hi + 1) = td_ct d D lo hi + (if lo ≤ hi ∧ d hi = D then 1 else 0) := rfl
theorem td_ct_le {d : Nat → Nat} {D lo a : Nat} : ∀ {b : Nat}, a ≤ b → td_ct d D lo a ≤ td_ct d D lo b
  | 0, h => by
    have e : a = 0 := by omega
    subst e; exact Nat.le_refl _
  | b + 1, h => by
    by_cases z : a = b + 1
    · subst z; exact Nat.le_refl _
    · have i := td_ct_le (d := d) (D := D) (lo := lo) (a := a) (b := b) (by omega)
      rw [td_ct_s]
      split <;> omega
theorem td_ct_0 {d : Nat → Nat} {D lo : Nat} : ∀ {hi : Nat}, hi ≤ lo → td_ct d D lo hi = 0
  | 0, _ => rfl
  | hi + 1, h => by rw [td_ct_s, td_ct_0 (hi := hi) (by omega), if_neg (by omega)]
theorem td_ct_iff {d d' : Nat → Nat} {D D' lo : Nat} : ∀ {hi : Nat}, (∀ j, lo ≤ j → j < hi → (d' j = D' ↔ d j = D)) → td_ct d' D' lo hi = td_ct d D lo hi
  | 0, _ => rfl
  | hi + 1, h => by
    rw [td_ct_s, td_ct_s, td_ct_iff (hi := hi) (fun j a b => h j a (by omega))]
    by_cases z : lo ≤ hi
    · have e := h hi z (by omega)
      by_cases y : d hi = D
      · rw [if_pos ⟨z, e.mpr y⟩, if_pos ⟨z, y⟩]
      · rw [if_neg (fun x => y (e.mp x.2)), if_neg (fun x => y x.2)]
    · rw [if_neg (by omega), if_neg (by omega)]
theorem td_ct_eq {d d' : Nat → Nat} {D lo hi : Nat} (h : ∀ j, lo ≤ j → j < hi → d' j = d j) : td_ct d' D lo hi = td_ct d D lo hi :=
  td_ct_iff (fun j a b => by rw [h j a b])
theorem td_ct_z {d : Nat → Nat} {D lo : Nat} : ∀ {hi : Nat}, (∀ j, lo ≤ j → j < hi → d j ≠ D) → td_ct d D lo hi = 0
  | 0, _ => rfl
  | hi + 1, h => by
    rw [td_ct_s, td_ct_z (hi := hi) (fun j a b => h j a (by omega)), if_neg (fun z => h hi z.1 (by omega) z.2)]
theorem td_ct_sh {d d' : Nat → Nat} {D lo m : Nat} : ∀ {hi : Nat}, (∀ j, lo ≤ j → j < hi → d' (j + m) = d j) → td_ct d' D (lo + m) (hi + m) = td_ct d D lo hi
  | 0, _ => by rw [td_ct_0 (by omega), td_ct_0 (by omega)]
  | hi + 1, h => by
    by_cases z : lo ≤ hi
    · rw [show hi + 1 + m = hi + m + 1 by omega, td_ct_s, td_ct_s, td_ct_sh (hi := hi) (fun j a b => h j a (by omega)), h hi z (by omega)]
      by_cases y : d hi = D
      · rw [if_pos ⟨by omega, y⟩, if_pos ⟨z, y⟩]
      · rw [if_neg (fun x => y x.2), if_neg (fun x => y x.2)]
    · rw [td_ct_0 (by omega), td_ct_0 (by omega)]
theorem td_ct_sp {d : Nat → Nat} {D lo mid : Nat} (h1 : lo ≤ mid) : ∀ {hi : Nat}, mid ≤ hi → td_ct d D lo hi = td_ct d D lo mid + td_ct d D mid hi
  | 0, h => by
    have e : mid = 0 := by omega
    subst e; rfl
  | hi + 1, h => by
    by_cases z : mid = hi + 1
    · subst z
      have e0 : td_ct d D (hi + 1) (hi + 1) = 0 := td_ct_0 (Nat.le_refl _)
      omega
    · rw [td_ct_s, td_ct_s, td_ct_sp h1 (hi := hi) (by omega)]
      have e1 : (if lo ≤ hi ∧ d hi = D then 1 else 0) = (if mid ≤ hi ∧ d hi = D then 1 else 0) := by
        by_cases y : d hi = D
        · rw [if_pos ⟨by omega, y⟩, if_pos ⟨by omega, y⟩]
        · rw [if_neg (fun x => y x.2), if_neg (fun x => y x.2)]
      rw [e1]
      exact Nat.add_assoc _ _ _
theorem td_ct_lt {d : Nat → Nat} {D lo i j : Nat} (h1 : lo ≤ i) (h2 : i < j) (h : d i = D) : td_ct d D lo i < td_ct d D lo j := by
  have a := td_ct_s d D lo i
  rw [if_pos ⟨h1, h⟩] at a
  have b := td_ct_le (d := d) (D := D) (lo := lo) (a := i + 1) (b := j) (by omega)
  omega
theorem td_ct_c {d : Nat → Nat} {D lo : Nat} : ∀ (hi : Nat), td_ct d D lo hi ≤ hi
  | 0 => Nat.le_refl _
  | hi + 1 => by
    have h := td_ct_c (d := d) (D := D) (lo := lo) hi
    rw [td_ct_s]
    split <;> omega
theorem td_pos {c : Nat} {d : Nat → Nat} (h : td_OK c d) {i : Nat} (h0 : 0 < i) (hi : i < c) : 1 ≤ d i := by
  obtain ⟨k, rfl⟩ : ∃ k, i = k + 1 := ⟨i - 1, by omega⟩
  exact (h.2 k hi).1
theorem td_dc {c : Nat} {d : Nat → Nat} (h : td_OK c d) : ∀ {i : Nat}, i < c → d i ≤ i
  | 0, _ => by rw [h.1]; exact Nat.le_refl _
  | i + 1, hi => by
    have a := td_dc h (i := i) (by omega)
    have b := (h.2 i hi).2
    omega
theorem td_last {d : Nat → Nat} {D : Nat} (h0 : d 0 < D) : ∀ k, ∃ p, p < k + 1 ∧ d p < D ∧ ∀ j, p < j → j < k + 1 → D ≤ d j
  | 0 => ⟨0, by omega, h0, fun j a b => by omega⟩
  | k + 1 => by
    by_cases z : d (k + 1) < D
    · exact ⟨k + 1, by omega, z, fun j a b => by omega⟩
    · obtain ⟨p, h1, h2, h3⟩ := td_last h0 k
      refine ⟨p, by omega, h2, fun j a b => ?_⟩
      by_cases y : j = k + 1
      · subst y; omega
      · exact h3 j a (by omega)
theorem td_ex {c : Nat} {d : Nat → Nat} (h : td_OK c d) {i : Nat} (h0 : 0 < i) (hi : i < c) : ∃ p, td_Pa d p i := by
  have hp := td_pos h h0 hi
  obtain ⟨k, rfl⟩ : ∃ k, i = k + 1 := ⟨i - 1, by omega⟩
  obtain ⟨p, h1, h2, h3⟩ := td_last (d := d) (D := d (k + 1)) (by rw [h.1]; omega) k
  exact ⟨p, h1, h2, h3⟩
theorem td_uq {d : Nat → Nat} {p q i : Nat} (hp : td_Pa d p i) (hq : td_Pa d q i) : p = q := by
  obtain ⟨a1, a2, a3⟩ := hp
  obtain ⟨b1, b2, b3⟩ := hq
  rcases Nat.lt_trichotomy p q with z | z | z
  · have := a3 q z b1; omega
  · exact z
  · have := b3 p z a1; omega
theorem td_dp {c : Nat} {d : Nat → Nat} (h : td_OK c d) {p i : Nat} (hi : i < c) (hp : td_Pa d p i) : d i = d p + 1 := by
  obtain ⟨a1, a2, a3⟩ := hp
  have b := (h.2 p (by omega)).2
  by_cases z : p + 1 = i
  · rw [z] at b; omega
  · have := a3 (p + 1) (by omega) (by omega); omega
theorem td_p0 {d : Nat → Nat} {p : Nat} : ¬ td_Pa d p 0 := fun h => by have := h.1; omega
theorem td_PA {d : Nat → Nat} {p i : Nat} (h : td_Pa d p i) : td_An d p i := by
  obtain ⟨a1, a2, a3⟩ := h
  refine ⟨a1, fun j x y => ?_⟩
  by_cases z : j = i
  · subst z; exact a2
  · have := a3 j x (by omega); omega
theorem td_AP {d : Nat → Nat} {i l : Nat} (h : td_An d i l) (e : d l = d i + 1) : td_Pa d i l :=
  ⟨h.1, by omega, fun j a b => by have := h.2 j a (by omega); omega⟩
theorem td_anPa {d : Nat → Nat} {p l i : Nat} (hp : td_Pa d p l) : td_An d i l ↔ (i = p ∨ td_An d i p) := by
  obtain ⟨a1, a2, a3⟩ := hp
  constructor
  · rintro ⟨b1, b2⟩
    rcases Nat.lt_trichotomy i p with z | z | z
    · exact Or.inr ⟨z, fun j x y => b2 j x (by omega)⟩
    · exact Or.inl z
    · have := a3 i z b1
      have := b2 l b1 (Nat.le_refl _)
      omega
  · rintro (e | ⟨b1, b2⟩)
    · subst e; exact td_PA ⟨a1, a2, a3⟩
    · refine ⟨by omega, fun j x y => ?_⟩
      have hip := b2 p b1 (Nat.le_refl _)
      by_cases z : j ≤ p
      · exact b2 j x z
      · by_cases w : j = l
        · subst w; omega
        · have := a3 j (by omega) (by omega); omega
theorem td_endEx {c : Nat} {d : Nat → Nat} {i : Nat} (hi : i < c) : ∃ e, td_En c d i e := by
  obtain ⟨k, h1', h2'⟩ := pk_least (fun k => i + 1 + k = c ∨ d (i + 1 + k) ≤ d i) ⟨c - i - 1, Or.inl (by omega)⟩
  have h1 : i + 1 + k = c ∨ d (i + 1 + k) ≤ d i := h1'
  have h2 : ∀ j, j < k → ¬ (i + 1 + j = c ∨ d (i + 1 + j) ≤ d i) := h2'
  refine ⟨i + 1 + k, by omega, ?_, fun j a b => ?_, fun z => ?_⟩
  · rcases Nat.lt_or_ge c (i + 1 + k) with z | z
    · exact absurd (Or.inl (by omega)) (h2 (c - i - 1) (by omega))
    · exact z
  · have := h2 (j - i - 1) (by omega)
    rw [show i + 1 + (j - i - 1) = j by omega] at this
    omega
  · omega
theorem td_endUq {c : Nat} {d : Nat → Nat} {i e f : Nat} (he : td_En c d i e) (hf : td_En c d i f) : e = f := by
  obtain ⟨a1, a2, a3, a4⟩ := he
  obtain ⟨b1, b2, b3, b4⟩ := hf
  rcases Nat.lt_trichotomy e f with z | z | z
  · have := b3 e a1 z
    have := a4 (by omega)
    omega
  · exact z
  · have := a3 f b1 z
    have := b4 (by omega)
    omega
theorem td_AnEn {c : Nat} {d : Nat → Nat} {i e l : Nat} (he : td_En c d i e) (hl : l < c) : td_An d i l ↔ (i < l ∧ l < e) := by
  obtain ⟨a1, a2, a3, a4⟩ := he
  constructor
  · rintro ⟨b1, b2⟩
    refine ⟨b1, ?_⟩
    rcases Nat.lt_or_ge l e with z | z
    · exact z
    · have := b2 e a1 z
      have := a4 (by omega)
      omega
  · rintro ⟨b1, b2⟩
    exact ⟨b1, fun j x y => a3 j x (by omega)⟩
theorem td_AnDec {c : Nat} {d : Nat → Nat} {i l : Nat} (hi : i < c) (hl : l < c) : td_An d i l ∨ ¬ td_An d i l := by
  obtain ⟨e, he⟩ := td_endEx (d := d) hi
  rw [td_AnEn he hl]
  omega
/-! two children of one parent: the later has the greater count -/
theorem td_rk_lt {c : Nat} {d : Nat → Nat} (h : td_OK c d) {p i j : Nat} (hj : j < c) (hi : td_Pa d p i) (hp : td_Pa d p j) (z : i < j) : td_ct d (d i) (p + 1) i < td_ct d (d j) (p + 1) j := by
  rw [td_dp h (by omega) hi, td_dp h hj hp]
  exact td_ct_lt (by have := hi.1; omega) z (td_dp h (by omega) hi)
theorem td_rk_uq {c : Nat} {d : Nat → Nat} (h : td_OK c d) {p i j : Nat} (hi : i < c) (hj : j < c) (pi : td_Pa d p i) (pj : td_Pa d p j) (e : td_ct d (d i) (p + 1) i = td_ct d (d j) (p + 1) j) : i = j := by
  rcases Nat.lt_trichotomy i j with z | z | z
  · have := td_rk_lt h hj pi pj z; omega
  · exact z
  · have := td_rk_lt h hi pj pi z; omega
end
section
/-! a block put in (and, read backwards, cut out): parents and counts -/
def td_Ins (c a m p : Nat) (d b d' : Nat → Nat) : Prop :=
  0 < m ∧ p < a ∧ a ≤ c ∧ (∀ j, p < j → j < a → d p + 1 ≤ d j) ∧ (a < c → d a ≤ d p + 1) ∧ b 0 = d p + 1 ∧ (∀ j, 0 < j → j < m → d p + 1 < b j) ∧
  (∀ i, i < a → d' i = d i) ∧ (∀ j, j < m → d' (a + j) = b j) ∧ (∀ i, a ≤ i → i < c → d' (i + m) = d i)
theorem td_ins_lo {c a m p : Nat} {d b d' : Nat → Nat} (I : td_Ins c a m p d b d') {q i : Nat} (hi : i < a) (h : td_Pa d q i) : td_Pa d' q i ∧ td_ct d' (d' i) (q + 1) i = td_ct d (d i) (q + 1) i := by
  obtain ⟨m0, pa, ac, hbt, hac, b0, hb, e1, e2, e3⟩ := I
  obtain ⟨h1, h2, h3⟩ := h
  refine ⟨⟨h1, by rw [e1 q (by omega), e1 i hi]; exact h2, fun j x y => by rw [e1 i hi, e1 j (by omega)]; exact h3 j x y⟩, ?_⟩
  rw [e1 i hi]
  exact td_ct_eq (fun j x y => e1 j (by omega))
theorem td_ins_bc {c a m p : Nat} {d b d' : Nat → Nat} (I : td_Ins c a m p d b d') {D : Nat} (hD : D ≤ d p + 1) : td_ct d' D a (a + m) = if D = d p + 1 then 1 else 0 := by
  obtain ⟨m0, pa, ac, hbt, hac, b0, hb, e1, e2, e3⟩ := I
  have s := td_ct_sp (d := d') (D := D) (lo := a) (mid := a + 1) (by omega) (hi := a + m) (by omega)
  have z : td_ct d' D (a + 1) (a + m) = 0 := td_ct_z (fun j x y => by
    obtain ⟨t, rfl⟩ : ∃ t, j = a + t := ⟨j - a, by omega⟩
    rw [e2 t (by omega)]
    have := hb t (by omega) (by omega)
    omega)
  have f := td_ct_s d' D a a
  rw [td_ct_0 (Nat.le_refl a)] at f
  have e20 := e2 0 m0
  rw [Nat.add_zero, b0] at e20
  rw [e20] at f
  by_cases y : D = d p + 1
  · rw [if_pos ⟨Nat.le_refl _, y.symm⟩] at f
    rw [if_pos y]
    omega
  · rw [if_neg (fun x => y x.2.symm)] at f
    rw [if_neg y]
    omega
theorem td_ins_hi {c a m p : Nat} {d b d' : Nat → Nat} (I : td_Ins c a m p d b d') {q i : Nat} (hi : i < c) (ha : a ≤ i) (h : td_Pa d q i) :
    (a ≤ q ∧ td_Pa d' (q + m) (i + m) ∧ td_ct d' (d' (i + m)) (q + m + 1) (i + m) = td_ct d (d i) (q + 1) i) ∨
    (q < a ∧ td_Pa d' q (i + m) ∧ d i ≤ d p + 1 ∧ (d i = d p + 1 → q = p) ∧ td_ct d' (d' (i + m)) (q + 1) (i + m) = td_ct d (d i) (q + 1) i + (if d i = d p + 1 then 1 else 0)) := by
  have bc := fun D hD => td_ins_bc I (D := D) hD
  obtain ⟨m0, pa, ac, hbt, hac, b0, hb, e1, e2, e3⟩ := I
  have h' := h
  obtain ⟨h1, h2, h3⟩ := h
  rcases Nat.lt_or_ge q a with z | z
  · right
    have hD : d i ≤ d p + 1 := by
      by_cases y : a = i
      · have := hac (by omega)
        rw [y] at this; exact this
      · have := h3 a z (by omega)
        have := hac (by omega)
        omega
    refine ⟨z, ⟨by omega, by rw [e1 q z, e3 i ha hi]; exact h2, ?_⟩, hD, ?_, ?_⟩
    · intro j x y
      rw [e3 i ha hi]
      rcases Nat.lt_or_ge j a with w | w
      · rw [e1 j w]; exact h3 j x (by omega)
      · rcases Nat.lt_or_ge j (a + m) with v | v
        · obtain ⟨t, rfl⟩ : ∃ t, j = a + t := ⟨j - a, by omega⟩
          rw [e2 t (by omega)]
          by_cases t0 : t = 0
          · subst t0; omega
          · have := hb t (by omega) (by omega); omega
        · obtain ⟨t, rfl⟩ : ∃ t, j = t + m := ⟨j - m, by omega⟩
          rw [e3 t (by omega) (by omega)]; exact h3 t (by omega) (by omega)
    · intro e
      refine td_uq h' ⟨by omega, by omega, fun j x y => ?_⟩
      rcases Nat.lt_or_ge j a with w | w
      · have := hbt j x w; omega
      · exact h3 j (by omega) y
    · have s1 := td_ct_sp (d := d') (D := d i) (lo := q + 1) (mid := a) (by omega) (hi := i + m) (by omega)
      have s2 := td_ct_sp (d := d') (D := d i) (lo := a) (mid := a + m) (by omega) (hi := i + m) (by omega)
      have s3 := td_ct_sp (d := d) (D := d i) (lo := q + 1) (mid := a) (by omega) (hi := i) ha
      have u1 : td_ct d' (d i) (q + 1) a = td_ct d (d i) (q + 1) a := td_ct_eq (fun j x y => e1 j y)
      have u2 : td_ct d' (d i) (a + m) (i + m) = td_ct d (d i) a i := td_ct_sh (fun j x y => e3 j x (by omega))
      rw [e3 i ha hi, s1, s2, u1, u2, bc _ hD, s3]
      omega
  · left
    refine ⟨z, ⟨by omega, by rw [e3 q z (by omega), e3 i ha hi]; exact h2, fun j x y => ?_⟩, ?_⟩
    · obtain ⟨t, rfl⟩ : ∃ t, j = t + m := ⟨j - m, by omega⟩
      rw [e3 i ha hi, e3 t (by omega) (by omega)]; exact h3 t (by omega) (by omega)
    · rw [e3 i ha hi, show q + m + 1 = q + 1 + m by omega]
      exact td_ct_sh (fun j x y => e3 j (by omega) (by omega))
theorem td_ins_new {c a m p : Nat} {d b d' : Nat → Nat} (I : td_Ins c a m p d b d') : td_Pa d' p a ∧ td_ct d' (d' a) (p + 1) a = td_ct d (d p + 1) (p + 1) a := by
  obtain ⟨m0, pa, ac, hbt, hac, b0, hb, e1, e2, e3⟩ := I
  have e20 := e2 0 m0
  rw [Nat.add_zero, b0] at e20
  refine ⟨⟨pa, by rw [e1 p pa, e20]; omega, fun j x y => by rw [e20, e1 j y]; exact hbt j x y⟩, ?_⟩
  rw [e20]
  exact td_ct_eq (fun j x y => e1 j y)
theorem td_ins_bk {c a m p : Nat} {d b d' : Nat → Nat} (I : td_Ins c a m p d b d') {q i : Nat} (hi : i < m) (h : td_Pa b q i) : td_Pa d' (a + q) (a + i) ∧ td_ct d' (d' (a + i)) (a + q + 1) (a + i) = td_ct b (b i) (q + 1) i := by
  obtain ⟨m0, pa, ac, hbt, hac, b0, hb, e1, e2, e3⟩ := I
  obtain ⟨h1, h2, h3⟩ := h
  refine ⟨⟨by omega, by rw [e2 q (by omega), e2 i hi]; exact h2, fun j x y => ?_⟩, ?_⟩
  · obtain ⟨t, rfl⟩ : ∃ t, j = a + t := ⟨j - a, by omega⟩
    rw [e2 i hi, e2 t (by omega)]; exact h3 t (by omega) (by omega)
  · rw [e2 i hi, show a + q + 1 = q + 1 + a by omega, show a + i = i + a by omega]
    exact td_ct_sh (fun j x y => by rw [show j + a = a + j by omega]; exact e2 j (by omega))
theorem td_ins_ok {c a m p : Nat} {d b d' : Nat → Nat} (I : td_Ins c a m p d b d') (h : td_OK c d) (hbb : ∀ j, j + 1 < m → b (j + 1) ≤ b j + 1) : td_OK (c + m) d' := by
  obtain ⟨m0, pa, ac, hbt, hac, b0, hb, e1, e2, e3⟩ := I
  refine ⟨by rw [e1 0 (by omega)]; exact h.1, fun i hi => ?_⟩
  have e20 := e2 0 m0
  rw [Nat.add_zero, b0] at e20
  rcases Nat.lt_trichotomy (i + 1) a with z | z | z
  · rw [e1 i (by omega), e1 (i + 1) z]; exact h.2 i (by omega)
  · rw [z, e20, e1 i (by omega)]
    by_cases y : p = i
    · subst y; omega
    · have := hbt i (by omega) (by omega); omega
  · rcases Nat.lt_trichotomy (i + 1) (a + m) with w | w | w
    · obtain ⟨t, rfl⟩ : ∃ t, i = a + t := ⟨i - a, by omega⟩
      rw [show a + t + 1 = a + (t + 1) by omega, e2 t (by omega), e2 (t + 1) (by omega)]
      have := hb (t + 1) (by omega) (by omega)
      have := hbb t (by omega)
      omega
    · obtain ⟨t, rfl⟩ : ∃ t, i = a + t := ⟨i - a, by omega⟩
      rw [w, e2 t (by omega), e3 a (Nat.le_refl _) (by omega)]
      have x1 := hac (by omega)
      have x2 := td_pos h (i := a) (by omega) (by omega)
      by_cases t0 : t = 0
      · subst t0; omega
      · have := hb t (by omega) (by omega); omega
    · obtain ⟨t, rfl⟩ : ∃ t, i = t + m := ⟨i - m, by omega⟩
      rw [show t + m + 1 = t + 1 + m by omega, e3 t (by omega) (by omega), e3 (t + 1) (by omega) (by omega)]
      exact h.2 t (by omega)
/-! a block cut out: d is its picture with the block put back in -/
def td_cutd (a m : Nat) (d : Nat → Nat) : Nat → Nat := fun i => if i < a then d i else d (i + m)
theorem td_cutd_lo {a m : Nat} {d : Nat → Nat} {i : Nat} (h : i < a) : td_cutd a m d i = d i := if_pos h
theorem td_cutd_hi {a m : Nat} {d : Nat → Nat} {i : Nat} (h : a ≤ i) : td_cutd a m d i = d (i + m) := if_neg (by omega)
theorem td_cut {c a m p : Nat} {d : Nat → Nat} (h : td_OK c d) (hp : td_Pa d p a) (ha : a < c) (he : td_En c d a (a + m)) : td_Ins (c - m) a m p (td_cutd a m d) (fun j => d (a + j)) d := by
  have dp := td_dp h ha hp
  obtain ⟨a1, a2, a3, a4⟩ := he
  obtain ⟨h1, h2, h3⟩ := hp
  refine ⟨by omega, h1, by omega, fun j x y => ?_, fun x => ?_, ?_, fun j x y => ?_, fun i x => ?_, fun j x => rfl, fun i x y => ?_⟩
  · rw [td_cutd_lo h1, td_cutd_lo y, ← dp]; exact h3 j x y
  · rw [td_cutd_lo h1, td_cutd_hi (Nat.le_refl _), ← dp]; exact a4 (by omega)
  · rw [td_cutd_lo h1]; exact dp
  · rw [td_cutd_lo h1, ← dp]; exact a3 (a + j) (by omega) (by omega)
  · exact (td_cutd_lo x).symm
  · exact (td_cutd_hi x).symm
theorem td_cut_ok {c a m p : Nat} {d : Nat → Nat} (h : td_OK c d) (hp : td_Pa d p a) (ha : a < c) (he : td_En c d a (a + m)) : td_OK (c - m) (td_cutd a m d) := by
  obtain ⟨a1, a2, a3, a4⟩ := he
  have h1 := hp.1
  refine ⟨by rw [td_cutd_lo (by omega)]; exact h.1, fun i hi => ?_⟩
  rcases Nat.lt_trichotomy (i + 1) a with z | z | z
  · rw [td_cutd_lo z, td_cutd_lo (by omega)]; exact h.2 i (by omega)
  · rw [td_cutd_hi (by omega), td_cutd_lo (by omega)]
    have x1 := td_pos h (i := i + 1 + m) (by omega) (by omega)
    have x2 := a4 (by omega)
    have x3 := (h.2 i (by omega)).2
    rw [z] at x3 ⊢
    rw [z] at x1
    omega
  · rw [td_cutd_hi (by omega), td_cutd_hi (by omega), show i + 1 + m = i + m + 1 by omega]
    exact h.2 (i + m) (by omega)
/-! places for the k-th child -/
def td_Pl (c : Nat) (d : Nat → Nat) (p k x : Nat) : Prop := p < x ∧ x ≤ c ∧ (∀ j, p < j → j < x → d p + 1 ≤ d j) ∧ (x < c → d x ≤ d p + 1) ∧ td_ct d (d p + 1) (p + 1) x = k
theorem td_pl_0 {c : Nat} {d : Nat → Nat} (h : td_OK c d) {p : Nat} (hp : p < c) : td_Pl c d p 0 (p + 1) :=
  ⟨by omega, by omega, fun j x y => by omega, fun x => (h.2 p x).2, td_ct_0 (Nat.le_refl _)⟩
theorem td_pl_le {c : Nat} {d : Nat → Nat} {p k x e : Nat} (h : td_Pl c d p k x) (he : td_En c d p e) : x ≤ e := by
  obtain ⟨a1, a2, a3, a4, a5⟩ := h
  obtain ⟨b1, b2, b3, b4⟩ := he
  rcases Nat.lt_or_ge e x with z | z
  · have := a3 e b1 z
    have := b4 (by omega)
    omega
  · exact z
theorem td_pl_d {c : Nat} {d : Nat → Nat} {p k x e : Nat} (h : td_Pl c d p k x) (he : td_En c d p e) (z : x < e) : d x = d p + 1 := by
  obtain ⟨a1, a2, a3, a4, a5⟩ := h
  obtain ⟨b1, b2, b3, b4⟩ := he
  have := a4 (by omega)
  have := b3 x a1 z
  omega
theorem td_pl_s {c : Nat} {d : Nat → Nat} {p k x e f : Nat} (h : td_Pl c d p k x) (he : td_En c d p e) (z : x < e) (hf : td_En c d x f) : td_Pl c d p (k + 1) f := by
  have dx := td_pl_d h he z
  obtain ⟨a1, a2, a3, a4, a5⟩ := h
  obtain ⟨b1, b2, b3, b4⟩ := he
  obtain ⟨c1, c2, c3, c4⟩ := hf
  refine ⟨by omega, c2, fun j u v => ?_, fun u => by have := c4 u; omega, ?_⟩
  · rcases Nat.lt_trichotomy j x with w | w | w
    · exact a3 j u w
    · subst w; omega
    · have := c3 j w v; omega
  · have s := td_ct_sp (d := d) (D := d p + 1) (lo := p + 1) (mid := x + 1) (by omega) (hi := f) (by omega)
    have t := td_ct_s d (d p + 1) (p + 1) x
    rw [if_pos ⟨by omega, dx⟩, a5] at t
    have z0 : td_ct d (d p + 1) (x + 1) f = 0 := td_ct_z (fun j u v => by have := c3 j (by omega) v; omega)
    omega
theorem td_pl_rk {c : Nat} {d : Nat → Nat} (h : td_OK c d) {p k x i : Nat} (hx : td_Pl c d p k x) (hi : i < c) (hp : td_Pa d p i) : x ≤ i ↔ k ≤ td_ct d (d i) (p + 1) i := by
  have di := td_dp h hi hp
  obtain ⟨a1, a2, a3, a4, a5⟩ := hx
  rw [di, ← a5]
  constructor
  · exact fun z => td_ct_le z
  · intro z
    rcases Nat.lt_or_ge i x with y | y
    · have := td_ct_lt (d := d) (D := d p + 1) (lo := p + 1) (i := i) (j := x) (by have := hp.1; omega) y di
      omega
    · exact y
theorem td_pl_ch {c : Nat} {d : Nat → Nat} {p k x e : Nat} (h : td_Pl c d p k x) (he : td_En c d p e) (z : x < e) : td_Pa d p x ∧ td_ct d (d x) (p + 1) x = k := by
  have dx := td_pl_d h he z
  obtain ⟨a1, a2, a3, a4, a5⟩ := h
  exact ⟨⟨a1, by omega, fun j u v => by have := a3 j u v; omega⟩, by rw [dx]; exact a5⟩
theorem td_pl_up {c : Nat} {d : Nat → Nat} {p k x e : Nat} (h : td_Pl c d p k x) (he : td_En c d p e) : k ≤ td_ct d (d p + 1) (p + 1) e := by
  have := td_pl_le h he
  rw [← h.2.2.2.2]
  exact td_ct_le this
/-! the position behind i, as found by climbing -/
theorem td_nx_ch {d : Nat → Nat} {i : Nat} (e : d (i + 1) = d i + 1) : td_Pa d i (i + 1) ∧ td_ct d (d (i + 1)) (i + 1) (i + 1) = 0 :=
  ⟨⟨by omega, by omega, fun j x y => by omega⟩, td_ct_0 (Nat.le_refl _)⟩
theorem td_nx_no {c : Nat} {d : Nat → Nat} {i l : Nat} (hl : l < c) (e : i + 1 < c → d (i + 1) ≤ d i) : ¬ td_Pa d i l := by
  rintro ⟨h1, h2, h3⟩
  have := e (by omega)
  by_cases z : i + 1 = l
  · rw [z] at this; omega
  · have := h3 (i + 1) (by omega) (by omega); omega
theorem td_nx_sb {c : Nat} {d : Nat → Nat} {a q e : Nat} (hq : td_Pa d q a) (he : td_En c d a e) (z : d e = d a) : td_Pa d q e ∧ td_ct d (d e) (q + 1) e = td_ct d (d a) (q + 1) a + 1 := by
  obtain ⟨a1, a2, a3, a4⟩ := he
  obtain ⟨h1, h2, h3⟩ := hq
  refine ⟨⟨by omega, by omega, fun j x y => ?_⟩, ?_⟩
  · rcases Nat.lt_trichotomy j a with w | w | w
    · have := h3 j x w; omega
    · subst w; omega
    · have := a3 j w y; omega
  · rw [z]
    have s := td_ct_sp (d := d) (D := d a) (lo := q + 1) (mid := a + 1) (by omega) (hi := e) (by omega)
    have t := td_ct_s d (d a) (q + 1) a
    rw [if_pos ⟨by omega, rfl⟩] at t
    have z0 : td_ct d (d a) (a + 1) e = 0 := td_ct_z (fun j u v => by have := a3 j (by omega) v; omega)
    omega
theorem td_nx_up {c : Nat} {d : Nat → Nat} (h : td_OK c d) {a q e : Nat} (ha : a < c) (hq : td_Pa d q a) (he : td_En c d a e) (z : e < c → d e ≠ d a) : td_En c d q e ∧ ∀ l, l < c → td_Pa d q l → td_ct d (d l) (q + 1) l ≠ td_ct d (d a) (q + 1) a + 1 := by
  have da := td_dp h ha hq
  have qa := td_PA hq
  obtain ⟨a1, a2, a3, a4⟩ := he
  have h1 := hq.1
  refine ⟨⟨by omega, a2, fun j x y => ?_, fun x => by have := a4 x; have := z x; omega⟩, fun l hl hp n => ?_⟩
  · rcases Nat.lt_or_ge a j with w | w
    · have := a3 j w y; omega
    · exact qa.2 j x w
  · have dl := td_dp h hl hp
    rcases Nat.lt_trichotomy l a with w | w | w
    · have := td_rk_lt h ha hp hq w; omega
    · subst w; omega
    · rcases Nat.lt_trichotomy l e with v | v | v
      · have := a3 l w v; omega
      · subst v; exact z hl (by omega)
      · have x1 := hp.2.2 e (by omega) v
        have x2 := a4 (by omega)
        have x3 := z (by omega)
        omega
theorem td_nx_rt {c : Nat} {d : Nat → Nat} (h : td_OK c d) {e : Nat} (he : td_En c d 0 e) : e = c := by
  obtain ⟨a1, a2, a3, a4⟩ := he
  rcases Nat.lt_or_ge e c with z | z
  · have := a4 z
    have := td_pos h a1 z
    have := h.1
    omega
  · omega
theorem td_pl_uq {c : Nat} {d : Nat → Nat} {p k x y e : Nat} (hx : td_Pl c d p k x) (hy : td_Pl c d p k y) (he : td_En c d p e) : x = y := by
  have xe := td_pl_le hx he
  have ye := td_pl_le hy he
  rcases Nat.lt_trichotomy x y with z | z | z
  · have dx := td_pl_d hx he (by omega)
    have := td_ct_lt (d := d) (D := d p + 1) (lo := p + 1) (i := x) (j := y) hx.1 z dx
    rw [hx.2.2.2.2, hy.2.2.2.2] at this
    omega
  · exact z
  · have dy := td_pl_d hy he (by omega)
    have := td_ct_lt (d := d) (D := d p + 1) (lo := p + 1) (i := y) (j := x) hy.1 z dy
    rw [hx.2.2.2.2, hy.2.2.2.2] at this
    omega
theorem td_pl_ex {c : Nat} {d : Nat → Nat} (h : td_OK c d) {p e : Nat} (hp : p < c) (he : td_En c d p e) : ∀ k, k ≤ td_ct d (d p + 1) (p + 1) e → ∃ x, td_Pl c d p k x
  | 0, _ => ⟨p + 1, td_pl_0 h hp⟩
  | k + 1, hk => by
    obtain ⟨x, hx⟩ := td_pl_ex h hp he k (by omega)
    have xe := td_pl_le hx he
    have ec := he.2.1
    have z : x < e := by
      rcases Nat.lt_or_ge x e with z | z
      · exact z
      · have : x = e := by omega
        rw [← this, hx.2.2.2.2] at hk
        omega
    obtain ⟨f, hf⟩ := td_endEx (c := c) (d := d) (i := x) (by omega)
    exact ⟨f, td_pl_s hx he z hf⟩
end
section
/-! tokens of an expression: operands, types, ends -/
def te_o (k w : Nat) : Nat := if k = 2 then 1 + w / 128 else if k = 3 then 2 else if k < 7 then 0 else if k < 10 then 1 else if k < 17 then 2 else 1
def te_ty (k : Nat) : Nat := if k < 4 then 0 else if k < 13 then 1 else 2
def te_lo (k t : Nat) : Nat := if k = 2 then (if t = 0 then 0 else 2) else if k < 10 then 0 else if k < 15 then 1 else 2
def te_ch (E : Nat → Nat) (j : Nat) : Nat → Nat
  | 0 => j
  | m + 1 => E (te_ch E j m)
theorem te_ch_s (E : Nat → Nat) (j m : Nat) : te_ch E j (m + 1) = E (te_ch E j m) := rfl
theorem te_ch_E (E : Nat → Nat) (j : Nat) : ∀ m, te_ch E (E j) m = te_ch E j (m + 1)
  | 0 => rfl
  | m + 1 => by rw [te_ch_s, te_ch_E E j m]; rfl
theorem te_ch_add (E : Nat → Nat) (j a : Nat) : ∀ m, te_ch E (te_ch E j a) m = te_ch E j (a + m)
  | 0 => rfl
  | m + 1 => by rw [te_ch_s, te_ch_add E j a m]; rfl
/-- token i stands well in an expression that ends at L -/
def te_W (K W E : Nat → Nat) (L i : Nat) : Prop :=
  E i = te_ch E (i + 1) (te_o (K i) (W i)) ∧ ∀ t, t < te_o (K i) (W i) → te_ch E (i + 1) t < L ∧ te_ty (K (te_ch E (i + 1) t)) ≤ te_lo (K i) t
def te_Ws (K W E : Nat → Nat) (b L : Nat) : Prop := ∀ i, b ≤ i → i < L → te_W K W E L i
theorem te_down {P : Nat → Prop} (L : Nat) (h : ∀ i, i < L → (∀ j, i < j → j < L → P j) → P i) : ∀ i, i < L → P i := by
  have key : ∀ k i, L - i ≤ k → i < L → P i := by
    intro k
    induction k with
    | zero => intro i a b; omega
    | succ k ih => intro i a b; exact h i b (fun j x y => ih j (by omega) y)
  exact fun i hi => key (L - i) i (Nat.le_refl _) hi
theorem te_bnd {K W E : Nat → Nat} {b L : Nat} (h : te_Ws K W E b L) : ∀ i, i < L → b ≤ i → i < E i ∧ E i ≤ L ∧ ∀ t, t ≤ te_o (K i) (W i) → i < te_ch E (i + 1) t ∧ te_ch E (i + 1) t ≤ L := by
  refine te_down L ?_
  intro i hi ih hb
  obtain ⟨h1, h2⟩ := h i hb hi
  have key : ∀ t, t ≤ te_o (K i) (W i) → i < te_ch E (i + 1) t ∧ te_ch E (i + 1) t ≤ L := by
    intro t
    induction t with
    | zero => intro _; exact ⟨Nat.lt_succ_self _, hi⟩
    | succ t it =>
      intro ht
      have a := it (by omega)
      have c := h2 t (by omega)
      have e := ih _ a.1 c.1 (by omega)
      rw [te_ch_s]
      exact ⟨by omega, e.2.1⟩
  have z := key _ (Nat.le_refl _)
  rw [← h1] at z
  exact ⟨z.1, z.2, key⟩
theorem te_E_gt {K W E : Nat → Nat} {b L i : Nat} (h : te_Ws K W E b L) (hb : b ≤ i) (hi : i < L) : i < E i := (te_bnd h i hi hb).1
theorem te_E_le {K W E : Nat → Nat} {b L i : Nat} (h : te_Ws K W E b L) (hb : b ≤ i) (hi : i < L) : E i ≤ L := (te_bnd h i hi hb).2.1
/-- the t-th operand of i: where it stands, what it is -/
theorem te_op {K W E : Nat → Nat} {b L i t : Nat} (h : te_Ws K W E b L) (hb : b ≤ i) (hi : i < L) (ht : t < te_o (K i) (W i)) :
    i < te_ch E (i + 1) t ∧ te_ch E (i + 1) t < L ∧ te_ty (K (te_ch E (i + 1) t)) ≤ te_lo (K i) t :=
  ⟨((te_bnd h i hi hb).2.2 t (by omega)).1, ((h i hb hi).2 t ht).1, ((h i hb hi).2 t ht).2⟩
/-- what lies within a token's operands ends within them -/
theorem te_nest {K W E : Nat → Nat} {b L : Nat} (h : te_Ws K W E b L) : ∀ q, q < L → b ≤ q → ∀ i, q ≤ i → i < E q → E i ≤ E q := by
  refine te_down L ?_
  intro q hq ih hb i h1 h2
  by_cases z : i = q
  · subst z; exact Nat.le_refl _
  · obtain ⟨w1, w2⟩ := h q hb hq
    have bd := (te_bnd h q hq hb).2.2
    have key : ∀ t, t ≤ te_o (K q) (W q) → i < te_ch E (q + 1) t → E i ≤ te_ch E (q + 1) t := by
      intro t
      induction t with
      | zero => intro _ y; have : te_ch E (q + 1) 0 = q + 1 := rfl; omega
      | succ t it =>
        intro ht y
        have a := bd t (by omega)
        have c := w2 t (by omega)
        rcases Nat.lt_or_ge i (te_ch E (q + 1) t) with w | w
        · have := it (by omega) w
          have := (te_bnd h _ c.1 (by omega)).1
          rw [te_ch_s]; omega
        · rw [te_ch_s] at y ⊢
          exact ih _ a.1 c.1 (by omega) i w y
    rw [w1] at h2 ⊢
    exact key _ (Nat.le_refl _) h2
/-- a count of missing tokens comes down by one over each expression -/
theorem te_scan {K W E : Nat → Nat} {b L : Nat} (h : te_Ws K W E b L) (P : Nat → Nat → Nat → Prop)
    (hs : ∀ n m i, b ≤ i → i < L → P n (m + te_o (K i) (W i)) (i + 1) → P (n + 1) (m + 1) i) :
    ∀ i, i < L → b ≤ i → ∀ n m, P n m (E i) → P (n + (E i - i)) (m + 1) i := by
  refine te_down L ?_
  intro i hi ih hb n m hp
  obtain ⟨w1, w2⟩ := h i hb hi
  have bd := (te_bnd h i hi hb).2.2
  have key : ∀ u t, t + u = te_o (K i) (W i) → P (n + (E i - te_ch E (i + 1) t)) (m + u) (te_ch E (i + 1) t) := by
    intro u
    induction u with
    | zero =>
      intro t ht
      have e : te_ch E (i + 1) t = E i := by rw [w1, ← ht]; rfl
      rw [e, Nat.sub_self]
      exact hp
    | succ u iu =>
      intro t ht
      have a := bd t (by omega)
      have c := w2 t (by omega)
      have r := iu (t + 1) (by omega)
      have g := ih _ a.1 c.1 (by omega) _ _ (show P (n + (E i - te_ch E (i + 1) (t + 1))) (m + u) (E (te_ch E (i + 1) t)) from r)
      have x1 := (te_bnd h _ c.1 (by omega)).1
      have x2 : te_ch E (i + 1) (t + 1) ≤ E i := by
        have mono : ∀ v, t + 1 + v ≤ te_o (K i) (W i) → te_ch E (i + 1) (t + 1) ≤ te_ch E (i + 1) (t + 1 + v) := by
          intro v
          induction v with
          | zero => intro _; exact Nat.le_refl _
          | succ v iv =>
            intro hv
            have y1 := iv (by omega)
            have y2 := w2 (t + 1 + v) (by omega)
            have y3 := bd (t + 1 + v) (by omega)
            have y4 := (te_bnd h _ y2.1 (by omega)).1
            have y5 : te_ch E (i + 1) (t + 1 + (v + 1)) = E (te_ch E (i + 1) (t + 1 + v)) := rfl
            omega
        have := mono u (by omega)
        rw [show t + 1 + u = te_o (K i) (W i) by omega, ← w1] at this
        exact this
      rw [te_ch_s] at g x2
      rw [show n + (E i - te_ch E (i + 1) t) = n + (E i - E (te_ch E (i + 1) t)) + (E (te_ch E (i + 1) t) - te_ch E (i + 1) t) by omega, show m + (u + 1) = m + u + 1 by omega]
      exact g
  have k0 := key (te_o (K i) (W i)) 0 (by omega)
  have e0 : te_ch E (i + 1) 0 = i + 1 := rfl
  rw [e0] at k0
  have x1 := (te_bnd h i hi hb).1
  rw [show n + (E i - i) = n + (E i - (i + 1)) + 1 by omega]
  exact hs _ _ _ hb hi k0
/-- the expressions that stand from i on: h of them up to L -/
def te_F (E : Nat → Nat) (L i h : Nat) : Prop := te_ch E i h = L ∧ ∀ t, t < h → te_ch E i t < L
theorem te_F_0 (E : Nat → Nat) (L : Nat) : te_F E L L 0 := ⟨rfl, fun t ht => by omega⟩
theorem te_F_s {E : Nat → Nat} {L i h o : Nat} (f : te_F E L (i + 1) h) (ho : o ≤ h) (e : E i = te_ch E (i + 1) o) (hi : i < L) : te_F E L i (h - o + 1) := by
  have key : ∀ t, te_ch E i (t + 1) = te_ch E (i + 1) (o + t) := by
    intro t
    rw [← te_ch_E, e, te_ch_add]
  refine ⟨by rw [key, show o + (h - o) = h by omega]; exact f.1, fun t ht => ?_⟩
  cases t with
  | zero => exact hi
  | succ t => rw [key]; exact f.2 _ (by omega)
theorem te_F_top {E : Nat → Nat} {L i h o t : Nat} (e : E i = te_ch E (i + 1) o) : te_ch E i (t + 1) = te_ch E (i + 1) (o + t) := by
  rw [← te_ch_E, e, te_ch_add]
theorem te_F_u {K W E : Nat → Nat} {b L i h g : Nat} (hw : te_Ws K W E b L) (hb : b ≤ i) (f : te_F E L i h) (f' : te_F E L i g) : h = g := by
  rcases Nat.lt_trichotomy h g with z | z | z
  · have := f'.2 h z; have := f.1; omega
  · exact z
  · have := f.2 g z; have := f'.1; omega
theorem te_ch_ext {E E' : Nat → Nat} {j : Nat} : ∀ {m : Nat}, (∀ t, t < m → E' (te_ch E j t) = E (te_ch E j t)) → te_ch E' j m = te_ch E j m
  | 0, _ => rfl
  | m + 1, h => by
    rw [te_ch_s, te_ch_s, te_ch_ext (m := m) (fun t ht => h t (by omega)), h m (by omega)]
theorem te_ch_ge {K W E : Nat → Nat} {b n h : Nat} (hw : te_Ws K W E b n) (f : te_F E n b h) : ∀ t, t ≤ h → b + t ≤ te_ch E b t := by
  intro t
  induction t with
  | zero => intro _; exact Nat.le_refl _
  | succ t ih =>
    intro ht
    have a := ih (by omega)
    have b' := f.2 t (by omega)
    have c := te_E_gt hw (by omega) b'
    rw [te_ch_s]
    omega
theorem te_F_le {K W E : Nat → Nat} {b n h : Nat} (hw : te_Ws K W E b n) (f : te_F E n b h) : b + h ≤ n := by
  have := te_ch_ge hw f h (Nat.le_refl _)
  rw [f.1] at this
  exact this
theorem te_W_ext {K W E E' : Nat → Nat} {b L i : Nat} (h : te_Ws K W E b L) (hb : b ≤ i) (hi : i < L) (e : ∀ j, b ≤ j → E' j = E j) : te_W K W E' L i := by
  have bd := (te_bnd h i hi hb).2.2
  have key : ∀ t, t ≤ te_o (K i) (W i) → te_ch E' (i + 1) t = te_ch E (i + 1) t := by
    intro t ht
    apply te_ch_ext
    intro s hs
    have := bd s (by omega)
    exact e _ (by omega)
  obtain ⟨w1, w2⟩ := h i hb hi
  refine ⟨by rw [key _ (Nat.le_refl _), e i hb]; exact w1, fun t ht => ?_⟩
  rw [key t (by omega)]
  exact w2 t ht
/-- one more token in front -/
theorem te_step {K W E E' : Nat → Nat} {n i h o : Nat} (hw : te_Ws K W E (i + 1) n) (f : te_F E n (i + 1) h) (hi : i < n) (ho : te_o (K i) (W i) = o) (hoh : o ≤ h)
    (ht : ∀ t, t < o → te_ty (K (te_ch E (i + 1) t)) ≤ te_lo (K i) t) (e : ∀ j, i + 1 ≤ j → E' j = E j) (ei : E' i = te_ch E (i + 1) o) :
    te_Ws K W E' i n ∧ te_F E' n i (h - o + 1) ∧ ∀ t, o + t ≤ h → te_ch E' i (t + 1) = te_ch E (i + 1) (o + t) := by
  have ge := te_ch_ge hw f
  have key : ∀ t, t ≤ h → te_ch E' (i + 1) t = te_ch E (i + 1) t := by
    intro t ht'
    apply te_ch_ext
    intro s hs
    have := ge s (by omega)
    exact e _ (by omega)
  have ei' : E' i = te_ch E' (i + 1) o := by rw [key o hoh]; exact ei
  have f' : te_F E' n (i + 1) h := ⟨by rw [key h (Nat.le_refl _)]; exact f.1, fun t ht' => by rw [key t (by omega)]; exact f.2 t ht'⟩
  refine ⟨fun j h1 h2 => ?_, te_F_s f' hoh ei' hi, fun t ht' => ?_⟩
  · by_cases z : j = i
    · subst z
      refine ⟨by rw [ho]; exact ei', fun t ht' => ?_⟩
      rw [ho] at ht'
      rw [key t (by omega)]
      exact ⟨f.2 t (by omega), ht t ht'⟩
    · exact te_W_ext hw (by omega) h2 e
  · rw [te_F_top (L := n) (i := i) (h := h) (o := o) ei', key _ ht']
end
section
/-! what tokens give as numbers at a node, a place and a length -/
def tn_first (r : Nat → Nat) (val : Nat → Int32) (x : Int32) : Nat → Nat → Int32
  | 0, _ => 0
  | k + 1, i => if bt x (r i) = true then val (r i) else tn_first r val x k (i + 1)
theorem tn_first_s (r : Nat → Nat) (val : Nat → Int32) (x : Int32) (k i : Nat) : tn_first r val x (k + 1) i = if bt x (r i) = true then val (r i) else tn_first r val x k (i + 1) := rfl
noncomputable def tn_b (P : Prop) : Int32 := @ite Int32 P (Classical.propDecidable P) 1 0
theorem tn_b_t {P : Prop} (h : P) : tn_b P = 1 := by unfold tn_b; rw [if_pos h]
theorem tn_b_f {P : Prop} (h : ¬ P) : tn_b P = 0 := by unfold tn_b; rw [if_neg h]
theorem tn_b_01 (P : Prop) : tn_b P = 0 ∨ tn_b P = 1 := by
  rcases Classical.em P with h | h
  · exact Or.inr (tn_b_t h)
  · exact Or.inl (tn_b_f h)
theorem tn_b_c {P Q : Prop} (h : P ↔ Q) : tn_b P = tn_b Q := by rw [propext h]
def tn_in (k : Nat) (x : Int32) (m : Nat) : Prop := if k < 4 then bt x m = true else m = 0
def tn_at (k : Nat) (val : Nat → Int32) (n : Int32) (m : Nat) : Int32 := if k < 4 then val m else n
def tn_Cm (kd : Nat) (val : Nat → Int32) (ka : Nat) (xa na : Int32) (kb : Nat) (xb nb : Int32) : Prop :=
  ∃ m n, m < 24 ∧ n < 24 ∧ tn_in ka xa m ∧ tn_in kb xb n ∧ (if kd = 13 then tn_at ka val na m < tn_at kb val nb n else tn_at ka val na m = tn_at kb val nb n)
def tn_pl (c : Nat) (r : Nat → Nat) (val : Nat → Int32) (k : Nat) (x n : Int32) : Int32 := if k < 4 then tn_first r val x c 0 else n
def tn_tr (k : Nat) (x n : Int32) : Prop := if k < 4 then x ≠ 0 else n ≠ 0
def tn_hold (k : Nat) (x n pos : Int32) : Prop := if k < 4 then x ≠ 0 else if k < 13 then n = pos else n ≠ 0
def tn_r1 (c : Nat) (r : Nat → Nat) (val : Nat → Int32) (pos last : Int32) (k : Nat) (v xa : Int32) : Int32 :=
  if k = 4 then v else if k = 5 then pos else if k = 6 then last else if k = 7 then nI (tc_n (bt xa) 24) else if k = 8 then tc_sum val (bt xa) 24 else tn_first r val xa c 0
noncomputable def tn_r2 (c : Nat) (r : Nat → Nat) (val : Nat → Int32) (k ka : Nat) (xa na : Int32) (kb : Nat) (xb nb : Int32) : Int32 :=
  if k = 10 then tn_pl c r val ka xa na + tn_pl c r val kb xb nb
  else if k = 11 then tn_pl c r val ka xa na - tn_pl c r val kb xb nb
  else if k = 12 then tn_pl c r val ka xa na * tn_pl c r val kb xb nb
  else if k < 15 then tn_b (tn_Cm k val ka xa na kb xb nb)
  else if k = 15 then tn_b (tn_tr ka xa na ∧ tn_tr kb xb nb)
  else tn_b (tn_tr ka xa na ∨ tn_tr kb xb nb)
noncomputable def tn_res (c : Nat) (r : Nat → Nat) (val : Nat → Int32) (pos last : Int32) (k : Nat) (v : Int32) (ka : Nat) (xa na : Int32) (kb : Nat) (xb nb : Int32) : Int32 :=
  if k < 4 then 0 else if k < 10 then tn_r1 c r val pos last k v xa else if k < 17 then tn_r2 c r val k ka xa na kb xb nb else tn_b (¬ tn_tr ka xa na)
theorem tn_fx (N : Nat) (F : (Nat → Int32) → Nat → Int32) : ∃ f : Nat → Int32, ∀ a, f a = F (fun b => if N - b < N - a then f b else 0) a := by
  refine ⟨(measure (fun b : Nat => N - b)).wf.fix (fun a g => F (fun b => if h : N - b < N - a then g b h else 0) a), fun a => ?_⟩
  rw [WellFounded.fix_eq]
  apply congrArg (fun z => F z a)
  funext b
  by_cases h : N - b < N - a <;> simp [h]
def tn_Eq (c : Nat) (r : Nat → Nat) (val : Nat → Int32) (K E : Nat → Nat) (V : Nat → Int32) (σ : Nat → Int32) (pos last : Int32) (b L : Nat) (η : Nat → Int32) : Prop :=
  ∀ i, b ≤ i → i < L → η i = tn_res c r val pos last (K i) (V i) (K (i + 1)) (σ (i + 1)) (η (i + 1)) (K (E (i + 1))) (σ (E (i + 1))) (η (E (i + 1)))
noncomputable def tn_nv (c : Nat) (r : Nat → Nat) (val : Nat → Int32) (K E : Nat → Nat) (V : Nat → Int32) (σ : Nat → Int32) (pos last : Int32) : Nat → Int32 :=
  Classical.choose (tn_fx 400 (fun η i => tn_res c r val pos last (K i) (V i) (K (i + 1)) (σ (i + 1)) (η (i + 1)) (K (E (i + 1))) (σ (E (i + 1))) (η (E (i + 1)))))
theorem tn_res_nb {c : Nat} {r : Nat → Nat} {val : Nat → Int32} {pos last : Int32} {k : Nat} {v : Int32} {ka : Nat} {xa na : Int32} {kb kb' : Nat} {xb nb xb' nb' : Int32} (h : k < 10 ∨ 17 ≤ k) :
    tn_res c r val pos last k v ka xa na kb xb nb = tn_res c r val pos last k v ka xa na kb' xb' nb' := by
  unfold tn_res
  rcases h with h | h
  · rw [if_pos h, if_pos h]
  · rw [if_neg (show ¬ k < 10 by omega), if_neg (show ¬ k < 10 by omega), if_neg (show ¬ k < 17 by omega), if_neg (show ¬ k < 17 by omega)]
theorem te_o2 {k w : Nat} (h : 10 ≤ k) (h2 : k < 17) : te_o k w = 2 := by
  unfold te_o
  rw [if_neg (by omega), if_neg (by omega), if_neg (by omega), if_neg (by omega), if_pos h2]
theorem tn_nv_eq {c : Nat} {r : Nat → Nat} {val : Nat → Int32} {K W E : Nat → Nat} {V σ : Nat → Int32} {pos last : Int32} {b L : Nat} (h : te_Ws K W E b L) (hL : L ≤ 400) :
    tn_Eq c r val K E V σ pos last b L (tn_nv c r val K E V σ pos last) := by
  intro i hb hi
  have e := Classical.choose_spec (tn_fx 400 (fun η i => tn_res c r val pos last (K i) (V i) (K (i + 1)) (σ (i + 1)) (η (i + 1)) (K (E (i + 1))) (σ (E (i + 1))) (η (E (i + 1))))) i
  have e' : tn_nv c r val K E V σ pos last i = tn_res c r val pos last (K i) (V i) (K (i + 1)) (σ (i + 1)) (if 400 - (i + 1) < 400 - i then tn_nv c r val K E V σ pos last (i + 1) else 0) (K (E (i + 1))) (σ (E (i + 1))) (if 400 - E (i + 1) < 400 - i then tn_nv c r val K E V σ pos last (E (i + 1)) else 0) := e
  rw [e', if_pos (by omega)]
  by_cases z : 10 ≤ K i ∧ K i < 17
  · have o2 := te_o2 (w := W i) z.1 z.2
    have x := te_op h hb hi (t := 0) (by omega)
    have x2 := te_E_gt h (i := i + 1) (by omega) x.2.1
    rw [if_pos (by omega)]
  · exact tn_res_nb (by omega)
/-- a token's set counts if it gives one, its number if not -/
def tn_Sm (k : Nat) (x n x' n' : Int32) : Prop := (k < 4 → x = x') ∧ (¬ k < 4 → n = n')
theorem tn_pl_c {c : Nat} {r : Nat → Nat} {val : Nat → Int32} {k : Nat} {x n x' n' : Int32} (h : tn_Sm k x n x' n') : tn_pl c r val k x n = tn_pl c r val k x' n' := by
  unfold tn_pl
  by_cases z : k < 4
  · rw [if_pos z, if_pos z, h.1 z]
  · rw [if_neg z, if_neg z, h.2 z]
theorem tn_tr_c {k : Nat} {x n x' n' : Int32} (h : tn_Sm k x n x' n') : tn_tr k x n = tn_tr k x' n' := by
  unfold tn_tr
  by_cases z : k < 4
  · rw [if_pos z, if_pos z, h.1 z]
  · rw [if_neg z, if_neg z, h.2 z]
theorem tn_hold_c {k : Nat} {x n x' n' pos : Int32} (h : tn_Sm k x n x' n') : tn_hold k x n pos = tn_hold k x' n' pos := by
  unfold tn_hold
  by_cases z : k < 4
  · rw [if_pos z, if_pos z, h.1 z]
  · rw [if_neg z, if_neg z, h.2 z]
theorem tn_in_c {k : Nat} {x n x' n' : Int32} (h : tn_Sm k x n x' n') (m : Nat) : tn_in k x m = tn_in k x' m := by
  unfold tn_in
  by_cases z : k < 4
  · rw [if_pos z, if_pos z, h.1 z]
  · rw [if_neg z, if_neg z]
theorem tn_at_c {val : Nat → Int32} {k : Nat} {x n x' n' : Int32} (h : tn_Sm k x n x' n') (m : Nat) : tn_at k val n m = tn_at k val n' m := by
  unfold tn_at
  by_cases z : k < 4
  · rw [if_pos z, if_pos z]
  · rw [if_neg z, if_neg z, h.2 z]
theorem tn_Cm_c {kd : Nat} {val : Nat → Int32} {ka : Nat} {xa na xa' na' : Int32} {kb : Nat} {xb nb xb' nb' : Int32} (ha : tn_Sm ka xa na xa' na') (hb : tn_Sm kb xb nb xb' nb') : tn_Cm kd val ka xa na kb xb nb = tn_Cm kd val ka xa' na' kb xb' nb' := by
  unfold tn_Cm
  simp only [tn_in_c ha, tn_in_c hb, tn_at_c ha, tn_at_c hb]
theorem tn_r2_c {c : Nat} {r : Nat → Nat} {val : Nat → Int32} {k ka : Nat} {xa na xa' na' : Int32} {kb : Nat} {xb nb xb' nb' : Int32} (ha : tn_Sm ka xa na xa' na') (hb : tn_Sm kb xb nb xb' nb') : tn_r2 c r val k ka xa na kb xb nb = tn_r2 c r val k ka xa' na' kb xb' nb' := by
  unfold tn_r2
  rw [tn_pl_c ha, tn_pl_c hb, tn_tr_c ha, tn_tr_c hb, tn_Cm_c ha hb]
theorem te_ty_0 {k : Nat} : te_ty k ≤ 0 ↔ k < 4 := by
  unfold te_ty
  by_cases h : k < 4
  · rw [if_pos h]; omega
  · rw [if_neg h]
    by_cases h2 : k < 13
    · rw [if_pos h2]; omega
    · rw [if_neg h2]; omega
theorem te_o1 {k w : Nat} (h : 7 ≤ k) (h2 : k < 10) : te_o k w = 1 := by
  unfold te_o
  rw [if_neg (by omega), if_neg (by omega), if_neg (by omega), if_pos h2]
theorem te_lo0 {k t : Nat} (h : 3 ≤ k) (h2 : k < 10) : te_lo k t = 0 := by
  unfold te_lo
  rw [if_neg (by omega), if_pos h2]
theorem te_o17 {k w : Nat} (h : 17 ≤ k) : te_o k w = 1 := by
  unfold te_o
  rw [if_neg (by omega), if_neg (by omega), if_neg (by omega), if_neg (by omega), if_neg (by omega)]
/-- COUNT, SUM and VALUE stand before a set -/
theorem te_set1 {K W E : Nat → Nat} {b L i : Nat} (h : te_Ws K W E b L) (hb : b ≤ i) (hi : i < L) (h7 : 7 ≤ K i) (h10 : K i < 10) : i + 1 < L ∧ K (i + 1) < 4 := by
  have x := te_op h hb hi (t := 0) (by rw [te_o1 h7 h10]; omega)
  rw [te_lo0 (by omega) h10] at x
  exact ⟨x.2.1, te_ty_0.mp x.2.2⟩
theorem te_two {K W E : Nat → Nat} {b L i : Nat} (h : te_Ws K W E b L) (hb : b ≤ i) (hi : i < L) (h2 : te_o (K i) (W i) = 2) : i + 1 < L ∧ i + 1 < E (i + 1) ∧ E (i + 1) < L ∧ E i = E (E (i + 1)) := by
  have x := te_op h hb hi (t := 0) (by omega)
  have y := te_op h hb hi (t := 1) (by omega)
  have z := (h i hb hi).1
  rw [h2] at z
  exact ⟨x.2.1, te_E_gt h (by omega) x.2.1, y.2.1, z⟩
theorem te_one {K W E : Nat → Nat} {b L i : Nat} (h : te_Ws K W E b L) (hb : b ≤ i) (hi : i < L) (h2 : te_o (K i) (W i) = 1) : i + 1 < L ∧ E i = E (i + 1) := by
  have x := te_op h hb hi (t := 0) (by omega)
  have z := (h i hb hi).1
  rw [h2] at z
  exact ⟨x.2.1, z⟩
/-- two tables of sets that agree from i0 on give the same numbers from there on -/
theorem tn_cong {c : Nat} {r : Nat → Nat} {val : Nat → Int32} {K W E : Nat → Nat} {V σ σ' η η' : Nat → Int32} {pos last : Int32} {b L i0 : Nat} (h : te_Ws K W E b L)
    (hη : tn_Eq c r val K E V σ pos last b L η) (hη' : tn_Eq c r val K E V σ' pos last b L η') (hσ : ∀ j, i0 ≤ j → j < L → K j < 4 → σ j = σ' j) :
    ∀ i, i < L → b ≤ i → i0 ≤ i → η i = η' i := by
  refine te_down L ?_
  intro i hi ih hb h0
  rw [hη i hb hi, hη' i hb hi]
  unfold tn_res
  by_cases z4 : K i < 4
  · rw [if_pos z4, if_pos z4]
  rw [if_neg z4, if_neg z4]
  by_cases z10 : K i < 10
  · rw [if_pos z10, if_pos z10]
    unfold tn_r1
    by_cases y4 : K i = 4
    · rw [if_pos y4, if_pos y4]
    by_cases y5 : K i = 5
    · rw [if_neg y4, if_neg y4, if_pos y5, if_pos y5]
    by_cases y6 : K i = 6
    · rw [if_neg y4, if_neg y4, if_neg y5, if_neg y5, if_pos y6, if_pos y6]
    have s := te_set1 h hb hi (by omega) z10
    rw [hσ (i + 1) (by omega) s.1 s.2]
  rw [if_neg z10, if_neg z10]
  by_cases z17 : K i < 17
  · rw [if_pos z17, if_pos z17]
    have s := te_two h hb hi (te_o2 (by omega) z17)
    exact tn_r2_c ⟨hσ _ (by omega) s.1, fun _ => ih _ (by omega) s.1 (by omega) (by omega)⟩ ⟨hσ _ (by omega) s.2.2.1, fun _ => ih _ (by omega) s.2.2.1 (by omega) (by omega)⟩
  · rw [if_neg z17, if_neg z17]
    have s := te_one h hb hi (te_o17 (by omega))
    rw [tn_tr_c ⟨hσ _ (by omega) s.1, fun _ => ih _ (by omega) s.1 (by omega) (by omega)⟩]
theorem tn_01 {c : Nat} {r : Nat → Nat} {val : Nat → Int32} {pos last : Int32} {k : Nat} {v : Int32} {ka : Nat} {xa na : Int32} {kb : Nat} {xb nb : Int32} (h : 13 ≤ k) :
    tn_res c r val pos last k v ka xa na kb xb nb = 0 ∨ tn_res c r val pos last k v ka xa na kb xb nb = 1 := by
  unfold tn_res
  rw [if_neg (by omega), if_neg (by omega)]
  by_cases z : k < 17
  · rw [if_pos z]
    unfold tn_r2
    rw [if_neg (by omega), if_neg (by omega), if_neg (by omega)]
    by_cases y : k < 15
    · rw [if_pos y]; exact tn_b_01 _
    · rw [if_neg y]
      by_cases w : k = 15
      · rw [if_pos w]; exact tn_b_01 _
      · rw [if_neg w]; exact tn_b_01 _
  · rw [if_neg z]; exact tn_b_01 _
end
section
/-! what set tokens give at a node: equations token by token -/
noncomputable def tk_d (P : Prop) : Bool := @decide P (Classical.propDecidable P)
theorem tk_d_t {P : Prop} : tk_d P = true ↔ P := @decide_eq_true_iff P (Classical.propDecidable P)
theorem tk_d_f {P : Prop} : tk_d P = false ↔ ¬ P := @decide_eq_false_iff_not P (Classical.propDecidable P)
theorem tk_d_c {P Q : Prop} (h : P ↔ Q) : tk_d P = tk_d Q := by rw [propext h]
def td_on (d : Nat → Nat) (ax i k : Nat) : Prop :=
  if ax = 0 then k = i else if ax = 1 then td_Pa d i k else if ax = 2 then td_Pa d k i else if ax = 3 then td_An d i k else if ax = 4 then td_An d k i
  else if ax = 5 then (∃ p, td_Pa d p i ∧ td_Pa d p k) ∧ i < k else if ax = 6 then (∃ p, td_Pa d p i ∧ td_Pa d p k) ∧ k < i
  else if ax = 7 then i < k ∧ ¬ td_An d i k else if ax = 8 then k < i ∧ ¬ td_An d k i else if ax = 9 then td_An d i k ∨ k = i else td_An d k i ∨ k = i
def tk_pi (c ax i : Nat) : Nat := if 0 < ax ∧ ax % 2 = 0 then c - 1 - i else i
theorem tk_pi_lt {c ax i : Nat} (h : i < c) : tk_pi c ax i < c := by unfold tk_pi; split <;> omega
theorem tk_pi_pi {c ax i : Nat} (h : i < c) : tk_pi c ax (tk_pi c ax i) = i := by
  unfold tk_pi
  by_cases z : 0 < ax ∧ ax % 2 = 0
  · rw [if_pos z, if_pos z]; omega
  · rw [if_neg z, if_neg z]
section
variable (c : Nat) (r d : Nat → Nat) (nm val : Nat → Int32) (K W E : Nat → Nat) (V : Nat → Int32)
/-- the test at token y, at the node of place n, as the p-th of l -/
noncomputable def tk_H (σ : Nat → Nat → Int32) (y n p l : Nat) : Bool :=
  tk_d (tn_hold (K y) (σ y (r n)) (tn_nv c r val K E V (fun j => σ j (r n)) (nI p) (nI l) y) (nI p))
/-- the list of step t from place m, after j tests: who is on it, by its order along the axis -/
noncomputable def tk_S (σ : Nat → Nat → Int32) (t m : Nat) : Nat → Nat → Bool
  | 0 => fun i => tk_d (td_on d (W t % 16) m (tk_pi c (W t % 16) i) ∧ (W t / 16 % 8 = 6 ∨ nm (r (tk_pi c (W t % 16) i)) = nI (W t / 16 % 8)))
  | j + 1 => fun i => tk_S σ t m j i && tk_H c r val K E V σ (te_ch E (t + 1) (j + 1)) (tk_pi c (W t % 16) i) (tc_n (tk_S σ t m j) i + 1) (tc_n (tk_S σ t m j) c)
def tk_M (σ : Nat → Nat → Int32) (t m q : Nat) : Prop :=
  if K t = 0 then q = r m else if K t = 1 then q = r 0
  else if K t = 3 then (bt (σ (t + 1) (r m)) q = true ∨ bt (σ (E (t + 1)) (r m)) q = true)
  else ∃ m', m' < c ∧ bt (σ (t + 1) (r m)) (r m') = true ∧ ∃ i, i < c ∧ r (tk_pi c (W t % 16) i) = q ∧ tk_S c r d nm val K W E V σ t m' (W t / 128) i = true
def tk_Q (σ : Nat → Nat → Int32) (t : Nat) : Prop :=
  K t < 4 → ∀ m, m < c → mk_24 (σ t (r m)) ∧ ∀ q, q < 24 → (bt (σ t (r m)) q = true ↔ tk_M c r d nm val K W E V σ t m q)
def tk_Eq (b L : Nat) (σ : Nat → Nat → Int32) : Prop := ∀ t, b ≤ t → t < L → tk_Q c r d nm val K W E V σ t
end
section
variable {c : Nat} {r d : Nat → Nat} {nm val : Nat → Int32} {K W E : Nat → Nat} {V : Nat → Int32}
theorem tk_S_s {σ : Nat → Nat → Int32} {t m j i : Nat} : tk_S c r d nm val K W E V σ t m (j + 1) i = (tk_S c r d nm val K W E V σ t m j i && tk_H c r val K E V σ (te_ch E (t + 1) (j + 1)) (tk_pi c (W t % 16) i) (tc_n (tk_S c r d nm val K W E V σ t m j) i + 1) (tc_n (tk_S c r d nm val K W E V σ t m j) c)) := rfl
theorem tk_H_c {σ σ' : Nat → Nat → Int32} {b L y n p l : Nat} (h : te_Ws K W E b L) (hL : L ≤ 400) (hb : b ≤ y) (hy : y < L) (hn : n < c)
    (hσ : ∀ j, y ≤ j → j < L → K j < 4 → ∀ m, m < c → σ j (r m) = σ' j (r m)) : tk_H c r val K E V σ y n p l = tk_H c r val K E V σ' y n p l := by
  unfold tk_H
  have e : tn_hold (K y) (σ y (r n)) (tn_nv c r val K E V (fun j => σ j (r n)) (nI p) (nI l) y) (nI p) = tn_hold (K y) (σ' y (r n)) (tn_nv c r val K E V (fun j => σ' j (r n)) (nI p) (nI l) y) (nI p) :=
    tn_hold_c ⟨fun z => hσ y (Nat.le_refl _) hy z n hn, fun _ => tn_cong h (i0 := y) (tn_nv_eq h hL) (tn_nv_eq h hL) (fun j a c' z => hσ j a c' z n hn) y hy hb (Nat.le_refl _)⟩
  rw [e]
theorem te_o_st {k w : Nat} (h : k = 2) : te_o k w = 1 + w / 128 := by unfold te_o; rw [if_pos h]
theorem te_o_un {k w : Nat} (h : k = 3) : te_o k w = 2 := by unfold te_o; rw [if_neg (by omega), if_pos h]
theorem tk_S_c {σ σ' : Nat → Nat → Int32} {b L t m : Nat} (h : te_Ws K W E b L) (hL : L ≤ 400) (hb : b ≤ t) (ht : t < L) (h2 : K t = 2)
    (hσ : ∀ j, t < j → j < L → K j < 4 → ∀ m, m < c → σ j (r m) = σ' j (r m)) : ∀ j, j ≤ W t / 128 → ∀ i, i < c → tk_S c r d nm val K W E V σ t m j i = tk_S c r d nm val K W E V σ' t m j i := by
  intro j
  induction j with
  | zero => intro _ i _; rfl
  | succ j ih =>
    intro hj i hi
    have o := te_op h hb ht (t := j + 1) (by rw [te_o_st h2]; omega)
    rw [tk_S_s, tk_S_s, ih (by omega) i hi, tc_ext (n := i) (fun x hx => ih (by omega) x (by omega)), tc_ext (n := c) (fun x hx => ih (by omega) x hx),
      tk_H_c h hL (by omega) o.2.1 (tk_pi_lt hi) (fun y a b' z => hσ y (by omega) b' z)]
theorem tk_M_c {σ σ' : Nat → Nat → Int32} {b L t m q : Nat} (h : te_Ws K W E b L) (hL : L ≤ 400) (hb : b ≤ t) (ht : t < L) (h4 : K t < 4) (hm : m < c)
    (hσ : ∀ j, t < j → j < L → K j < 4 → ∀ m, m < c → σ j (r m) = σ' j (r m)) : tk_M c r d nm val K W E V σ t m q ↔ tk_M c r d nm val K W E V σ' t m q := by
  unfold tk_M
  by_cases z0 : K t = 0
  · rw [if_pos z0, if_pos z0]
  by_cases z1 : K t = 1
  · rw [if_neg z0, if_neg z0, if_pos z1, if_pos z1]
  by_cases z3 : K t = 3
  · have s := te_two h hb ht (te_o_un z3)
    have o0 := te_op h hb ht (t := 0) (by rw [te_o_un z3]; omega)
    have o1 := te_op h hb ht (t := 1) (by rw [te_o_un z3]; omega)
    have l0 : ∀ t', te_lo (K t) t' = 0 := fun t' => te_lo0 (by omega) (by omega)
    rw [l0] at o0 o1
    rw [if_neg z0, if_neg z0, if_neg z1, if_neg z1, if_pos z3, if_pos z3, hσ (t + 1) (by omega) s.1 (te_ty_0.mp o0.2.2) m hm, hσ (E (t + 1)) (by omega) s.2.2.1 (te_ty_0.mp o1.2.2) m hm]
  · have z2 : K t = 2 := by omega
    have o0 := te_op h hb ht (t := 0) (by rw [te_o_st z2]; omega)
    have l0 : te_lo (K t) 0 = 0 := by unfold te_lo; rw [if_pos z2, if_pos rfl]
    rw [l0] at o0
    rw [if_neg z0, if_neg z0, if_neg z1, if_neg z1, if_neg z3, if_neg z3, hσ (t + 1) (by omega) o0.2.1 (te_ty_0.mp o0.2.2) m hm]
    constructor
    · rintro ⟨m', a, b', i, x, y, z⟩
      exact ⟨m', a, b', i, x, y, by rw [← tk_S_c h hL hb ht z2 hσ _ (Nat.le_refl _) i x]; exact z⟩
    · rintro ⟨m', a, b', i, x, y, z⟩
      exact ⟨m', a, b', i, x, y, by rw [tk_S_c h hL hb ht z2 hσ _ (Nat.le_refl _) i x]; exact z⟩
/-- an equation looks at later tokens alone -/
theorem tk_Q_c {σ σ' : Nat → Nat → Int32} {b L t : Nat} (h : te_Ws K W E b L) (hL : L ≤ 400) (hb : b ≤ t) (ht : t < L)
    (hσ : ∀ j, t ≤ j → j < L → K j < 4 → ∀ m, m < c → σ j (r m) = σ' j (r m)) (Q : tk_Q c r d nm val K W E V σ t) : tk_Q c r d nm val K W E V σ' t := by
  intro h4 m hm
  obtain ⟨a, b'⟩ := Q h4 m hm
  rw [hσ t (Nat.le_refl _) ht h4 m hm] at a b'
  exact ⟨a, fun q hq => (b' q hq).trans (tk_M_c h hL hb ht h4 hm (fun j x y z => hσ j (by omega) y z))⟩
theorem tk_uq {σ σ' : Nat → Nat → Int32} {b L : Nat} (h : te_Ws K W E b L) (hL : L ≤ 400) (Q : tk_Eq c r d nm val K W E V b L σ) (Q' : tk_Eq c r d nm val K W E V b L σ') :
    ∀ t, t < L → b ≤ t → K t < 4 → ∀ m, m < c → σ t (r m) = σ' t (r m) := by
  refine te_down L ?_
  intro t ht ih hb h4 m hm
  obtain ⟨a, a'⟩ := Q t hb ht h4 m hm
  obtain ⟨x, x'⟩ := Q' t hb ht h4 m hm
  apply mk_ext a x
  intro q hq
  have e := (a' q hq).trans ((tk_M_c h hL hb ht h4 hm (fun j u v w => ih j u v (by omega) w)).trans (x' q hq).symm)
  cases y : bt (σ t (r m)) q <;> cases y' : bt (σ' t (r m)) q
  · rfl
  · rw [y, y'] at e; exact absurd (e.mpr rfl) (by decide)
  · rw [y, y'] at e; exact absurd (e.mp rfl) (by decide)
  · rfl
/-- only nodes of the tree are in a set -/
theorem tk_in {σ : Nat → Nat → Int32} {b L : Nat} (h : te_Ws K W E b L) (h0 : 0 < c) (Q : tk_Eq c r d nm val K W E V b L σ) :
    ∀ t, t < L → b ≤ t → K t < 4 → ∀ m, m < c → ∀ q, q < 24 → bt (σ t (r m)) q = true → ∃ l, l < c ∧ r l = q := by
  refine te_down L ?_
  intro t ht ih hb h4 m hm q hq hq'
  have e := ((Q t hb ht h4 m hm).2 q hq).mp hq'
  unfold tk_M at e
  by_cases z0 : K t = 0
  · rw [if_pos z0] at e; exact ⟨m, hm, e.symm⟩
  by_cases z1 : K t = 1
  · rw [if_neg z0, if_pos z1] at e; exact ⟨0, h0, e.symm⟩
  by_cases z3 : K t = 3
  · have s := te_two h hb ht (te_o_un z3)
    have o0 := te_op h hb ht (t := 0) (by rw [te_o_un z3]; omega)
    have o1 := te_op h hb ht (t := 1) (by rw [te_o_un z3]; omega)
    have l0 : ∀ t', te_lo (K t) t' = 0 := fun t' => te_lo0 (by omega) (by omega)
    rw [l0] at o0 o1
    rw [if_neg z0, if_neg z1, if_pos z3] at e
    rcases e with e | e
    · exact ih (t + 1) (by omega) s.1 (by omega) (te_ty_0.mp o0.2.2) m hm q hq e
    · exact ih (E (t + 1)) (by omega) s.2.2.1 (by omega) (te_ty_0.mp o1.2.2) m hm q hq e
  · rw [if_neg z0, if_neg z1, if_neg z3] at e
    obtain ⟨m', a, b', i, x, y, z⟩ := e
    exact ⟨_, tk_pi_lt x, y⟩
end
end
section
/-! the lists along the axes as masks; how linking adds to them -/
def tx_Rep (al : Nat → Int32) (R : Nat → Nat → Nat → Prop) : Prop :=
  ∀ a, a < 11 → ∀ q, q < 24 → mk_24 (al (a * 24 + q)) ∧ ∀ q', q' < 24 → (bt (al (a * 24 + q)) q' = true ↔ R a q q')
theorem tx_rep_c {al : Nat → Int32} {R R' : Nat → Nat → Nat → Prop} (h : tx_Rep al R) (e : ∀ a q q', a < 11 → q < 24 → q' < 24 → (R a q q' ↔ R' a q q')) : tx_Rep al R' :=
  fun a ha q hq => ⟨(h a ha q hq).1, fun q' hq' => ((h a ha q hq).2 q' hq').trans (e a q q' ha hq hq')⟩
theorem tx_one {al : Nat → Int32} {R : Nat → Nat → Nat → Prop} {x e l : Nat} (h : tx_Rep al R) (hx : x < 11) (he : e < 24) (hl : l < 24) :
    tx_Rep (upd al (x * 24 + e) (al (x * 24 + e) ||| ((1 : Int32) <<< (nI l &&& 31)))) (fun a q q' => R a q q' ∨ (a = x ∧ q = e ∧ q' = l)) := by
  intro a ha q hq
  by_cases z : a * 24 + q = x * 24 + e
  · have e1 : a = x := by omega
    have e2 : q = e := by omega
    subst e1 e2
    rw [pk_us]
    refine ⟨mk_24_or (h a ha q hq).1 (mk_24_sh hl), fun q' hq' => ?_⟩
    rw [b_or, mk_sh l (by omega), Bool.or_eq_true, (h a ha q hq).2 q' hq', decide_eq_true_iff]
    constructor
    · rintro (y | y)
      · exact Or.inl y
      · exact Or.inr ⟨rfl, rfl, y⟩
    · rintro (y | y)
      · exact Or.inl y
      · exact Or.inr y.2.2
  · rw [pk_un z]
    refine ⟨(h a ha q hq).1, fun q' hq' => ?_⟩
    rw [(h a ha q hq).2 q' hq']
    constructor
    · exact Or.inl
    · rintro (y | y)
      · exact y
      · exact absurd (by rw [y.1, y.2.1]) z
theorem tx_set {al : Nat → Int32} {R : Nat → Nat → Nat → Prop} {x e l : Nat} (h : tx_Rep al R) (hx : x < 11) (he : e < 24) (hl : l < 24) (h0 : ∀ q', q' < 24 → ¬ R x e q') :
    tx_Rep (upd al (x * 24 + e) ((1 : Int32) <<< (nI l &&& 31))) (fun a q q' => R a q q' ∨ (a = x ∧ q = e ∧ q' = l)) := by
  intro a ha q hq
  by_cases z : a * 24 + q = x * 24 + e
  · have e1 : a = x := by omega
    have e2 : q = e := by omega
    subst e1 e2
    rw [pk_us]
    refine ⟨mk_24_sh hl, fun q' hq' => ?_⟩
    rw [mk_sh l (by omega), decide_eq_true_iff]
    constructor
    · exact fun y => Or.inr ⟨rfl, rfl, y⟩
    · rintro (y | y)
      · exact absurd y (h0 q' hq')
      · exact y.2.2
  · rw [pk_un z]
    refine ⟨(h a ha q hq).1, fun q' hq' => ?_⟩
    rw [(h a ha q hq).2 q' hq']
    constructor
    · exact Or.inl
    · rintro (y | y)
      · exact y
      · exact absurd (by rw [y.1, y.2.1]) z
theorem tx_link {al : Nat → Int32} {R : Nat → Nat → Nat → Prop} {x e l : Nat} (h : tx_Rep al R) (hx : x + 1 < 11) (he : e < 24) (hl : l < 24) (al' : Nat → Int32)
    (ea : al' = upd al (x * 24 + e) (al (x * 24 + e) ||| ((1 : Int32) <<< (nI l &&& 31)))) :
    tx_Rep (upd al' ((x + 1) * 24 + l) (al' ((x + 1) * 24 + l) ||| ((1 : Int32) <<< (nI e &&& 31)))) (fun a q q' => R a q q' ∨ (a = x ∧ q = e ∧ q' = l) ∨ (a = x + 1 ∧ q = l ∧ q' = e)) := by
  have h1 := tx_one h (x := x) (by omega) he hl
  rw [← ea] at h1
  exact tx_rep_c (tx_one h1 hx hl he) (fun a q q' _ _ _ => or_assoc)
/-! the axes between two places -/
def td_fw (d : Nat → Nat) (a j i : Nat) : Prop :=
  (a = 1 ∧ td_Pa d j i) ∨ (a = 3 ∧ td_An d j i) ∨ (a = 5 ∧ ∃ p, td_Pa d p j ∧ td_Pa d p i) ∨ (a = 7 ∧ ¬ td_An d j i) ∨ (a = 9 ∧ td_An d j i)
theorem td_a11 {a : Nat} (h : a < 11) : a = 0 ∨ a = 1 ∨ a = 2 ∨ a = 3 ∨ a = 4 ∨ a = 5 ∨ a = 6 ∨ a = 7 ∨ a = 8 ∨ a = 9 ∨ a = 10 := by omega
theorem td_nPa {d : Nat → Nat} {i j : Nat} (h : j ≤ i) : ¬ td_Pa d i j := fun z => by have := z.1; omega
theorem td_nAn {d : Nat → Nat} {i j : Nat} (h : j ≤ i) : ¬ td_An d i j := fun z => by have := z.1; omega
theorem td_on_f {d : Nat → Nat} {a j i : Nat} (ha : a < 11) (h : j < i) : td_on d a j i ↔ td_fw d a j i := by
  have n1 : ¬ td_Pa d i j := td_nPa (by omega)
  have n2 : ¬ td_An d i j := td_nAn (by omega)
  have n3 : ¬ i < j := by omega
  have n4 : ¬ i = j := by omega
  unfold td_on td_fw
  rcases td_a11 ha with z | z | z | z | z | z | z | z | z | z | z <;> subst z <;> simp [n1, n2, n3, n4, h]
theorem td_on_b {d : Nat → Nat} {a j i : Nat} (ha : a < 11) (h : j < i) : td_on d a i j ↔ (1 ≤ a ∧ td_fw d (a - 1) j i) := by
  have n1 : ¬ td_Pa d i j := td_nPa (by omega)
  have n2 : ¬ td_An d i j := td_nAn (by omega)
  have n3 : ¬ i < j := by omega
  have n4 : ¬ j = i := by omega
  have n5 : (∃ p, td_Pa d p i ∧ td_Pa d p j) ↔ (∃ p, td_Pa d p j ∧ td_Pa d p i) := ⟨fun ⟨p, x, y⟩ => ⟨p, y, x⟩, fun ⟨p, x, y⟩ => ⟨p, y, x⟩⟩
  unfold td_on td_fw
  rcases td_a11 ha with z | z | z | z | z | z | z | z | z | z | z <;> subst z <;> simp [n1, n2, n3, n4, n5, h]
theorem td_on_s {d : Nat → Nat} {a i : Nat} (ha : a < 11) : td_on d a i i ↔ (a = 0 ∨ a = 9 ∨ a = 10) := by
  have n1 : ¬ td_Pa d i i := td_nPa (Nat.le_refl _)
  have n2 : ¬ td_An d i i := td_nAn (Nat.le_refl _)
  have n3 : ¬ i < i := by omega
  unfold td_on
  rcases td_a11 ha with z | z | z | z | z | z | z | z | z | z | z <;> subst z <;> simp [n1, n2, n3]
/-- what stands in the lists when the places below i are linked, and place i with those below j -/
def tx_R (r d : Nat → Nat) (i j : Nat) (a q q' : Nat) : Prop :=
  ∃ x y, ((x < i ∧ y < i) ∨ (x = i ∧ y = i) ∨ (x < j ∧ y = i) ∨ (x = i ∧ y < j)) ∧ r x = q ∧ r y = q' ∧ td_on d a x y
/-- the same, place i not begun -/
def tx_R0 (r d : Nat → Nat) (i : Nat) (a q q' : Nat) : Prop := ∃ x y, x < i ∧ y < i ∧ r x = q ∧ r y = q' ∧ td_on d a x y
theorem tx_R_end {r d : Nat → Nat} {i a q q' : Nat} : tx_R r d i i a q q' ↔ tx_R0 r d (i + 1) a q q' := by
  unfold tx_R tx_R0
  constructor
  · rintro ⟨x, y, h, e⟩
    exact ⟨x, y, by omega, by omega, e⟩
  · rintro ⟨x, y, h1, h2, e⟩
    exact ⟨x, y, by omega, e⟩
theorem tx_R_beg {r d : Nat → Nat} {i a q q' : Nat} (ha : a < 11) : (tx_R0 r d i a q q' ∨ ((a = 0 ∨ a = 9 ∨ a = 10) ∧ q = r i ∧ q' = r i)) ↔ tx_R r d i 0 a q q' := by
  unfold tx_R tx_R0
  constructor
  · rintro (⟨x, y, h1, h2, e⟩ | ⟨h, e1, e2⟩)
    · exact ⟨x, y, Or.inl ⟨h1, h2⟩, e⟩
    · exact ⟨i, i, Or.inr (Or.inl ⟨rfl, rfl⟩), e1.symm, e2.symm, (td_on_s ha).mpr h⟩
  · rintro ⟨x, y, h, e1, e2, e3⟩
    rcases h with h | h | h | h
    · exact Or.inl ⟨x, y, h.1, h.2, e1, e2, e3⟩
    · rw [h.1] at e1 e3
      rw [h.2] at e2 e3
      exact Or.inr ⟨(td_on_s ha).mp e3, e1.symm, e2.symm⟩
    · omega
    · omega
theorem tx_R_s {r d : Nat → Nat} {i j a q q' : Nat} (ha : a < 11) (hj : j < i) :
    (tx_R r d i j a q q' ∨ (td_fw d a j i ∧ q = r j ∧ q' = r i) ∨ ((1 ≤ a ∧ td_fw d (a - 1) j i) ∧ q = r i ∧ q' = r j)) ↔ tx_R r d i (j + 1) a q q' := by
  unfold tx_R
  constructor
  · rintro (⟨x, y, h, e⟩ | ⟨h, e1, e2⟩ | ⟨h, e1, e2⟩)
    · exact ⟨x, y, by omega, e⟩
    · exact ⟨j, i, by omega, e1.symm, e2.symm, (td_on_f ha hj).mpr h⟩
    · exact ⟨i, j, by omega, e1.symm, e2.symm, (td_on_b ha hj).mpr h⟩
  · rintro ⟨x, y, h, e1, e2, e3⟩
    by_cases z1 : x = j ∧ y = i
    · rw [z1.1] at e1 e3
      rw [z1.2] at e2 e3
      exact Or.inr (Or.inl ⟨(td_on_f ha hj).mp e3, e1.symm, e2.symm⟩)
    · by_cases z2 : x = i ∧ y = j
      · rw [z2.1] at e1 e3
        rw [z2.2] at e2 e3
        exact Or.inr (Or.inr ⟨(td_on_b ha hj).mp e3, e1.symm, e2.symm⟩)
      · exact Or.inl ⟨x, y, by omega, e1, e2, e3⟩
/-! how many children, how large a block -/
theorem tc_children {c : Nat} {d : Nat → Nat} (h : td_OK c d) {p e : Nat} (he : td_En c d p e) : ∀ hi, hi ≤ c → tc_n (fun l => tk_d (td_Pa d p l)) hi = td_ct d (d p + 1) (p + 1) (if hi ≤ e then hi else e) := by
  intro hi
  induction hi with
  | zero => intro _; rw [if_pos (by omega)]; rfl
  | succ hi ih =>
    intro hc
    rw [tc_s, ih (by omega)]
    obtain ⟨a1, a2, a3, a4⟩ := he
    rcases Nat.lt_or_ge hi e with z | z
    · rw [if_pos (show hi ≤ e by omega), if_pos (show hi + 1 ≤ e by omega), td_ct_s]
      have iff : td_Pa d p hi ↔ (p + 1 ≤ hi ∧ d hi = d p + 1) := by
        constructor
        · intro y; exact ⟨y.1, td_dp h (by omega) y⟩
        · rintro ⟨y1, y2⟩
          exact td_AP ⟨y1, fun j u v => a3 j u (by omega)⟩ y2
      by_cases y : td_Pa d p hi
      · rw [if_pos (tk_d_t.mpr y), if_pos (iff.mp y)]
      · rw [if_neg (fun x => y (tk_d_t.mp x)), if_neg (fun x => y (iff.mpr x))]
    · have n : ¬ td_Pa d p hi := by
        intro y
        have y1 := td_PA y
        have y2 := y1.2 e a1 z
        have y3 := a4 (by omega)
        omega
      rw [if_neg (fun x => n (tk_d_t.mp x)), if_neg (show ¬ hi + 1 ≤ e by omega)]
      by_cases w : hi ≤ e
      · have : hi = e := by omega
        rw [if_pos w, this, Nat.add_zero]
      · rw [if_neg w, Nat.add_zero]
theorem tc_block {c : Nat} {d : Nat → Nat} {p e : Nat} (he : td_En c d p e) : ∀ hi, hi ≤ c → tc_n (fun l => tk_d (td_An d p l ∨ l = p)) hi = (if hi ≤ p then 0 else if hi ≤ e then hi - p else e - p) := by
  intro hi
  induction hi with
  | zero => intro _; rw [if_pos (by omega)]; rfl
  | succ hi ih =>
    intro hc
    rw [tc_s, ih (by omega)]
    have iff : (td_An d p hi ∨ hi = p) ↔ (p ≤ hi ∧ hi < e) := by
      rw [td_AnEn he (by omega)]
      have := he.1
      omega
    have a1 := he.1
    by_cases y : p ≤ hi ∧ hi < e
    · rw [if_pos (tk_d_t.mpr (iff.mpr y)), if_neg (show ¬ hi + 1 ≤ p by omega), if_pos (show hi + 1 ≤ e by omega)]
      by_cases w : hi ≤ p
      · rw [if_pos w]; omega
      · rw [if_neg w, if_pos (by omega)]; omega
    · rw [if_neg (fun x => y (iff.mp (tk_d_t.mp x)))]
      by_cases w : hi + 1 ≤ p
      · rw [if_pos w, if_pos (by omega)]
      · rw [if_neg w, if_neg (show ¬ hi ≤ p by omega), if_neg (show ¬ hi + 1 ≤ e by omega)]
        by_cases v : hi ≤ e
        · rw [if_pos v]; omega
        · rw [if_neg v, Nat.add_zero]
end
section
/-! parents and ranks by node: a block cut out, a block put in -/
def td_T (c : Nat) (r d : Nat → Nat) : Prop := c ≤ 24 ∧ td_OK c d ∧ r 0 = 0 ∧ (∀ i, i < c → r i < 24) ∧ (∀ i j, i < c → j < c → r i = r j → i = j)
def tx_PR (c : Nat) (r d : Nat → Nat) (pa rk : Nat → Int32) : Prop :=
  (∀ q i, i < c → td_Pa d q i → pa (r i) = nI (r q) ∧ rk (r i) = nI (td_ct d (d i) (q + 1) i)) ∧ (0 < c → pa (r 0) = -1 ∧ rk (r 0) = 0)
def tx_PRb (m : Nat) (B b : Nat → Nat) (pa rk : Nat → Int32) : Prop :=
  ∀ q j, j < m → td_Pa b q j → pa (B j) = nI (B q) ∧ rk (B j) = nI (td_ct b (b j) (q + 1) j)
def tx_U (c : Nat) (r : Nat → Nat) (u : Nat → Int32) : Prop := ∀ q, q < 24 → ((u q = 1 ∧ ∃ i, i < c ∧ r i = q) ∨ (u q = 0 ∧ ∀ i, i < c → r i ≠ q))
theorem tx_m1 {n : Nat} (h : n < 2 ^ 31) : ¬ (-1 : Int32) = nI n := fun e => nI_pos h (by rw [← e]; decide)
theorem tx_m1' {n : Nat} (h : n < 2 ^ 31) : ¬ nI n = (-1 : Int32) := fun e => tx_m1 h e.symm
def tx_Det (u pa rk : Nat → Int32) (n : Nat) (rk1 : Nat → Int32) : Prop :=
  ∀ q, q < 24 → ((u q ≠ 0 ∧ pa q = pa n ∧ rk n < rk q) → rk1 q = rk q - 1) ∧ (¬ (u q ≠ 0 ∧ pa q = pa n ∧ rk n < rk q) → rk1 q = rk q)
def tx_Att (u pa rk : Nat → Int32) (n : Nat) (par k : Int32) (pa2 rk2 : Nat → Int32) : Prop :=
  pa2 n = par ∧ rk2 n = k ∧ ∀ q, q < 24 → q ≠ n → pa2 q = pa q ∧ ((u q ≠ 0 ∧ pa q = par ∧ k ≤ rk q) → rk2 q = rk q + 1) ∧ (¬ (u q ≠ 0 ∧ pa q = par ∧ k ≤ rk q) → rk2 q = rk q)
theorem tx_U_1 {c : Nat} {r : Nat → Nat} {u : Nat → Int32} (h : tx_U c r u) {i : Nat} (hi : i < c) (hr : r i < 24) : u (r i) ≠ 0 := by
  rcases h (r i) hr with x | x
  · rw [x.1]; decide
  · exact absurd rfl (x.2 i hi)
theorem tx_ctb {d : Nat → Nat} {D lo i c : Nat} (hi : i < c) (hc : c ≤ 24) : td_ct d D lo i < 24 := by
  have := td_ct_c (d := d) (D := D) (lo := lo) i
  omega
theorem tx_det_aux {c a p : Nat} {r d : Nat → Nat} {u pa rk rk1 : Nat → Int32} (T : td_T c r d) (P : tx_PR c r d pa rk) (hu : tx_U c r u) (hp : td_Pa d p a) (ha : a < c) (D : tx_Det u pa rk (r a) rk1) :
    ∀ q i, i < c → td_Pa d q i → rk1 (r i) = nI (td_ct d (d i) (q + 1) i - (if q = p ∧ a < i then 1 else 0)) := by
  intro q i hi hq
  obtain ⟨t1, t2, t3, t4, t5⟩ := T
  obtain ⟨a1, a2⟩ := P.1 p a ha hp
  obtain ⟨b1, b2⟩ := P.1 q i hi hq
  have hqi := hq.1
  have hpa := hp.1
  have ca := tx_ctb (d := d) (D := d a) (lo := p + 1) ha t1
  have ci := tx_ctb (d := d) (D := d i) (lo := q + 1) hi t1
  obtain ⟨d1, d2⟩ := D (r i) (t4 i hi)
  have rq := t4 q (by omega)
  have rp := t4 p (by omega)
  by_cases z : q = p ∧ a < i
  · rw [if_pos z]
    obtain ⟨z1, z2⟩ := z
    subst z1
    have lt := td_rk_lt t2 hi hp hq z2
    have x := d1 ⟨tx_U_1 hu hi (t4 i hi), by rw [a1, b1], by rw [a2, b2]; exact nI_lt lt (by omega)⟩
    rw [x, b2]
    exact pk_sub (a := _) (b := 1) (by omega)
  · rw [if_neg z, Nat.sub_zero, ← b2]
    apply d2
    rintro ⟨-, y2, y3⟩
    rw [a1, b1, nI_eq (by omega) (by omega)] at y2
    have e := t5 q p (by omega) (by omega) y2
    subst e
    rw [a2, b2, nI_ltI (by omega) (by omega)] at y3
    rcases Nat.lt_trichotomy a i with w | w | w
    · exact z ⟨rfl, w⟩
    · subst w; omega
    · have := td_rk_lt t2 ha hq hp w
      omega
theorem tx_det {c a m p : Nat} {r d : Nat → Nat} {u pa rk rk1 : Nat → Int32} (T : td_T c r d) (P : tx_PR c r d pa rk) (hu : tx_U c r u) (hp : td_Pa d p a) (ha : a < c) (he : td_En c d a (a + m)) (D : tx_Det u pa rk (r a) rk1) :
    tx_PR (c - m) (td_cutd a m r) (td_cutd a m d) pa rk1 ∧ tx_PRb m (fun j => r (a + j)) (fun j => d (a + j)) pa rk1 := by
  have aux := tx_det_aux T P hu hp ha D
  have I := td_cut T.2.1 hp ha he
  have ok := td_cut_ok T.2.1 hp ha he
  have hpa := hp.1
  have hm := he.1
  have hmc := he.2.1
  refine ⟨⟨fun q i hi hq => ?_, fun h0 => ?_⟩, fun q j hj hq => ?_⟩
  · rcases Nat.lt_or_ge i a with z | z
    · obtain ⟨x1, x2⟩ := td_ins_lo I z hq
      have y1 := (P.1 q i (by omega) x1).1
      have y2 := aux q i (by omega) x1
      rw [if_neg (by omega), Nat.sub_zero, x2] at y2
      have hqi := hq.1
      rw [td_cutd_lo z, td_cutd_lo (by omega), y1, y2]
      exact ⟨rfl, rfl⟩
    · rcases td_ins_hi I hi z hq with ⟨w, x1, x2⟩ | ⟨w, x1, x0, x3, x2⟩
      · have y1 := (P.1 _ _ (by omega) x1).1
        have y2 := aux _ _ (by omega) x1
        rw [if_neg (by omega), Nat.sub_zero, x2] at y2
        rw [td_cutd_hi z, td_cutd_hi w, y1, y2]
        exact ⟨rfl, rfl⟩
      · have y1 := (P.1 _ _ (by omega) x1).1
        have y2 := aux _ _ (by omega) x1
        have e : (if q = p ∧ a < i + m then 1 else 0) = (if td_cutd a m d i = td_cutd a m d p + 1 then 1 else 0) := by
          by_cases v : q = p
          · have := td_dp ok hi hq
            rw [v] at this
            rw [if_pos ⟨v, by omega⟩, if_pos this]
          · rw [if_neg (fun u => v u.1), if_neg (fun u => v (x3 u))]
        rw [x2, e, Nat.add_sub_cancel] at y2
        rw [td_cutd_hi z, td_cutd_lo w, y1, y2]
        exact ⟨rfl, rfl⟩
  · have y := P.2 (by omega)
    rw [td_cutd_lo (by omega)]
    refine ⟨y.1, ?_⟩
    have hr0 := T.2.2.2.1 0 (by omega)
    rw [(D (r 0) hr0).2, y.2]
    rintro ⟨-, y2, -⟩
    rw [y.1, (P.1 p a ha hp).1] at y2
    exact tx_m1 (by have := T.2.2.2.1 p (by omega); omega) y2
  · obtain ⟨x1, x2⟩ := td_ins_bk I hj hq
    have y1 := (P.1 _ _ (by omega) x1).1
    have y2 := aux _ _ (by omega) x1
    rw [if_neg (by omega), Nat.sub_zero, x2] at y2
    exact ⟨y1, y2⟩
theorem tx_PRb_sh {m x y : Nat} {B b b' : Nat → Nat} {pa rk : Nat → Int32} (h : tx_PRb m B b pa rk) (e : ∀ j, j < m → b' j + x = b j + y) : tx_PRb m B b' pa rk := by
  rintro q j hj ⟨h1, h2, h3⟩
  have eq := e q (by omega)
  have ej := e j hj
  obtain ⟨g1, g2⟩ := h q j hj ⟨h1, by omega, fun l u v => by have := h3 l u v; have := e l (by omega); omega⟩
  refine ⟨g1, ?_⟩
  rw [g2]
  exact congrArg nI (td_ct_iff (fun l u v => by have := e l (by omega); omega))
/-- B put in at x -/
def td_insr (x m : Nat) (B r : Nat → Nat) : Nat → Nat := fun i => if i < x then r i else if i < x + m then B (i - x) else r (i - m)
theorem td_insr_lo {x m : Nat} {B r : Nat → Nat} {i : Nat} (h : i < x) : td_insr x m B r i = r i := if_pos h
theorem td_insr_in {x m : Nat} {B r : Nat → Nat} {j : Nat} (h : j < m) : td_insr x m B r (x + j) = B j := by
  unfold td_insr
  rw [if_neg (by omega), if_pos (by omega), show x + j - x = j by omega]
theorem td_insr_hi {x m : Nat} {B r : Nat → Nat} {i : Nat} (h : x ≤ i) : td_insr x m B r (i + m) = r i := by
  unfold td_insr
  rw [if_neg (by omega), if_neg (by omega), show i + m - m = i by omega]
theorem td_insr_cs {x m c : Nat} {P : Nat → Prop} (h1 : ∀ i, i < x → P i) (h2 : ∀ j, j < m → P (x + j)) (h3 : ∀ i, x ≤ i → i < c → P (i + m)) : ∀ i, i < c + m → P i := by
  intro i hi
  rcases Nat.lt_or_ge i x with z | z
  · exact h1 i z
  · rcases Nat.lt_or_ge i (x + m) with w | w
    · have := h2 (i - x) (by omega)
      rw [show x + (i - x) = i by omega] at this
      exact this
    · have := h3 (i - m) (by omega) (by omega)
      rw [show i - m + m = i by omega] at this
      exact this
theorem td_insT {c x m p : Nat} {r d b d' B : Nat → Nat} (T : td_T c r d) (I : td_Ins c x m p d b d') (hc : c + m ≤ 24) (hbb : ∀ j, j + 1 < m → b (j + 1) ≤ b j + 1) (hB : ∀ j, j < m → B j < 24)
    (hi : ∀ i j, i < m → j < m → B i = B j → i = j) (hd : ∀ i j, i < c → j < m → r i ≠ B j) : td_T (c + m) (td_insr x m B r) d' := by
  have hx := I.2.1
  have hxc := I.2.2.1
  refine ⟨hc, td_ins_ok I T.2.1 hbb, ?_, ?_, ?_⟩
  · rw [td_insr_lo (by omega)]; exact T.2.2.1
  · refine td_insr_cs (x := x) ?_ ?_ ?_
    · intro i h; rw [td_insr_lo h]; exact T.2.2.2.1 i (by omega)
    · intro j h; rw [td_insr_in h]; exact hB j h
    · intro i h1 h2; rw [td_insr_hi h1]; exact T.2.2.2.1 i h2
  · intro i j hi1 hj1
    revert i j
    have key : ∀ i, i < c + m → ∀ j, j < c + m → td_insr x m B r i = td_insr x m B r j → i = j := by
      refine td_insr_cs (x := x) ?_ ?_ ?_
      · intro i h
        refine td_insr_cs (x := x) ?_ ?_ ?_
        · intro j h' e; rw [td_insr_lo h, td_insr_lo h'] at e; exact T.2.2.2.2 i j (by omega) (by omega) e
        · intro j h' e; rw [td_insr_lo h, td_insr_in h'] at e; exact absurd e (hd i j (by omega) h')
        · intro j h1 h2 e; rw [td_insr_lo h, td_insr_hi h1] at e; have := T.2.2.2.2 i j (by omega) (by omega) e; omega
      · intro i h
        refine td_insr_cs (x := x) ?_ ?_ ?_
        · intro j h' e; rw [td_insr_in h, td_insr_lo h'] at e; exact absurd e.symm (hd j i (by omega) h)
        · intro j h' e; rw [td_insr_in h, td_insr_in h'] at e; have := hi i j h h' e; omega
        · intro j h1 h2 e; rw [td_insr_in h, td_insr_hi h1] at e; exact absurd e.symm (hd j i h2 h)
      · intro i g1 g2
        refine td_insr_cs (x := x) ?_ ?_ ?_
        · intro j h' e; rw [td_insr_hi g1, td_insr_lo h'] at e; have := T.2.2.2.2 i j (by omega) (by omega) e; omega
        · intro j h' e; rw [td_insr_hi g1, td_insr_in h'] at e; exact absurd e (hd i j g2 h')
        · intro j h1 h2 e; rw [td_insr_hi g1, td_insr_hi h1] at e; have := T.2.2.2.2 i j g2 h2 e; omega
    exact fun i j a b' => key i a j b'
theorem tx_att {c x m p k : Nat} {r d b d' B : Nat → Nat} {u pa rk pa2 rk2 : Nat → Int32} (T : td_T c r d) (P : tx_PR c r d pa rk) (Pb : tx_PRb m B b pa rk) (I : td_Ins c x m p d b d') (hk : td_Pl c d p k x)
    (T' : td_T (c + m) (td_insr x m B r) d') (hB : ∀ j, j < m → B j < 24) (hi : ∀ i j, i < m → j < m → B i = B j → i = j) (hd : ∀ i j, i < c → j < m → r i ≠ B j)
    (hu : ∀ i, i < c → u (r i) ≠ 0) (A : tx_Att u pa rk (B 0) (nI (r p)) (nI k) pa2 rk2) : tx_PR (c + m) (td_insr x m B r) d' pa2 rk2 := by
  obtain ⟨A1, A2, A3⟩ := A
  have ok' := T'.2.1
  have m0 := I.1
  have hpx := I.2.1
  have hxc := I.2.2.1
  have c24 := T.1
  have c24' := T'.1
  have kb : k < 24 := by
    rw [← hk.2.2.2.2]
    have := td_ct_c (d := d) (D := d p + 1) (lo := p + 1) x
    have := hk.2.1
    have := T'.1
    omega
  have rk_old : ∀ q i, i < c → td_Pa d q i → rk2 (r i) = nI (td_ct d (d i) (q + 1) i + (if q = p ∧ x ≤ i then 1 else 0)) := by
    intro q i hi1 hq
    obtain ⟨b1, b2⟩ := P.1 q i hi1 hq
    obtain ⟨-, a1, a2⟩ := A3 (r i) (T.2.2.2.1 i hi1) (hd i 0 hi1 m0)
    have ci := tx_ctb (d := d) (D := d i) (lo := q + 1) hi1 T.1
    have hqi := hq.1
    have rq := T.2.2.2.1 q (by omega)
    have rp := T.2.2.2.1 p (by omega)
    by_cases z : q = p ∧ x ≤ i
    · rw [if_pos z]
      obtain ⟨z1, z2⟩ := z
      subst z1
      rw [a1 ⟨hu i hi1, b1, by rw [b2]; exact nI_le ((td_pl_rk T.2.1 hk hi1 hq).mp z2) (by omega)⟩, b2, nI_1]
    · rw [if_neg z, Nat.add_zero, ← b2]
      apply a2
      rintro ⟨-, y2, y3⟩
      rw [b1, nI_eq (by omega) (by omega)] at y2
      have e := T.2.2.2.2 q p (by omega) (by omega) y2
      subst e
      rw [b2, nI_leI (by omega) (by omega)] at y3
      exact z ⟨rfl, (td_pl_rk T.2.1 hk hi1 hq).mpr y3⟩
  have pa_old : ∀ i, i < c → pa2 (r i) = pa (r i) := fun i h => (A3 (r i) (T.2.2.2.1 i h) (hd i 0 h m0)).1
  refine ⟨?_, fun _ => ?_⟩
  · intro q
    refine td_insr_cs (x := x) ?_ ?_ ?_
    · intro i h hq
      by_cases i0 : i = 0
      · subst i0; exact absurd hq td_p0
      · obtain ⟨q0, hq0⟩ := td_ex T.2.1 (i := i) (by omega) (by omega)
        obtain ⟨x1, x2⟩ := td_ins_lo I h hq0
        have e := td_uq hq x1
        subst e
        have hqi := hq.1
        have y1 := (P.1 q i (by omega) hq0).1
        have y2 := rk_old q i (by omega) hq0
        rw [if_neg (by omega), Nat.add_zero] at y2
        rw [td_insr_lo h, td_insr_lo (by omega), pa_old i (by omega), y1, y2, x2]
        exact ⟨rfl, rfl⟩
    · intro j h hq
      by_cases j0 : j = 0
      · subst j0
        obtain ⟨x1, x2⟩ := td_ins_new I
        have e := td_uq hq x1
        subst e
        rw [td_insr_in h, td_insr_lo hpx, A1, A2]
        rw [Nat.add_zero, x2, hk.2.2.2.2]
        exact ⟨rfl, rfl⟩
      · obtain ⟨q0, hq0⟩ : ∃ q0, td_Pa b q0 j := by
          obtain ⟨k', rfl⟩ : ∃ k', j = k' + 1 := ⟨j - 1, by omega⟩
          obtain ⟨p', h1, h2, h3⟩ := td_last (d := b) (D := b (k' + 1)) (by rw [I.2.2.2.2.2.1]; exact I.2.2.2.2.2.2.1 (k' + 1) (by omega) h) k'
          exact ⟨p', h1, h2, h3⟩
        obtain ⟨x1, x2⟩ := td_ins_bk I h hq0
        have e := td_uq hq x1
        subst e
        have hqj := hq0.1
        obtain ⟨y1, y2⟩ := Pb q0 j h hq0
        have ne : B j ≠ B 0 := fun z => by have := hi j 0 h m0 z; omega
        obtain ⟨a0, a1, a2⟩ := A3 (B j) (hB j h) ne
        rw [td_insr_in h, td_insr_in (by omega), a0, y1, x2, ← y2]
        refine ⟨rfl, a2 ?_⟩
        rintro ⟨-, z2, -⟩
        have rp := T.2.2.2.1 p (by omega)
        have bq := hB q0 (by omega)
        rw [y1, nI_eq (by omega) (by omega)] at z2
        exact hd p q0 (by omega) (by omega) z2.symm
    · intro i h1 h2 hq
      obtain ⟨q0, hq0⟩ := td_ex T.2.1 (i := i) (by omega) h2
      have y1 := (P.1 q0 i h2 hq0).1
      have y2 := rk_old q0 i h2 hq0
      rcases td_ins_hi I h2 h1 hq0 with ⟨w, x1, x2⟩ | ⟨w, x1, x0, x3, x2⟩
      · have e := td_uq hq x1
        subst e
        rw [if_neg (by omega), Nat.add_zero] at y2
        rw [td_insr_hi h1, td_insr_hi w, pa_old i h2, y1, y2, x2]
        exact ⟨rfl, rfl⟩
      · have e := td_uq hq x1
        subst e
        have e2 : (if q = p ∧ x ≤ i then 1 else 0) = (if d i = d p + 1 then 1 else 0) := by
          by_cases v : q = p
          · have := td_dp T.2.1 h2 hq0
            rw [v] at this
            rw [if_pos ⟨v, h1⟩, if_pos this]
          · rw [if_neg (fun u => v u.1), if_neg (fun u => v (x3 u))]
        rw [e2] at y2
        rw [td_insr_hi h1, td_insr_lo w, pa_old i h2, y1, y2, x2]
        exact ⟨rfl, rfl⟩
  · have y := P.2 (by omega)
    rw [td_insr_lo (by omega), pa_old 0 (by omega)]
    refine ⟨y.1, ?_⟩
    obtain ⟨-, -, a2⟩ := A3 (r 0) (T.2.2.2.1 0 (by omega)) (hd 0 0 (by omega) m0)
    rw [a2, y.2]
    rintro ⟨-, z2, -⟩
    have rp := T.2.2.2.1 p (by omega)
    rw [y.1] at z2
    exact tx_m1 (by omega) z2
end
section
/-! the nodes of a mask in document order; the stack of nodes to be handled -/
def tt_l (r : Nat → Nat) (x : Int32) : Nat → Nat → List Nat
  | 0, _ => []
  | k + 1, i => if bt x (r i) = true then r i :: tt_l r x k (i + 1) else tt_l r x k (i + 1)
theorem tt_l_s (r : Nat → Nat) (x : Int32) (k i : Nat) : tt_l r x (k + 1) i = if bt x (r i) = true then r i :: tt_l r x k (i + 1) else tt_l r x k (i + 1) := rfl
theorem tt_l_c {r : Nat → Nat} {x x' : Int32} : ∀ {k i : Nat}, (∀ j, i ≤ j → j < i + k → bt x (r j) = bt x' (r j)) → tt_l r x k i = tt_l r x' k i
  | 0, _, _ => rfl
  | k + 1, i, h => by
    rw [tt_l_s, tt_l_s, h i (Nat.le_refl _) (by omega), tt_l_c (k := k) (i := i + 1) (fun j a b => h j (by omega) (by omega))]
theorem tt_l_in {r : Nat → Nat} {x : Int32} {q : Nat} : ∀ {k i : Nat}, q ∈ tt_l r x k i → ∃ j, i ≤ j ∧ j < i + k ∧ r j = q ∧ bt x q = true
  | 0, _, h => by simp [tt_l] at h
  | k + 1, i, h => by
    rw [tt_l_s] at h
    by_cases z : bt x (r i) = true
    · rw [if_pos z] at h
      rcases List.mem_cons.mp h with y | y
      · exact ⟨i, Nat.le_refl _, by omega, y.symm, by rw [y]; exact z⟩
      · obtain ⟨j, a, b, c⟩ := tt_l_in y
        exact ⟨j, by omega, by omega, c⟩
    · rw [if_neg z] at h
      obtain ⟨j, a, b, c⟩ := tt_l_in h
      exact ⟨j, by omega, by omega, c⟩
theorem tt_l_hd {r : Nat → Nat} {x x' : Int32} {q : Nat} {tl : List Nat} (hx : ∀ i, i < 24 → bt x' i = (bt x i && !decide (i = q))) : ∀ {k i : Nat}, (∀ j, i ≤ j → j < i + k → r j < 24) →
    (∀ a b, i ≤ a → a < i + k → i ≤ b → b < i + k → r a = r b → a = b) → tt_l r x k i = q :: tl → tt_l r x' k i = tl
  | 0, _, _, _, h => by simp [tt_l] at h
  | k + 1, i, hr, hj, h => by
    rw [tt_l_s] at h ⊢
    by_cases z : bt x (r i) = true
    · rw [if_pos z] at h
      obtain ⟨e1, e2⟩ := List.cons.inj h
      have y : ¬ bt x' (r i) = true := by
        rw [hx _ (hr i (Nat.le_refl _) (by omega)), e1]
        simp
      rw [if_neg y, ← e2]
      refine tt_l_c (fun j a b => ?_)
      rw [hx _ (hr j (by omega) (by omega)), decide_eq_false (fun w => ?_)]
      · simp
      · have := hj j i (by omega) (by omega) (by omega) (by omega) (by rw [w, e1])
        omega
    · rw [if_neg z] at h
      have y : ¬ bt x' (r i) = true := by
        rw [hx _ (hr i (Nat.le_refl _) (by omega))]
        have : bt x (r i) = false := by cases w : bt x (r i) with
          | false => rfl
          | true => exact absurd w z
        rw [this]; simp
      rw [if_neg y]
      exact tt_l_hd hx (fun j a b => hr j (by omega) (by omega)) (fun a b p1 p2 p3 p4 => hj a b (by omega) (by omega) (by omega) (by omega)) h
theorem tt_l_len (r : Nat → Nat) (x : Int32) : ∀ k i, (tt_l r x k i).length ≤ k
  | 0, _ => Nat.le_refl _
  | k + 1, i => by
    have := tt_l_len r x k (i + 1)
    rw [tt_l_s]
    split
    · rw [List.length_cons]; omega
    · omega
def tt_at : List Nat → Nat → Int32
  | [], _ => -1
  | x :: _, 0 => nI x
  | _ :: xs, k + 1 => tt_at xs k
/-- the stack of the reference, its top first -/
def tt_St (todo wi : Nat → Int32) : List (Nat × Nat) → Prop
  | [] => True
  | x :: s => todo s.length = nI x.1 ∧ wi s.length = nI x.2 ∧ tt_St todo wi s
theorem tt_St_up {todo wi : Nat → Int32} {a b : Int32} {k : Nat} : ∀ {s : List (Nat × Nat)}, s.length ≤ k → tt_St todo wi s → tt_St (upd todo k a) (upd wi k b) s
  | [], _, _ => trivial
  | x :: s, h, hs => by
    rw [List.length_cons] at h
    exact ⟨by rw [pk_un (by omega)]; exact hs.1, by rw [pk_un (by omega)]; exact hs.2.1, tt_St_up (by omega) hs.2.2⟩
theorem tt_St_push {todo wi : Nat → Int32} {s : List (Nat × Nat)} {n w : Nat} (hs : tt_St todo wi s) : tt_St (upd todo s.length (nI n)) (upd wi s.length (nI w)) ((n, w) :: s) :=
  ⟨pk_us, pk_us, tt_St_up (Nat.le_refl _) hs⟩
/-- the masks of the depths below k, the deepest first -/
def tt_fl (c : Nat) (r : Nat → Nat) (w : Nat → Int32) : Nat → List (Nat × Nat)
  | 0 => []
  | k + 1 => (tt_l r (w k) c 0).map (fun n => (n, k)) ++ tt_fl c r w k
theorem tt_fl_s (c : Nat) (r : Nat → Nat) (w : Nat → Int32) (k : Nat) : tt_fl c r w (k + 1) = (tt_l r (w k) c 0).map (fun n => (n, k)) ++ tt_fl c r w k := rfl
theorem tt_fl_up {c : Nat} {r : Nat → Nat} {w : Nat → Int32} {a : Int32} {j : Nat} : ∀ {k : Nat}, k ≤ j → tt_fl c r (upd w j a) k = tt_fl c r w k
  | 0, _ => rfl
  | k + 1, h => by rw [tt_fl_s, tt_fl_s, pk_un (by omega), tt_fl_up (by omega)]
theorem tt_fl_len {c : Nat} {r : Nat → Nat} {w : Nat → Int32} : ∀ k, (tt_fl c r w k).length ≤ c * k
  | 0 => Nat.zero_le _
  | k + 1 => by
    have a := tt_fl_len (c := c) (r := r) (w := w) k
    have b := tt_l_len r (w k) c 0
    rw [tt_fl_s, List.length_append, List.length_map, Nat.mul_succ]
    omega
end
section
/-! the relation of the two states, field by field; a slot's tokens are read within the slot alone -/
def te_R (b L : Nat) (a : Nat → Int32) : Nat → Nat := fun i => if b ≤ i ∧ i < L then (a i).toNatClampNeg else 0
def te_V (b L : Nat) (a : Nat → Int32) : Nat → Int32 := fun i => if b ≤ i ∧ i < L then a i else 0
theorem te_R_n {b L : Nat} {a : Nat → Int32} {i n : Nat} (h1 : b ≤ i) (h2 : i < L) (h : a i = nI n) (hn : n < 2 ^ 31) : te_R b L a i = n := by
  unfold te_R; rw [if_pos ⟨h1, h2⟩, h]; exact nI_clamp hn
theorem te_V_i {b L : Nat} {a : Nat → Int32} {i : Nat} (h1 : b ≤ i) (h2 : i < L) : te_V b L a i = a i := if_pos ⟨h1, h2⟩
theorem te_R_c {b L : Nat} {a a' : Nat → Int32} (h : ∀ i, b ≤ i → i < L → a' i = a i) : te_R b L a' = te_R b L a := by
  funext i
  unfold te_R
  by_cases z : b ≤ i ∧ i < L
  · rw [if_pos z, if_pos z, h i z.1 z.2]
  · rw [if_neg z, if_neg z]
theorem te_V_c {b L : Nat} {a a' : Nat → Int32} (h : ∀ i, b ≤ i → i < L → a' i = a i) : te_V b L a' = te_V b L a := by
  funext i
  unfold te_V
  by_cases z : b ≤ i ∧ i < L
  · rw [if_pos z, if_pos z, h i z.1 z.2]
  · rw [if_neg z, if_neg z]
def tq_G (v : Int32) : Prop := ∃ w, w < 384 ∧ v = nI w ∧ w % 16 ≤ 10 ∧ w / 16 % 8 ≤ 6
def re_Tok (kd wt : Nat → Int32) (i : Nat) : Prop := ∃ k, k < 18 ∧ kd i = nI k ∧ (k = 2 → tq_G (wt i))
def re_Slot (kd wt en : Nat → Int32) (b n : Nat) : Prop :=
  n ≤ 40 ∧ (∀ i, b ≤ i → i < b + n → re_Tok kd wt i ∧ en i = nI (te_R b (b + n) en i)) ∧
  (0 < n → te_Ws (te_R b (b + n) kd) (te_R b (b + n) wt) (te_R b (b + n) en) b (b + n) ∧ te_R b (b + n) en b = b + n)
theorem re_Slot_c {kd wt en kd' wt' en' : Nat → Int32} {b n : Nat} (h : re_Slot kd wt en b n) (e : ∀ i, b ≤ i → i < b + n → kd' i = kd i ∧ wt' i = wt i ∧ en' i = en i) : re_Slot kd' wt' en' b n := by
  obtain ⟨h1, h2, h3⟩ := h
  have a1 := te_R_c (fun i x y => (e i x y).1)
  have a2 := te_R_c (fun i x y => (e i x y).2.1)
  have a3 := te_R_c (fun i x y => (e i x y).2.2)
  refine ⟨h1, fun i x y => ?_, fun z => ?_⟩
  · obtain ⟨⟨k, g1, g2, g3⟩, g4⟩ := h2 i x y
    obtain ⟨p1, p2, p3⟩ := e i x y
    refine ⟨⟨k, g1, by rw [p1]; exact g2, fun w => by rw [p2]; exact g3 w⟩, ?_⟩
    rw [a3, p3]; exact g4
  · rw [a1, a2, a3]; exact h3 z
/-- the tree, as the component keeps it -/
def re_XT (c : Nat) (r d : Nat → Nat) (nc : Int32) (u pa rk od al : Nat → Int32) : Prop :=
  nc = nI c ∧ tx_U c r u ∧ tx_PR c r d pa rk ∧ (∀ i, i < c → od i = nI (r i)) ∧ tx_Rep al (tx_R0 r d c)
/-- the tree, as the reference keeps it -/
def re_YT (c : Nat) (r d : Nat → Nat) (n : Int32) (row dep : Nat → Int32) : Prop :=
  n = nI c ∧ (∀ i, i < c → row i = nI (r i)) ∧ (∀ i, i < c → dep (r i) = nI (d i))
/-- tokens: the draft of n, the slots of len s -/
def re_K (n : Nat) (len : Nat → Nat) (dk dv tk tv te sl kd wt lt : Nat → Int32) : Prop :=
  n ≤ 40 ∧ lt 8 = nI n ∧ (∀ i, i < 40 → dk i = kd (320 + i) ∧ dv i = wt (320 + i)) ∧ (∀ i, i < 320 → tk i = kd i ∧ tv i = wt i) ∧
  (∀ i, i < n → re_Tok kd wt (320 + i)) ∧ (∀ s, s < 8 → sl s = nI (len s) ∧ lt s = nI (len s) ∧ re_Slot kd wt te (40 * s) (len s))
/-- the sets that the reference holds for fresh are those of the tree -/
def re_F1 (c : Nat) (r d : Nat → Nat) (nm val kd wt te sets : Nat → Int32) (b L : Nat) : Prop :=
  tk_Eq c r d nm val (te_R b L kd) (te_R b L wt) (te_R b L te) (te_V b L wt) b L (fun t n => sets (24 * t + n))
def re_F (c : Nat) (r d : Nat → Nat) (len : Nat → Nat) (nm val kd wt te sets fr : Nat → Int32) : Prop :=
  ∀ s, s < 8 → (fr s = 0 ∨ fr s = 1) ∧ (fr s ≠ 0 → re_F1 c r d nm val kd wt te sets (40 * s) (40 * s + len s))
theorem re_F1_c {c : Nat} {r d : Nat → Nat} {nm val kd wt te kd' wt' te' sets : Nat → Int32} {b L : Nat} (h : re_F1 c r d nm val kd wt te sets b L) (e : ∀ i, b ≤ i → i < L → kd' i = kd i ∧ wt' i = wt i ∧ te' i = te i) :
    re_F1 c r d nm val kd' wt' te' sets b L := by
  unfold re_F1
  rw [te_R_c (fun i x y => (e i x y).1), te_R_c (fun i x y => (e i x y).2.1), te_R_c (fun i x y => (e i x y).2.2), te_V_c (fun i x y => (e i x y).2.1)]
  exact h
def re_sl (x : Int32) : Prop := x = -1 ∨ ∃ s, s < 8 ∧ x = nI s
def re_P (it ms os ns : Nat → Int32) : Prop := ∀ t, t < 6 → (it t = 0 ∨ it t = 1) ∧ (∃ s, s < 8 ∧ ms t = nI s) ∧ re_sl (os t) ∧ re_sl (ns t)
end
section
/-! the child of a rank; the place behind, by climbing -/
def tx_cs (u pa rk : Nat → Int32) (n k res : Int32) : Prop :=
  (∃ q, q < 24 ∧ u q ≠ 0 ∧ pa q = n ∧ rk q = k ∧ res = nI q) ∨ ((∀ q, q < 24 → u q ≠ 0 → pa q = n → rk q ≠ k) ∧ res = -1)
section
variable {c : Nat} {r d : Nat → Nat} {u pa rk : Nat → Int32}
theorem tx_co (T : td_T c r d) (U : tx_U c r u) (P : tx_PR c r d pa rk) {p : Nat} {k res : Int32} (hp : p < c) (h : tx_cs u pa rk (nI (r p)) k res) :
    (∃ l, l < c ∧ td_Pa d p l ∧ k = nI (td_ct d (d l) (p + 1) l) ∧ res = nI (r l)) ∨ ((∀ l, l < c → td_Pa d p l → k ≠ nI (td_ct d (d l) (p + 1) l)) ∧ res = -1) := by
  have rp := T.2.2.2.1 p hp
  rcases h with ⟨q, hq, hu, hpa, hk, hr⟩ | ⟨h, hr⟩
  · left
    rcases U q hq with ⟨-, l, hl, hlq⟩ | ⟨h0, -⟩
    · subst hlq
      by_cases l0 : l = 0
      · subst l0
        rw [(P.2 hl).1] at hpa
        exact absurd hpa (tx_m1 (by omega))
      · obtain ⟨q', hq'⟩ := td_ex T.2.1 (i := l) (by omega) hl
        obtain ⟨a1, a2⟩ := P.1 q' l hl hq'
        have hql := hq'.1
        have rq := T.2.2.2.1 q' (by omega)
        rw [a1, nI_eq (by omega) (by omega)] at hpa
        have e := T.2.2.2.2 q' p (by omega) hp hpa
        subst e
        exact ⟨l, hl, hq', by rw [← hk, a2], hr⟩
    · exact absurd h0 hu
  · right
    exact ⟨fun l hl hP e => h (r l) (T.2.2.2.1 l hl) (tx_U_1 U hl (T.2.2.2.1 l hl)) (P.1 p l hl hP).1 ((P.1 p l hl hP).2.trans e.symm), hr⟩
theorem tx_first (T : td_T c r d) (U : tx_U c r u) (P : tx_PR c r d pa rk) {i : Nat} {res : Int32} (hi : i < c) (h : tx_cs u pa rk (nI (r i)) 0 res) :
    (i + 1 < c ∧ res = nI (r (i + 1))) ∨ (res = -1 ∧ td_En c d i (i + 1)) := by
  by_cases z : i + 1 < c ∧ d (i + 1) = d i + 1
  · obtain ⟨x1, x2⟩ := td_nx_ch (d := d) (i := i) z.2
    rcases tx_co T U P hi h with ⟨l, hl, hP, e, hr⟩ | ⟨h', -⟩
    · have cl := tx_ctb (d := d) (D := d l) (lo := i + 1) hl T.1
      rw [← nI_0, nI_eq (by omega) (by omega)] at e
      have := td_rk_uq T.2.1 hl z.1 hP x1 (by omega)
      subst this
      exact Or.inl ⟨z.1, hr⟩
    · exact absurd (by rw [x2]; rfl) (h' (i + 1) z.1 x1)
  · have w : i + 1 < c → d (i + 1) ≤ d i := fun y => by have := (T.2.1.2 i y).2; omega
    rcases tx_co T U P hi h with ⟨l, hl, hP, -, -⟩ | ⟨-, hr⟩
    · exact absurd hP (td_nx_no hl w)
    · exact Or.inr ⟨hr, by omega, hi, fun j a b => by omega, w⟩
theorem tx_climb (T : td_T c r d) (U : tx_U c r u) (P : tx_PR c r d pa rk) {a q e : Nat} {res : Int32} (ha : a < c) (hq : td_Pa d q a) (he : td_En c d a e) (h : tx_cs u pa rk (pa (r a)) (rk (r a) + 1) res) :
    (e < c ∧ res = nI (r e)) ∨ (res = -1 ∧ td_En c d q e) := by
  have hqa := hq.1
  obtain ⟨p1, p2⟩ := P.1 q a ha hq
  rw [p1, p2, nI_1] at h
  have ca := tx_ctb (d := d) (D := d a) (lo := q + 1) ha T.1
  by_cases z : e < c ∧ d e = d a
  · obtain ⟨x1, x2⟩ := td_nx_sb hq he z.2
    rcases tx_co T U P (by omega) h with ⟨l, hl, hP, e', hr⟩ | ⟨h', -⟩
    · have cl := tx_ctb (d := d) (D := d l) (lo := q + 1) hl T.1
      rw [nI_eq (by omega) (by omega)] at e'
      have := td_rk_uq T.2.1 hl z.1 hP x1 (by omega)
      subst this
      exact Or.inl ⟨z.1, hr⟩
    · exact absurd (by rw [x2]) (h' e z.1 x1)
  · obtain ⟨x1, x2⟩ := td_nx_up T.2.1 ha hq he (fun y w => z ⟨y, w⟩)
    rcases tx_co T U P (by omega) h with ⟨l, hl, hP, e', -⟩ | ⟨-, hr⟩
    · have cl := tx_ctb (d := d) (D := d l) (lo := q + 1) hl T.1
      rw [nI_eq (by omega) (by omega)] at e'
      exact absurd e'.symm (x2 l hl hP)
    · exact Or.inr ⟨hr, x1⟩
end
end
section
/-! counts: pieces, all, the children that are left when a block is cut out -/
theorem tc_add (S : Nat → Bool) (lo : Nat) : ∀ n, tc_n S (lo + n) = tc_n S lo + tc_n (fun i => S (lo + i)) n
  | 0 => by show tc_n S lo = tc_n S lo + 0; omega
  | n + 1 => by
    show tc_n S (lo + n + 1) = _
    rw [tc_s, tc_s, tc_add S lo n]
    exact Nat.add_assoc _ _ _
theorem tc_all {S : Nat → Bool} : ∀ {n : Nat}, (∀ i, i < n → S i = true) → tc_n S n = n
  | 0, _ => rfl
  | n + 1, h => by rw [tc_s, tc_all (n := n) (fun i hi => h i (by omega)), if_pos (h n (by omega))]
theorem tc_lt {S : Nat → Bool} {a : Nat} (ha : S a = false) : ∀ {n : Nat}, a < n → tc_n S n < n
  | 0, h => by omega
  | n + 1, h => by
    rw [tc_s]
    by_cases z : a = n
    · rw [← z, if_neg (by rw [ha]; decide)]
      have := tc_le S a
      omega
    · have := tc_lt (n := n) ha (by omega)
      split <;> omega
theorem tx_full {c : Nat} {r d : Nat → Nat} (T : td_T c r d) : (∀ q, q < 24 → ∃ i, i < c ∧ r i = q) ↔ c = 24 := by
  have e := tc_inj (r := r) (Q := fun _ => true) c (fun q => tk_d (∃ i, i < c ∧ r i = q)) T.2.2.2.1 T.2.2.2.2 (fun q _ => by
    show tk_d _ = true ↔ _
    rw [tk_d_t]
    exact ⟨fun ⟨i, a, b⟩ => ⟨i, a, b, rfl⟩, fun ⟨i, a, b, _⟩ => ⟨i, a, b⟩⟩)
  rw [tc_all (S := fun _ => true) (n := c) (fun _ _ => rfl)] at e
  constructor
  · intro h
    rw [tc_all (n := 24) (fun q hq => tk_d_t.mpr (h q hq))] at e
    exact e.symm
  · intro h q hq
    rcases Classical.em (∃ i, i < c ∧ r i = q) with z | z
    · exact z
    · have := tc_lt (S := fun q => tk_d (∃ i, i < c ∧ r i = q)) (a := q) (tk_d_f.mpr z) hq
      omega
def td_sh (a m i : Nat) : Nat := if i < a then i else i + m
theorem td_sh_lo {a m i : Nat} (h : i < a) : td_sh a m i = i := if_pos h
theorem td_sh_hi {a m i : Nat} (h : a ≤ i) : td_sh a m i = i + m := if_neg (by omega)
theorem td_sh_inj {a m i j : Nat} (h : td_sh a m i = td_sh a m j) : i = j := by
  rcases Nat.lt_or_ge i a with x | x <;> rcases Nat.lt_or_ge j a with y | y
  · rw [td_sh_lo x, td_sh_lo y] at h; exact h
  · rw [td_sh_lo x, td_sh_hi y] at h; omega
  · rw [td_sh_hi x, td_sh_lo y] at h; omega
  · rw [td_sh_hi x, td_sh_hi y] at h; omega
theorem td_cut_iff {c a m p : Nat} {d : Nat → Nat} (h : td_OK c d) (hp : td_Pa d p a) (ha : a < c) (he : td_En c d a (a + m)) {q l : Nat} (hl : l < c - m) :
    td_Pa d (td_sh a m q) (td_sh a m l) ↔ td_Pa (td_cutd a m d) q l := by
  have I := td_cut h hp ha he
  have ok := td_cut_ok h hp ha he
  have hpa := hp.1
  have fwd : ∀ q, td_Pa (td_cutd a m d) q l → td_Pa d (td_sh a m q) (td_sh a m l) := by
    intro q hq
    have hql := hq.1
    rcases Nat.lt_or_ge l a with z | z
    · rw [td_sh_lo z, td_sh_lo (by omega)]
      exact (td_ins_lo I z hq).1
    · rw [td_sh_hi z]
      rcases td_ins_hi I hl z hq with ⟨w, x, -⟩ | ⟨w, x, -⟩
      · rw [td_sh_hi w]; exact x
      · rw [td_sh_lo w]; exact x
  refine ⟨fun x => ?_, fwd q⟩
  by_cases l0 : l = 0
  · subst l0
    rw [td_sh_lo (i := 0) (by omega)] at x
    exact absurd x td_p0
  · obtain ⟨q0, hq0⟩ := td_ex ok (i := l) (by omega) hl
    have e := td_sh_inj (td_uq x (fwd q0 hq0))
    rw [e]; exact hq0
theorem tc_cut {c a m p : Nat} {d : Nat → Nat} (h : td_OK c d) (hp : td_Pa d p a) (ha : a < c) (he : td_En c d a (a + m)) (q : Nat) :
    tc_n (fun l => tk_d (td_Pa d (td_sh a m q) l)) c = tc_n (fun l => tk_d (td_Pa (td_cutd a m d) q l)) (c - m) + (if td_sh a m q = p then 1 else 0) := by
  have I := td_cut h hp ha he
  have hpa := hp.1
  have am := he.1
  have amc := he.2.1
  have e1 : c = a + (m + (c - m - a)) := by omega
  have e2 : c - m = a + (c - m - a) := by omega
  have s1 : tc_n (fun l => tk_d (td_Pa d (td_sh a m q) l)) c = tc_n (fun l => tk_d (td_Pa d (td_sh a m q) l)) a + (tc_n (fun j => tk_d (td_Pa d (td_sh a m q) (a + j))) m + tc_n (fun j => tk_d (td_Pa d (td_sh a m q) (a + (m + j)))) (c - m - a)) := by
    have x := tc_add (fun l => tk_d (td_Pa d (td_sh a m q) l)) a (m + (c - m - a))
    rw [← e1] at x
    rw [x, tc_add (fun j => tk_d (td_Pa d (td_sh a m q) (a + j))) m (c - m - a)]
  have s2 : tc_n (fun l => tk_d (td_Pa (td_cutd a m d) q l)) (c - m) = tc_n (fun l => tk_d (td_Pa (td_cutd a m d) q l)) a + tc_n (fun j => tk_d (td_Pa (td_cutd a m d) q (a + j))) (c - m - a) := by
    have x := tc_add (fun l => tk_d (td_Pa (td_cutd a m d) q l)) a (c - m - a)
    rw [← e2] at x
    exact x
  have u1 : tc_n (fun l => tk_d (td_Pa d (td_sh a m q) l)) a = tc_n (fun l => tk_d (td_Pa (td_cutd a m d) q l)) a := tc_ext (fun l hl => by
    have x := td_cut_iff h hp ha he (q := q) (l := l) (by omega)
    rw [td_sh_lo hl] at x
    exact tk_d_c x)
  have u3 : tc_n (fun j => tk_d (td_Pa d (td_sh a m q) (a + (m + j)))) (c - m - a) = tc_n (fun j => tk_d (td_Pa (td_cutd a m d) q (a + j))) (c - m - a) := tc_ext (fun j hj => by
    have x := td_cut_iff h hp ha he (q := q) (l := a + j) (by omega)
    rw [td_sh_hi (i := a + j) (by omega), show a + j + m = a + (m + j) by omega] at x
    exact tk_d_c x)
  have nb : td_sh a m q < a ∨ a + m ≤ td_sh a m q := by
    rcases Nat.lt_or_ge q a with z | z
    · rw [td_sh_lo z]; exact Or.inl z
    · rw [td_sh_hi z]; exact Or.inr (by omega)
  have u2 : tc_n (fun j => tk_d (td_Pa d (td_sh a m q) (a + j))) m = (if td_sh a m q = p then 1 else 0) := by
    have x := tc_add (fun j => tk_d (td_Pa d (td_sh a m q) (a + j))) 1 (m - 1)
    rw [show 1 + (m - 1) = m by omega] at x
    have y : tc_n (fun i => tk_d (td_Pa d (td_sh a m q) (a + (1 + i)))) (m - 1) = 0 := tc_f (fun j hj => by
      apply tk_d_f.mpr
      intro w
      obtain ⟨q0, hq0⟩ : ∃ q0, td_Pa (fun j => d (a + j)) q0 (1 + j) := by
        obtain ⟨p', h1, h2, h3⟩ := td_last (d := fun j => d (a + j)) (D := d (a + (j + 1))) (he.2.2.1 (a + (j + 1)) (by omega) (by omega)) j
        exact ⟨p', by omega, by rw [show 1 + j = j + 1 by omega]; exact h2, fun l u v => by rw [show 1 + j = j + 1 by omega]; exact h3 l u (by omega)⟩
      have g := (td_ins_bk I (i := 1 + j) (by omega) hq0).1
      have e := td_uq w g
      have := hq0.1
      omega)
    have t : tc_n (fun j => tk_d (td_Pa d (td_sh a m q) (a + j))) 1 = (if td_sh a m q = p then 1 else 0) := by
      show 0 + (if tk_d (td_Pa d (td_sh a m q) (a + 0)) = true then 1 else 0) = _
      rw [Nat.zero_add, Nat.add_zero]
      by_cases z : td_sh a m q = p
      · rw [if_pos (tk_d_t.mpr (by rw [z]; exact hp)), if_pos z]
      · rw [if_neg (fun w => z (td_uq (tk_d_t.mp w) hp)), if_neg z]
    omega
  omega
end
section
/-! the tokens that are worked out as numbers: those that lie in no set -/
def tg_nx (K E : Nat → Nat) (j : Nat) : Nat := if K j < 4 then E j else j + 1
def tg_it (K E : Nat → Nat) (j : Nat) : Nat → Nat
  | 0 => j
  | n + 1 => tg_nx K E (tg_it K E j n)
theorem tg_it_s (K E : Nat → Nat) (j n : Nat) : tg_it K E j (n + 1) = tg_nx K E (tg_it K E j n) := rfl
theorem tg_it_add (K E : Nat → Nat) (j a : Nat) : ∀ n, tg_it K E (tg_it K E j a) n = tg_it K E j (a + n)
  | 0 => rfl
  | n + 1 => by rw [tg_it_s, tg_it_add K E j a n]; rfl
theorem tg_nx_gt {K W E : Nat → Nat} {b L j : Nat} (h : te_Ws K W E b L) (hb : b ≤ j) (hj : j < L) : j < tg_nx K E j ∧ tg_nx K E j ≤ E j := by
  have g := te_E_gt h hb hj
  unfold tg_nx
  split <;> omega
theorem tg_reach {K W E : Nat → Nat} {b L : Nat} (h : te_Ws K W E b L) : ∀ j, j < L → b ≤ j → ∃ n, 0 < n ∧ tg_it K E j n = E j ∧ ∀ t, t < n → tg_it K E j t < E j := by
  refine te_down L ?_
  intro j hj ih hb
  have g := te_E_gt h hb hj
  by_cases z : K j < 4
  · refine ⟨1, by omega, ?_, fun t ht => ?_⟩
    · show tg_nx K E j = E j
      unfold tg_nx; rw [if_pos z]
    · have : t = 0 := by omega
      subst this; exact g
  · obtain ⟨w1, w2⟩ := h j hb hj
    have bd := (te_bnd h j hj hb).2.2
    have nx : tg_nx K E j = j + 1 := by unfold tg_nx; rw [if_neg z]
    have mono : ∀ t, t < te_o (K j) (W j) → te_ch E (j + 1) t < te_ch E (j + 1) (t + 1) := fun t ht => by
      rw [te_ch_s]
      exact te_E_gt h (by have := bd t (by omega); omega) (w2 t ht).1
    have le : ∀ u t, t + u = te_o (K j) (W j) → te_ch E (j + 1) t ≤ E j := by
      intro u
      induction u with
      | zero => intro t ht; rw [w1, ← ht]; exact Nat.le_refl _
      | succ u iu => intro t ht; have x := iu (t + 1) (by omega); have y := mono t (by omega); omega
    have key : ∀ t, t ≤ te_o (K j) (W j) → ∃ n, 0 < n ∧ tg_it K E j n = te_ch E (j + 1) t ∧ ∀ s, s < n → tg_it K E j s < te_ch E (j + 1) t := by
      intro t
      induction t with
      | zero =>
        intro _
        refine ⟨1, by omega, nx, fun s hs => ?_⟩
        have : s = 0 := by omega
        subst this
        show j < j + 1
        omega
      | succ t it =>
        intro ht
        obtain ⟨n, n0, n1, n2⟩ := it (by omega)
        have c := w2 t (by omega)
        have bt' := bd t (by omega)
        obtain ⟨m, m0, m1, m2⟩ := ih _ bt'.1 c.1 (by omega)
        have mt := mono t (by omega)
        refine ⟨n + m, by omega, ?_, fun s hs => ?_⟩
        · rw [← tg_it_add, n1, m1, te_ch_s]
        · rcases Nat.lt_or_ge s n with y | y
          · have := n2 s y; omega
          · have x := m2 (s - n) (by omega)
            rw [← n1, tg_it_add, show n + (s - n) = s by omega, n1] at x
            rw [te_ch_s]; exact x
    obtain ⟨n, n0, n1, n2⟩ := key _ (Nat.le_refl _)
    rw [← w1] at n1 n2
    exact ⟨n, n0, n1, n2⟩
/-- the agenda of a token: how many, and that operands stand on it -/
theorem tg_op1 {K W E : Nat → Nat} {b L y due k j : Nat} (h : te_Ws K W E b L) (hb : b ≤ y) (hy : y < L) (hd : tg_it K E y due = E y) (hlt : ∀ t, t < due → tg_it K E y t < E y) (hge : ∀ t, t ≤ due → y ≤ tg_it K E y t)
    (hk : k < due) (ej : tg_it K E y k = j) (h4 : ¬ K j < 4) (ho : 0 < te_o (K j) (W j)) : tg_it K E y (k + 1) = j + 1 ∧ k + 1 < due ∧ j + 1 < L := by
  have e1 : tg_it K E y (k + 1) = j + 1 := by
    rw [tg_it_s, ej]; unfold tg_nx; rw [if_neg h4]
  have jl := hlt k hk
  have jg := hge k (by omega)
  have EL := te_E_le h hb hy
  rw [ej] at jl jg
  have o := te_op h (i := j) (by omega) (by omega) ho
  have n := te_nest h y hy hb j jg jl
  have g := te_E_gt h (i := j + 1) (by omega) o.2.1
  have x : E (j + 1) ≤ E j := te_nest h j (by omega) (by omega) (j + 1) (by omega) (by
    have w := (h j (by omega) (by omega)).1
    have bd := (te_bnd h j (by omega) (by omega))
    by_cases z : te_o (K j) (W j) = 1
    · rw [z] at w; rw [w]; exact g
    · have o2 := te_op h (i := j) (t := 1) (by omega) (by omega) (by omega)
      have g2 : te_ch E (j + 1) 1 = E (j + 1) := rfl
      obtain ⟨nn, n0, n1, n2⟩ := tg_reach h j (by omega) (by omega)
      rcases Nat.lt_or_ge 1 nn with q | q
      · have := n2 1 q
        have e : tg_it K E j 1 = j + 1 := by show tg_nx K E j = j + 1; unfold tg_nx; rw [if_neg h4]
        omega
      · have e : nn = 1 := by omega
        rw [e] at n1
        have e' : tg_it K E j 1 = j + 1 := by show tg_nx K E j = j + 1; unfold tg_nx; rw [if_neg h4]
        have bd2 := bd.2.2 (te_o (K j) (W j)) (Nat.le_refl _)
        have m1 : ∀ u, 1 + u ≤ te_o (K j) (W j) → E (j + 1) ≤ te_ch E (j + 1) (1 + u) := by
          intro u
          induction u with
          | zero => intro _; exact Nat.le_refl _
          | succ u iu =>
            intro hu
            have a1 := iu (by omega)
            have a2 := te_op h (i := j) (t := 1 + u) (by omega) (by omega) (by omega)
            have a3 := te_E_gt h (i := te_ch E (j + 1) (1 + u)) (by omega) a2.2.1
            show _ ≤ E (te_ch E (j + 1) (1 + u))
            omega
        have a4 := m1 (te_o (K j) (W j) - 1) (by omega)
        rw [show 1 + (te_o (K j) (W j) - 1) = te_o (K j) (W j) by omega, ← w] at a4
        omega)
  refine ⟨e1, ?_, o.2.1⟩
  rcases Nat.lt_or_ge (k + 1) due with q | q
  · exact q
  · have e : k + 1 = due := by omega
    rw [e, hd] at e1
    omega
theorem tg_op2 {K W E : Nat → Nat} {b L y due k j : Nat} (h : te_Ws K W E b L) (hb : b ≤ y) (hy : y < L) (hd : tg_it K E y due = E y) (hlt : ∀ t, t < due → tg_it K E y t < E y) (hge : ∀ t, t ≤ due → y ≤ tg_it K E y t)
    (hk : k < due) (ej : tg_it K E y k = j) (h4 : ¬ K j < 4) (ho : te_o (K j) (W j) = 2) : ∃ k2, k + 1 < k2 ∧ k2 < due ∧ tg_it K E y k2 = E (j + 1) := by
  obtain ⟨e1, k1, -⟩ := tg_op1 h hb hy hd hlt hge hk ej h4 (by omega)
  have jl := hlt k hk
  have jg := hge k (by omega)
  have EL := te_E_le h hb hy
  rw [ej] at jl jg
  have s := te_two h (i := j) (by omega) (by omega) ho
  have n := te_nest h y hy hb j jg jl
  have g2 := te_E_gt h (i := E (j + 1)) (by omega) s.2.2.1
  obtain ⟨m, m0, m1, m2⟩ := tg_reach h (j + 1) s.1 (by omega)
  have e2 : tg_it K E y (k + 1 + m) = E (j + 1) := by rw [← tg_it_add, e1, m1]
  refine ⟨k + 1 + m, by omega, ?_, e2⟩
  rcases Nat.lt_or_ge (k + 1 + m) due with q | q
  · exact q
  · have x : tg_it K E (j + 1) (due - (k + 1)) = E y := by
      rw [← e1, tg_it_add, show k + 1 + (due - (k + 1)) = due by omega, hd]
    rcases Nat.lt_or_ge (due - (k + 1)) m with w | w
    · have := m2 _ w
      omega
    · have e : due - (k + 1) = m := by omega
      rw [e, m1] at x
      omega
end
section
/-! lists along an axis: as masks, and as rows of nodes -/
theorem tc_t {S : Nat → Bool} {n : Nat} (h : S n = true) : tc_n S (n + 1) = tc_n S n + 1 := by rw [tc_s, if_pos h]
theorem tc_ff {S : Nat → Bool} {n : Nat} (h : S n = false) : tc_n S (n + 1) = tc_n S n := by rw [tc_s, if_neg (by rw [h]; decide), Nat.add_zero]
theorem tc_slt {S : Nat → Bool} {i j : Nat} (h : S i = true) (z : i < j) : tc_n S i < tc_n S j := by
  have a := tc_t h
  have b := tc_mono S (a := i + 1) (b := j) (by omega)
  omega
theorem tc_surj {S : Nat → Bool} {k : Nat} : ∀ {n : Nat}, k < tc_n S n → ∃ j, j < n ∧ S j = true ∧ tc_n S j = k
  | 0, h => by
    have : tc_n S 0 = 0 := rfl
    omega
  | n + 1, h => by
    cases z : S n with
    | false =>
      rw [tc_ff z] at h
      obtain ⟨j, a, b⟩ := tc_surj h
      exact ⟨j, by omega, b⟩
    | true =>
      rw [tc_t z] at h
      by_cases y : k = tc_n S n
      · exact ⟨n, by omega, z, y.symm⟩
      · obtain ⟨j, a, b⟩ := tc_surj (S := S) (n := n) (k := k) (by omega)
        exact ⟨j, by omega, b⟩
theorem tc_sub {S T : Nat → Bool} : ∀ {n : Nat}, (∀ i, i < n → T i = true → S i = true) → tc_n T n ≤ tc_n S n
  | 0, _ => Nat.le_refl _
  | n + 1, h => by
    have a := tc_sub (n := n) (fun i hi => h i (by omega))
    cases z : T n with
    | false => rw [tc_ff z]; have := tc_mono S (a := n) (b := n + 1) (by omega); omega
    | true => rw [tc_t z, tc_t (h n (by omega) z)]; omega
def tk_Mi (o : Nat → Nat) (S : Nat → Bool) (i : Nat) (x : Int32) : Prop := mk_24 x ∧ ∀ q, q < 24 → (bt x q = true ↔ ∃ j, j < i ∧ o j = q ∧ S j = true)
theorem tk_Mi_0 {o : Nat → Nat} {S : Nat → Bool} : tk_Mi o S 0 0 :=
  ⟨mk_24_0, fun q _ => ⟨fun h => (by rw [b_0] at h; cases h), fun ⟨j, a, _⟩ => by omega⟩⟩
theorem tk_Mi_t {o : Nat → Nat} {S : Nat → Bool} {i : Nat} {x : Int32} (h : tk_Mi o S i x) (ho : o i < 24) (hs : S i = true) : tk_Mi o S (i + 1) (x ||| ((1 : Int32) <<< (nI (o i) &&& 31))) := by
  refine ⟨mk_24_or h.1 (mk_24_sh ho), fun q hq => ?_⟩
  rw [b_or, mk_sh _ (by omega), Bool.or_eq_true, h.2 q hq, decide_eq_true_iff]
  constructor
  · rintro (⟨j, a, b, e⟩ | e)
    · exact ⟨j, by omega, b, e⟩
    · exact ⟨i, by omega, e.symm, hs⟩
  · rintro ⟨j, a, b, e⟩
    by_cases z : j = i
    · subst z; exact Or.inr b.symm
    · exact Or.inl ⟨j, by omega, b, e⟩
theorem tk_Mi_f {o : Nat → Nat} {S : Nat → Bool} {i : Nat} {x : Int32} (h : tk_Mi o S i x) (hs : S i = false) : tk_Mi o S (i + 1) x := by
  refine ⟨h.1, fun q hq => ?_⟩
  rw [h.2 q hq]
  constructor
  · rintro ⟨j, a, b, e⟩
    exact ⟨j, by omega, b, e⟩
  · rintro ⟨j, a, b, e⟩
    by_cases z : j = i
    · subst z; rw [hs] at e; cases e
    · exact ⟨j, by omega, b, e⟩
theorem tk_Mi_c {o : Nat → Nat} {S T : Nat → Bool} {i : Nat} {x : Int32} (h : tk_Mi o S i x) (e : ∀ j, j < i → S j = T j) : tk_Mi o T i x := by
  refine ⟨h.1, fun q hq => ?_⟩
  rw [h.2 q hq]
  exact ⟨fun ⟨j, a, b, g⟩ => ⟨j, a, b, by rw [← e j a]; exact g⟩, fun ⟨j, a, b, g⟩ => ⟨j, a, b, by rw [e j a]; exact g⟩⟩
theorem tk_Mi_u {o : Nat → Nat} {S : Nat → Bool} {i : Nat} {x y : Int32} (h : tk_Mi o S i x) (g : tk_Mi o S i y) : x = y := by
  apply mk_ext h.1 g.1
  intro q hq
  have e := (h.2 q hq).trans (g.2 q hq).symm
  cases a : bt x q <;> cases b : bt y q
  · rfl
  · rw [a, b] at e; exact absurd (e.mpr rfl) (by decide)
  · rw [a, b] at e; exact absurd (e.mp rfl) (by decide)
  · rfl
theorem tk_Mi_bt {o : Nat → Nat} {S : Nat → Bool} {c i : Nat} {x : Int32} (h : tk_Mi o S c x) (hl : ∀ j, j < c → o j < 24) (hj : ∀ i j, i < c → j < c → o i = o j → i = j) (hi : i < c) : bt x (o i) = S i := by
  have e := h.2 (o i) (hl i hi)
  cases a : bt x (o i) <;> cases b : S i
  · rfl
  · exact absurd (e.mpr ⟨i, hi, rfl, b⟩) (by rw [a]; decide)
  · obtain ⟨j, u, v, w⟩ := e.mp a
    rw [hj j i u hi v, b] at w
    cases w
  · rfl
theorem tk_Mi_cnt {o : Nat → Nat} {S : Nat → Bool} {c : Nat} {x : Int32} (h : tk_Mi o S c x) (hl : ∀ j, j < c → o j < 24) (hj : ∀ i j, i < c → j < c → o i = o j → i = j) : tc_n (bt x) 24 = tc_n S c :=
  tc_inj c (bt x) hl hj (fun q hq => h.2 q hq)
/-- the row of nodes: the places from lo up to hi that are on the list stand where the count says -/
def tk_Ls (o : Nat → Nat) (S : Nat → Bool) (la : Nat → Int32) (lo hi : Nat) : Prop := ∀ j, lo ≤ j → j < hi → S j = true → la (tc_n S j) = nI (o j)
theorem tk_Ls_t {o : Nat → Nat} {S : Nat → Bool} {la : Nat → Int32} {i : Nat} (h : tk_Ls o S la 0 i) : tk_Ls o S (upd la (tc_n S i) (nI (o i))) 0 (i + 1) := by
  intro j a b e
  by_cases z : j = i
  · subst z; exact pk_us
  · have := tc_slt (S := S) (i := j) (j := i) e (by omega)
    rw [pk_un (by omega)]
    exact h j a (by omega) e
theorem tk_Ls_f {o : Nat → Nat} {S : Nat → Bool} {la : Nat → Int32} {i : Nat} (h : tk_Ls o S la 0 i) (hs : S i = false) : tk_Ls o S la 0 (i + 1) := by
  intro j a b e
  by_cases z : j = i
  · subst z; rw [hs] at e; cases e
  · exact h j a (by omega) e
theorem tk_Ls_k {o : Nat → Nat} {S T : Nat → Bool} {la : Nat → Int32} {i c : Nat} {x : Int32} (h : tk_Ls o S la i c) (hs : S i = true) (hT : ∀ j, j < c → T j = true → S j = true) (hi : i < c) : tk_Ls o S (upd la (tc_n T i) x) (i + 1) c := by
  intro j a b e
  have u := tc_slt (S := S) (i := i) (j := j) hs (by omega)
  have v := tc_sub (S := S) (T := T) (n := i) (fun l hl => hT l (by omega))
  rw [pk_un (by omega)]
  exact h j (by omega) b e
theorem tk_Ls_n {o : Nat → Nat} {S : Nat → Bool} {la : Nat → Int32} {i c : Nat} (h : tk_Ls o S la i c) : tk_Ls o S la (i + 1) c := fun j a b e => h j (by omega) b e
end
section
/-! the relation owed -/
def re_R (c n m : Nat) (r d len : Nat → Nat) (u : SX) (v : SY) : Prop :=
  match u, v with
  | (f_nodeCount, f_draftLength, f_resultLength, a_inUse, a_parentOf, a_rankOf, a_nameOf, a_valueOf, a_order, a_along, a_draftKind, a_draftValue, a_draftEnd, a_tokenKind, a_tokenValue, a_tokenEnd, a_slotLength, a_setAt, a_amount, a_reached, a_agenda, a_isTemplate, a_matchSlot, a_priorityOf, a_outSlot, a_onSlot, a_waiting, a_result), (f_count, f_top, f_listed, f_outputs, a_row, a_depth, a_name, a_value, a_moved, a_kind, a_with, a_length, a_sets, a_fresh, a_type, a_number, a_set, a_list, a_there, a_match, a_priority, a_out, a_on, a_todo, a_within, a_output) =>
    td_T c r d ∧ re_XT c r d f_nodeCount a_inUse a_parentOf a_rankOf a_order a_along ∧ re_YT c r d f_count a_row a_depth ∧ a_nameOf = a_name ∧ a_valueOf = a_value ∧
    f_draftLength = nI n ∧ re_K n len a_draftKind a_draftValue a_tokenKind a_tokenValue a_tokenEnd a_slotLength a_kind a_with a_length ∧
    re_F c r d len a_name a_value a_kind a_with a_tokenEnd a_sets a_fresh ∧ a_isTemplate = a_there ∧ a_matchSlot = a_match ∧ a_priorityOf = a_priority ∧ a_outSlot = a_out ∧ a_onSlot = a_on ∧
    re_P a_there a_match a_out a_on ∧ m ≤ 100 ∧ f_resultLength = nI m ∧ f_outputs = nI m ∧ a_result = a_output
def i_Rel (_ : Nat) (u : SX) (v : SY) : Prop := ∃ c n m r d len, re_R c n m r d len u v
end
section
/-! walks of the component over its tree: reading -/
theorem tz_np {v : Int32} {n : Nat} (h : nI n ≤ v) (hn : n < 2 ^ 31) : ¬ v < 0 := Int32.not_lt.mpr (Int32.le_trans (nI_pos' hn) h)
theorem tz_nb {x : Bool} (h : ¬ x = true) : x = false := by cases x <;> first | rfl | exact absurd rfl h
theorem tc_step {x : Int32} {i : Nat} (hi : i < 32) : nI (tc_n (bt x) i) + ((x >>> (nI i &&& 31)) &&& 1) = nI (tc_n (bt x) (i + 1)) := by
  rw [mk_bit x i hi, tc_s]
  by_cases z : bt x i = true
  · rw [if_pos z, if_pos z, nI_1]
  · rw [if_neg z, if_neg z, Int32.add_zero, Nat.add_zero]
section
variable {f_nodeCount f_draftLength f_resultLength : Int32} {a_inUse a_parentOf a_rankOf a_nameOf a_valueOf a_order a_along a_draftKind a_draftValue a_draftEnd a_tokenKind a_tokenValue a_tokenEnd a_slotLength a_setAt a_amount a_reached a_agenda a_isTemplate a_matchSlot a_priorityOf a_outSlot a_onSlot a_waiting a_result : Nat → Int32} {c : Nat} {r d : Nat → Nat}
theorem wx_isName {post : Int32 → Prop} {v : Int32} (h1 : ∀ j, j < 6 → v = nI j → post 1) (h0 : (∀ j, j < 6 → v ≠ nI j) → post 0) : wpX_isName post (f_nodeCount, f_draftLength, f_resultLength, a_inUse, a_parentOf, a_rankOf, a_nameOf, a_valueOf, a_order, a_along, a_draftKind, a_draftValue, a_draftEnd, a_tokenKind, a_tokenValue, a_tokenEnd, a_slotLength, a_setAt, a_amount, a_reached, a_agenda, a_isTemplate, a_matchSlot, a_priorityOf, a_outSlot, a_onSlot, a_waiting, a_result) v := by
  unfold wpX_isName
  rcases pk_ix v (n := 6) (by omega) with z | z | ⟨j, hj, rfl⟩
  · exact br_t z (h0 (fun j hj e => nI_pos (n := j) (by omega) (by rw [← e]; exact z)))
  · exact br_f (tz_np z (by omega)) (br_t z (h0 (fun j hj e => nI_ge (a := j) (b := 6) hj (by omega) (by rw [← e]; exact z))))
  · exact br_f (nI_pos (by omega)) (br_f (nI_ge (a := j) (b := 6) hj (by omega)) (h1 j hj rfl))
theorem wx_isNode {post : Int32 → Prop} {v : Int32} (T : td_T c r d) (U : tx_U c r a_inUse) (h1 : ∀ i, i < c → v = nI (r i) → post 1) (h0 : (∀ i, i < c → v ≠ nI (r i)) → post 0) : wpX_isNode post (f_nodeCount, f_draftLength, f_resultLength, a_inUse, a_parentOf, a_rankOf, a_nameOf, a_valueOf, a_order, a_along, a_draftKind, a_draftValue, a_draftEnd, a_tokenKind, a_tokenValue, a_tokenEnd, a_slotLength, a_setAt, a_amount, a_reached, a_agenda, a_isTemplate, a_matchSlot, a_priorityOf, a_outSlot, a_onSlot, a_waiting, a_result) v := by
  unfold wpX_isNode
  rcases pk_ix v (n := 24) (by omega) with z | z | ⟨j, hj, rfl⟩
  · exact br_t z (h0 (fun i hi e => nI_pos (n := r i) (by have := T.2.2.2.1 i hi; omega) (by rw [← e]; exact z)))
  · exact br_f (tz_np z (by omega)) (br_t z (h0 (fun i hi e => nI_ge (a := r i) (b := 24) (T.2.2.2.1 i hi) (by omega) (by rw [← e]; exact z))))
  · refine br_f (nI_pos (by omega)) (br_f (nI_ge (a := j) (b := 24) hj (by omega)) ⟨vp_in_nI hj (by omega), ?_⟩)
    have e : (nI j).toNatClampNeg = j := nI_clamp (by omega)
    rcases U j hj with ⟨x, i, hi, ei⟩ | ⟨x, y⟩
    · exact br_f (by rw [e, x]; decide) (h1 i hi (by rw [ei]))
    · exact br_t (by rw [e, x]) (h0 (fun i hi ei => y i hi (by
        rw [nI_eq (by omega) (by have := T.2.2.2.1 i hi; omega)] at ei
        exact ei.symm)))
theorem wx_isNode1 {post : Int32 → Prop} {i : Nat} (T : td_T c r d) (U : tx_U c r a_inUse) (hi : i < c) (h1 : post 1) : wpX_isNode post (f_nodeCount, f_draftLength, f_resultLength, a_inUse, a_parentOf, a_rankOf, a_nameOf, a_valueOf, a_order, a_along, a_draftKind, a_draftValue, a_draftEnd, a_tokenKind, a_tokenValue, a_tokenEnd, a_slotLength, a_setAt, a_amount, a_reached, a_agenda, a_isTemplate, a_matchSlot, a_priorityOf, a_outSlot, a_onSlot, a_waiting, a_result) (nI (r i)) :=
  wx_isNode T U (fun _ _ _ => h1) (fun h => absurd rfl (h i hi))
theorem wx_least_l {post : Int32 → Prop} (h : ∀ res, ((∃ q, q < 24 ∧ a_inUse q = 0 ∧ (∀ p, p < q → a_inUse p ≠ 0) ∧ res = nI q) ∨ ((∀ q, q < 24 → a_inUse q ≠ 0) ∧ res = -1)) → post res) :
    ∀ k i, i + k = 24 → (∀ p, p < i → a_inUse p ≠ 0) → wX_leastFreeNode_2 post f_nodeCount f_draftLength f_resultLength a_inUse a_parentOf a_rankOf a_nameOf a_valueOf a_order a_along a_draftKind a_draftValue a_draftEnd a_tokenKind a_tokenValue a_tokenEnd a_slotLength a_setAt a_amount a_reached a_agenda a_isTemplate a_matchSlot a_priorityOf a_outSlot a_onSlot a_waiting a_result (k + 1) (nI i) := by
  intro k
  induction k with
  | zero => intro i hi hp; exact br_t (nI_le (a := 24) (b := i) (by omega) (by omega)) (h _ (Or.inr ⟨fun q hq => hp q (by omega), rfl⟩))
  | succ k ih =>
    intro i hi hp
    have e : (nI i).toNatClampNeg = i := nI_clamp (by omega)
    refine br_f (nI_ge (a := i) (b := 24) (by omega) (by omega)) ⟨vp_in_nI (by omega) (by omega), ?_⟩
    by_cases z : a_inUse i = 0
    · exact br_t (by rw [e]; exact z) (h _ (Or.inl ⟨i, by omega, z, hp, rfl⟩))
    · refine br_f (by rw [e]; exact z) (nm_r (nI_1 i) (ih (i + 1) (by omega) (fun p hq => ?_)))
      by_cases y : p = i
      · subst y; exact z
      · exact hp p (by omega)
theorem wx_least {post : Int32 → Prop} (h : ∀ res, ((∃ q, q < 24 ∧ a_inUse q = 0 ∧ (∀ p, p < q → a_inUse p ≠ 0) ∧ res = nI q) ∨ ((∀ q, q < 24 → a_inUse q ≠ 0) ∧ res = -1)) → post res) : wpX_leastFreeNode post (f_nodeCount, f_draftLength, f_resultLength, a_inUse, a_parentOf, a_rankOf, a_nameOf, a_valueOf, a_order, a_along, a_draftKind, a_draftValue, a_draftEnd, a_tokenKind, a_tokenValue, a_tokenEnd, a_slotLength, a_setAt, a_amount, a_reached, a_agenda, a_isTemplate, a_matchSlot, a_priorityOf, a_outSlot, a_onSlot, a_waiting, a_result) :=
  ⟨25, wx_least_l h 24 0 rfl (fun p hp => by omega)⟩
theorem wx_count_l {post : Int32 → Prop} {x : Int32} (h : post (nI (tc_n (bt x) 24))) : ∀ k i, i + k = 24 → wX_countOf_4 post x f_nodeCount f_draftLength f_resultLength a_inUse a_parentOf a_rankOf a_nameOf a_valueOf a_order a_along a_draftKind a_draftValue a_draftEnd a_tokenKind a_tokenValue a_tokenEnd a_slotLength a_setAt a_amount a_reached a_agenda a_isTemplate a_matchSlot a_priorityOf a_outSlot a_onSlot a_waiting a_result (k + 1) (nI (tc_n (bt x) i)) (nI i) := by
  intro k
  induction k with
  | zero =>
    intro i hi
    have e : i = 24 := by omega
    subst e
    exact br_t (nI_le (a := 24) (b := 24) (by omega) (by omega)) h
  | succ k ih =>
    intro i hi
    exact br_f (nI_ge (a := i) (b := 24) (by omega) (by omega)) (nm_r (tc_step (by omega)) (nm_r (nI_1 i) (ih (i + 1) (by omega))))
theorem wx_count {post : Int32 → Prop} {x : Int32} (h : post (nI (tc_n (bt x) 24))) : wpX_countOf post (f_nodeCount, f_draftLength, f_resultLength, a_inUse, a_parentOf, a_rankOf, a_nameOf, a_valueOf, a_order, a_along, a_draftKind, a_draftValue, a_draftEnd, a_tokenKind, a_tokenValue, a_tokenEnd, a_slotLength, a_setAt, a_amount, a_reached, a_agenda, a_isTemplate, a_matchSlot, a_priorityOf, a_outSlot, a_onSlot, a_waiting, a_result) x := ⟨25, wx_count_l h 24 0 rfl⟩
theorem wx_cor_l {post : Int32 → Prop} {x1 x2 : Int32} (h : ∀ res, tx_cs a_inUse a_parentOf a_rankOf x1 x2 res → post res) :
    ∀ k i, i + k = 24 → (∀ q, q < i → a_inUse q ≠ 0 → a_parentOf q = x1 → a_rankOf q ≠ x2) → wX_childOfRank_2 post x1 x2 f_nodeCount f_draftLength f_resultLength a_inUse a_parentOf a_rankOf a_nameOf a_valueOf a_order a_along a_draftKind a_draftValue a_draftEnd a_tokenKind a_tokenValue a_tokenEnd a_slotLength a_setAt a_amount a_reached a_agenda a_isTemplate a_matchSlot a_priorityOf a_outSlot a_onSlot a_waiting a_result (k + 1) (nI i) := by
  intro k
  induction k with
  | zero => intro i hi hq; exact br_t (nI_le (a := 24) (b := i) (by omega) (by omega)) (h _ (Or.inr ⟨fun q a => hq q (by omega), rfl⟩))
  | succ k ih =>
    intro i hi hq
    have e : (nI i).toNatClampNeg = i := nI_clamp (by omega)
    have vi : vp_in (nI i) 24 := vp_in_nI (by omega) (by omega)
    have nx : ¬ (a_inUse i ≠ 0 ∧ a_parentOf i = x1 ∧ a_rankOf i = x2) → wX_childOfRank_2 post x1 x2 f_nodeCount f_draftLength f_resultLength a_inUse a_parentOf a_rankOf a_nameOf a_valueOf a_order a_along a_draftKind a_draftValue a_draftEnd a_tokenKind a_tokenValue a_tokenEnd a_slotLength a_setAt a_amount a_reached a_agenda a_isTemplate a_matchSlot a_priorityOf a_outSlot a_onSlot a_waiting a_result (k + 1) (nI (i + 1)) := fun z => ih (i + 1) (by omega) (fun q a b c' d' => by
      by_cases y : q = i
      · subst y; exact z ⟨b, c', d'⟩
      · exact hq q (by omega) b c' d')
    refine br_f (nI_ge (a := i) (b := 24) (by omega) (by omega)) ⟨vi, ?_⟩
    by_cases z : a_inUse i = 0
    · exact br_t (by rw [e]; exact z) (nm_r (nI_1 i) (nx (fun y => y.1 z)))
    · refine br_f (by rw [e]; exact z) ⟨vi, ?_⟩
      by_cases y : a_parentOf i = x1
      · refine br_t (by rw [e]; exact y) ⟨vi, ?_⟩
        by_cases w : a_rankOf i = x2
        · exact br_t (by rw [e]; exact w) (h _ (Or.inl ⟨i, by omega, z, y, w, rfl⟩))
        · exact br_f (by rw [e]; exact w) (nm_r (nI_1 i) (nx (fun v => w v.2.2)))
      · exact br_f (by rw [e]; exact y) (nm_r (nI_1 i) (nx (fun v => y v.2.1)))
theorem wx_cor {post : Int32 → Prop} {x1 x2 : Int32} (h : ∀ res, tx_cs a_inUse a_parentOf a_rankOf x1 x2 res → post res) : wpX_childOfRank post (f_nodeCount, f_draftLength, f_resultLength, a_inUse, a_parentOf, a_rankOf, a_nameOf, a_valueOf, a_order, a_along, a_draftKind, a_draftValue, a_draftEnd, a_tokenKind, a_tokenValue, a_tokenEnd, a_slotLength, a_setAt, a_amount, a_reached, a_agenda, a_isTemplate, a_matchSlot, a_priorityOf, a_outSlot, a_onSlot, a_waiting, a_result) x1 x2 :=
  ⟨25, wx_cor_l h 24 0 rfl (fun q hq => by omega)⟩
/-! the place behind i -/
theorem wx_next_l {post : Int32 → Prop} (T : td_T c r d) (U : tx_U c r a_inUse) (P : tx_PR c r d a_parentOf a_rankOf) {e : Nat} (h1 : e < c → post (nI (r e))) (h0 : e = c → post (-1)) :
    ∀ k a s, a < c → d a ≤ k → s + k < 24 → td_En c d a e → wX_nextInOrder_12 post f_nodeCount f_draftLength f_resultLength a_inUse a_parentOf a_rankOf a_nameOf a_valueOf a_order a_along a_draftKind a_draftValue a_draftEnd a_tokenKind a_tokenValue a_tokenEnd a_slotLength a_setAt a_amount a_reached a_agenda a_isTemplate a_matchSlot a_priorityOf a_outSlot a_onSlot a_waiting a_result (k + 2) (-1) (nI (r a)) (nI s) := by
  intro k
  induction k with
  | zero =>
    intro a s ha hd hs he
    have ra := T.2.2.2.1 a ha
    have er : (nI (r a)).toNatClampNeg = r a := nI_clamp (by omega)
    have a0 : a = 0 := by
      by_cases z : a = 0
      · exact z
      · have := td_pos T.2.1 (i := a) (by omega) ha; omega
    subst a0
    exact br_f (nI_ge (a := s) (b := 24) (by omega) (by omega)) (br_t rfl ⟨vp_in_nI ra (by omega), br_t (by rw [er]; exact (P.2 (by omega)).1) (h0 (td_nx_rt T.2.1 he))⟩)
  | succ k ih =>
    intro a s ha hd hs he
    have ra := T.2.2.2.1 a ha
    have er : (nI (r a)).toNatClampNeg = r a := nI_clamp (by omega)
    have vi : vp_in (nI (r a)) 24 := vp_in_nI ra (by omega)
    refine br_f (nI_ge (a := s) (b := 24) (by omega) (by omega)) (br_t rfl ⟨vi, ?_⟩)
    by_cases z : a = 0
    · subst z
      exact br_t (by rw [er]; exact (P.2 (by omega)).1) (h0 (td_nx_rt T.2.1 he))
    · obtain ⟨q, hq⟩ := td_ex T.2.1 (i := a) (by omega) ha
      have hqa := hq.1
      have rq := T.2.2.2.1 q (by omega)
      have pe := (P.1 q a ha hq).1
      refine br_f (by rw [er, pe]; exact tx_m1' (by omega)) ⟨vi, vi, wx_cor (fun res hr => ⟨vi, nm_r (e' := nI (r q)) (by rw [er, pe]) (nm_r (nI_1 s) ?_)⟩)⟩
      rw [er] at hr
      rcases tx_climb T U P ha hq he hr with ⟨x1, x2⟩ | ⟨x1, x2⟩
      · have re := T.2.2.2.1 e x1
        subst x2
        by_cases w : 24 ≤ s + 1
        · exact br_t (nI_le (a := 24) (b := s + 1) w (by omega)) (h1 x1)
        · exact br_f (nI_ge (a := s + 1) (b := 24) (by omega) (by omega)) (br_f (tx_m1' (by omega)) (h1 x1))
      · subst x1
        exact ih q (s + 1) (by omega) (by have := td_dp T.2.1 ha hq; omega) (by omega) x2
theorem wx_next {post : Int32 → Prop} (T : td_T c r d) (U : tx_U c r a_inUse) (P : tx_PR c r d a_parentOf a_rankOf) {i : Nat} (hi : i < c) (h1 : i + 1 < c → post (nI (r (i + 1)))) (h0 : i + 1 = c → post (-1)) :
    wpX_nextInOrder post (f_nodeCount, f_draftLength, f_resultLength, a_inUse, a_parentOf, a_rankOf, a_nameOf, a_valueOf, a_order, a_along, a_draftKind, a_draftValue, a_draftEnd, a_tokenKind, a_tokenValue, a_tokenEnd, a_slotLength, a_setAt, a_amount, a_reached, a_agenda, a_isTemplate, a_matchSlot, a_priorityOf, a_outSlot, a_onSlot, a_waiting, a_result) (nI (r i)) := by
  unfold wpX_nextInOrder
  refine wx_cor (fun res hr => ?_)
  rcases tx_first T U P hi hr with ⟨x1, x2⟩ | ⟨x1, x2⟩
  · have re := T.2.2.2.1 (i + 1) x1
    subst x2
    exact ⟨1, br_f (nI_ge (a := 0) (b := 24) (by omega) (by omega)) (br_f (tx_m1' (by omega)) (h1 x1))⟩
  · subst x1
    have := td_dc T.2.1 hi
    have := T.1
    exact ⟨d i + 2, wx_next_l T U P h1 h0 (d i) i 0 hi (Nat.le_refl _) (by omega) x2⟩
end
end
section
/-! walks of the component over its tree: laying out -/
def tx_RB (r d : Nat → Nat) (i j : Nat) (B : Nat → Prop) (a q q' : Nat) : Prop := tx_R r d i j a q q' ∨ (B a ∧ q = r j ∧ q' = r i) ∨ ((1 ≤ a ∧ B (a - 1)) ∧ q = r i ∧ q' = r j)
theorem tx_RB_s {r d : Nat → Nat} {i j x a q q' : Nat} {B : Nat → Prop} : (tx_RB r d i j B a q q' ∨ (a = x ∧ q = r j ∧ q' = r i) ∨ (a = x + 1 ∧ q = r i ∧ q' = r j)) ↔ tx_RB r d i j (fun a => B a ∨ a = x) a q q' := by
  unfold tx_RB
  constructor
  · rintro ((h | h | h) | h | h)
    · exact Or.inl h
    · exact Or.inr (Or.inl ⟨Or.inl h.1, h.2⟩)
    · exact Or.inr (Or.inr ⟨⟨h.1.1, Or.inl h.1.2⟩, h.2⟩)
    · exact Or.inr (Or.inl ⟨Or.inr h.1, h.2⟩)
    · exact Or.inr (Or.inr ⟨⟨by omega, Or.inr (by omega)⟩, h.2⟩)
  · rintro (h | ⟨h1 | h1, h2⟩ | ⟨⟨h0, h1 | h1⟩, h2⟩)
    · exact Or.inl (Or.inl h)
    · exact Or.inl (Or.inr (Or.inl ⟨h1, h2⟩))
    · exact Or.inr (Or.inl ⟨h1, h2⟩)
    · exact Or.inl (Or.inr (Or.inr ⟨⟨h0, h1⟩, h2⟩))
    · exact Or.inr (Or.inr ⟨by omega, h2⟩)
theorem tx_RB_0 {r d : Nat → Nat} {i j a q q' : Nat} : tx_R r d i j a q q' ↔ tx_RB r d i j (fun _ => False) a q q' := by
  unfold tx_RB
  constructor
  · exact Or.inl
  · rintro (h | h | h)
    · exact h
    · exact h.1.elim
    · exact h.1.2.elim
theorem tx_RB_e {r d : Nat → Nat} {i j : Nat} {B : Nat → Prop} {al : Nat → Int32} (hj : j < i) (h : tx_Rep al (tx_RB r d i j B)) (e : ∀ a, B a ↔ td_fw d a j i) : tx_Rep al (tx_R r d i (j + 1)) := by
  refine tx_rep_c h (fun a q q' ha _ _ => ?_)
  rw [← tx_R_s ha hj]
  unfold tx_RB
  rw [e a, e (a - 1)]
theorem tx_ix {x e : Nat} : nI x * 24 + nI e = nI (x * 24 + e) := by
  rw [show (24 : Int32) = nI 24 from rfl, pk_mul, nI_add]
section
variable {f_nodeCount f_draftLength f_resultLength : Int32} {a_inUse a_parentOf a_rankOf a_nameOf a_valueOf a_order a_along a_draftKind a_draftValue a_draftEnd a_tokenKind a_tokenValue a_tokenEnd a_slotLength a_setAt a_amount a_reached a_agenda a_isTemplate a_matchSlot a_priorityOf a_outSlot a_onSlot a_waiting a_result : Nat → Int32} {c : Nat} {r d : Nat → Nat}
theorem wx_link {post : SX → Prop} {R : Nat → Nat → Nat → Prop} {x e l : Nat} (hR : tx_Rep a_along R) (hx : x + 1 < 11) (he : e < 24) (hl : l < 24)
    (h : ∀ al, tx_Rep al (fun a q q' => R a q q' ∨ (a = x ∧ q = e ∧ q' = l) ∨ (a = x + 1 ∧ q = l ∧ q' = e)) → post (f_nodeCount, f_draftLength, f_resultLength, a_inUse, a_parentOf, a_rankOf, a_nameOf, a_valueOf, a_order, al, a_draftKind, a_draftValue, a_draftEnd, a_tokenKind, a_tokenValue, a_tokenEnd, a_slotLength, a_setAt, a_amount, a_reached, a_agenda, a_isTemplate, a_matchSlot, a_priorityOf, a_outSlot, a_onSlot, a_waiting, a_result)) : wpX_link post (f_nodeCount, f_draftLength, f_resultLength, a_inUse, a_parentOf, a_rankOf, a_nameOf, a_valueOf, a_order, a_along, a_draftKind, a_draftValue, a_draftEnd, a_tokenKind, a_tokenValue, a_tokenEnd, a_slotLength, a_setAt, a_amount, a_reached, a_agenda, a_isTemplate, a_matchSlot, a_priorityOf, a_outSlot, a_onSlot, a_waiting, a_result) (nI x) (nI e) (nI l) := by
  have c1 : (nI x * 24 + nI e).toNatClampNeg = x * 24 + e := by rw [tx_ix]; exact nI_clamp (by omega)
  have c2 : ((nI x + 1) * 24 + nI l).toNatClampNeg = (x + 1) * 24 + l := by rw [nI_1, tx_ix]; exact nI_clamp (by omega)
  have v1 : vp_in (nI x * 24 + nI e) 264 := by rw [tx_ix]; exact vp_in_nI (by omega) (by omega)
  have v2 : vp_in ((nI x + 1) * 24 + nI l) 264 := by rw [nI_1, tx_ix]; exact vp_in_nI (by omega) (by omega)
  unfold wpX_link
  refine ⟨v1, v1, fun al1 e1 => ⟨v2, v2, fun al2 e2 => ?_⟩⟩
  rw [c1] at e1
  rw [c2] at e2
  rw [e2]
  exact h _ (tx_link hR hx he hl al1 e1)
theorem wx_linkB {post : SX → Prop} {i j x : Nat} {B : Nat → Prop} (hR : tx_Rep a_along (tx_RB r d i j B)) (hx : x + 1 < 11) (he : r j < 24) (hl : r i < 24)
    (h : ∀ al, tx_Rep al (tx_RB r d i j (fun a => B a ∨ a = x)) → post (f_nodeCount, f_draftLength, f_resultLength, a_inUse, a_parentOf, a_rankOf, a_nameOf, a_valueOf, a_order, al, a_draftKind, a_draftValue, a_draftEnd, a_tokenKind, a_tokenValue, a_tokenEnd, a_slotLength, a_setAt, a_amount, a_reached, a_agenda, a_isTemplate, a_matchSlot, a_priorityOf, a_outSlot, a_onSlot, a_waiting, a_result)) : wpX_link post (f_nodeCount, f_draftLength, f_resultLength, a_inUse, a_parentOf, a_rankOf, a_nameOf, a_valueOf, a_order, a_along, a_draftKind, a_draftValue, a_draftEnd, a_tokenKind, a_tokenValue, a_tokenEnd, a_slotLength, a_setAt, a_amount, a_reached, a_agenda, a_isTemplate, a_matchSlot, a_priorityOf, a_outSlot, a_onSlot, a_waiting, a_result) (nI x) (nI (r j)) (nI (r i)) :=
  wx_link hR hx he hl (fun al hal => h al (tx_rep_c hal (fun _ _ _ _ _ _ => tx_RB_s)))
/-- what a place's parent says of the places before it -/
def tx_Ab (d : Nat → Nat) (r : Nat → Nat) (i : Nat) (pa : Nat → Int32) (x3 x4 : Int32) : Prop :=
  ∀ j, j < i → (bt x4 (r j) = true ↔ td_An d j i) ∧ (x3 = nI (r j) ↔ td_Pa d j i) ∧ (x3 = pa (r j) ↔ ∃ p, td_Pa d p j ∧ td_Pa d p i)
theorem wx_l2e_l {post : SX → Prop} {i : Nat} {x3 x4 : Int32} (T : td_T c r d) (hi : i < c) (ho : ∀ j, j < i → a_order j = nI (r j)) (hA : tx_Ab d r i a_parentOf x3 x4)
    (h : ∀ al, tx_Rep al (tx_R0 r d (i + 1)) → post (f_nodeCount, f_draftLength, f_resultLength, a_inUse, a_parentOf, a_rankOf, a_nameOf, a_valueOf, a_order, al, a_draftKind, a_draftValue, a_draftEnd, a_tokenKind, a_tokenValue, a_tokenEnd, a_slotLength, a_setAt, a_amount, a_reached, a_agenda, a_isTemplate, a_matchSlot, a_priorityOf, a_outSlot, a_onSlot, a_waiting, a_result)) :
    ∀ k j al, j + k = i → tx_Rep al (tx_R r d i j) → wX_linkToEarlier_50 post (nI (r i)) (nI i) x3 x4 (k + 1) (nI j) f_nodeCount f_draftLength f_resultLength a_inUse a_parentOf a_rankOf a_nameOf a_valueOf a_order al a_draftKind a_draftValue a_draftEnd a_tokenKind a_tokenValue a_tokenEnd a_slotLength a_setAt a_amount a_reached a_agenda a_isTemplate a_matchSlot a_priorityOf a_outSlot a_onSlot a_waiting a_result := by
  have c24 := T.1
  intro k
  induction k with
  | zero =>
    intro j al hj hal
    have e : j = i := by omega
    subst e
    exact br_t (nI_le (Nat.le_refl _) (by omega)) (h al (tx_rep_c hal (fun _ _ _ _ _ _ => tx_R_end)))
  | succ k ih =>
    intro j al hj hal
    have ej : (nI j).toNatClampNeg = j := nI_clamp (by omega)
    have rj := T.2.2.2.1 j (by omega)
    have ri := T.2.2.2.1 i hi
    have er : (nI (r j)).toNatClampNeg = r j := nI_clamp (by omega)
    obtain ⟨A1, A2, A3⟩ := hA j (by omega)
    have nsib : td_Pa d j i → ¬ ∃ p, td_Pa d p j ∧ td_Pa d p i := fun x ⟨p, y, z⟩ => by
      have := td_uq x z
      subst this
      exact td_nPa (Nat.le_refl _) y
    have fin : ∀ (B : Nat → Prop) (al2 : Nat → Int32), tx_Rep al2 (tx_RB r d i j B) → ((B 1 ↔ False) ∧ (B 5 ↔ False)) → (∀ a, a ≠ 1 → a ≠ 5 → (B a ↔ td_fw d a j i)) →
        wX_linkToEarlier_104 post (wX_linkToEarlier_50 post (nI (r i)) (nI i) x3 x4 (k + 1)) (nI (r i)) (nI i) x3 x4 (nI j) (nI (r j)) f_nodeCount f_draftLength f_resultLength a_inUse a_parentOf a_rankOf a_nameOf a_valueOf a_order al2 a_draftKind a_draftValue a_draftEnd a_tokenKind a_tokenValue a_tokenEnd a_slotLength a_setAt a_amount a_reached a_agenda a_isTemplate a_matchSlot a_priorityOf a_outSlot a_onSlot a_waiting a_result := by
      intro B al2 h2 b15 bo
      have nx : ∀ (B' : Nat → Prop) (al3 : Nat → Int32), tx_Rep al3 (tx_RB r d i j B') → (∀ a, B' a ↔ td_fw d a j i) → wX_linkToEarlier_50 post (nI (r i)) (nI i) x3 x4 (k + 1) (nI (j + 1)) f_nodeCount f_draftLength f_resultLength a_inUse a_parentOf a_rankOf a_nameOf a_valueOf a_order al3 a_draftKind a_draftValue a_draftEnd a_tokenKind a_tokenValue a_tokenEnd a_slotLength a_setAt a_amount a_reached a_agenda a_isTemplate a_matchSlot a_priorityOf a_outSlot a_onSlot a_waiting a_result :=
        fun B' al3 h3 e3 => ih (j + 1) al3 (by omega) (tx_RB_e (by omega) h3 e3)
      unfold wX_linkToEarlier_104
      by_cases z : td_Pa d j i
      · refine br_t (A2.mpr z) (wx_linkB (x := 1) h2 (by omega) rj ri (fun al3 h3 => nm_r (nI_1 j) (nx _ al3 h3 (fun a => ?_))))
        by_cases a1 : a = 1
        · subst a1
          exact ⟨fun _ => Or.inl ⟨rfl, z⟩, fun _ => Or.inr rfl⟩
        · by_cases a5 : a = 5
          · subst a5
            constructor
            · rintro (w | w)
              · exact (b15.2.mp w).elim
              · omega
            · rintro (w | w | w | w | w)
              · omega
              · omega
              · exact absurd w.2 (nsib z)
              · omega
              · omega
          · rw [← bo a a1 a5]
            exact ⟨fun w => w.elim id (fun y => absurd y a1), Or.inl⟩
      · refine br_f (fun w => z (A2.mp w)) ⟨vp_in_nI rj (by omega), ?_⟩
        by_cases y : ∃ p, td_Pa d p j ∧ td_Pa d p i
        · refine br_t (by rw [er]; exact A3.mpr y) (wx_linkB (x := 5) h2 (by omega) rj ri (fun al3 h3 => nm_r (nI_1 j) (nx _ al3 h3 (fun a => ?_))))
          by_cases a5 : a = 5
          · subst a5
            exact ⟨fun _ => Or.inr (Or.inr (Or.inl ⟨rfl, y⟩)), fun _ => Or.inr rfl⟩
          · by_cases a1 : a = 1
            · subst a1
              constructor
              · rintro (w | w)
                · exact (b15.1.mp w).elim
                · omega
              · rintro (w | w | w | w | w)
                · exact absurd w.2 z
                · omega
                · omega
                · omega
                · omega
            · rw [← bo a a1 a5]
              exact ⟨fun w => w.elim id (fun y => absurd y a5), Or.inl⟩
        · refine br_f (by rw [er]; exact fun w => y (A3.mp w)) (nm_r (nI_1 j) (nx B al2 h2 (fun a => ?_)))
          by_cases a5 : a = 5
          · subst a5
            constructor
            · exact fun w => (b15.2.mp w).elim
            · rintro (w | w | w | w | w)
              · omega
              · omega
              · exact absurd w.2 y
              · omega
              · omega
          · by_cases a1 : a = 1
            · subst a1
              constructor
              · exact fun w => (b15.1.mp w).elim
              · rintro (w | w | w | w | w)
                · exact absurd w.2 z
                · omega
                · omega
                · omega
                · omega
            · exact bo a a1 a5
    have h0 : tx_Rep al (tx_RB r d i j (fun _ => False)) := tx_rep_c hal (fun _ _ _ _ _ _ => tx_RB_0)
    refine br_f (nI_ge (by omega) (by omega)) ⟨vp_in_nI (by omega) (by omega), nm_r (e' := nI (r j)) (by rw [ej]; exact ho j (by omega)) ?_⟩
    by_cases z : td_An d j i
    · refine br_f (fun w => ?_) (wx_linkB (x := 3) h0 (by omega) rj ri (fun al1 h1 => wx_linkB (x := 9) h1 (by omega) rj ri (fun al2 h2 => fin _ al2 h2 ⟨by simp, by simp⟩ (fun a a1 a5 => ?_))))
      · rw [mk_f (by omega)] at w
        rw [A1.mpr z] at w
        cases w
      · constructor
        · rintro ((w | w) | w)
          · exact w.elim
          · exact Or.inr (Or.inl ⟨w, z⟩)
          · exact Or.inr (Or.inr (Or.inr (Or.inr ⟨w, z⟩)))
        · rintro (w | w | w | w | w)
          · exact absurd w.1 a1
          · exact Or.inl (Or.inr w.1)
          · exact absurd w.1 a5
          · exact absurd z w.2
          · exact Or.inr w.1
    · refine br_t ((mk_f (by omega)).mpr (tz_nb (fun w => z (A1.mp w)))) (wx_linkB (x := 7) h0 (by omega) rj ri (fun al2 h2 => fin _ al2 h2 ⟨by simp, by simp⟩ (fun a a1 a5 => ?_)))
      constructor
      · rintro (w | w)
        · exact w.elim
        · exact Or.inr (Or.inr (Or.inr (Or.inl ⟨w, z⟩)))
      · rintro (w | w | w | w | w)
        · exact absurd w.1 a1
        · exact absurd w.2 z
        · exact absurd w.1 a5
        · exact Or.inr w.1
        · exact absurd w.2 z
end
end
section
/-! laying out, putting in and taking out of a list of children -/
theorem td_on10 {d : Nat → Nat} {i k : Nat} : td_on d 10 i k ↔ (td_An d k i ∨ k = i) := by unfold td_on; simp
theorem td_on9 {d : Nat → Nat} {i k : Nat} : td_on d 9 i k ↔ (td_An d i k ∨ k = i) := by unfold td_on; simp
theorem td_on1 {d : Nat → Nat} {i k : Nat} : td_on d 1 i k ↔ td_Pa d i k := by unfold td_on; simp
theorem tx_R0_on {c : Nat} {r d : Nat → Nat} (T : td_T c r d) {i a p j : Nat} (hi : i ≤ c) (hp : p < i) (hj : j < i) : tx_R0 r d i a (r p) (r j) ↔ td_on d a p j := by
  constructor
  · rintro ⟨x, y, hx, hy, e1, e2, h⟩
    rw [T.2.2.2.2 x p (by omega) (by omega) e1, T.2.2.2.2 y j (by omega) (by omega) e2] at h
    exact h
  · exact fun h => ⟨p, j, hp, hj, rfl, rfl, h⟩
def tx_ai (u pa rk : Nat → Int32) (n : Nat) (par k : Int32) (i : Nat) (rk' : Nat → Int32) : Prop :=
  ∀ q, q < 24 → ((q < i ∧ q ≠ n ∧ u q ≠ 0 ∧ pa q = par ∧ k ≤ rk q) → rk' q = rk q + 1) ∧ (¬ (q < i ∧ q ≠ n ∧ u q ≠ 0 ∧ pa q = par ∧ k ≤ rk q) → rk' q = rk q)
theorem tx_ai_0 {u pa rk : Nat → Int32} {n : Nat} {par k : Int32} : tx_ai u pa rk n par k 0 rk := fun q _ => ⟨fun h => by omega, fun _ => rfl⟩
theorem tx_ai_n {u pa rk rk' : Nat → Int32} {n i : Nat} {par k : Int32} (h : tx_ai u pa rk n par k i rk') (c : ¬ (i ≠ n ∧ u i ≠ 0 ∧ pa i = par ∧ k ≤ rk i)) : tx_ai u pa rk n par k (i + 1) rk' := by
  intro q hq
  obtain ⟨h1, h2⟩ := h q hq
  refine ⟨fun x => h1 ⟨?_, x.2⟩, fun x => h2 (fun y => x ⟨by omega, y.2⟩)⟩
  by_cases z : q = i
  · subst z; exact absurd x.2 c
  · omega
theorem tx_ai_s {u pa rk rk' : Nat → Int32} {n i : Nat} {par k : Int32} (h : tx_ai u pa rk n par k i rk') (c : i ≠ n ∧ u i ≠ 0 ∧ pa i = par ∧ k ≤ rk i) (hi : i < 24) : tx_ai u pa rk n par k (i + 1) (upd rk' i (rk' i + 1)) := by
  intro q hq
  obtain ⟨h1, h2⟩ := h q hq
  by_cases z : q = i
  · subst z
    rw [pk_us, h2 (fun y => by omega)]
    exact ⟨fun _ => rfl, fun y => absurd ⟨by omega, c⟩ y⟩
  · rw [pk_un z]
    exact ⟨fun x => h1 ⟨by omega, x.2⟩, fun x => h2 (fun y => x ⟨by omega, y.2⟩)⟩
def tx_di (u pa rk : Nat → Int32) (n i : Nat) (rk' : Nat → Int32) : Prop :=
  ∀ q, q < 24 → ((q < i ∧ u q ≠ 0 ∧ pa q = pa n ∧ rk n < rk q) → rk' q = rk q - 1) ∧ (¬ (q < i ∧ u q ≠ 0 ∧ pa q = pa n ∧ rk n < rk q) → rk' q = rk q)
theorem tx_di_0 {u pa rk : Nat → Int32} {n : Nat} : tx_di u pa rk n 0 rk := fun q _ => ⟨fun h => by omega, fun _ => rfl⟩
theorem tx_di_n {u pa rk rk' : Nat → Int32} {n i : Nat} (h : tx_di u pa rk n i rk') (c : ¬ (u i ≠ 0 ∧ pa i = pa n ∧ rk n < rk i)) : tx_di u pa rk n (i + 1) rk' := by
  intro q hq
  obtain ⟨h1, h2⟩ := h q hq
  refine ⟨fun x => h1 ⟨?_, x.2⟩, fun x => h2 (fun y => x ⟨by omega, y.2⟩)⟩
  by_cases z : q = i
  · subst z; exact absurd x.2 c
  · omega
theorem tx_di_s {u pa rk rk' : Nat → Int32} {n i : Nat} (h : tx_di u pa rk n i rk') (c : u i ≠ 0 ∧ pa i = pa n ∧ rk n < rk i) (hi : i < 24) : tx_di u pa rk n (i + 1) (upd rk' i (rk' i - 1)) := by
  intro q hq
  obtain ⟨h1, h2⟩ := h q hq
  by_cases z : q = i
  · subst z
    rw [pk_us, h2 (fun y => by omega)]
    exact ⟨fun _ => rfl, fun y => absurd ⟨by omega, c⟩ y⟩
  · rw [pk_un z]
    exact ⟨fun x => h1 ⟨by omega, x.2⟩, fun x => h2 (fun y => x ⟨by omega, y.2⟩)⟩
theorem tx_di_i {u pa rk rk' : Nat → Int32} {n i : Nat} (h : tx_di u pa rk n i rk') (hi : i < 24) : rk' i = rk i := (h i hi).2 (fun y => by omega)
theorem tx_di_k {u pa rk rk' : Nat → Int32} {n i : Nat} (h : tx_di u pa rk n i rk') (hn : n < 24) : rk' n = rk n := (h n hn).2 (fun y => Int32.lt_irrefl y.2.2.2)
section
variable {f_nodeCount f_draftLength f_resultLength : Int32} {a_inUse a_parentOf a_rankOf a_nameOf a_valueOf a_order a_along a_draftKind a_draftValue a_draftEnd a_tokenKind a_tokenValue a_tokenEnd a_slotLength a_setAt a_amount a_reached a_agenda a_isTemplate a_matchSlot a_priorityOf a_outSlot a_onSlot a_waiting a_result : Nat → Int32} {c : Nat} {r d : Nat → Nat}
theorem tx_Ab_p {i p : Nat} {x4 : Int32} (T : td_T c r d) (P : tx_PR c r d a_parentOf a_rankOf) (hi : i < c) (hp : td_Pa d p i) (hal : tx_Rep a_along (tx_R0 r d i)) (e4 : x4 = a_along (10 * 24 + r p)) :
    tx_Ab d r i a_parentOf (a_parentOf (r i)) x4 := by
  intro j hj
  have hpi := hp.1
  have rp := T.2.2.2.1 p (by omega)
  have rj := T.2.2.2.1 j (by omega)
  have pe := (P.1 p i hi hp).1
  have ejp : r p = r j ↔ p = j := ⟨fun e => T.2.2.2.2 p j (by omega) (by omega) e, fun e => by rw [e]⟩
  refine ⟨?_, ?_, ?_⟩
  · rw [e4, (hal 10 (by omega) (r p) rp).2 (r j) rj, tx_R0_on T (by omega) hpi hj, td_on10, td_anPa hp]
    exact or_comm
  · rw [pe, nI_eq (by omega) (by omega), ejp]
    exact ⟨fun e => by rw [← e]; exact hp, fun x => td_uq hp x⟩
  · by_cases j0 : j = 0
    · subst j0
      rw [pe, (P.2 (by omega)).1]
      exact ⟨fun e => absurd e (tx_m1' (by omega)), fun ⟨q, x, _⟩ => absurd x td_p0⟩
    · obtain ⟨q, hq⟩ := td_ex T.2.1 (i := j) (by omega) (by omega)
      have hqj := hq.1
      have rq := T.2.2.2.1 q (by omega)
      rw [pe, (P.1 q j (by omega) hq).1, nI_eq (by omega) (by omega)]
      constructor
      · intro e
        have := T.2.2.2.2 p q (by omega) (by omega) e
        subst this
        exact ⟨p, hq, hp⟩
      · rintro ⟨w, x, y⟩
        rw [td_uq hp y, td_uq hq x]
theorem wx_l2e {post : SX → Prop} {i : Nat} (T : td_T c r d) (P : tx_PR c r d a_parentOf a_rankOf) (hi : i < c) (ho : ∀ j, j < i → a_order j = nI (r j)) (hal : tx_Rep a_along (tx_R0 r d i))
    (h : ∀ al, tx_Rep al (tx_R0 r d (i + 1)) → post (f_nodeCount, f_draftLength, f_resultLength, a_inUse, a_parentOf, a_rankOf, a_nameOf, a_valueOf, a_order, al, a_draftKind, a_draftValue, a_draftEnd, a_tokenKind, a_tokenValue, a_tokenEnd, a_slotLength, a_setAt, a_amount, a_reached, a_agenda, a_isTemplate, a_matchSlot, a_priorityOf, a_outSlot, a_onSlot, a_waiting, a_result)) : wpX_linkToEarlier post (f_nodeCount, f_draftLength, f_resultLength, a_inUse, a_parentOf, a_rankOf, a_nameOf, a_valueOf, a_order, a_along, a_draftKind, a_draftValue, a_draftEnd, a_tokenKind, a_tokenValue, a_tokenEnd, a_slotLength, a_setAt, a_amount, a_reached, a_agenda, a_isTemplate, a_matchSlot, a_priorityOf, a_outSlot, a_onSlot, a_waiting, a_result) (nI (r i)) (nI i) := by
  have ri := T.2.2.2.1 i hi
  have er : (nI (r i)).toNatClampNeg = r i := nI_clamp (by omega)
  have key : ∀ x4, tx_Ab d r i a_parentOf (a_parentOf (r i)) x4 → wX_linkToEarlier_26 post (nI (r i)) (nI i) (a_parentOf (r i)) x4 f_nodeCount f_draftLength f_resultLength a_inUse a_parentOf a_rankOf a_nameOf a_valueOf a_order a_along a_draftKind a_draftValue a_draftEnd a_tokenKind a_tokenValue a_tokenEnd a_slotLength a_setAt a_amount a_reached a_agenda a_isTemplate a_matchSlot a_priorityOf a_outSlot a_onSlot a_waiting a_result := by
    intro x4 hA
    have c0 : ((0 : Int32) + nI (r i)).toNatClampNeg = 0 * 24 + r i := by rw [Int32.zero_add, er]; omega
    unfold wX_linkToEarlier_26
    refine ⟨by rw [Int32.zero_add]; exact vp_in_nI (by omega) (by omega), fun al1 e1 => ?_⟩
    rw [c0] at e1
    have h1 : tx_Rep al1 (fun a q q' => tx_R0 r d i a q q' ∨ (a = 0 ∧ q = r i ∧ q' = r i)) := by
      rw [e1]
      refine tx_set hal (by omega) ri ri (fun q' _ => ?_)
      rintro ⟨x, y, hx, hy, e, -⟩
      have := T.2.2.2.2 x i (by omega) hi e
      omega
    refine wx_link (x := 9) h1 (by omega) ri ri (fun al2 h2 => ⟨i + 1, wx_l2e_l T hi ho hA h i 0 al2 (by omega) (tx_rep_c h2 (fun a q q' ha _ _ => ?_))⟩)
    rw [← tx_R_beg ha]
    constructor
    · rintro ((w | w) | w | w)
      · exact Or.inl w
      · exact Or.inr ⟨Or.inl w.1, w.2⟩
      · exact Or.inr ⟨Or.inr (Or.inl w.1), w.2⟩
      · exact Or.inr ⟨Or.inr (Or.inr w.1), w.2⟩
    · rintro (w | ⟨w | w | w, v⟩)
      · exact Or.inl (Or.inl w)
      · exact Or.inl (Or.inr ⟨w, v⟩)
      · exact Or.inr (Or.inl ⟨w, v⟩)
      · exact Or.inr (Or.inr ⟨w, v⟩)
  unfold wpX_linkToEarlier
  refine ⟨vp_in_nI ri (by omega), nm_r (e' := a_parentOf (r i)) (by rw [er]) ?_⟩
  by_cases z : i = 0
  · subst z
    exact br_t (P.2 (by omega)).1 (key 0 (fun j hj => by omega))
  · obtain ⟨p, hp⟩ := td_ex T.2.1 (i := i) (by omega) hi
    have hpi := hp.1
    have rp := T.2.2.2.1 p (by omega)
    have pe := (P.1 p i hi hp).1
    have e2 : (240 : Int32) + nI (r p) = nI (10 * 24 + r p) := by
      rw [show (240 : Int32) = nI (10 * 24) from rfl, nI_add]
    refine br_f (by rw [pe]; exact tx_m1' (by omega)) ⟨by rw [pe, e2]; exact vp_in_nI (by omega) (by omega), key _ (tx_Ab_p T P hi hp hal ?_)⟩
    rw [pe, e2, nI_clamp (by omega)]
theorem wx_lay_l {post : SX → Prop} (T : td_T c r d) (U : tx_U c r a_inUse) (P : tx_PR c r d a_parentOf a_rankOf)
    (h : ∀ od al, (∀ j, j < c → od j = nI (r j)) → tx_Rep al (tx_R0 r d c) → post (nI c, f_draftLength, f_resultLength, a_inUse, a_parentOf, a_rankOf, a_nameOf, a_valueOf, od, al, a_draftKind, a_draftValue, a_draftEnd, a_tokenKind, a_tokenValue, a_tokenEnd, a_slotLength, a_setAt, a_amount, a_reached, a_agenda, a_isTemplate, a_matchSlot, a_priorityOf, a_outSlot, a_onSlot, a_waiting, a_result)) :
    ∀ k i od al x1, i + k = c → (i < c → x1 = nI (r i)) → (∀ j, j < i → od j = nI (r j)) → tx_Rep al (tx_R0 r d i) → wX_layOut_26 post (k + 1) x1 (nI i) (nI c) f_draftLength f_resultLength a_inUse a_parentOf a_rankOf a_nameOf a_valueOf od al a_draftKind a_draftValue a_draftEnd a_tokenKind a_tokenValue a_tokenEnd a_slotLength a_setAt a_amount a_reached a_agenda a_isTemplate a_matchSlot a_priorityOf a_outSlot a_onSlot a_waiting a_result := by
  have c24 := T.1
  intro k
  induction k with
  | zero =>
    intro i od al x1 hi hx ho hal
    have e : i = c := by omega
    subst e
    exact br_t (nI_le (Nat.le_refl _) (by omega)) (h od al ho hal)
  | succ k ih =>
    intro i od al x1 hi hx ho hal
    have e1 := hx (by omega)
    subst e1
    have ri := T.2.2.2.1 i (by omega)
    have ei : (nI i).toNatClampNeg = i := nI_clamp (by omega)
    refine br_f (nI_ge (by omega) (by omega)) (br_f (tx_m1' (by omega)) ⟨vp_in_nI (by omega) (by omega), fun od' eo => ?_⟩)
    rw [ei] at eo
    have ho' : ∀ j, j < i + 1 → od' j = nI (r j) := fun j hj => by
      rw [eo]
      by_cases z : j = i
      · subst z; exact pk_us
      · rw [pk_un z]; exact ho j (by omega)
    exact wx_l2e T P (by omega) (fun j hj => ho' j (by omega)) hal (fun al' h' => wx_next T U P (by omega)
      (fun z => nm_r (nI_1 i) (ih (i + 1) od' al' _ (by omega) (fun _ => rfl) ho' h'))
      (fun z => nm_r (nI_1 i) (ih (i + 1) od' al' _ (by omega) (fun y => by omega) ho' h')))
theorem wx_layOut {post : SX → Prop} (T : td_T c r d) (U : tx_U c r a_inUse) (P : tx_PR c r d a_parentOf a_rankOf)
    (h : ∀ od al, (∀ j, j < c → od j = nI (r j)) → tx_Rep al (tx_R0 r d c) → post (nI c, f_draftLength, f_resultLength, a_inUse, a_parentOf, a_rankOf, a_nameOf, a_valueOf, od, al, a_draftKind, a_draftValue, a_draftEnd, a_tokenKind, a_tokenValue, a_tokenEnd, a_slotLength, a_setAt, a_amount, a_reached, a_agenda, a_isTemplate, a_matchSlot, a_priorityOf, a_outSlot, a_onSlot, a_waiting, a_result)) : wpX_layOut post (nI c, f_draftLength, f_resultLength, a_inUse, a_parentOf, a_rankOf, a_nameOf, a_valueOf, a_order, a_along, a_draftKind, a_draftValue, a_draftEnd, a_tokenKind, a_tokenValue, a_tokenEnd, a_slotLength, a_setAt, a_amount, a_reached, a_agenda, a_isTemplate, a_matchSlot, a_priorityOf, a_outSlot, a_onSlot, a_waiting, a_result) := by
  have key : ∀ k i al, i + k = 264 → (∀ q, q < i → al q = 0) → wX_layOut_2 post (nI c) f_draftLength f_resultLength (k + 1) (nI i) a_inUse a_parentOf a_rankOf a_nameOf a_valueOf a_order al a_draftKind a_draftValue a_draftEnd a_tokenKind a_tokenValue a_tokenEnd a_slotLength a_setAt a_amount a_reached a_agenda a_isTemplate a_matchSlot a_priorityOf a_outSlot a_onSlot a_waiting a_result := by
    intro k
    induction k with
    | zero =>
      intro i al hi hz
      refine br_t (nI_le (a := 264) (b := i) (by omega) (by omega)) ⟨c + 1, wx_lay_l T U P h c 0 a_order al 0 (by omega) (fun _ => by rw [T.2.2.1]; rfl) (fun j hj => by omega) (fun a ha q hq => ?_)⟩
      rw [hz _ (by omega)]
      refine ⟨mk_24_0, fun q' hq' => ?_⟩
      rw [b_0]
      exact ⟨fun x => (by cases x), fun ⟨x, y, hx, _⟩ => by omega⟩
    | succ k ih =>
      intro i al hi hz
      have ei : (nI i).toNatClampNeg = i := nI_clamp (by omega)
      refine br_f (nI_ge (a := i) (b := 264) (by omega) (by omega)) ⟨vp_in_nI (by omega) (by omega), nm_r (e' := upd al i 0) (by rw [ei]) (nm_r (nI_1 i) (ih (i + 1) _ (by omega) (fun q hq => ?_)))⟩
      by_cases z : q = i
      · subst z; exact pk_us
      · rw [pk_un z]; exact hz q (by omega)
  exact ⟨265, key 264 0 a_along rfl (fun q hq => by omega)⟩
theorem wx_attach {post : SX → Prop} {n : Nat} {par k : Int32} (hn : n < 24) (h : ∀ pa2 rk2, tx_Att a_inUse a_parentOf a_rankOf n par k pa2 rk2 → post (f_nodeCount, f_draftLength, f_resultLength, a_inUse, pa2, rk2, a_nameOf, a_valueOf, a_order, a_along, a_draftKind, a_draftValue, a_draftEnd, a_tokenKind, a_tokenValue, a_tokenEnd, a_slotLength, a_setAt, a_amount, a_reached, a_agenda, a_isTemplate, a_matchSlot, a_priorityOf, a_outSlot, a_onSlot, a_waiting, a_result)) : wpX_attach post (f_nodeCount, f_draftLength, f_resultLength, a_inUse, a_parentOf, a_rankOf, a_nameOf, a_valueOf, a_order, a_along, a_draftKind, a_draftValue, a_draftEnd, a_tokenKind, a_tokenValue, a_tokenEnd, a_slotLength, a_setAt, a_amount, a_reached, a_agenda, a_isTemplate, a_matchSlot, a_priorityOf, a_outSlot, a_onSlot, a_waiting, a_result) (nI n) par k := by
  have en : (nI n).toNatClampNeg = n := nI_clamp (by omega)
  have key : ∀ m i rk', i + m = 24 → tx_ai a_inUse a_parentOf a_rankOf n par k i rk' → wX_attach_3 post (nI n) par k f_nodeCount f_draftLength f_resultLength (m + 1) (nI i) a_inUse a_parentOf rk' a_nameOf a_valueOf a_order a_along a_draftKind a_draftValue a_draftEnd a_tokenKind a_tokenValue a_tokenEnd a_slotLength a_setAt a_amount a_reached a_agenda a_isTemplate a_matchSlot a_priorityOf a_outSlot a_onSlot a_waiting a_result := by
    intro m
    induction m with
    | zero =>
      intro i rk' hi hr
      have e : i = 24 := by omega
      subst e
      refine br_t (nI_le (a := 24) (b := 24) (by omega) (by omega)) ⟨vp_in_nI hn (by omega), nm_r (e' := upd a_parentOf n par) (by rw [en]) ⟨vp_in_nI hn (by omega), nm_r (e' := upd rk' n k) (by rw [en]) (h _ _ ⟨pk_us, pk_us, fun q hq hqn => ⟨pk_un hqn, fun x => ?_, fun x => ?_⟩⟩)⟩⟩
      · rw [pk_un hqn]; exact (hr q hq).1 ⟨hq, hqn, x⟩
      · rw [pk_un hqn]; exact (hr q hq).2 (fun y => x y.2.2)
    | succ m ih =>
      intro i rk' hi hr
      have ei : (nI i).toNatClampNeg = i := nI_clamp (by omega)
      have vi : vp_in (nI i) 24 := vp_in_nI (by omega) (by omega)
      have ri : rk' i = a_rankOf i := (hr i (by omega)).2 (fun y => by omega)
      have nx : ¬ (i ≠ n ∧ a_inUse i ≠ 0 ∧ a_parentOf i = par ∧ k ≤ a_rankOf i) → wX_attach_3 post (nI n) par k f_nodeCount f_draftLength f_resultLength (m + 1) (nI (i + 1)) a_inUse a_parentOf rk' a_nameOf a_valueOf a_order a_along a_draftKind a_draftValue a_draftEnd a_tokenKind a_tokenValue a_tokenEnd a_slotLength a_setAt a_amount a_reached a_agenda a_isTemplate a_matchSlot a_priorityOf a_outSlot a_onSlot a_waiting a_result := fun z => ih (i + 1) rk' (by omega) (tx_ai_n hr z)
      refine br_f (nI_ge (a := i) (b := 24) (by omega) (by omega)) ⟨vi, ?_⟩
      by_cases z1 : a_inUse i = 0
      · exact br_t (by rw [ei]; exact z1) (nm_r (nI_1 i) (nx (fun y => y.2.1 z1)))
      refine br_f (by rw [ei]; exact z1) ?_
      by_cases z2 : i = n
      · exact br_t (by rw [z2]) (nm_r (nI_1 i) (nx (fun y => y.1 z2)))
      refine br_f (fun w => z2 ((nI_eq (by omega) (by omega)).mp w)) ⟨vi, ?_⟩
      by_cases z3 : a_parentOf i = par
      · refine br_t (by rw [ei]; exact z3) ⟨vi, ?_⟩
        by_cases z4 : rk' i < k
        · exact br_t (by rw [ei]; exact z4) (nm_r (nI_1 i) (nx (fun y => Int32.not_lt.mpr y.2.2.2 (by rw [← ri]; exact z4))))
        · refine br_f (by rw [ei]; exact z4) ⟨vi, vi, nm_r (e' := upd rk' i (rk' i + 1)) (by rw [ei]) (nm_r (nI_1 i) (ih (i + 1) _ (by omega) (tx_ai_s hr ⟨z2, z1, z3, ?_⟩ (by omega))))⟩
          rw [← ri]; exact Int32.not_lt.mp z4
      · exact br_f (by rw [ei]; exact z3) (nm_r (nI_1 i) (nx (fun y => z3 y.2.2.1)))
  exact ⟨25, key 24 0 a_rankOf rfl tx_ai_0⟩
theorem wx_detach {post : SX → Prop} {n : Nat} (hn : n < 24) (h : ∀ rk1, tx_Det a_inUse a_parentOf a_rankOf n rk1 → post (f_nodeCount, f_draftLength, f_resultLength, a_inUse, a_parentOf, rk1, a_nameOf, a_valueOf, a_order, a_along, a_draftKind, a_draftValue, a_draftEnd, a_tokenKind, a_tokenValue, a_tokenEnd, a_slotLength, a_setAt, a_amount, a_reached, a_agenda, a_isTemplate, a_matchSlot, a_priorityOf, a_outSlot, a_onSlot, a_waiting, a_result)) : wpX_detach post (f_nodeCount, f_draftLength, f_resultLength, a_inUse, a_parentOf, a_rankOf, a_nameOf, a_valueOf, a_order, a_along, a_draftKind, a_draftValue, a_draftEnd, a_tokenKind, a_tokenValue, a_tokenEnd, a_slotLength, a_setAt, a_amount, a_reached, a_agenda, a_isTemplate, a_matchSlot, a_priorityOf, a_outSlot, a_onSlot, a_waiting, a_result) (nI n) := by
  have en : (nI n).toNatClampNeg = n := nI_clamp (by omega)
  have vn : vp_in (nI n) 24 := vp_in_nI hn (by omega)
  have key : ∀ m i rk', i + m = 24 → tx_di a_inUse a_parentOf a_rankOf n i rk' → wX_detach_2 post (nI n) f_nodeCount f_draftLength f_resultLength (m + 1) (nI i) a_inUse a_parentOf rk' a_nameOf a_valueOf a_order a_along a_draftKind a_draftValue a_draftEnd a_tokenKind a_tokenValue a_tokenEnd a_slotLength a_setAt a_amount a_reached a_agenda a_isTemplate a_matchSlot a_priorityOf a_outSlot a_onSlot a_waiting a_result := by
    intro m
    induction m with
    | zero =>
      intro i rk' hi hr
      have e : i = 24 := by omega
      subst e
      refine br_t (nI_le (a := 24) (b := 24) (by omega) (by omega)) (h _ (fun q hq => ⟨fun x => ?_, fun x => ?_⟩))
      · exact (hr q hq).1 ⟨hq, x⟩
      · exact (hr q hq).2 (fun y => x y.2)
    | succ m ih =>
      intro i rk' hi hr
      have ei : (nI i).toNatClampNeg = i := nI_clamp (by omega)
      have vi : vp_in (nI i) 24 := vp_in_nI (by omega) (by omega)
      have ri := tx_di_i hr (show i < 24 by omega)
      have rn := tx_di_k hr hn
      have nx : ¬ (a_inUse i ≠ 0 ∧ a_parentOf i = a_parentOf n ∧ a_rankOf n < a_rankOf i) → wX_detach_2 post (nI n) f_nodeCount f_draftLength f_resultLength (m + 1) (nI (i + 1)) a_inUse a_parentOf rk' a_nameOf a_valueOf a_order a_along a_draftKind a_draftValue a_draftEnd a_tokenKind a_tokenValue a_tokenEnd a_slotLength a_setAt a_amount a_reached a_agenda a_isTemplate a_matchSlot a_priorityOf a_outSlot a_onSlot a_waiting a_result := fun z => ih (i + 1) rk' (by omega) (tx_di_n hr z)
      refine br_f (nI_ge (a := i) (b := 24) (by omega) (by omega)) ⟨vi, ?_⟩
      by_cases z1 : a_inUse i = 0
      · exact br_t (by rw [ei]; exact z1) (nm_r (nI_1 i) (nx (fun y => y.1 z1)))
      refine br_f (by rw [ei]; exact z1) ⟨vi, vn, ?_⟩
      by_cases z3 : a_parentOf i = a_parentOf n
      · refine br_t (by rw [ei, en]; exact z3) ⟨vi, vn, ?_⟩
        by_cases z4 : rk' i ≤ rk' n
        · exact br_t (by rw [ei, en]; exact z4) (nm_r (nI_1 i) (nx (fun y => Int32.not_le.mpr y.2.2 (by rw [← ri, ← rn]; exact z4))))
        · refine br_f (by rw [ei, en]; exact z4) ⟨vi, vi, nm_r (e' := upd rk' i (rk' i - 1)) (by rw [ei]) (nm_r (nI_1 i) (ih (i + 1) _ (by omega) (tx_di_s hr ⟨z1, z3, ?_⟩ (by omega))))⟩
          rw [← ri, ← rn]; exact Int32.not_le.mp z4
      · exact br_f (by rw [ei, en]; exact z3) (nm_r (nI_1 i) (nx (fun y => z3 y.2.1)))
  exact ⟨25, key 24 0 a_rankOf rfl tx_di_0⟩
end
end
section
/-! walks of the reference over its tree: reading -/
def ty_wh (c : Nat) (r : Nat → Nat) (v p : Int32) : Prop := (∃ i, i < c ∧ v = nI (r i) ∧ p = nI i) ∨ ((∀ i, i < c → v ≠ nI (r i)) ∧ p = -1)
theorem tz_b0 : vp_nar .boolean 0 = 0 := rfl
theorem tz_b1 : vp_nar .boolean 1 = 1 := rfl
theorem tz_m1lt : (-1 : Int32) < 0 := by decide
theorem tz_n0m1 : ¬ (0 : Int32) ≤ -1 := by decide
theorem wy_in0 {post : Int32 → Prop} {v : Int32} {n : Nat} (hn : n < 2 ^ 31) (h1 : ∀ j, j ≤ n → v = nI j → post 1) (h0 : (∀ j, j ≤ n → v ≠ nI j) → post 0) : wpY_in post v 0 (nI n) := by
  unfold wpY_in
  by_cases z : v < 0
  · exact br_t z (h0 (fun j hj e => nI_pos (n := j) (by omega) (by rw [← e]; exact z)))
  · obtain ⟨j, hj, rfl⟩ := nI_of z
    by_cases y : j ≤ n
    · exact br_f z (br_f (nI_nlt y hn) (h1 j y rfl))
    · exact br_f z (br_t (nI_lt (by omega) hj) (h0 (fun l hl e => by rw [nI_eq hj (by omega)] at e; omega)))
section
variable {f_count f_top f_listed f_outputs : Int32} {a_row a_depth a_name a_value a_moved a_kind a_with a_length a_sets a_fresh a_type a_number a_set a_list a_there a_match a_priority a_out a_on a_todo a_within a_output : Nat → Int32} {c : Nat} {r d : Nat → Nat}
theorem wy_where {post : Int32 → Prop} {v : Int32} (T : td_T c r d) (Y : re_YT c r d f_count a_row a_depth) (h : ∀ p, ty_wh c r v p → post p) : wpY_where post (f_count, f_top, f_listed, f_outputs, a_row, a_depth, a_name, a_value, a_moved, a_kind, a_with, a_length, a_sets, a_fresh, a_type, a_number, a_set, a_list, a_there, a_match, a_priority, a_out, a_on, a_todo, a_within, a_output) v := by
  have c24 := T.1
  obtain ⟨rfl, hr, hd⟩ := Y
  have key : ∀ k i, i + k = c → (∀ j, j < i → v ≠ nI (r j)) → wY_where_2 post v (nI c) f_top f_listed f_outputs a_row a_depth a_name a_value a_moved a_kind a_with a_length a_sets a_fresh a_type a_number a_set a_list a_there a_match a_priority a_out a_on a_todo a_within a_output (k + 1) (nI i) := by
    intro k
    induction k with
    | zero =>
      intro i hi hv
      exact br_t (nI_le (by omega) (by omega)) (h _ (Or.inr ⟨fun j hj => hv j (by omega), rfl⟩))
    | succ k ih =>
      intro i hi hv
      have ei : a_row (nI i).toNatClampNeg = nI (r i) := by rw [nI_clamp (by omega)]; exact hr i (by omega)
      refine br_f (nI_ge (by omega) (by omega)) ⟨vp_in_nI (by omega) (by omega), ?_⟩
      by_cases z : v = nI (r i)
      · exact br_t (by rw [ei, z]) (h _ (Or.inl ⟨i, by omega, z, rfl⟩))
      · refine br_f (fun w => z (by rw [← w, ei])) (nm_r (nI_1 i) (ih (i + 1) (by omega) (fun j hj => ?_)))
        by_cases y : j = i
        · subst y; exact z
        · exact hv j (by omega)
  exact ⟨c + 1, key c 0 (by omega) (fun j hj => by omega)⟩
theorem wy_where1 {post : Int32 → Prop} {i : Nat} (T : td_T c r d) (Y : re_YT c r d f_count a_row a_depth) (hi : i < c) (h : post (nI i)) : wpY_where post (f_count, f_top, f_listed, f_outputs, a_row, a_depth, a_name, a_value, a_moved, a_kind, a_with, a_length, a_sets, a_fresh, a_type, a_number, a_set, a_list, a_there, a_match, a_priority, a_out, a_on, a_todo, a_within, a_output) (nI (r i)) := by
  refine wy_where T Y (fun p hp => ?_)
  rcases hp with ⟨j, hj, e, ep⟩ | ⟨hn, -⟩
  · rw [nI_eq (by have := T.2.2.2.1 i hi; omega) (by have := T.2.2.2.1 j hj; omega)] at e
    rw [ep, ← T.2.2.2.2 i j hi hj e]
    exact h
  · exact absurd rfl (hn i hi)
theorem wy_behind {post : Int32 → Prop} {i e : Nat} (T : td_T c r d) (Y : re_YT c r d f_count a_row a_depth) (hi : i < c) (he : td_En c d i e) (h : post (nI e)) : wpY_behind post (f_count, f_top, f_listed, f_outputs, a_row, a_depth, a_name, a_value, a_moved, a_kind, a_with, a_length, a_sets, a_fresh, a_type, a_number, a_set, a_list, a_there, a_match, a_priority, a_out, a_on, a_todo, a_within, a_output) (nI i) := by
  have c24 := T.1
  obtain ⟨rfl, hr, hd⟩ := Y
  have rw1 : ∀ j, j < c → a_row (nI j).toNatClampNeg = nI (r j) := fun j hj => by rw [nI_clamp (by omega)]; exact hr j hj
  have rw2 : ∀ j, j < c → a_depth (a_row (nI j).toNatClampNeg).toNatClampNeg = nI (d j) := fun j hj => by
    rw [rw1 j hj, nI_clamp (by have := T.2.2.2.1 j hj; omega)]; exact hd j hj
  have db : ∀ j, j < c → d j < 24 := fun j hj => by have := td_dc T.2.1 hj; omega
  have vr : ∀ j, j < c → vp_in (a_row (nI j).toNatClampNeg) 24 := fun j hj => by rw [rw1 j hj]; exact vp_in_nI (T.2.2.2.1 j hj) (by omega)
  obtain ⟨a1, a2, a3, a4⟩ := he
  have key : ∀ k j, j + k = e → i < j → wY_behind_4 post (nI i) (nI c) f_top f_listed f_outputs a_row a_depth a_name a_value a_moved a_kind a_with a_length a_sets a_fresh a_type a_number a_set a_list a_there a_match a_priority a_out a_on a_todo a_within a_output (k + 1) (nI j) := by
    intro k
    induction k with
    | zero =>
      intro j hj hij
      have ej : j = e := by omega
      subst ej
      by_cases z : j = c
      · exact br_t (nI_le (by omega) (by omega)) h
      · refine br_f (nI_ge (by omega) (by omega)) ⟨vp_in_nI (by omega) (by omega), vr j (by omega), vp_in_nI (by omega) (by omega), vr i hi, br_t ?_ h⟩
        rw [rw2 j (by omega), rw2 i hi]
        exact nI_le (a4 (by omega)) (by have := db i hi; omega)
    | succ k ih =>
      intro j hj hij
      refine br_f (nI_ge (by omega) (by omega)) ⟨vp_in_nI (by omega) (by omega), vr j (by omega), vp_in_nI (by omega) (by omega), vr i hi, br_f ?_ (nm_r (nI_1 j) (ih (j + 1) (by omega) (by omega)))⟩
      rw [rw2 j (by omega), rw2 i hi]
      exact nI_ge (a3 j hij (by omega)) (by have := db j (by omega); omega)
  exact nm_r (nI_1 i) ⟨e - i, by
    have := key (e - (i + 1)) (i + 1) (by omega) (by omega)
    rw [show e - (i + 1) + 1 = e - i by omega] at this
    exact this⟩
theorem wy_isBelow {post : Int32 → Prop} {i l : Nat} (T : td_T c r d) (Y : re_YT c r d f_count a_row a_depth) (hi : i < c) (hl : l < c) (h1 : td_An d i l → post 1) (h0 : ¬ td_An d i l → post 0) :
    wpY_isBelow post (f_count, f_top, f_listed, f_outputs, a_row, a_depth, a_name, a_value, a_moved, a_kind, a_with, a_length, a_sets, a_fresh, a_type, a_number, a_set, a_list, a_there, a_match, a_priority, a_out, a_on, a_todo, a_within, a_output) (nI (r l)) (nI (r i)) := by
  have c24 := T.1
  obtain ⟨e, he⟩ := td_endEx (c := c) (d := d) hi
  have hA := td_AnEn he hl
  have he2 := he.2.1
  unfold wpY_isBelow
  refine wy_where1 T Y hi (wy_where1 T Y hl ?_)
  by_cases z : l ≤ i
  · exact br_t (nI_le z (by omega)) (h0 (fun w => by have := w.1; omega))
  · refine br_f (nI_ge (by omega) (by omega)) (wy_behind T Y hi he ?_)
    by_cases y : e ≤ l
    · exact br_t (nI_le y (by omega)) (h0 (fun w => by rw [hA] at w; omega))
    · exact br_f (nI_ge (by omega) (by omega)) (h1 (hA.mpr ⟨by omega, by omega⟩))
theorem wy_parentOf {post : Int32 → Prop} {i : Nat} (T : td_T c r d) (Y : re_YT c r d f_count a_row a_depth) (hi : i < c) (h1 : ∀ p, td_Pa d p i → post (nI (r p))) (h0 : i = 0 → post (-1)) : wpY_parentOf post (f_count, f_top, f_listed, f_outputs, a_row, a_depth, a_name, a_value, a_moved, a_kind, a_with, a_length, a_sets, a_fresh, a_type, a_number, a_set, a_list, a_there, a_match, a_priority, a_out, a_on, a_todo, a_within, a_output) (nI (r i)) := by
  have c24 := T.1
  have Y' := Y
  obtain ⟨rfl, hr, hd⟩ := Y
  have rw1 : ∀ j, j < c → a_row (nI j).toNatClampNeg = nI (r j) := fun j hj => by rw [nI_clamp (by omega)]; exact hr j hj
  have rw2 : ∀ j, j < c → a_depth (a_row (nI j).toNatClampNeg).toNatClampNeg = nI (d j) := fun j hj => by
    rw [rw1 j hj, nI_clamp (by have := T.2.2.2.1 j hj; omega)]; exact hd j hj
  have rw3 : a_depth (nI (r i)).toNatClampNeg = nI (d i) := by rw [nI_clamp (by have := T.2.2.2.1 i hi; omega)]; exact hd i hi
  have db : ∀ j, j < c → d j < 24 := fun j hj => by have := td_dc T.2.1 hj; omega
  have vr : ∀ j, j < c → vp_in (a_row (nI j).toNatClampNeg) 24 := fun j hj => by rw [rw1 j hj]; exact vp_in_nI (T.2.2.2.1 j hj) (by omega)
  have key : ∀ j, j ≤ i → (∀ l, j < l → l ≤ i → d i ≤ d l) → wY_parentOf_6 post (nI (r i)) (nI c) f_top f_listed f_outputs a_row a_depth a_name a_value a_moved a_kind a_with a_length a_sets a_fresh a_type a_number a_set a_list a_there a_match a_priority a_out a_on a_todo a_within a_output (j + 2) (nI j) := by
    intro j
    induction j with
    | zero =>
      intro _ hl
      refine br_f (nI_pos (by omega)) ⟨vp_in_nI (by omega) (by omega), vr 0 (by omega), vp_in_nI (T.2.2.2.1 i hi) (by omega), ?_⟩
      by_cases z : d 0 < d i
      · refine br_t (by rw [rw2 0 (by omega), rw3]; exact nI_lt z (by have := db i hi; omega)) (br_t (nI_pos' (by omega)) ⟨vp_in_nI (by omega) (by omega), ?_⟩)
        rw [rw1 0 (by omega)]
        have i0 : 0 < i := by
          rcases Nat.eq_zero_or_pos i with w | w
          · rw [w] at z; omega
          · exact w
        exact h1 0 ⟨i0, z, fun l a b => hl l a (by omega)⟩
      · refine br_f (by rw [rw2 0 (by omega), rw3]; exact nI_nlt (by omega) (by have := db 0 (by omega); omega)) (nm_r (e' := -1) rfl (br_t tz_m1lt (br_f tz_n0m1 (h0 ?_))))
        rcases Nat.eq_zero_or_pos i with w | w
        · exact w
        · have := td_pos T.2.1 w hi
          have := T.2.1.1
          omega
    | succ j ih =>
      intro hj hl
      refine br_f (nI_pos (by omega)) ⟨vp_in_nI (by omega) (by omega), vr (j + 1) (by omega), vp_in_nI (T.2.2.2.1 i hi) (by omega), ?_⟩
      by_cases z : d (j + 1) < d i
      · refine br_t (by rw [rw2 (j + 1) (by omega), rw3]; exact nI_lt z (by have := db i hi; omega)) (br_t (nI_pos' (by omega)) ⟨vp_in_nI (by omega) (by omega), ?_⟩)
        rw [rw1 (j + 1) (by omega)]
        have i0 : j + 1 < i := by
          rcases Nat.lt_or_ge (j + 1) i with w | w
          · exact w
          · have : i = j + 1 := by omega
            rw [this] at z; omega
        exact h1 (j + 1) ⟨i0, z, fun l a b => hl l a (by omega)⟩
      · refine br_f (by rw [rw2 (j + 1) (by omega), rw3]; exact nI_nlt (by omega) (by have := db (j + 1) (by omega); omega)) (nm_r (pk_m1 j) (ih (by omega) (fun l a b => ?_)))
        by_cases y : l = j + 1
        · subst y; omega
        · exact hl l (by omega) b
  unfold wpY_parentOf
  exact wy_where1 T Y' hi ⟨i + 2, key i (Nat.le_refl _) (fun l a b => by omega)⟩
theorem wy_place {post : Int32 → Prop} {p e k : Nat} (T : td_T c r d) (Y : re_YT c r d f_count a_row a_depth) (hp : p < c) (he : td_En c d p e) (hk : k < 2 ^ 31)
    (h1 : ∀ x, td_Pl c d p k x → post (nI x)) (h0 : td_ct d (d p + 1) (p + 1) e < k → post (-1)) : wpY_place post (f_count, f_top, f_listed, f_outputs, a_row, a_depth, a_name, a_value, a_moved, a_kind, a_with, a_length, a_sets, a_fresh, a_type, a_number, a_set, a_list, a_there, a_match, a_priority, a_out, a_on, a_todo, a_within, a_output) (nI p) (nI k) := by
  have c24 := T.1
  have key : ∀ m t x, e - x ≤ m → t ≤ k → td_Pl c d p t x → wY_place_14 post (nI k) (nI e) f_count f_top f_listed f_outputs a_row a_depth a_name a_value a_moved a_kind a_with a_length a_sets a_fresh a_type a_number a_set a_list a_there a_match a_priority a_out a_on a_todo a_within a_output (m + 1) (nI x) (nI t) := by
    intro m
    induction m with
    | zero =>
      intro t x hm ht hx
      have xe := td_pl_le hx he
      have : x = e := by omega
      subst this
      by_cases z : t = k
      · subst z
        exact br_t (nI_le (Nat.le_refl _) hk) (h1 x hx)
      · refine br_f (nI_ge (by omega) hk) (br_t rfl (h0 ?_))
        rw [hx.2.2.2.2]; omega
    | succ m ih =>
      intro t x hm ht hx
      have xe := td_pl_le hx he
      have ec := he.2.1
      by_cases z : t = k
      · subst z
        exact br_t (nI_le (Nat.le_refl _) hk) (h1 x hx)
      · refine br_f (nI_ge (by omega) hk) ?_
        by_cases y : x = e
        · refine br_t (by rw [y]) (h0 ?_)
          rw [← y, hx.2.2.2.2]; omega
        · obtain ⟨f, hf⟩ := td_endEx (c := c) (d := d) (i := x) (by omega)
          have hxf := hf.1
          exact br_f (fun w => y ((nI_eq (by omega) (by omega)).mp w)) (wy_behind T Y (by omega) hf (nm_r (nI_1 t) (ih (t + 1) f (by omega) (by omega) (td_pl_s hx he (by omega) hf))))
  unfold wpY_place
  exact nm_r (nI_1 p) (wy_behind T Y hp he ⟨e + 1, key e 0 (p + 1) (by omega) (by omega) (td_pl_0 T.2.1 hp)⟩)
theorem wy_changed {post : SY → Prop} (h : ∀ fr, (∀ s, s < 8 → fr s = 0) → post (f_count, f_top, f_listed, f_outputs, a_row, a_depth, a_name, a_value, a_moved, a_kind, a_with, a_length, a_sets, fr, a_type, a_number, a_set, a_list, a_there, a_match, a_priority, a_out, a_on, a_todo, a_within, a_output)) : wpY_changed post (f_count, f_top, f_listed, f_outputs, a_row, a_depth, a_name, a_value, a_moved, a_kind, a_with, a_length, a_sets, a_fresh, a_type, a_number, a_set, a_list, a_there, a_match, a_priority, a_out, a_on, a_todo, a_within, a_output) := by
  have key : ∀ k i fr, i + k = 8 → (∀ s, s < i → fr s = 0) → wY_changed_2 post f_count f_top f_listed f_outputs (k + 1) (nI i) a_row a_depth a_name a_value a_moved a_kind a_with a_length a_sets fr a_type a_number a_set a_list a_there a_match a_priority a_out a_on a_todo a_within a_output := by
    intro k
    induction k with
    | zero => intro i fr hi hf; exact br_t (nI_le (a := 8) (b := i) (by omega) (by omega)) (h fr (fun s hs => hf s (by omega)))
    | succ k ih =>
      intro i fr hi hf
      have ei : (nI i).toNatClampNeg = i := nI_clamp (by omega)
      refine br_f (nI_ge (a := i) (b := 8) (by omega) (by omega)) ⟨vp_in_nI (by omega) (by omega), nm_r (e' := upd fr i 0) (by rw [ei, tz_b0]) (nm_r (nI_1 i) (ih (i + 1) _ (by omega) (fun s hs => ?_)))⟩
      by_cases z : s = i
      · subst z; exact pk_us
      · rw [pk_un z]; exact hf s (by omega)
  exact ⟨9, key 8 0 a_fresh rfl (fun s hs => by omega)⟩
end
end
section
/-! what is owed, where the tree stays as it is -/
theorem i_up {k : Nat} {u : SX} {v : SY} (h : i_Rel k u v) : i_Rel (k + 6) u v := h
theorem i_vc0 : wpX_init (fun u => wpY_init (fun v => i_Rel 0 u v)) := by
  refine ⟨0, 0, 0, fun _ => 0, fun _ => 0, fun _ => 0, ⟨by omega, ⟨rfl, fun i hi => by omega⟩, rfl, fun i hi => by omega, fun i j hi => by omega⟩, ?_, ?_, rfl, rfl, nI_0.symm, ?_, ?_, rfl, rfl, rfl, rfl, rfl, ?_, by omega, nI_0.symm, nI_0.symm, rfl⟩
  · refine ⟨nI_0.symm, fun q hq => Or.inr ⟨rfl, fun i hi => by omega⟩, ⟨fun q i hi => by omega, fun h => by omega⟩, fun i hi => by omega, fun a ha q hq => ⟨mk_24_0, fun q' _ => ⟨fun h => ?_, fun ⟨x, y, hx, _⟩ => by omega⟩⟩⟩
    rw [b_0] at h; cases h
  · exact ⟨nI_0.symm, fun i hi => by omega, fun i hi => by omega⟩
  · exact ⟨by omega, nI_0.symm, fun i _ => ⟨rfl, rfl⟩, fun i _ => ⟨rfl, rfl⟩, fun i hi => by omega, fun s hs => ⟨nI_0.symm, nI_0.symm, Nat.zero_le _, fun i x y => absurd y (Nat.not_lt.mpr x), fun h => absurd h (Nat.not_lt_zero _)⟩⟩
  · exact fun s hs => ⟨Or.inl rfl, fun h => absurd rfl h⟩
  · exact fun t ht => ⟨Or.inl rfl, ⟨0, by omega, nI_0.symm⟩, Or.inr ⟨0, by omega, nI_0.symm⟩, Or.inr ⟨0, by omega, nI_0.symm⟩⟩
theorem re_F0 {c : Nat} {r d len : Nat → Nat} {nm val kd wt te sets fr : Nat → Int32} (h : ∀ s, s < 8 → fr s = 0) : re_F c r d len nm val kd wt te sets fr :=
  fun s hs => ⟨Or.inl (h s hs), fun z => absurd (h s hs) z⟩
theorem i_vc_change {k : Nat} {u : SX} {v : SY} (I : i_Rel k u v) (hk : k + 6 ≤ 3072) (v1 : Int32) (v2 : Int32) (v3 : Int32) : wpX_change (fun r u' => wpY_change (fun r' v' => r' = r ∧ i_Rel (k + 6) u' v') v v1 v2 v3) u v1 v2 v3 := by
  obtain ⟨f_nodeCount, f_draftLength, f_resultLength, a_inUse, a_parentOf, a_rankOf, a_nameOf, a_valueOf, a_order, a_along, a_draftKind, a_draftValue, a_draftEnd, a_tokenKind, a_tokenValue, a_tokenEnd, a_slotLength, a_setAt, a_amount, a_reached, a_agenda, a_isTemplate, a_matchSlot, a_priorityOf, a_outSlot, a_onSlot, a_waiting, a_result⟩ := u
  obtain ⟨f_count, f_top, f_listed, f_outputs, a_row, a_depth, a_name, a_value, a_moved, a_kind, a_with, a_length, a_sets, a_fresh, a_type, a_number, a_set, a_list, a_there, a_match, a_priority, a_out, a_on, a_todo, a_within, a_output⟩ := v
  have J := i_up I
  obtain ⟨c, n, m, r, d, len, T, X, Y, e1, e2, hdl, hK, hF, e3, e4, e5, e6, e7, hP, hm, hrl, hou, e8⟩ := I
  have U := X.2.1
  have c24 := T.1
  unfold wpX_change
  refine wx_isNode T U (fun i hi e => ?_) (fun hno => ?_)
  · subst e
    have ri := T.2.2.2.1 i hi
    have vi : vp_in (nI (r i)) 24 := vp_in_nI ri (by omega)
    refine br_f (by decide) (wx_isName (fun j hj ej => ?_) (fun hn => ?_))
    · refine br_f (by decide) ⟨vi, nm_e ⟨vi, nm_e ?_⟩⟩
      unfold wpY_change
      refine wy_where1 T Y hi (br_f (nI_pos (by omega)) (wy_in0 (n := 5) (by omega) (fun _ _ _ => br_f (by decide) ⟨vi, nm_e ⟨vi, nm_e (wy_changed (fun fr hf => ⟨rfl, c, n, m, r, d, len, T, X, Y, by rw [e1], by rw [e2], hdl, hK, re_F0 hf, e3, e4, e5, e6, e7, hP, hm, hrl, hou, e8⟩))⟩⟩) (fun hz => absurd ej (hz j (by omega)))))
    · refine br_t rfl ?_
      unfold wpY_change
      exact wy_where1 T Y hi (br_f (nI_pos (by omega)) (wy_in0 (n := 5) (by omega) (fun j hj ej => absurd ej (hn j (by omega))) (fun _ => br_t rfl ⟨rfl, J⟩)))
  · refine br_t rfl ?_
    unfold wpY_change
    refine wy_where T Y (fun p hp => ?_)
    rcases hp with ⟨i, hi, e, -⟩ | ⟨-, ep⟩
    · exact absurd e (hno i hi)
    · subst ep
      exact br_t tz_m1lt ⟨rfl, J⟩
theorem i_vc_child {k : Nat} {u : SX} {v : SY} (I : i_Rel k u v) (hk : k + 6 ≤ 3072) (v1 : Int32) (v2 : Int32) : wpX_child (fun r => wpY_child (fun r' => r' = r ∧ i_Rel (k + 6) u v) v v1 v2) u v1 v2 := by
  obtain ⟨f_nodeCount, f_draftLength, f_resultLength, a_inUse, a_parentOf, a_rankOf, a_nameOf, a_valueOf, a_order, a_along, a_draftKind, a_draftValue, a_draftEnd, a_tokenKind, a_tokenValue, a_tokenEnd, a_slotLength, a_setAt, a_amount, a_reached, a_agenda, a_isTemplate, a_matchSlot, a_priorityOf, a_outSlot, a_onSlot, a_waiting, a_result⟩ := u
  obtain ⟨f_count, f_top, f_listed, f_outputs, a_row, a_depth, a_name, a_value, a_moved, a_kind, a_with, a_length, a_sets, a_fresh, a_type, a_number, a_set, a_list, a_there, a_match, a_priority, a_out, a_on, a_todo, a_within, a_output⟩ := v
  have J := i_up I
  obtain ⟨c, n, m, r, d, len, T, X, Y, -⟩ := I
  obtain ⟨hnc, U, P, ho, hal⟩ := X
  have c24 := T.1
  unfold wpX_child
  refine wx_isNode T U (fun i hi e => ?_) (fun hno => ?_)
  · subst e
    obtain ⟨e, he⟩ := td_endEx (c := c) (d := d) hi
    have he2 := he.2.1
    refine br_f (by decide) (wx_cor (fun res hres => ?_))
    have hco := tx_co T U P hi hres
    have key : ∀ R : Int32, ((∃ l, l < c ∧ td_Pa d i l ∧ v2 = nI (td_ct d (d l) (i + 1) l) ∧ R = nI (r l)) ∨ ((∀ l, l < c → td_Pa d i l → v2 ≠ nI (td_ct d (d l) (i + 1) l)) ∧ R = -1)) →
        wpY_child (fun r' => r' = R ∧ i_Rel (k + 6) (f_nodeCount, f_draftLength, f_resultLength, a_inUse, a_parentOf, a_rankOf, a_nameOf, a_valueOf, a_order, a_along, a_draftKind, a_draftValue, a_draftEnd, a_tokenKind, a_tokenValue, a_tokenEnd, a_slotLength, a_setAt, a_amount, a_reached, a_agenda, a_isTemplate, a_matchSlot, a_priorityOf, a_outSlot, a_onSlot, a_waiting, a_result) (f_count, f_top, f_listed, f_outputs, a_row, a_depth, a_name, a_value, a_moved, a_kind, a_with, a_length, a_sets, a_fresh, a_type, a_number, a_set, a_list, a_there, a_match, a_priority, a_out, a_on, a_todo, a_within, a_output)) (f_count, f_top, f_listed, f_outputs, a_row, a_depth, a_name, a_value, a_moved, a_kind, a_with, a_length, a_sets, a_fresh, a_type, a_number, a_set, a_list, a_there, a_match, a_priority, a_out, a_on, a_todo, a_within, a_output) (nI (r i)) v2 := by
      intro R hR
      unfold wpY_child
      refine wy_where1 T Y hi (br_f (nI_pos (by omega)) ?_)
      by_cases z : 0 ≤ v2
      · obtain ⟨w, hw, rfl⟩ := nI_of (x := v2) (Int32.not_lt.mpr z)
        refine br_t z (wy_place T Y hi he hw (fun x hx => br_f (nI_pos (by have := hx.2.1; omega)) (wy_behind T Y hi he ?_)) (fun hx => br_t tz_m1lt ⟨?_, J⟩))
        · have xc := hx.2.1
          have xe := td_pl_le hx he
          by_cases y : x = e
          · refine br_t (by rw [y]) ⟨?_, J⟩
            rcases hR with ⟨l, hl, hPa, ew, -⟩ | ⟨-, hr⟩
            · rw [nI_eq hw (by have := tx_ctb (d := d) (D := d l) (lo := i + 1) hl T.1; omega)] at ew
              have hle := (td_pl_rk T.2.1 hx hl hPa).mpr (by omega)
              have := (td_AnEn he hl).mp (td_PA hPa)
              omega
            · exact hr.symm
          · obtain ⟨q1, q2⟩ := td_pl_ch hx he (by omega)
            have rwx : a_row (nI x).toNatClampNeg = nI (r x) := by rw [nI_clamp (by omega)]; exact Y.2.1 x (by omega)
            refine br_f (fun w' => y ((nI_eq (by omega) (by omega)).mp w')) ⟨vp_in_nI (by omega) (by omega), ?_, J⟩
            rw [rwx]
            rcases hR with ⟨l, hl, hPa, ew, hr⟩ | ⟨hno, -⟩
            · rw [nI_eq hw (by have := tx_ctb (d := d) (D := d l) (lo := i + 1) hl T.1; omega)] at ew
              rw [hr, td_rk_uq T.2.1 (by omega) hl q1 hPa (by omega)]
            · exact absurd (by rw [q2]) (hno x (by omega) q1)
        · rcases hR with ⟨l, hl, hPa, ew, -⟩ | ⟨-, hr⟩
          · rw [nI_eq hw (by have := tx_ctb (d := d) (D := d l) (lo := i + 1) hl T.1; omega)] at ew
            have hle := (td_AnEn he hl).mp (td_PA hPa)
            have := td_ct_lt (d := d) (D := d i + 1) (lo := i + 1) (i := l) (j := e) (by omega) hle.2 (td_dp T.2.1 hl hPa)
            rw [td_dp T.2.1 hl hPa] at ew
            omega
          · exact hr.symm
      · refine br_f z ⟨?_, J⟩
        rcases hR with ⟨l, hl, hPa, ew, -⟩ | ⟨-, hr⟩
        · exact absurd (by rw [ew]; exact nI_pos' (by have := tx_ctb (d := d) (D := d l) (lo := i + 1) hl T.1; omega)) z
        · exact hr.symm
    rcases hco with ⟨l, hl, hPa, ew, hr⟩ | ⟨hno, hr⟩
    · have rl := T.2.2.2.1 l hl
      subst hr
      exact br_f (tx_m1' (by omega)) (key _ (Or.inl ⟨l, hl, hPa, ew, rfl⟩))
    · subst hr
      exact br_t rfl (key _ (Or.inr ⟨hno, rfl⟩))
  · refine br_t rfl ?_
    unfold wpY_child
    refine wy_where T Y (fun p hp => ?_)
    rcases hp with ⟨i, hi, e, -⟩ | ⟨-, ep⟩
    · exact absurd e (hno i hi)
    · subst ep
      exact br_t tz_m1lt ⟨rfl, J⟩
theorem tz_pm {m j : Nat} (hm : m ≤ 100) (hj : j < 2 ^ 31) : nI m - 1 < nI j ↔ m ≤ j := by
  rcases Nat.eq_zero_or_pos m with z | z
  · subst z
    refine ⟨fun _ => Nat.zero_le _, fun _ => ?_⟩
    rw [show nI 0 - 1 = (-1 : Int32) from by decide]
    exact Int32.lt_of_lt_of_le tz_m1lt (nI_pos' hj)
  · rw [show nI m - 1 = nI (m - 1) from pk_sub (a := m) (b := 1) z, nI_ltI (by omega) hj]
    omega
theorem i_vc_output {k : Nat} {u : SX} {v : SY} (I : i_Rel k u v) (hk : k + 6 ≤ 3072) (v1 : Int32) : wpX_output (fun r => wpY_output (fun r' => r' = r ∧ i_Rel (k + 6) u v) v v1) u v1 := by
  obtain ⟨f_nodeCount, f_draftLength, f_resultLength, a_inUse, a_parentOf, a_rankOf, a_nameOf, a_valueOf, a_order, a_along, a_draftKind, a_draftValue, a_draftEnd, a_tokenKind, a_tokenValue, a_tokenEnd, a_slotLength, a_setAt, a_amount, a_reached, a_agenda, a_isTemplate, a_matchSlot, a_priorityOf, a_outSlot, a_onSlot, a_waiting, a_result⟩ := u
  obtain ⟨f_count, f_top, f_listed, f_outputs, a_row, a_depth, a_name, a_value, a_moved, a_kind, a_with, a_length, a_sets, a_fresh, a_type, a_number, a_set, a_list, a_there, a_match, a_priority, a_out, a_on, a_todo, a_within, a_output⟩ := v
  have J := i_up I
  obtain ⟨c, n, m, r, d, len, T, X, Y, e1, e2, hdl, hK, hF, e3, e4, e5, e6, e7, hP, hm, hrl, hou, e8⟩ := I
  subst e8 hrl hou
  unfold wpX_output wpY_output
  by_cases z : v1 < 0
  · exact br_t z (br_t z (br_t rfl ⟨rfl, J⟩))
  · obtain ⟨j, hj, rfl⟩ := nI_of z
    by_cases y : m ≤ j
    · exact br_f z (br_t (nI_le y hj) (br_f z (br_t ((tz_pm hm hj).mpr y) (br_t rfl ⟨rfl, J⟩))))
    · have vi : vp_in (nI j) 100 := vp_in_nI (by omega) (by omega)
      exact br_f z (br_f (nI_ge (by omega) (by omega)) ⟨vi, br_f z (br_f (fun w => y ((tz_pm hm hj).mp w)) (br_f (by decide) ⟨vi, rfl, J⟩))⟩)
theorem i_vc_drop {k : Nat} {u : SX} {v : SY} (I : i_Rel k u v) (hk : k + 6 ≤ 3072) (v1 : Int32) : wpX_drop (fun r u' => wpY_drop (fun r' v' => r' = r ∧ i_Rel (k + 6) u' v') v v1) u v1 := by
  obtain ⟨f_nodeCount, f_draftLength, f_resultLength, a_inUse, a_parentOf, a_rankOf, a_nameOf, a_valueOf, a_order, a_along, a_draftKind, a_draftValue, a_draftEnd, a_tokenKind, a_tokenValue, a_tokenEnd, a_slotLength, a_setAt, a_amount, a_reached, a_agenda, a_isTemplate, a_matchSlot, a_priorityOf, a_outSlot, a_onSlot, a_waiting, a_result⟩ := u
  obtain ⟨f_count, f_top, f_listed, f_outputs, a_row, a_depth, a_name, a_value, a_moved, a_kind, a_with, a_length, a_sets, a_fresh, a_type, a_number, a_set, a_list, a_there, a_match, a_priority, a_out, a_on, a_todo, a_within, a_output⟩ := v
  have J := i_up I
  obtain ⟨c, n, m, r, d, len, T, X, Y, e1, e2, hdl, hK, hF, e3, e4, e5, e6, e7, hP, hm, hrl, hou, e8⟩ := I
  subst e3
  unfold wpX_drop wpY_drop
  by_cases z : v1 < 0
  · exact br_t z (br_t z (br_t rfl ⟨rfl, J⟩))
  · obtain ⟨j, hj, rfl⟩ := nI_of z
    by_cases y : 6 ≤ j
    · exact br_f z (br_t (nI_le (a := 6) y hj) (br_f z (br_t (nI_lt (a := 5) (by omega) hj) (br_t rfl ⟨rfl, J⟩))))
    · have vi : vp_in (nI j) 6 := vp_in_nI (by omega) (by omega)
      have ej : (nI j).toNatClampNeg = j := nI_clamp hj
      refine br_f z (br_f (nI_ge (b := 6) (by omega) (by omega)) ⟨vi, ?_⟩)
      by_cases w : a_isTemplate (nI j).toNatClampNeg = 0
      · exact br_t w (br_f z (br_f (nI_nlt (a := 5) (b := j) (by omega) (by omega)) (br_f (by decide) ⟨vi, br_t w ⟨rfl, J⟩⟩)))
      · refine br_f w ⟨vi, nm_e (br_f z (br_f (nI_nlt (a := 5) (b := j) (by omega) (by omega)) (br_f (by decide) ⟨vi, br_f w ⟨vi, nm_e ⟨rfl, c, n, m, r, d, len, T, X, Y, e1, e2, hdl, hK, hF, rfl, e4, e5, e6, e7, ?_, hm, hrl, hou, e8⟩⟩⟩)))⟩
        intro t ht
        obtain ⟨p1, p2⟩ := hP t ht
        refine ⟨?_, p2⟩
        rw [ej, tz_b0]
        by_cases tj : t = j
        · subst tj; exact Or.inl pk_us
        · rw [pk_un tj]; exact p1
end
section
/-! template and token -/
theorem tz_lm1 {v : Int32} (h : v < 0) (n : ¬ v < -1) : v = -1 := by
  rw [Int32.lt_iff_toInt_lt] at h n
  rw [show (0 : Int32).toInt = 0 from by decide] at h
  rw [show (-1 : Int32).toInt = -1 from by decide] at n
  apply Int32.toInt_inj.mp
  rw [show (-1 : Int32).toInt = -1 from by decide]
  omega
theorem tz_nm1 {n : Nat} (h : n < 2 ^ 31) : ¬ nI n < -1 := fun z => nI_pos h (Int32.lt_trans z tz_m1lt)
theorem wy_inm {post : Int32 → Prop} {v : Int32} (h1 : re_sl v → post 1) (h0 : ¬ re_sl v → post 0) : wpY_in post v (-1) 7 := by
  unfold wpY_in
  by_cases z : v < -1
  · refine br_t z (h0 (fun w => ?_))
    rcases w with w | ⟨s, hs, w⟩
    · rw [w] at z; exact absurd z (by decide)
    · rw [w] at z; exact tz_nm1 (by omega) z
  · by_cases y : 7 < v
    · refine br_f z (br_t y (h0 (fun w => ?_)))
      rcases w with w | ⟨s, hs, w⟩
      · rw [w] at y; exact absurd y (by decide)
      · rw [w] at y; exact nI_nlt (a := 7) (b := s) (by omega) (by omega) y
    · refine br_f z (br_f y (h1 ?_))
      by_cases x : v < 0
      · exact Or.inl (tz_lm1 x z)
      · obtain ⟨j, hj, rfl⟩ := nI_of x
        refine Or.inr ⟨j, ?_, rfl⟩
        rcases Nat.lt_or_ge j 8 with u | u
        · exact u
        · exact absurd (nI_lt (a := 7) (b := j) (by omega) hj) y
section
variable {f_nodeCount f_draftLength f_resultLength : Int32} {a_inUse a_parentOf a_rankOf a_nameOf a_valueOf a_order a_along a_draftKind a_draftValue a_draftEnd a_tokenKind a_tokenValue a_tokenEnd a_slotLength a_setAt a_amount a_reached a_agenda a_isTemplate a_matchSlot a_priorityOf a_outSlot a_onSlot a_waiting a_result : Nat → Int32} {c : Nat} {r d : Nat → Nat}
theorem wx_isSlot {post : Int32 → Prop} {v : Int32} (h1 : ∀ j, j < 8 → v = nI j → post 1) (h0 : (∀ j, j < 8 → v ≠ nI j) → post 0) : wpX_isSlot post (f_nodeCount, f_draftLength, f_resultLength, a_inUse, a_parentOf, a_rankOf, a_nameOf, a_valueOf, a_order, a_along, a_draftKind, a_draftValue, a_draftEnd, a_tokenKind, a_tokenValue, a_tokenEnd, a_slotLength, a_setAt, a_amount, a_reached, a_agenda, a_isTemplate, a_matchSlot, a_priorityOf, a_outSlot, a_onSlot, a_waiting, a_result) v := by
  unfold wpX_isSlot
  rcases pk_ix v (n := 8) (by omega) with z | z | ⟨j, hj, rfl⟩
  · exact br_t z (h0 (fun j hj e => nI_pos (n := j) (by omega) (by rw [← e]; exact z)))
  · exact br_f (tz_np z (by omega)) (br_t z (h0 (fun j hj e => nI_ge (a := j) (b := 8) hj (by omega) (by rw [← e]; exact z))))
  · exact br_f (nI_pos (by omega)) (br_f (nI_ge (a := j) (b := 8) hj (by omega)) (h1 j hj rfl))
end
def tp_G (v1 v2 v3 v4 v5 : Int32) : Prop := (∃ j, j < 6 ∧ v1 = nI j) ∧ (∃ s, s < 8 ∧ v2 = nI s) ∧ ¬ v3 < -9 ∧ v3 ≤ 9 ∧ re_sl v4 ∧ re_sl v5
section
variable {f_nodeCount f_draftLength f_resultLength : Int32} {a_inUse a_parentOf a_rankOf a_nameOf a_valueOf a_order a_along a_draftKind a_draftValue a_draftEnd a_tokenKind a_tokenValue a_tokenEnd a_slotLength a_setAt a_amount a_reached a_agenda a_isTemplate a_matchSlot a_priorityOf a_outSlot a_onSlot a_waiting a_result : Nat → Int32} {v1 v2 v3 v4 v5 : Int32}
theorem wx_template {post : Int32 → SX → Prop} (h1 : tp_G v1 v2 v3 v4 v5 → post 1 (f_nodeCount, f_draftLength, f_resultLength, a_inUse, a_parentOf, a_rankOf, a_nameOf, a_valueOf, a_order, a_along, a_draftKind, a_draftValue, a_draftEnd, a_tokenKind, a_tokenValue, a_tokenEnd, a_slotLength, a_setAt, a_amount, a_reached, a_agenda, upd a_isTemplate v1.toNatClampNeg (vp_nar .boolean 1), upd a_matchSlot v1.toNatClampNeg v2, upd a_priorityOf v1.toNatClampNeg v3, upd a_outSlot v1.toNatClampNeg v4, upd a_onSlot v1.toNatClampNeg v5, a_waiting, a_result)) (h0 : ¬ tp_G v1 v2 v3 v4 v5 → post 0 (f_nodeCount, f_draftLength, f_resultLength, a_inUse, a_parentOf, a_rankOf, a_nameOf, a_valueOf, a_order, a_along, a_draftKind, a_draftValue, a_draftEnd, a_tokenKind, a_tokenValue, a_tokenEnd, a_slotLength, a_setAt, a_amount, a_reached, a_agenda, a_isTemplate, a_matchSlot, a_priorityOf, a_outSlot, a_onSlot, a_waiting, a_result)) : wpX_template post (f_nodeCount, f_draftLength, f_resultLength, a_inUse, a_parentOf, a_rankOf, a_nameOf, a_valueOf, a_order, a_along, a_draftKind, a_draftValue, a_draftEnd, a_tokenKind, a_tokenValue, a_tokenEnd, a_slotLength, a_setAt, a_amount, a_reached, a_agenda, a_isTemplate, a_matchSlot, a_priorityOf, a_outSlot, a_onSlot, a_waiting, a_result) v1 v2 v3 v4 v5 := by
  unfold wpX_template
  rcases pk_ix v1 (n := 6) (by omega) with z | z | ⟨j, hj, e1⟩
  · exact br_t z (h0 (fun ⟨⟨j, hj, e⟩, _⟩ => nI_pos (n := j) (by omega) (by rw [← e]; exact z)))
  · exact br_f (tz_np z (by omega)) (br_t z (h0 (fun ⟨⟨j, hj, e⟩, _⟩ => nI_ge (a := j) (b := 6) hj (by omega) (by rw [← e]; exact z))))
  have vi : vp_in v1 6 := by rw [e1]; exact vp_in_nI hj (by omega)
  have c1 : ¬ v1 < 0 := by rw [e1]; exact nI_pos (by omega)
  have c2 : ¬ 6 ≤ v1 := by rw [e1]; exact nI_ge (a := j) (b := 6) hj (by omega)
  refine br_f c1 (br_f c2 (wx_isSlot (fun s hs es => ?_) (fun hn => br_t rfl (h0 (fun ⟨_, ⟨s, hs, e⟩, _⟩ => hn s hs e)))))
  refine br_f (by decide) ?_
  by_cases p : v3 < -9
  · exact br_t p (h0 (fun g => g.2.2.1 p))
  refine br_f p ?_
  by_cases p9 : v3 ≤ 9
  · refine br_t p9 ?_
    have K66 : re_sl v4 → re_sl v5 → wX_template_66 post v1 v2 v3 v4 v5 f_nodeCount f_draftLength f_resultLength a_inUse a_parentOf a_rankOf a_nameOf a_valueOf a_order a_along a_draftKind a_draftValue a_draftEnd a_tokenKind a_tokenValue a_tokenEnd a_slotLength a_setAt a_amount a_reached a_agenda a_isTemplate a_matchSlot a_priorityOf a_outSlot a_onSlot a_waiting a_result := fun g4 g5 =>
      ⟨vi, nm_e ⟨vi, nm_e ⟨vi, nm_e ⟨vi, nm_e ⟨vi, nm_e (h1 ⟨⟨j, hj, e1⟩, ⟨s, hs, es⟩, p, p9, g4, g5⟩)⟩⟩⟩⟩⟩
    have K49 : re_sl v4 → wX_template_49 post v1 v2 v3 v4 v5 f_nodeCount f_draftLength f_resultLength a_inUse a_parentOf a_rankOf a_nameOf a_valueOf a_order a_along a_draftKind a_draftValue a_draftEnd a_tokenKind a_tokenValue a_tokenEnd a_slotLength a_setAt a_amount a_reached a_agenda a_isTemplate a_matchSlot a_priorityOf a_outSlot a_onSlot a_waiting a_result := fun g4 => by
      unfold wX_template_49
      by_cases q : v5 = -1
      · exact br_t q (K66 g4 (Or.inl q))
      · refine br_f q (wx_isSlot (fun t ht et => br_f (by decide) (K66 g4 (Or.inr ⟨t, ht, et⟩))) (fun hn => br_t rfl (h0 (fun g => ?_))))
        rcases g.2.2.2.2.2 with w | ⟨t, ht, w⟩
        · exact q w
        · exact hn t ht w
    by_cases q : v4 = -1
    · exact br_t q (K49 (Or.inl q))
    · refine br_f q (wx_isSlot (fun t ht et => br_f (by decide) (K49 (Or.inr ⟨t, ht, et⟩))) (fun hn => br_t rfl (h0 (fun g => ?_))))
      rcases g.2.2.2.2.1 with w | ⟨t, ht, w⟩
      · exact q w
      · exact hn t ht w
  · exact br_f p9 (h0 (fun g => p9 g.2.2.2.1))
end
section
variable {f_count f_top f_listed f_outputs : Int32} {a_row a_depth a_name a_value a_moved a_kind a_with a_length a_sets a_fresh a_type a_number a_set a_list a_there a_match a_priority a_out a_on a_todo a_within a_output : Nat → Int32} {v1 v2 v3 v4 v5 : Int32}
theorem wy_template {post : Int32 → SY → Prop} (h1 : tp_G v1 v2 v3 v4 v5 → post 1 (f_count, f_top, f_listed, f_outputs, a_row, a_depth, a_name, a_value, a_moved, a_kind, a_with, a_length, a_sets, a_fresh, a_type, a_number, a_set, a_list, upd a_there v1.toNatClampNeg (vp_nar .boolean 1), upd a_match v1.toNatClampNeg v2, upd a_priority v1.toNatClampNeg v3, upd a_out v1.toNatClampNeg v4, upd a_on v1.toNatClampNeg v5, a_todo, a_within, a_output)) (h0 : ¬ tp_G v1 v2 v3 v4 v5 → post 0 (f_count, f_top, f_listed, f_outputs, a_row, a_depth, a_name, a_value, a_moved, a_kind, a_with, a_length, a_sets, a_fresh, a_type, a_number, a_set, a_list, a_there, a_match, a_priority, a_out, a_on, a_todo, a_within, a_output)) : wpY_template post (f_count, f_top, f_listed, f_outputs, a_row, a_depth, a_name, a_value, a_moved, a_kind, a_with, a_length, a_sets, a_fresh, a_type, a_number, a_set, a_list, a_there, a_match, a_priority, a_out, a_on, a_todo, a_within, a_output) v1 v2 v3 v4 v5 := by
  unfold wpY_template
  refine wy_in0 (n := 5) (by omega) (fun j hj e1 => ?_) (fun hn => br_t rfl (h0 (fun ⟨⟨j, hj, e⟩, _⟩ => hn j (by omega) e)))
  have vi : vp_in v1 6 := by rw [e1]; exact vp_in_nI (by omega) (by omega)
  refine br_f (by decide) (wy_in0 (n := 7) (by omega) (fun s hs es => ?_) (fun hn => br_t rfl (h0 (fun ⟨_, ⟨s, hs, e⟩, _⟩ => hn s (by omega) e))))
  refine br_f (by decide) ?_
  by_cases p : v3 < -9
  · exact br_t p (br_t rfl (h0 (fun g => g.2.2.1 p)))
  refine br_f p ?_
  by_cases p9 : 9 < v3
  · exact br_t p9 (br_t rfl (h0 (fun g => Int32.not_lt.mpr g.2.2.2.1 p9)))
  refine br_f p9 (br_f (by decide) (wy_inm (fun g4 => br_f (by decide) (wy_inm (fun g5 => br_f (by decide) ?_) (fun w => br_t rfl (h0 (fun g => w g.2.2.2.2.2))))) (fun w => br_t rfl (h0 (fun g => w g.2.2.2.2.1)))))
  exact ⟨vi, nm_e ⟨vi, nm_e ⟨vi, nm_e ⟨vi, nm_e ⟨vi, nm_e (h1 ⟨⟨j, by omega, e1⟩, ⟨s, by omega, es⟩, p, Int32.not_lt.mp p9, g4, g5⟩)⟩⟩⟩⟩⟩
end
theorem i_vc_template {k : Nat} {u : SX} {v : SY} (I : i_Rel k u v) (hk : k + 6 ≤ 3072) (v1 : Int32) (v2 : Int32) (v3 : Int32) (v4 : Int32) (v5 : Int32) : wpX_template (fun r u' => wpY_template (fun r' v' => r' = r ∧ i_Rel (k + 6) u' v') v v1 v2 v3 v4 v5) u v1 v2 v3 v4 v5 := by
  obtain ⟨f_nodeCount, f_draftLength, f_resultLength, a_inUse, a_parentOf, a_rankOf, a_nameOf, a_valueOf, a_order, a_along, a_draftKind, a_draftValue, a_draftEnd, a_tokenKind, a_tokenValue, a_tokenEnd, a_slotLength, a_setAt, a_amount, a_reached, a_agenda, a_isTemplate, a_matchSlot, a_priorityOf, a_outSlot, a_onSlot, a_waiting, a_result⟩ := u
  obtain ⟨f_count, f_top, f_listed, f_outputs, a_row, a_depth, a_name, a_value, a_moved, a_kind, a_with, a_length, a_sets, a_fresh, a_type, a_number, a_set, a_list, a_there, a_match, a_priority, a_out, a_on, a_todo, a_within, a_output⟩ := v
  have J := i_up I
  obtain ⟨c, n, m, r, d, len, T, X, Y, e1, e2, hdl, hK, hF, e3, e4, e5, e6, e7, hP, hm, hrl, hou, e8⟩ := I
  subst e3 e4 e5 e6 e7
  refine wx_template (fun g => wy_template (fun _ => ⟨rfl, c, n, m, r, d, len, T, X, Y, e1, e2, hdl, hK, hF, rfl, rfl, rfl, rfl, rfl, ?_, hm, hrl, hou, e8⟩) (fun w => absurd g w)) (fun w => wy_template (fun g => absurd g w) (fun _ => ⟨rfl, J⟩))
  obtain ⟨⟨j, hj, rfl⟩, ⟨s, hs, rfl⟩, -, -, g4, g5⟩ := g
  intro t ht
  obtain ⟨p1, p2, p3, p4⟩ := hP t ht
  rw [nI_clamp (by omega), tz_b1]
  by_cases tj : t = j
  · subst tj
    rw [pk_us, pk_us, pk_us, pk_us]
    exact ⟨Or.inr rfl, ⟨s, hs, rfl⟩, g4, g5⟩
  · rw [pk_un tj, pk_un tj, pk_un tj, pk_un tj]
    exact ⟨p1, p2, p3, p4⟩
end
section
/-! token -/
section
variable {f_nodeCount f_draftLength f_resultLength : Int32} {a_inUse a_parentOf a_rankOf a_nameOf a_valueOf a_order a_along a_draftKind a_draftValue a_draftEnd a_tokenKind a_tokenValue a_tokenEnd a_slotLength a_setAt a_amount a_reached a_agenda a_isTemplate a_matchSlot a_priorityOf a_outSlot a_onSlot a_waiting a_result : Nat → Int32}
theorem wx_isStep {post : Int32 → Prop} {v : Int32} (h1 : tq_G v → post 1) (h0 : ¬ tq_G v → post 0) : wpX_isStepValue post (f_nodeCount, f_draftLength, f_resultLength, a_inUse, a_parentOf, a_rankOf, a_nameOf, a_valueOf, a_order, a_along, a_draftKind, a_draftValue, a_draftEnd, a_tokenKind, a_tokenValue, a_tokenEnd, a_slotLength, a_setAt, a_amount, a_reached, a_agenda, a_isTemplate, a_matchSlot, a_priorityOf, a_outSlot, a_onSlot, a_waiting, a_result) v := by
  unfold wpX_isStepValue
  by_cases z : v < 0
  · exact br_t z (h0 (fun ⟨w, hw, e, _⟩ => nI_pos (n := w) (by omega) (by rw [← e]; exact z)))
  obtain ⟨w, hw, rfl⟩ := nI_of z
  have a1 : nI w &&& 15 = nI (w % 16) := pk_andN (by omega) 4 (by decide)
  have a2 : (nI w >>> ((4 : Int32) &&& 31)) &&& 7 = nI (w / 16 % 8) := by
    rw [pk_shrN hw _ 4 (by decide)]
    exact pk_andN (by omega) 3 (by decide)
  have a3 : nI w >>> ((7 : Int32) &&& 31) = nI (w / 128) := pk_shrN hw _ 7 (by decide)
  have gi : tq_G (nI w) ↔ (w / 128 ≤ 2 ∧ w % 16 ≤ 10 ∧ w / 16 % 8 ≤ 6) := by
    constructor
    · rintro ⟨w', h, e, g⟩
      rw [nI_eq hw (by omega)] at e
      subst e
      exact ⟨by omega, g⟩
    · exact fun g => ⟨w, by omega, rfl, g.2⟩
  refine br_f z ?_
  by_cases y1 : w % 16 ≤ 10
  · refine br_f (by rw [a1]; exact nI_ge (b := 11) (by omega) (by omega)) ?_
    by_cases y2 : w / 16 % 8 ≤ 6
    · refine br_f (by rw [a2]; exact nI_nlt (a := 6) (by omega) (by omega)) ?_
      by_cases y3 : w / 128 ≤ 2
      · exact br_f (by rw [a3]; exact nI_nlt (a := 2) (by omega) (by omega)) (h1 (gi.mpr ⟨y3, y1, y2⟩))
      · exact br_t (by rw [a3]; exact nI_lt (a := 2) (by omega) (by omega)) (h0 (fun g => y3 (gi.mp g).1))
    · exact br_t (by rw [a2]; exact nI_lt (a := 6) (by omega) (by omega)) (h0 (fun g => y2 (gi.mp g).2.2))
  · exact br_t (by rw [a1]; exact nI_le (a := 11) (by omega) (by omega)) (h0 (fun g => y1 (gi.mp g).2.1))
def tq_T (n : Nat) (v1 v2 : Int32) : Prop := (∃ k, k < 18 ∧ v1 = nI k ∧ (k = 2 → tq_G v2)) ∧ n < 40
theorem wx_token {post : Int32 → SX → Prop} {n : Nat} {v1 v2 : Int32} (hl : f_draftLength = nI n) (hn : n ≤ 40)
    (h1 : tq_T n v1 v2 → post (nI (n + 1)) (f_nodeCount, nI (n + 1), f_resultLength, a_inUse, a_parentOf, a_rankOf, a_nameOf, a_valueOf, a_order, a_along, upd a_draftKind n v1, upd a_draftValue n v2, a_draftEnd, a_tokenKind, a_tokenValue, a_tokenEnd, a_slotLength, a_setAt, a_amount, a_reached, a_agenda, a_isTemplate, a_matchSlot, a_priorityOf, a_outSlot, a_onSlot, a_waiting, a_result)) (h0 : ¬ tq_T n v1 v2 → post (-1) (f_nodeCount, f_draftLength, f_resultLength, a_inUse, a_parentOf, a_rankOf, a_nameOf, a_valueOf, a_order, a_along, a_draftKind, a_draftValue, a_draftEnd, a_tokenKind, a_tokenValue, a_tokenEnd, a_slotLength, a_setAt, a_amount, a_reached, a_agenda, a_isTemplate, a_matchSlot, a_priorityOf, a_outSlot, a_onSlot, a_waiting, a_result)) : wpX_token post (f_nodeCount, f_draftLength, f_resultLength, a_inUse, a_parentOf, a_rankOf, a_nameOf, a_valueOf, a_order, a_along, a_draftKind, a_draftValue, a_draftEnd, a_tokenKind, a_tokenValue, a_tokenEnd, a_slotLength, a_setAt, a_amount, a_reached, a_agenda, a_isTemplate, a_matchSlot, a_priorityOf, a_outSlot, a_onSlot, a_waiting, a_result) v1 v2 := by
  subst hl
  unfold wpX_token
  rcases pk_ix v1 (n := 18) (by omega) with z | z | ⟨k, hk, e1⟩
  · exact br_t z (h0 (fun ⟨⟨j, hj, e, _⟩, _⟩ => nI_pos (n := j) (by omega) (by rw [← e]; exact z)))
  · refine br_f (tz_np z (by omega)) (br_t (Int32.lt_of_lt_of_le (nI_lt (a := 17) (b := 18) (by omega) (by omega)) z) (h0 (fun ⟨⟨j, hj, e, _⟩, _⟩ => nI_ge (a := j) (b := 18) hj (by omega) (by rw [← e]; exact z))))
  have en : (nI n).toNatClampNeg = n := nI_clamp (by omega)
  refine br_f (by rw [e1]; exact nI_pos (by omega)) (br_f (by rw [e1]; exact nI_nlt (a := 17) (b := k) (by omega) (by omega)) ?_)
  by_cases hn40 : n < 40
  · refine br_t (nI_lt (b := 40) hn40 (by omega)) ?_
    have K : tq_T n v1 v2 → wX_token_36 post v1 v2 f_nodeCount (nI n) f_resultLength a_inUse a_parentOf a_rankOf a_nameOf a_valueOf a_order a_along a_draftKind a_draftValue a_draftEnd a_tokenKind a_tokenValue a_tokenEnd a_slotLength a_setAt a_amount a_reached a_agenda a_isTemplate a_matchSlot a_priorityOf a_outSlot a_onSlot a_waiting a_result := fun g => by
      have vi : vp_in (nI n) 40 := vp_in_nI hn40 (by omega)
      exact ⟨vi, nm_r (e' := upd a_draftKind n v1) (by rw [en]) ⟨vi, nm_r (e' := upd a_draftValue n v2) (by rw [en]) (nm_r (nI_1 n) (h1 g))⟩⟩
    by_cases k2 : k = 2
    · refine br_t (by rw [e1, k2]; rfl) (wx_isStep (fun g => br_f (by decide) (K ⟨⟨k, hk, e1, fun _ => g⟩, hn40⟩)) (fun g => br_t rfl (h0 (fun ⟨⟨j, hj, e, h⟩, _⟩ => g (h ?_)))))
      rw [e1, nI_eq (by omega) (by omega)] at e
      omega
    · refine br_f (fun w => k2 ?_) (K ⟨⟨k, hk, e1, fun w => absurd w k2⟩, hn40⟩)
      rw [e1] at w
      exact (nI_eq (b := 2) (by omega) (by omega)).mp w
  · exact br_f (nI_nlt (b := 40) (by omega) (by omega)) (h0 (fun g => hn40 g.2))
end
section
variable {f_count f_top f_listed f_outputs : Int32} {a_row a_depth a_name a_value a_moved a_kind a_with a_length a_sets a_fresh a_type a_number a_set a_list a_there a_match a_priority a_out a_on a_todo a_within a_output : Nat → Int32}
theorem wy_tok54 {post : Int32 → SY → Prop} {n : Nat} {v1 v2 z0 : Int32} (hl : a_length 8 = nI n) (hn : n ≤ 40) (hz : z0 = 0 ∨ z0 = 1)
    (h1 : (∃ k, k < 18 ∧ v1 = nI k) → z0 = 1 → n < 40 → post (nI (n + 1)) (f_count, f_top, f_listed, f_outputs, a_row, a_depth, a_name, a_value, a_moved, upd a_kind (320 + n) v1, upd a_with (320 + n) v2, upd a_length 8 (nI (n + 1)), a_sets, a_fresh, a_type, a_number, a_set, a_list, a_there, a_match, a_priority, a_out, a_on, a_todo, a_within, a_output))
    (h0 : ¬ ((∃ k, k < 18 ∧ v1 = nI k) ∧ z0 = 1 ∧ n < 40) → post (-1) (f_count, f_top, f_listed, f_outputs, a_row, a_depth, a_name, a_value, a_moved, a_kind, a_with, a_length, a_sets, a_fresh, a_type, a_number, a_set, a_list, a_there, a_match, a_priority, a_out, a_on, a_todo, a_within, a_output)) : wY_token_54 post v1 v2 z0 f_count f_top f_listed f_outputs a_row a_depth a_name a_value a_moved a_kind a_with a_length a_sets a_fresh a_type a_number a_set a_list a_there a_match a_priority a_out a_on a_todo a_within a_output := by
  unfold wY_token_54
  refine wy_in0 (n := 17) (by omega) (fun k hk ek => br_f (by decide) ?_) (fun hno => br_t rfl (h0 (fun ⟨⟨k, hk, ek⟩, _⟩ => hno k (by omega) ek)))
  rcases hz with rfl | rfl
  · exact br_t rfl (h0 (fun g => absurd g.2.1 (by decide)))
  refine br_f (by decide) ?_
  by_cases n40 : n = 40
  · exact br_t (by rw [hl, n40]; rfl) (h0 (fun g => by omega))
  · have e0 : (320 : Int32) + a_length 8 = nI (320 + n) := by rw [hl, show (320 : Int32) = nI 320 from rfl, nI_add]
    have e1 : ((320 : Int32) + a_length 8).toNatClampNeg = 320 + n := by rw [e0]; exact nI_clamp (by omega)
    have vi : vp_in ((320 : Int32) + a_length 8) 360 := by rw [e0]; exact vp_in_nI (by omega) (by omega)
    refine br_f (fun w => n40 ?_) ⟨vi, nm_r (e' := upd a_kind (320 + n) v1) (by rw [e1]) ⟨vi, nm_r (e' := upd a_with (320 + n) v2) (by rw [e1]) (nm_r (e' := upd a_length 8 (nI (n + 1))) (by rw [hl, nI_1]) ?_)⟩⟩
    · rw [hl] at w
      exact (nI_eq (b := 40) (by omega) (by omega)).mp w
    · rw [pk_us]
      exact h1 ⟨k, by omega, ek⟩ rfl (by omega)
theorem wy_token {post : Int32 → SY → Prop} {n : Nat} {v1 v2 : Int32} (hl : a_length 8 = nI n) (hn : n ≤ 40)
    (h1 : tq_T n v1 v2 → post (nI (n + 1)) (f_count, f_top, f_listed, f_outputs, a_row, a_depth, a_name, a_value, a_moved, upd a_kind (320 + n) v1, upd a_with (320 + n) v2, upd a_length 8 (nI (n + 1)), a_sets, a_fresh, a_type, a_number, a_set, a_list, a_there, a_match, a_priority, a_out, a_on, a_todo, a_within, a_output)) (h0 : ¬ tq_T n v1 v2 → post (-1) (f_count, f_top, f_listed, f_outputs, a_row, a_depth, a_name, a_value, a_moved, a_kind, a_with, a_length, a_sets, a_fresh, a_type, a_number, a_set, a_list, a_there, a_match, a_priority, a_out, a_on, a_todo, a_within, a_output)) : wpY_token post (f_count, f_top, f_listed, f_outputs, a_row, a_depth, a_name, a_value, a_moved, a_kind, a_with, a_length, a_sets, a_fresh, a_type, a_number, a_set, a_list, a_there, a_match, a_priority, a_out, a_on, a_todo, a_within, a_output) v1 v2 := by
  have K1 : (v1 = nI 2 → tq_G v2) → wY_token_54 post v1 v2 1 f_count f_top f_listed f_outputs a_row a_depth a_name a_value a_moved a_kind a_with a_length a_sets a_fresh a_type a_number a_set a_list a_there a_match a_priority a_out a_on a_todo a_within a_output := fun g =>
    wy_tok54 hl hn (Or.inr rfl) (fun ⟨k, hk, ek⟩ _ n40 => h1 ⟨⟨k, hk, ek, fun k2 => g (by rw [ek, k2])⟩, n40⟩) (fun w => h0 (fun ⟨⟨k, hk, ek, _⟩, n40⟩ => w ⟨⟨k, hk, ek⟩, rfl, n40⟩))
  have K0 : v1 = nI 2 → ¬ tq_G v2 → wY_token_54 post v1 v2 0 f_count f_top f_listed f_outputs a_row a_depth a_name a_value a_moved a_kind a_with a_length a_sets a_fresh a_type a_number a_set a_list a_there a_match a_priority a_out a_on a_todo a_within a_output := fun e2 g =>
    wy_tok54 hl hn (Or.inl rfl) (fun _ w _ => absurd w (by decide)) (fun _ => h0 (fun ⟨⟨k, hk, ek, h⟩, n40⟩ => g (h (by
      rw [e2, nI_eq (by omega) (by omega)] at ek
      exact ek.symm))))
  unfold wpY_token
  by_cases z2 : v1 = 2
  · have z2' : v1 = nI 2 := z2
    refine br_t z2 ?_
    by_cases z : v2 < 0
    · exact br_t z (K0 z2' (fun ⟨w, hw, e, _⟩ => nI_pos (n := w) (by omega) (by rw [← e]; exact z)))
    obtain ⟨w, hw, rfl⟩ := nI_of z
    have a1 : nI w &&& 15 = nI (w % 16) := pk_andN (by omega) 4 (by decide)
    have a2 : (nI w >>> ((4 : Int32) &&& 31)) &&& 7 = nI (w / 16 % 8) := by
      rw [pk_shrN hw _ 4 (by decide)]
      exact pk_andN (by omega) 3 (by decide)
    have a3 : nI w >>> ((7 : Int32) &&& 31) = nI (w / 128) := pk_shrN hw _ 7 (by decide)
    have gi : tq_G (nI w) ↔ (w / 128 ≤ 2 ∧ w % 16 ≤ 10 ∧ w / 16 % 8 ≤ 6) := by
      constructor
      · rintro ⟨w', h, e, g⟩
        rw [nI_eq hw (by omega)] at e
        subst e
        exact ⟨by omega, g⟩
      · exact fun g => ⟨w, by omega, rfl, g.2⟩
    refine br_f z ?_
    rw [a1, a2, a3]
    refine wy_in0 (n := 10) (by omega) (fun j1 g1 q1 => br_f (by decide) (wy_in0 (n := 6) (by omega) (fun j2 g2 q2 => br_f (by decide) (wy_in0 (n := 2) (by omega) (fun j3 g3 q3 => br_f (by decide) ?_) (fun q => br_t rfl ?_))) (fun q => br_t rfl ?_))) (fun q => br_t rfl ?_)
    · rw [nI_eq (by omega) (by omega)] at q1 q2 q3
      exact K1 (fun _ => gi.mpr ⟨by omega, by omega, by omega⟩)
    · exact K0 z2' (fun g => q (w / 128) (gi.mp g).1 rfl)
    · exact K0 z2' (fun g => q (w / 16 % 8) (gi.mp g).2.2 rfl)
    · exact K0 z2' (fun g => q (w % 16) (gi.mp g).2.1 rfl)
  · exact br_f z2 (K1 (fun e => absurd e z2))
end
theorem i_vc_token {k : Nat} {u : SX} {v : SY} (I : i_Rel k u v) (hk : k + 6 ≤ 3072) (v1 : Int32) (v2 : Int32) : wpX_token (fun r u' => wpY_token (fun r' v' => r' = r ∧ i_Rel (k + 6) u' v') v v1 v2) u v1 v2 := by
  obtain ⟨f_nodeCount, f_draftLength, f_resultLength, a_inUse, a_parentOf, a_rankOf, a_nameOf, a_valueOf, a_order, a_along, a_draftKind, a_draftValue, a_draftEnd, a_tokenKind, a_tokenValue, a_tokenEnd, a_slotLength, a_setAt, a_amount, a_reached, a_agenda, a_isTemplate, a_matchSlot, a_priorityOf, a_outSlot, a_onSlot, a_waiting, a_result⟩ := u
  obtain ⟨f_count, f_top, f_listed, f_outputs, a_row, a_depth, a_name, a_value, a_moved, a_kind, a_with, a_length, a_sets, a_fresh, a_type, a_number, a_set, a_list, a_there, a_match, a_priority, a_out, a_on, a_todo, a_within, a_output⟩ := v
  have J := i_up I
  obtain ⟨c, n, m, r, d, len, T, X, Y, e1, e2, hdl, hK, hF, e3, e4, e5, e6, e7, hP, hm, hrl, hou, e8⟩ := I
  obtain ⟨k1, k2, k3, k4, k5, k6⟩ := hK
  refine wx_token hdl k1 (fun g => wy_token k2 k1 (fun _ => ⟨rfl, c, n + 1, m, r, d, len, T, X, Y, e1, e2, rfl, ?_, ?_, e3, e4, e5, e6, e7, hP, hm, hrl, hou, e8⟩) (fun w => absurd g w)) (fun w => wy_token k2 k1 (fun g => absurd g w) (fun _ => ⟨rfl, J⟩))
  · obtain ⟨⟨kn, g1, g2, g3⟩, g4⟩ := g
    refine ⟨by omega, pk_us, fun i hi => ?_, fun i hi => ?_, fun i hi => ?_, fun s hs => ?_⟩
    · by_cases z : i = n
      · subst z
        exact ⟨by rw [pk_us, pk_us], by rw [pk_us, pk_us]⟩
      · rw [pk_un z, pk_un z, pk_un (by omega), pk_un (by omega)]
        exact k3 i hi
    · rw [pk_un (by omega), pk_un (by omega)]
      exact k4 i hi
    · by_cases z : i = n
      · subst z
        exact ⟨kn, g1, by rw [pk_us]; exact g2, fun w => by rw [pk_us]; exact g3 w⟩
      · obtain ⟨kk, q1, q2, q3⟩ := k5 i (by omega)
        exact ⟨kk, q1, by rw [pk_un (by omega)]; exact q2, fun w => by rw [pk_un (by omega)]; exact q3 w⟩
    · obtain ⟨q1, q2, q3⟩ := k6 s hs
      have := q3.1
      exact ⟨q1, by rw [pk_un (by omega)]; exact q2, re_Slot_c q3 (fun i x y => ⟨pk_un (by omega), pk_un (by omega), rfl⟩)⟩
  · intro s hs
    obtain ⟨q1, q2⟩ := hF s hs
    have := (k6 s hs).2.2.1
    exact ⟨q1, fun w => re_F1_c (q2 w) (fun i x y => ⟨pk_un (by omega), pk_un (by omega), rfl⟩)⟩
end
section
/-! insert -/
section
variable {f_count f_top f_listed f_outputs : Int32} {a_row a_depth a_name a_value a_moved a_kind a_with a_length a_sets a_fresh a_type a_number a_set a_list a_there a_match a_priority a_out a_on a_todo a_within a_output : Nat → Int32} {c : Nat} {r d : Nat → Nat}
theorem wy_ins101 {post : Int32 → SY → Prop} {x q : Nat} {v3 D : Int32} (hc : c < 24) (hx : x ≤ c) (hq : q < 24) (hcnt : f_count = nI c)
    (h : ∀ row' fr, (∀ j, j < x → row' j = a_row j) → row' x = nI q → (∀ j, x ≤ j → j < c → row' (j + 1) = a_row j) → (∀ s, s < 8 → fr s = 0) →
      post (nI q) (nI (c + 1), f_top, f_listed, f_outputs, row', upd a_depth q D, upd a_name q v3, upd a_value q 0, a_moved, a_kind, a_with, a_length, a_sets, fr, a_type, a_number, a_set, a_list, a_there, a_match, a_priority, a_out, a_on, a_todo, a_within, a_output)) :
    ∀ k row', (∀ j, j ≤ x + k → row' j = a_row j) → (∀ j, x + k ≤ j → j < c → row' (j + 1) = a_row j) → x + k ≤ c → wY_insert_101 post v3 (nI x) D (nI q) f_count f_top f_listed f_outputs (k + 1) (nI (x + k)) row' a_depth a_name a_value a_moved a_kind a_with a_length a_sets a_fresh a_type a_number a_set a_list a_there a_match a_priority a_out a_on a_todo a_within a_output := by
  have ex : (nI x).toNatClampNeg = x := nI_clamp (by omega)
  have eq : (nI q).toNatClampNeg = q := nI_clamp (by omega)
  have vq : vp_in (nI q) 24 := vp_in_nI hq (by omega)
  intro k
  induction k with
  | zero =>
    intro row' h1 h2 h3
    refine br_t (nI_le (by omega) (by omega)) ⟨vp_in_nI (by omega) (by omega), nm_r (e' := upd row' x (nI q)) (by rw [ex]) (nm_r (e' := nI (c + 1)) (by rw [hcnt, nI_1]) ⟨vq, nm_r (e' := upd a_depth q D) (by rw [eq]) ⟨vq, nm_r (e' := upd a_name q v3) (by rw [eq]) ⟨vq, nm_r (e' := upd a_value q 0) (by rw [eq]) (wy_changed (fun fr hf => h _ fr (fun j hj => ?_) pk_us (fun j a b => ?_) hf))⟩⟩⟩)⟩
    · rw [pk_un (by omega)]; exact h1 j (by omega)
    · rw [pk_un (by omega)]; exact h2 j (by omega) b
  | succ k ih =>
    intro row' h1 h2 h3
    have e1 : nI (x + (k + 1)) - 1 = nI (x + k) := pk_sub (a := x + (k + 1)) (b := 1) (by omega)
    have e2 : (nI (x + (k + 1))).toNatClampNeg = x + k + 1 := nI_clamp (by omega)
    refine br_f (nI_ge (by omega) (by omega)) ⟨by rw [e1]; exact vp_in_nI (by omega) (by omega), vp_in_nI (by omega) (by omega), nm_r (e' := upd row' (x + k + 1) (row' (x + k))) (by rw [e1, e2, nI_clamp (by omega)]) (nm_r (pk_m1 (x + k)) (ih _ (fun j hj => ?_) (fun j a b => ?_) (by omega)))⟩
    · rw [pk_un (by omega)]; exact h1 j (by omega)
    · by_cases z : j = x + k
      · subst z
        rw [pk_us]; exact h1 _ (by omega)
      · rw [pk_un (by omega)]; exact h2 j (by omega) b
theorem wy_ins80 {post : Int32 → SY → Prop} {x q : Nat} {v3 D : Int32} (T : td_T c r d) (Y : re_YT c r d f_count a_row a_depth) (hc : c < 24) (hx : x ≤ c) (hq : q < 24) (hfree : ∀ i, i < c → r i ≠ q) (hles : ∀ p, p < q → ∃ i, i < c ∧ r i = p)
    (h : ∀ row' fr, (∀ j, j < x → row' j = a_row j) → row' x = nI q → (∀ j, x ≤ j → j < c → row' (j + 1) = a_row j) → (∀ s, s < 8 → fr s = 0) →
      post (nI q) (nI (c + 1), f_top, f_listed, f_outputs, row', upd a_depth q D, upd a_name q v3, upd a_value q 0, a_moved, a_kind, a_with, a_length, a_sets, fr, a_type, a_number, a_set, a_list, a_there, a_match, a_priority, a_out, a_on, a_todo, a_within, a_output)) :
    ∃ n80, wY_insert_80 post v3 (nI x) D f_count f_top f_listed f_outputs a_row a_depth a_name a_value a_moved a_kind a_with a_length a_sets a_fresh a_type a_number a_set a_list a_there a_match a_priority a_out a_on a_todo a_within a_output n80 0 := by
  have key : ∀ k p, p + k = q → wY_insert_80 post v3 (nI x) D f_count f_top f_listed f_outputs a_row a_depth a_name a_value a_moved a_kind a_with a_length a_sets a_fresh a_type a_number a_set a_list a_there a_match a_priority a_out a_on a_todo a_within a_output (k + 1) (nI p) := by
    intro k
    induction k with
    | zero =>
      intro p hp
      have e : p = q := by omega
      subst e
      refine wy_where T Y (fun w hw => ?_)
      rcases hw with ⟨i, hi, e, -⟩ | ⟨-, rfl⟩
      · rw [nI_eq (by omega) (by have := T.2.2.2.1 i hi; omega)] at e
        exact absurd e.symm (hfree i hi)
      · refine br_t tz_m1lt ⟨c - x + 1, ?_⟩
        have := wy_ins101 (a_fresh := a_fresh) (v3 := v3) (D := D) hc hx hq Y.1 h (c - x) a_row (fun j _ => rfl) (fun j a b => by omega) (by omega)
        rw [show x + (c - x) = c by omega, ← Y.1] at this
        exact this
    | succ k ih =>
      intro p hp
      obtain ⟨i, hi, rfl⟩ := hles p (by omega)
      exact wy_where1 T Y hi (br_f (nI_pos (by have := T.1; omega)) (nm_r (nI_1 (r i)) (ih (r i + 1) (by omega))))
  exact ⟨q + 1, key q 0 (by omega)⟩
end
section
variable {f_nodeCount f_draftLength f_resultLength : Int32} {a_inUse a_parentOf a_rankOf a_nameOf a_valueOf a_order a_along a_draftKind a_draftValue a_draftEnd a_tokenKind a_tokenValue a_tokenEnd a_slotLength a_setAt a_amount a_reached a_agenda a_isTemplate a_matchSlot a_priorityOf a_outSlot a_onSlot a_waiting a_result : Nat → Int32} {c : Nat} {r d : Nat → Nat}
theorem wx_childCount {post : Int32 → Prop} {p e : Nat} (T : td_T c r d) (hal : tx_Rep a_along (tx_R0 r d c)) (hp : p < c) (he : td_En c d p e) (h : post (nI (td_ct d (d p + 1) (p + 1) e))) : wpX_childCount post (f_nodeCount, f_draftLength, f_resultLength, a_inUse, a_parentOf, a_rankOf, a_nameOf, a_valueOf, a_order, a_along, a_draftKind, a_draftValue, a_draftEnd, a_tokenKind, a_tokenValue, a_tokenEnd, a_slotLength, a_setAt, a_amount, a_reached, a_agenda, a_isTemplate, a_matchSlot, a_priorityOf, a_outSlot, a_onSlot, a_waiting, a_result) (nI (r p)) := by
  have rp := T.2.2.2.1 p hp
  have e1 : (24 : Int32) + nI (r p) = nI (1 * 24 + r p) := by rw [show (24 : Int32) = nI (1 * 24) from rfl, nI_add]
  unfold wpX_childCount
  refine ⟨by rw [e1]; exact vp_in_nI (by omega) (by omega), wx_count ?_⟩
  rw [e1, nI_clamp (by omega)]
  have e2 := tc_inj (r := r) (Q := fun l => tk_d (td_Pa d p l)) c (bt (a_along (1 * 24 + r p))) T.2.2.2.1 T.2.2.2.2 (fun q hq => by
    rw [(hal 1 (by omega) (r p) rp).2 q hq]
    constructor
    · rintro ⟨x, y, hx, hy, q1, q2, q3⟩
      rw [T.2.2.2.2 x p hx hp q1, td_on1] at q3
      exact ⟨y, hy, q2, tk_d_t.mpr q3⟩
    · rintro ⟨y, hy, q2, q3⟩
      exact ⟨p, y, hp, hy, rfl, q2, td_on1.mpr (tk_d_t.mp q3)⟩)
  rw [e2, tc_children T.2.1 he c (Nat.le_refl _)]
  have := he.2.1
  by_cases z : c ≤ e
  · rw [if_pos z, show c = e by omega]; exact h
  · rw [if_neg z]; exact h
theorem wx_ins71 {post : Int32 → SX → Prop} {q c' : Nat} {r' d' : Nat → Nat} {v3 : Int32} (T : td_T c' r' d') (hc : f_nodeCount + 1 = nI c') (U : tx_U c' r' (upd a_inUse q 1)) (P : tx_PR c' r' d' a_parentOf a_rankOf) (hq : q < 24)
    (h : ∀ od al, (∀ j, j < c' → od j = nI (r' j)) → tx_Rep al (tx_R0 r' d' c') → post (nI q) (nI c', f_draftLength, f_resultLength, upd a_inUse q 1, a_parentOf, a_rankOf, upd a_nameOf q v3, upd a_valueOf q 0, od, al, a_draftKind, a_draftValue, a_draftEnd, a_tokenKind, a_tokenValue, a_tokenEnd, a_slotLength, a_setAt, a_amount, a_reached, a_agenda, a_isTemplate, a_matchSlot, a_priorityOf, a_outSlot, a_onSlot, a_waiting, a_result)) :
    wX_insert_71 post v3 (nI q) f_nodeCount f_draftLength f_resultLength a_inUse a_parentOf a_rankOf a_nameOf a_valueOf a_order a_along a_draftKind a_draftValue a_draftEnd a_tokenKind a_tokenValue a_tokenEnd a_slotLength a_setAt a_amount a_reached a_agenda a_isTemplate a_matchSlot a_priorityOf a_outSlot a_onSlot a_waiting a_result := by
  have eq : (nI q).toNatClampNeg = q := nI_clamp (by omega)
  have vq : vp_in (nI q) 24 := vp_in_nI hq (by omega)
  exact ⟨vq, nm_r (e' := upd a_inUse q 1) (by rw [eq, tz_b1]) ⟨vq, nm_r (e' := upd a_nameOf q v3) (by rw [eq]) ⟨vq, nm_r (e' := upd a_valueOf q 0) (by rw [eq]) (nm_r hc (wx_layOut T U P h))⟩⟩⟩
end
theorem tx_U_ins {c x q : Nat} {r : Nat → Nat} {u : Nat → Int32} (U : tx_U c r u) (hx : x ≤ c) : tx_U (c + 1) (td_insr x 1 (fun _ => q) r) (upd u q 1) := by
  intro p hp
  by_cases z : p = q
  · subst z
    exact Or.inl ⟨pk_us, x, by omega, td_insr_in (j := 0) (by omega)⟩
  · rw [pk_un z]
    rcases U p hp with ⟨a, i, hi, ei⟩ | ⟨a, b⟩
    · refine Or.inl ⟨a, ?_⟩
      rcases Nat.lt_or_ge i x with y | y
      · exact ⟨i, by omega, by rw [td_insr_lo y]; exact ei⟩
      · exact ⟨i + 1, by omega, by rw [td_insr_hi y]; exact ei⟩
    · refine Or.inr ⟨a, td_insr_cs (x := x) (fun i hi => ?_) (fun j hj => ?_) (fun i h1 h2 => ?_)⟩
      · rw [td_insr_lo hi]; exact b i (by omega)
      · rw [td_insr_in hj]; exact fun w => z w.symm
      · rw [td_insr_hi h1]; exact b i h2
theorem i_vc_insert {k : Nat} {u : SX} {v : SY} (I : i_Rel k u v) (hk : k + 6 ≤ 3072) (v1 : Int32) (v2 : Int32) (v3 : Int32) : wpX_insert (fun r u' => wpY_insert (fun r' v' => r' = r ∧ i_Rel (k + 6) u' v') v v1 v2 v3) u v1 v2 v3 := by
  obtain ⟨f_nodeCount, f_draftLength, f_resultLength, a_inUse, a_parentOf, a_rankOf, a_nameOf, a_valueOf, a_order, a_along, a_draftKind, a_draftValue, a_draftEnd, a_tokenKind, a_tokenValue, a_tokenEnd, a_slotLength, a_setAt, a_amount, a_reached, a_agenda, a_isTemplate, a_matchSlot, a_priorityOf, a_outSlot, a_onSlot, a_waiting, a_result⟩ := u
  obtain ⟨f_count, f_top, f_listed, f_outputs, a_row, a_depth, a_name, a_value, a_moved, a_kind, a_with, a_length, a_sets, a_fresh, a_type, a_number, a_set, a_list, a_there, a_match, a_priority, a_out, a_on, a_todo, a_within, a_output⟩ := v
  have J := i_up I
  obtain ⟨c, n, m, r, d, len, T, X, Y, e1, e2, hdl, hK, hF, e3, e4, e5, e6, e7, hP, hm, hrl, hou, e8⟩ := I
  obtain ⟨hnc, U, P, ho, hal⟩ := X
  have c24 := T.1
  have full := tx_full T
  subst e1 e2
  unfold wpX_insert
  refine wx_least (fun res hres => wx_isName (fun nm hnm enm => br_f (by decide) ?_) (fun hno => br_t rfl ?_))
  rotate_left
  · unfold wpY_insert
    exact wy_in0 (n := 5) (by omega) (fun j hj ej => absurd ej (hno j (by omega))) (fun _ => br_t rfl ⟨rfl, J⟩)
  have inY : ∀ {Q : Int32 → Prop}, Q 1 → wpY_in Q v3 0 5 := fun q => wy_in0 (n := 5) (by omega) (fun _ _ _ => q) (fun h => absurd enm (h nm (by omega)))
  rcases hres with ⟨q, hq, hq0, hql, rfl⟩ | ⟨hall, rfl⟩
  rotate_left
  · have cc : c = 24 := full.mp (fun q hq => by
      rcases U q hq with ⟨-, x⟩ | ⟨x, -⟩
      · exact x
      · exact absurd x (hall q hq))
    refine br_t rfl ?_
    unfold wpY_insert
    exact inY (br_f (by decide) (br_t (by rw [Y.1, cc]; rfl) ⟨rfl, J⟩))
  have hfree : ∀ i, i < c → r i ≠ q := fun i hi e => by
    rcases U q hq with ⟨x, -⟩ | ⟨-, x⟩
    · rw [hq0] at x; exact absurd x (by decide)
    · exact x i hi e
  have hles : ∀ p, p < q → ∃ i, i < c ∧ r i = p := fun p hp => by
    rcases U p (by omega) with ⟨-, x⟩ | ⟨x, -⟩
    · exact x
    · exact absurd x (hql p hp)
  have hc : c < 24 := by
    rcases Nat.lt_or_ge c 24 with z | z
    · exact z
    · obtain ⟨i, hi, ei⟩ := full.mpr (by omega) q hq
      exact absurd ei (hfree i hi)
  refine br_f (tx_m1' (by omega)) ?_
  by_cases c0 : c = 0
  · subst c0
    have q0 : q = 0 := by
      rcases Nat.eq_zero_or_pos q with z | z
      · exact z
      · obtain ⟨i, hi, -⟩ := hles 0 z
        omega
    subst q0
    have T' : td_T 1 (fun _ => 0) (fun _ => 0) := ⟨by omega, ⟨rfl, fun i hi => by omega⟩, rfl, fun i hi => by omega, fun i j hi hj _ => by omega⟩
    refine br_t hnc (wx_attach (n := 0) (by omega) (fun pa2 rk2 hA => wx_ins71 (c' := 1) (r' := fun _ => 0) (d' := fun _ => 0) T' (by rw [hnc]; rfl) ?_ ?_ (by omega) (fun od al hod hal' => ?_)))
    · intro p hp
      by_cases z : p = 0
      · subst z; exact Or.inl ⟨pk_us, 0, by omega, rfl⟩
      · rw [pk_un z]
        rcases U p hp with ⟨-, i, hi, -⟩ | ⟨x, -⟩
        · omega
        · exact Or.inr ⟨x, fun i _ e => z e.symm⟩
    · refine ⟨fun q i hi h => ?_, fun _ => ⟨hA.1, hA.2.1⟩⟩
      have := h.1
      omega
    · unfold wpY_insert
      refine inY (br_f (by decide) (br_f (by rw [Y.1]; decide) (br_t (by rw [Y.1]; decide) (wy_ins80 (x := 0) (q := 0) T Y hc (by omega) (by omega) hfree hles (fun row' fr _ h2 _ h4 => ⟨rfl, 1, n, m, fun _ => 0, fun _ => 0, len, T', ⟨rfl, ?_, ?_, hod, hal'⟩, ⟨rfl, fun i hi => ?_, fun i hi => ?_⟩, rfl, rfl, hdl, hK, re_F0 h4, e3, e4, e5, e6, e7, hP, hm, hrl, hou, e8⟩)))))
      · intro p hp
        by_cases z : p = 0
        · subst z; exact Or.inl ⟨pk_us, 0, by omega, rfl⟩
        · rw [pk_un z]
          rcases U p hp with ⟨-, i, hi, -⟩ | ⟨x, -⟩
          · omega
          · exact Or.inr ⟨x, fun i _ e => z e.symm⟩
      · refine ⟨fun q i hi h => ?_, fun _ => ⟨hA.1, hA.2.1⟩⟩
        have := h.1
        omega
      · have : i = 0 := by omega
        subst this; exact h2
      · exact pk_us
  · have c0' : ¬ f_count ≤ 0 := by rw [Y.1]; exact nI_nle (by omega) (by omega)
    have c24' : ¬ f_count = 24 := by rw [Y.1]; exact fun w => by have := (nI_eq (b := 24) (by omega) (by omega)).mp w; omega
    refine br_f (by rw [hnc]; exact nI_ne0 (by omega) (by omega)) (wx_isNode T U (fun p hp ep => ?_) (fun hno => br_t rfl ?_))
    rotate_left
    · unfold wpY_insert
      refine inY (br_f (by decide) (br_f c24' (br_f c0' (wy_where T Y (fun w hw => ?_)))))
      rcases hw with ⟨i, hi, e, -⟩ | ⟨-, rfl⟩
      · exact absurd e (hno i hi)
      · exact br_t tz_m1lt ⟨rfl, J⟩
    subst ep
    obtain ⟨e, he⟩ := td_endEx (c := c) (d := d) hp
    have he2 := he.2.1
    have rp := T.2.2.2.1 p hp
    have np : ∀ {i : Nat}, i < 24 → ¬ nI i < 0 := fun h => nI_pos (by omega)
    refine br_f (by decide) ?_
    by_cases kn : v2 < 0
    · refine br_t kn ?_
      unfold wpY_insert
      exact inY (br_f (by decide) (br_f c24' (br_f c0' (wy_where1 T Y hp (br_f (np (by omega)) (br_f (Int32.not_le.mpr kn) ⟨rfl, J⟩))))))
    obtain ⟨kk, hkk, rfl⟩ := nI_of kn
    have ce : td_ct d (d p + 1) (p + 1) e ≤ 24 := by have := td_ct_c (d := d) (D := d p + 1) (lo := p + 1) e; omega
    refine br_f kn (wx_childCount T hal hp he ?_)
    by_cases kc : kk ≤ td_ct d (d p + 1) (p + 1) e
    rotate_left
    · refine br_f (nI_ge (by omega) (by omega)) ?_
      unfold wpY_insert
      refine inY (br_f (by decide) (br_f c24' (br_f c0' (wy_where1 T Y hp (br_f (np (by omega)) (br_t (nI_pos' hkk) (wy_place T Y hp he hkk (fun x hx => ?_) (fun _ => br_f tz_n0m1 ⟨rfl, J⟩))))))))
      have := td_pl_up hx he
      omega
    refine br_t (nI_le kc (by omega)) (wx_attach hq (fun pa2 rk2 hA => ?_))
    obtain ⟨x, hx⟩ := td_pl_ex T.2.1 hp he kk kc
    have hpx := hx.1
    have hxc := hx.2.1
    have Ins : td_Ins c x 1 p d (fun _ => d p + 1) (td_insr x 1 (fun _ => d p + 1) d) :=
      ⟨by omega, hpx, hxc, hx.2.2.1, hx.2.2.2.1, rfl, fun j a b => by omega, fun i hi => td_insr_lo hi, fun j hj => td_insr_in hj, fun i a b => td_insr_hi a⟩
    have T' : td_T (c + 1) (td_insr x 1 (fun _ => q) r) (td_insr x 1 (fun _ => d p + 1) d) :=
      td_insT T Ins (by omega) (fun j hj => by omega) (fun _ _ => hq) (fun i j hi hj _ => by omega) (fun i j hi _ => hfree i hi)
    have P' : tx_PR (c + 1) (td_insr x 1 (fun _ => q) r) (td_insr x 1 (fun _ => d p + 1) d) pa2 rk2 :=
      tx_att T P (fun q' j hj h => by have := h.1; omega) Ins hx T' (fun _ _ => hq) (fun i j hi hj _ => by omega) (fun i j hi _ => hfree i hi) (fun i hi => tx_U_1 U hi (T.2.2.2.1 i hi)) hA
    have U' := tx_U_ins (q := q) U hxc
    refine wx_ins71 (c' := c + 1) T' (by rw [hnc, nI_1]) U' P' hq (fun od al hod hal' => ?_)
    unfold wpY_insert
    have dpb : a_depth (nI (r p)).toNatClampNeg + 1 = nI (d p + 1) := by rw [nI_clamp (by omega), Y.2.2 p hp, nI_1]
    refine inY (br_f (by decide) (br_f c24' (br_f c0' (wy_where1 T Y hp (br_f (np (by omega)) (br_t (nI_pos' hkk) (wy_place T Y hp he hkk (fun x' hx' => ?_) (fun w => ?_))))))))
    · have ex := td_pl_uq hx' hx he
      subst ex
      refine br_t (nI_pos' (by omega)) ⟨vp_in_nI rp (by omega), nm_r dpb (wy_ins80 T Y hc hxc hq hfree hles (fun row' fr h1 h2 h3 h4 => ⟨rfl, c + 1, n, m, _, _, len, T', ⟨rfl, U', P', hod, hal'⟩, ⟨rfl, ?_, ?_⟩, rfl, rfl, hdl, hK, re_F0 h4, e3, e4, e5, e6, e7, hP, hm, hrl, hou, e8⟩))⟩
      · refine td_insr_cs (x := x') (fun i hi => ?_) (fun j hj => ?_) (fun i a b => ?_)
        · rw [td_insr_lo hi, h1 i hi]; exact Y.2.1 i (by omega)
        · have : j = 0 := by omega
          subst this
          rw [td_insr_in hj]; exact h2
        · rw [td_insr_hi a, h3 i a b]; exact Y.2.1 i b
      · refine td_insr_cs (x := x') (fun i hi => ?_) (fun j hj => ?_) (fun i a b => ?_)
        · rw [td_insr_lo hi, td_insr_lo hi, pk_un (hfree i (by omega))]; exact Y.2.2 i (by omega)
        · rw [td_insr_in hj, td_insr_in hj]; exact pk_us
        · rw [td_insr_hi a, td_insr_hi a, pk_un (hfree i b)]; exact Y.2.2 i b
    · omega
end
section
/-! remove -/
theorem td_cutd_cs {a m c : Nat} {P : Nat → Prop} (hac : a ≤ c - m) (h1 : ∀ i, i < a → P i) (h2 : ∀ i, a + m ≤ i → i < c → P (i - m)) : ∀ i, i < c - m → P i := by
  intro i hi
  rcases Nat.lt_or_ge i a with z | z
  · exact h1 i z
  · have := h2 (i + m) (by omega) (by omega)
    rw [show i + m - m = i by omega] at this
    exact this
theorem td_cutT {c a m p : Nat} {r d : Nat → Nat} (T : td_T c r d) (hp : td_Pa d p a) (ha : a < c) (he : td_En c d a (a + m)) : td_T (c - m) (td_cutd a m r) (td_cutd a m d) := by
  have hpa := hp.1
  have c24 := T.1
  have he1 := he.1
  have he2 := he.2.1
  refine ⟨by omega, td_cut_ok T.2.1 hp ha he, by rw [td_cutd_lo (by omega)]; exact T.2.2.1, fun i hi => ?_, fun i j hi hj e => ?_⟩
  · rcases Nat.lt_or_ge i a with z | z
    · rw [td_cutd_lo z]; exact T.2.2.2.1 i (by omega)
    · rw [td_cutd_hi z]; exact T.2.2.2.1 _ (by omega)
  · rcases Nat.lt_or_ge i a with z | z <;> rcases Nat.lt_or_ge j a with y | y
    · rw [td_cutd_lo z, td_cutd_lo y] at e; exact T.2.2.2.2 i j (by omega) (by omega) e
    · rw [td_cutd_lo z, td_cutd_hi y] at e; have := T.2.2.2.2 i (j + m) (by omega) (by omega) e; omega
    · rw [td_cutd_hi z, td_cutd_lo y] at e; have := T.2.2.2.2 (i + m) j (by omega) (by omega) e; omega
    · rw [td_cutd_hi z, td_cutd_hi y] at e; have := T.2.2.2.2 (i + m) (j + m) (by omega) (by omega) e; omega
def tx_ui (u : Nat → Int32) (x : Int32) (i : Nat) (u' : Nat → Int32) : Prop := ∀ q, q < 24 → ((q < i ∧ bt x q = true) → u' q = 0) ∧ (¬ (q < i ∧ bt x q = true) → u' q = u q)
theorem tx_U_cut {c a m : Nat} {r d : Nat → Nat} {u u' : Nat → Int32} {x : Int32} (T : td_T c r d) (U : tx_U c r u) (ha : a < c) (he : td_En c d a (a + m)) (hx : ∀ l, l < c → (bt x (r l) = true ↔ (td_An d a l ∨ l = a))) (hu : tx_ui u x 24 u') :
    tx_U (c - m) (td_cutd a m r) u' := by
  have he1 := he.1
  have he2 := he.2.1
  have blk : ∀ l, l < c → (bt x (r l) = true ↔ (a ≤ l ∧ l < a + m)) := fun l hl => by
    rw [hx l hl, td_AnEn he hl]; omega
  intro q hq
  obtain ⟨h1, h2⟩ := hu q hq
  rcases U q hq with ⟨g, i, hi, ei⟩ | ⟨g, hno⟩
  · subst ei
    by_cases z : a ≤ i ∧ i < a + m
    · refine Or.inr ⟨h1 ⟨hq, (blk i hi).mpr z⟩, fun j hj e => ?_⟩
      rcases Nat.lt_or_ge j a with y | y
      · rw [td_cutd_lo y] at e; have := T.2.2.2.2 j i (by omega) hi e; omega
      · rw [td_cutd_hi y] at e; have := T.2.2.2.2 (j + m) i (by omega) hi e; omega
    · refine Or.inl ⟨(h2 (fun w => z ((blk i hi).mp w.2))).trans g, ?_⟩
      rcases Nat.lt_or_ge i a with y | y
      · exact ⟨i, by omega, td_cutd_lo y⟩
      · refine ⟨i - m, by omega, ?_⟩
        rw [td_cutd_hi (by omega), show i - m + m = i by omega]
  · have uq : u' q = 0 := by
      by_cases z : bt x q = true
      · exact h1 ⟨hq, z⟩
      · exact (h2 (fun w => z w.2)).trans g
    refine Or.inr ⟨uq, fun j hj e => ?_⟩
    rcases Nat.lt_or_ge j a with y | y
    · rw [td_cutd_lo y] at e; exact hno j (by omega) e
    · rw [td_cutd_hi y] at e; exact hno _ (by omega) e
section
variable {f_nodeCount f_draftLength f_resultLength : Int32} {a_inUse a_parentOf a_rankOf a_nameOf a_valueOf a_order a_along a_draftKind a_draftValue a_draftEnd a_tokenKind a_tokenValue a_tokenEnd a_slotLength a_setAt a_amount a_reached a_agenda a_isTemplate a_matchSlot a_priorityOf a_outSlot a_onSlot a_waiting a_result : Nat → Int32} {c : Nat} {r d : Nat → Nat}
theorem tx_blk {a : Nat} (T : td_T c r d) (hal : tx_Rep a_along (tx_R0 r d c)) (ha : a < c) : ∀ l, l < c → (bt (a_along (9 * 24 + r a)) (r l) = true ↔ (td_An d a l ∨ l = a)) := fun l hl => by
  rw [(hal 9 (by omega) (r a) (T.2.2.2.1 a ha)).2 (r l) (T.2.2.2.1 l hl), tx_R0_on T (Nat.le_refl _) ha hl, td_on9]
theorem tx_blkn {a e : Nat} (T : td_T c r d) (hal : tx_Rep a_along (tx_R0 r d c)) (ha : a < c) (he : td_En c d a e) : tc_n (bt (a_along (9 * 24 + r a))) 24 = e - a := by
  have e2 := tc_inj (r := r) (Q := fun l => tk_d (td_An d a l ∨ l = a)) c (bt (a_along (9 * 24 + r a))) T.2.2.2.1 T.2.2.2.2 (fun q hq => by
    rw [(hal 9 (by omega) (r a) (T.2.2.2.1 a ha)).2 q hq]
    constructor
    · rintro ⟨x, y, hx, hy, q1, q2, q3⟩
      rw [T.2.2.2.2 x a hx ha q1, td_on9] at q3
      exact ⟨y, hy, q2, tk_d_t.mpr q3⟩
    · rintro ⟨y, hy, q2, q3⟩
      exact ⟨a, y, ha, hy, rfl, q2, td_on9.mpr (tk_d_t.mp q3)⟩)
  have := he.2.1
  have := he.1
  rw [e2, tc_block he c (Nat.le_refl _), if_neg (by omega)]
  by_cases z : c ≤ e
  · rw [if_pos z]; omega
  · rw [if_neg z]
theorem wx_rm35 {post : Int32 → SX → Prop} {x : Int32} {c' m : Nat} (hc : f_nodeCount - nI m = nI c')
    (h : ∀ u', tx_ui a_inUse x 24 u' → wpX_layOut (fun u => post (nI m) u) (nI c', f_draftLength, f_resultLength, u', a_parentOf, a_rankOf, a_nameOf, a_valueOf, a_order, a_along, a_draftKind, a_draftValue, a_draftEnd, a_tokenKind, a_tokenValue, a_tokenEnd, a_slotLength, a_setAt, a_amount, a_reached, a_agenda, a_isTemplate, a_matchSlot, a_priorityOf, a_outSlot, a_onSlot, a_waiting, a_result)) :
    ∀ k i u', i + k = 24 → tx_ui a_inUse x i u' → wX_remove_35 post x (nI m) f_nodeCount f_draftLength f_resultLength (k + 1) (nI i) u' a_parentOf a_rankOf a_nameOf a_valueOf a_order a_along a_draftKind a_draftValue a_draftEnd a_tokenKind a_tokenValue a_tokenEnd a_slotLength a_setAt a_amount a_reached a_agenda a_isTemplate a_matchSlot a_priorityOf a_outSlot a_onSlot a_waiting a_result := by
  intro k
  induction k with
  | zero =>
    intro i u' hi hu
    have e : i = 24 := by omega
    subst e
    exact br_t (nI_le (a := 24) (b := 24) (by omega) (by omega)) (nm_r hc (h u' hu))
  | succ k ih =>
    intro i u' hi hu
    have ei : (nI i).toNatClampNeg = i := nI_clamp (by omega)
    refine br_f (nI_ge (a := i) (b := 24) (by omega) (by omega)) ?_
    by_cases z : bt x i = true
    · refine br_f (fun w => by rw [mk_f (by omega), z] at w; cases w) ⟨vp_in_nI (by omega) (by omega), nm_r (e' := upd u' i 0) (by rw [ei, tz_b0]) (nm_r (nI_1 i) (ih (i + 1) _ (by omega) (fun q hq => ?_)))⟩
      obtain ⟨h1, h2⟩ := hu q hq
      by_cases y : q = i
      · subst y
        rw [pk_us]
        exact ⟨fun _ => rfl, fun w => absurd ⟨by omega, z⟩ w⟩
      · rw [pk_un y]
        exact ⟨fun w => h1 ⟨by omega, w.2⟩, fun w => h2 (fun v => w ⟨by omega, v.2⟩)⟩
    · refine br_t ((mk_f (by omega)).mpr (tz_nb z)) (nm_r (nI_1 i) (ih (i + 1) _ (by omega) (fun q hq => ?_)))
      obtain ⟨h1, h2⟩ := hu q hq
      refine ⟨fun w => h1 ⟨?_, w.2⟩, fun w => h2 (fun v => w ⟨by omega, v.2⟩)⟩
      by_cases y : q = i
      · subst y; exact absurd w.2 z
      · omega
end
section
variable {f_count f_top f_listed f_outputs : Int32} {a_row a_depth a_name a_value a_moved a_kind a_with a_length a_sets a_fresh a_type a_number a_set a_list a_there a_match a_priority a_out a_on a_todo a_within a_output : Nat → Int32} {c : Nat} {r d : Nat → Nat}
theorem wy_shift {m a c' : Nat} {W : Nat → Int32 → (Nat → Int32) → Prop} (hc : a ≤ c')
    (h0 : ∀ n row', (∀ j, j < a → row' j = a_row j) → (∀ j, a ≤ j → j < c' → row' j = a_row (j + m)) → W (n + 1) (nI c') row')
    (hs : ∀ n i row', a ≤ i → i < c' → W n (nI (i + 1)) (upd row' i (row' (i + m))) → W (n + 1) (nI i) row') (hm : 0 < m) :
    ∀ k i row', i + k = c' → a ≤ i → (∀ j, j < a → row' j = a_row j) → (∀ j, a ≤ j → j < i → row' j = a_row (j + m)) → (∀ j, i ≤ j → row' j = a_row j) → W (k + 1) (nI i) row' := by
  intro k
  induction k with
  | zero =>
    intro i row' hi ha h1 h2 h3
    have e : i = c' := by omega
    subst e
    exact h0 0 row' h1 h2
  | succ k ih =>
    intro i row' hi ha h1 h2 h3
    refine hs (k + 1) i row' ha (by omega) (ih (i + 1) _ (by omega) (by omega) (fun j hj => ?_) (fun j x y => ?_) (fun j hj => ?_))
    · rw [pk_un (by omega)]; exact h1 j hj
    · by_cases z : j = i
      · subst z; rw [pk_us]; exact h3 _ (by omega)
      · rw [pk_un z]; exact h2 j x (by omega)
    · rw [pk_un (by omega)]; exact h3 j (by omega)
theorem wy_remove {post : Int32 → SY → Prop} {a m : Nat} (T : td_T c r d) (Y : re_YT c r d f_count a_row a_depth) (ha : a < c) (he : td_En c d a (a + m))
    (h : ∀ row' fr, (∀ j, j < a → row' j = a_row j) → (∀ j, a ≤ j → j < c - m → row' j = a_row (j + m)) → (∀ s, s < 8 → fr s = 0) → post (nI m) (nI (c - m), f_top, f_listed, f_outputs, row', a_depth, a_name, a_value, a_moved, a_kind, a_with, a_length, a_sets, fr, a_type, a_number, a_set, a_list, a_there, a_match, a_priority, a_out, a_on, a_todo, a_within, a_output)) : wpY_remove post (f_count, f_top, f_listed, f_outputs, a_row, a_depth, a_name, a_value, a_moved, a_kind, a_with, a_length, a_sets, a_fresh, a_type, a_number, a_set, a_list, a_there, a_match, a_priority, a_out, a_on, a_todo, a_within, a_output) (nI (r a)) := by
  have c24 := T.1
  have he1 := he.1
  have he2 := he.2.1
  unfold wpY_remove
  refine wy_where1 T Y ha (br_t (nI_pos' (by omega)) (wy_behind T Y ha he (nm_r (e' := nI m) ?_ (nm_r (e' := nI (c - m)) ?_ ⟨c - m - a + 1, ?_⟩))))
  · rw [pk_sub (by omega), show a + m - a = m by omega]
  · rw [Y.1, pk_sub (by omega)]
  · refine wy_shift (a_row := a_row) (m := m) (a := a) (c' := c - m) (W := fun n i row' => wY_remove_33 post (nI m) (nI (c - m)) f_top f_listed f_outputs n i row' a_depth a_name a_value a_moved a_kind a_with a_length a_sets a_fresh a_type a_number a_set a_list a_there a_match a_priority a_out a_on a_todo a_within a_output) (by omega) (fun n row' h1 h2 => br_t (nI_le (Nat.le_refl _) (by omega)) (wy_changed (fun fr hf => h row' fr h1 h2 hf))) (fun n i row' x y hw => ?_) (by omega) (c - m - a) a a_row (by omega) (Nat.le_refl _) (fun j _ => rfl) (fun j x y => by omega) (fun j _ => rfl)
    refine br_f (nI_ge y (by omega)) ⟨by rw [nI_add]; exact vp_in_nI (by omega) (by omega), vp_in_nI (by omega) (by omega), nm_r (e' := upd row' i (row' (i + m))) (by rw [nI_add, nI_clamp (by omega), nI_clamp (by omega)]) (nm_r (nI_1 i) hw)⟩
end
theorem i_vc_remove {k : Nat} {u : SX} {v : SY} (I : i_Rel k u v) (hk : k + 6 ≤ 3072) (v1 : Int32) : wpX_remove (fun r u' => wpY_remove (fun r' v' => r' = r ∧ i_Rel (k + 6) u' v') v v1) u v1 := by
  obtain ⟨f_nodeCount, f_draftLength, f_resultLength, a_inUse, a_parentOf, a_rankOf, a_nameOf, a_valueOf, a_order, a_along, a_draftKind, a_draftValue, a_draftEnd, a_tokenKind, a_tokenValue, a_tokenEnd, a_slotLength, a_setAt, a_amount, a_reached, a_agenda, a_isTemplate, a_matchSlot, a_priorityOf, a_outSlot, a_onSlot, a_waiting, a_result⟩ := u
  obtain ⟨f_count, f_top, f_listed, f_outputs, a_row, a_depth, a_name, a_value, a_moved, a_kind, a_with, a_length, a_sets, a_fresh, a_type, a_number, a_set, a_list, a_there, a_match, a_priority, a_out, a_on, a_todo, a_within, a_output⟩ := v
  have J := i_up I
  obtain ⟨c, n, m, r, d, len, T, X, Y, e1, e2, hdl, hK, hF, e3, e4, e5, e6, e7, hP, hm, hrl, hou, e8⟩ := I
  obtain ⟨hnc, U, P, ho, hal⟩ := X
  have c24 := T.1
  unfold wpX_remove
  refine wx_isNode T U (fun a ha ea => ?_) (fun hno => br_t rfl ?_)
  rotate_left
  · unfold wpY_remove
    refine wy_where T Y (fun w hw => ?_)
    rcases hw with ⟨i, hi, e, -⟩ | ⟨-, rfl⟩
    · exact absurd e (hno i hi)
    · exact br_f tz_n0m1 ⟨rfl, J⟩
  subst ea
  obtain ⟨e, he⟩ := td_endEx (c := c) (d := d) ha
  obtain ⟨b, rfl⟩ : ∃ b, e = a + b := ⟨e - a, by have := he.1; omega⟩
  have he1 := he.1
  have he2 := he.2.1
  have ra := T.2.2.2.1 a ha
  have ei : (216 : Int32) + nI (r a) = nI (9 * 24 + r a) := by rw [show (216 : Int32) = nI (9 * 24) from rfl, nI_add]
  have ec : ((216 : Int32) + nI (r a)).toNatClampNeg = 9 * 24 + r a := by rw [ei]; exact nI_clamp (by omega)
  have cnt := tx_blkn T hal ha he
  rw [show a + b - a = b by omega] at cnt
  refine br_f (by decide) ⟨by rw [ei]; exact vp_in_nI (by omega) (by omega), nm_r (e' := a_along (9 * 24 + r a)) (by rw [ec]) (wx_count ?_)⟩
  rw [cnt]
  refine wx_detach ra (fun rk1 hD => ⟨25, ?_⟩)
  by_cases a0 : a = 0
  · subst a0
    have bc : 0 + b = c := td_nx_rt T.2.1 he
    have T' : td_T 0 (fun _ => 0) (fun _ => 0) := ⟨by omega, ⟨rfl, fun i hi => by omega⟩, rfl, fun i hi => by omega, fun i j hi => by omega⟩
    refine wx_rm35 (c' := 0) (by rw [hnc, pk_sub (by omega), show c - b = 0 by omega]) (fun u' hu => ?_) 24 0 a_inUse rfl (fun q _ => ⟨fun w => by omega, fun _ => rfl⟩)
    have U' : tx_U 0 (fun _ => 0) u' := by
      have := tx_U_cut T U ha he (tx_blk T hal ha) hu
      intro q hq
      rcases this q hq with ⟨-, i, hi, -⟩ | ⟨x, -⟩
      · omega
      · exact Or.inr ⟨x, fun i hi => by omega⟩
    have P' : tx_PR 0 (fun _ => 0) (fun _ => 0) a_parentOf rk1 := ⟨fun q i hi => by omega, fun h => by omega⟩
    refine wx_layOut T' U' P' (fun od al hod hal' => wy_remove T Y ha he (fun row' fr h1 h2 h3 => ⟨rfl, 0, n, m, fun _ => 0, fun _ => 0, len, T', ⟨rfl, U', P', hod, hal'⟩, ⟨by rw [show c - b = 0 by omega], fun i hi => by omega, fun i hi => by omega⟩, e1, e2, hdl, hK, re_F0 h3, e3, e4, e5, e6, e7, hP, hm, hrl, hou, e8⟩))
  · obtain ⟨p, hp⟩ := td_ex T.2.1 (i := a) (by omega) ha
    have T' := td_cutT T hp ha he
    have hac : a ≤ c - b := by omega
    refine wx_rm35 (c' := c - b) (by rw [hnc, pk_sub (by omega)]) (fun u' hu => ?_) 24 0 a_inUse rfl (fun q _ => ⟨fun w => by omega, fun _ => rfl⟩)
    have U' := tx_U_cut T U ha he (tx_blk T hal ha) hu
    have P' := (tx_det T P U hp ha he hD).1
    refine wx_layOut T' U' P' (fun od al hod hal' => wy_remove T Y ha he (fun row' fr h1 h2 h3 => ⟨rfl, c - b, n, m, _, _, len, T', ⟨rfl, U', P', hod, hal'⟩, ⟨rfl, fun i hi => ?_, fun i hi => ?_⟩, e1, e2, hdl, hK, re_F0 h3, e3, e4, e5, e6, e7, hP, hm, hrl, hou, e8⟩))
    · rcases Nat.lt_or_ge i a with z | z
      · rw [td_cutd_lo z, h1 i z]; exact Y.2.1 i (by omega)
      · rw [td_cutd_hi z, h2 i z hi]; exact Y.2.1 _ (by omega)
    · rcases Nat.lt_or_ge i a with z | z
      · rw [td_cutd_lo z, td_cutd_lo z]; exact Y.2.2 i (by omega)
      · rw [td_cutd_hi z, td_cutd_hi z]; exact Y.2.2 _ (by omega)
end
section
/-! move: the walk of the reference -/
section
variable {f_count f_top f_listed f_outputs : Int32} {a_row a_depth a_name a_value a_moved a_kind a_with a_length a_sets a_fresh a_type a_number a_set a_list a_there a_match a_priority a_out a_on a_todo a_within a_output : Nat → Int32} {c : Nat} {r d : Nat → Nat}
theorem wy_mv246 {post : Int32 → SY → Prop} {m to c1 : Nat} {B : Nat → Nat} {x8 by_ : Int32} {dep0 row2 : Nat → Int32} (hm : to + m ≤ 24) (hx8 : x8 = 0 ∨ x8 = 1) (hmv : ∀ j, j < m → a_moved j = nI (B j)) (hB : ∀ j, j < m → B j < 24) (hBi : ∀ i j, i < m → j < m → B i = B j → i = j)
    (h : ∀ row3 dep3 fr, (∀ j, j < to → row3 j = row2 j) → (∀ j, j < m → row3 (to + j) = nI (B j)) → (∀ j, to + m ≤ j → row3 j = row2 j) → (∀ j, j < m → dep3 (B j) = dep0 (B j) + by_) → (∀ q, (∀ j, j < m → B j ≠ q) → dep3 q = dep0 q) → (∀ s, s < 8 → fr s = 0) →
      post x8 (nI c1, f_top, f_listed, f_outputs, row3, dep3, a_name, a_value, a_moved, a_kind, a_with, a_length, a_sets, fr, a_type, a_number, a_set, a_list, a_there, a_match, a_priority, a_out, a_on, a_todo, a_within, a_output)) :
    ∀ k i row3 dep3, i + k = m → (∀ j, j < to → row3 j = row2 j) → (∀ j, j < i → row3 (to + j) = nI (B j)) → (∀ j, to + m ≤ j → row3 j = row2 j) → (∀ j, j < i → dep3 (B j) = dep0 (B j) + by_) → (∀ q, (∀ j, j < i → B j ≠ q) → dep3 q = dep0 q) →
      wY_move_246 post (nI m) (nI to) x8 by_ (nI c1) f_top f_listed f_outputs (k + 1) (nI i) row3 dep3 a_name a_value a_moved a_kind a_with a_length a_sets a_fresh a_type a_number a_set a_list a_there a_match a_priority a_out a_on a_todo a_within a_output := by
  intro k
  induction k with
  | zero =>
    intro i row3 dep3 hi g1 g2 g3 g4 g5
    have e : i = m := by omega
    subst e
    refine br_t (nI_le (Nat.le_refl _) (by omega)) (wy_changed (fun fr hf => ⟨?_, h row3 dep3 fr g1 g2 g3 g4 g5 hf⟩))
    rcases hx8 with rfl | rfl <;> rfl
  | succ k ih =>
    intro i row3 dep3 hi g1 g2 g3 g4 g5
    have bi := hB i (by omega)
    have ei : (nI i).toNatClampNeg = i := nI_clamp (by omega)
    have em : a_moved (nI i).toNatClampNeg = nI (B i) := by rw [ei]; exact hmv i (by omega)
    have vi : vp_in (nI i) 24 := vp_in_nI (by omega) (by omega)
    have vb : vp_in (a_moved (nI i).toNatClampNeg) 24 := by rw [em]; exact vp_in_nI bi (by omega)
    have ed : dep3 (B i) = dep0 (B i) := g5 _ (fun j hj e => by have := hBi j i (by omega) (by omega) e; omega)
    refine br_f (nI_ge (by omega) (by omega)) ⟨vi, by rw [nI_add]; exact vp_in_nI (by omega) (by omega), nm_r (e' := upd row3 (to + i) (nI (B i))) (by rw [nI_add, nI_clamp (by omega), em]) ⟨vi, vb, vb, nm_r (e' := upd dep3 (B i) (dep0 (B i) + by_)) (by rw [em, nI_clamp (by omega), ed]) (nm_r (nI_1 i) (ih (i + 1) _ _ (by omega) (fun j hj => ?_) (fun j hj => ?_) (fun j hj => ?_) (fun j hj => ?_) (fun q hq => ?_)))⟩⟩
    · rw [pk_un (by omega)]; exact g1 j hj
    · by_cases z : j = i
      · subst z; exact pk_us
      · rw [pk_un (by omega)]; exact g2 j (by omega)
    · rw [pk_un (by omega)]; exact g3 j hj
    · by_cases z : j = i
      · subst z; exact pk_us
      · rw [pk_un (fun e => z (hBi j i (by omega) (by omega) e))]; exact g4 j (by omega)
    · rw [pk_un (fun e => hq i (by omega) e.symm)]; exact g5 q (fun j hj => hq j (by omega))
/-- the rows behind 'to' go up by m; then the block is put in -/
theorem wy_mv176 {post : Int32 → SY → Prop} {m to c1 : Nat} {x1 x2 x8 : Int32} {row1 : Nat → Int32} (hm : 0 < m) (hc : c1 + m ≤ 24) (ht : 0 < to) (htc : to ≤ c1) (hcnt : f_count = nI c1)
    (h0 : x8 = 0 → ∀ row2, (∀ j, j < to → row2 j = row1 j) → (∀ j, to ≤ j → j < c1 → row2 (j + m) = row1 j) → ∃ n, wY_move_246 post (nI m) (nI to) x8 0 (nI (c1 + m)) f_top f_listed f_outputs n 0 row2 a_depth a_name a_value a_moved a_kind a_with a_length a_sets a_fresh a_type a_number a_set a_list a_there a_match a_priority a_out a_on a_todo a_within a_output)
    (h1 : x8 ≠ 0 → vp_in x2 24 ∧ vp_in x1 24 ∧ ∀ row2, (∀ j, j < to → row2 j = row1 j) → (∀ j, to ≤ j → j < c1 → row2 (j + m) = row1 j) → ∃ n, wY_move_246 post (nI m) (nI to) x8 (a_depth x2.toNatClampNeg + 1 - a_depth x1.toNatClampNeg) (nI (c1 + m)) f_top f_listed f_outputs n 0 row2 a_depth a_name a_value a_moved a_kind a_with a_length a_sets a_fresh a_type a_number a_set a_list a_there a_match a_priority a_out a_on a_todo a_within a_output) :
    ∀ k row2, to + k ≤ c1 → (∀ j, j < to + k → row2 j = row1 j) → (∀ j, to + k ≤ j → j < c1 → row2 (j + m) = row1 j) → wY_move_176 post x1 x2 (nI m) (nI to) x8 f_count f_top f_listed f_outputs (k + 1) (nI (to + k - 1)) row2 a_depth a_name a_value a_moved a_kind a_with a_length a_sets a_fresh a_type a_number a_set a_list a_there a_match a_priority a_out a_on a_todo a_within a_output := by
  intro k
  induction k with
  | zero =>
    intro row2 hk g1 g2
    refine br_t (nI_lt (by omega) (by omega)) (nm_r (e' := nI (c1 + m)) (by rw [hcnt, nI_add]) ?_)
    by_cases z : x8 = 0
    · exact br_t z (h0 z row2 g1 g2)
    · obtain ⟨v2, v1, hh⟩ := h1 z
      exact br_f z ⟨v2, v1, nm_e (hh row2 g1 g2)⟩
  | succ k ih =>
    intro row2 hk g1 g2
    have e0 : to + (k + 1) - 1 = to + k := by omega
    rw [e0]
    have e1 : (nI (to + k)).toNatClampNeg = to + k := nI_clamp (by omega)
    refine br_f (nI_nlt (by omega) (by omega)) ⟨vp_in_nI (by omega) (by omega), by rw [nI_add]; exact vp_in_nI (by omega) (by omega), nm_r (e' := upd row2 (to + k + m) (row2 (to + k))) (by rw [nI_add, nI_clamp (by omega), e1]) (nm_r (e' := nI (to + k - 1)) ?_ (ih _ (by omega) (fun j hj => ?_) (fun j a b => ?_)))⟩
    · rw [sb_m1 (by omega)]
    · rw [pk_un (by omega)]; exact g1 j (by omega)
    · by_cases z : j = to + k
      · subst z; rw [pk_us]; exact g1 _ (by omega)
      · rw [pk_un (by omega)]; exact g2 j (by omega) b
theorem wy_mv54 {post : Int32 → SY → Prop} {a m c1 : Nat} {x1 x2 x3 : Int32} (hm : a + m ≤ 24) (hcnt : f_count - nI m = nI c1)
    (h : ∀ mv, (∀ j, j < m → mv j = a_row (a + j)) → ∃ n, wY_move_99 post x1 x2 x3 (nI a) (nI m) (nI c1) f_top f_listed f_outputs n (nI a) a_row a_depth a_name a_value mv a_kind a_with a_length a_sets a_fresh a_type a_number a_set a_list a_there a_match a_priority a_out a_on a_todo a_within a_output) :
    ∀ k i mv, i + k = m → (∀ j, j < i → mv j = a_row (a + j)) → wY_move_54 post x1 x2 x3 (nI a) (nI m) f_count f_top f_listed f_outputs (k + 1) (nI i) a_row a_depth a_name a_value mv a_kind a_with a_length a_sets a_fresh a_type a_number a_set a_list a_there a_match a_priority a_out a_on a_todo a_within a_output := by
  intro k
  induction k with
  | zero =>
    intro i mv hi g
    have e : i = m := by omega
    subst e
    exact br_t (nI_le (Nat.le_refl _) (by omega)) (nm_r hcnt (h mv g))
  | succ k ih =>
    intro i mv hi g
    refine br_f (nI_ge (by omega) (by omega)) ⟨by rw [nI_add]; exact vp_in_nI (by omega) (by omega), vp_in_nI (by omega) (by omega), nm_r (e' := upd mv i (a_row (a + i))) (by rw [nI_add, nI_clamp (by omega), nI_clamp (by omega)]) (nm_r (nI_1 i) (ih (i + 1) _ (by omega) (fun j hj => ?_)))⟩
    by_cases z : j = i
    · subst z; exact pk_us
    · rw [pk_un z]; exact g j (by omega)
end
end
section
/-! move -/
theorem tz_by {x y z : Nat} (h : z ≤ x + y) : nI x + (nI y - nI z) = nI (x + y - z) := by
  rw [← pk_sub h, ← nI_add]
  grind
section
variable {f_count f_top f_listed f_outputs : Int32} {a_row a_depth a_name a_value a_moved a_kind a_with a_length a_sets a_fresh a_type a_number a_set a_list a_there a_match a_priority a_out a_on a_todo a_within a_output : Nat → Int32} {c : Nat} {r d : Nat → Nat}
theorem wy_move {post : Int32 → SY → Prop} {a p q m p' e' : Nat} {v3 : Int32} (T : td_T c r d) (Y : re_YT c r d f_count a_row a_depth) (ha : a < c) (hp : p < c) (hq : td_Pa d q a) (he : td_En c d a (a + m)) (hno : ¬ td_An d a p) (hne : p ≠ a)
    (hp' : p' < c - m) (esh : td_sh a m p' = p) (he' : td_En (c - m) (td_cutd a m d) p' e')
    (hneg : v3 < 0 → post 0 (f_count, f_top, f_listed, f_outputs, a_row, a_depth, a_name, a_value, a_moved, a_kind, a_with, a_length, a_sets, a_fresh, a_type, a_number, a_set, a_list, a_there, a_match, a_priority, a_out, a_on, a_todo, a_within, a_output))
    (hbad : ∀ kk row3 dep3 mv fr, v3 = nI kk → kk < 2 ^ 31 → td_ct (td_cutd a m d) (td_cutd a m d p' + 1) (p' + 1) e' < kk → (∀ j, j < c → row3 j = a_row j) → (∀ q, dep3 q = a_depth q) → (∀ s, s < 8 → fr s = 0) →
      post 0 (nI (c - m + m), f_top, f_listed, f_outputs, row3, dep3, a_name, a_value, mv, a_kind, a_with, a_length, a_sets, fr, a_type, a_number, a_set, a_list, a_there, a_match, a_priority, a_out, a_on, a_todo, a_within, a_output))
    (hgood : ∀ kk x row3 dep3 mv fr, v3 = nI kk → kk < 2 ^ 31 → td_Pl (c - m) (td_cutd a m d) p' kk x → (∀ i, i < c - m + m → row3 i = nI (td_insr x m (fun j => r (a + j)) (td_cutd a m r) i)) →
      (∀ j, j < m → dep3 (r (a + j)) = nI (d (a + j) + (d p + 1) - d a)) → (∀ q, (∀ j, j < m → r (a + j) ≠ q) → dep3 q = a_depth q) → (∀ s, s < 8 → fr s = 0) →
      post 1 (nI (c - m + m), f_top, f_listed, f_outputs, row3, dep3, a_name, a_value, mv, a_kind, a_with, a_length, a_sets, fr, a_type, a_number, a_set, a_list, a_there, a_match, a_priority, a_out, a_on, a_todo, a_within, a_output)) :
    wpY_move post (f_count, f_top, f_listed, f_outputs, a_row, a_depth, a_name, a_value, a_moved, a_kind, a_with, a_length, a_sets, a_fresh, a_type, a_number, a_set, a_list, a_there, a_match, a_priority, a_out, a_on, a_todo, a_within, a_output) (nI (r a)) (nI (r p)) v3 := by
  have c24 := T.1
  have he1 := he.1
  have he2 := he.2.1
  have hqa := hq.1
  have T' := td_cutT T hq ha he
  have ra := T.2.2.2.1 a ha
  have rp := T.2.2.2.1 p hp
  have hd : ∀ j, j < m → d a ≤ d (a + j) := fun j hj => by
    by_cases z : j = 0
    · subst z; exact Nat.le_refl _
    · have := he.2.2.1 (a + j) (by omega) (by omega); omega
  have hB : ∀ j, j < m → r (a + j) < 24 := fun j hj => T.2.2.2.1 _ (by omega)
  have hBi : ∀ i j, i < m → j < m → r (a + i) = r (a + j) → i = j := fun i j hi hj e => by have := T.2.2.2.2 _ _ (by omega) (by omega) e; omega
  have ecr : td_cutd a m r p' = r p := by
    rcases Nat.lt_or_ge p' a with z | z
    · rw [td_sh_lo z] at esh; rw [td_cutd_lo z, esh]
    · rw [td_sh_hi z] at esh; rw [td_cutd_hi z, esh]
  unfold wpY_move
  refine wy_where1 T Y ha (br_f (nI_pos (by omega)) (wy_where1 T Y hp (br_f (nI_pos (by omega)) (br_f (fun w => hne ?_) (wy_isBelow T Y ha hp (fun w => absurd w hno) (fun _ => br_t rfl ?_))))))
  · rw [nI_eq (by omega) (by omega)] at w
    exact (T.2.2.2.2 a p ha hp w).symm
  by_cases z : 0 ≤ v3
  rotate_left
  · exact br_f z (hneg (Int32.not_le.mp z))
  obtain ⟨kk, hkk, rfl⟩ := nI_of (x := v3) (Int32.not_lt.mpr z)
  refine br_t z (wy_behind T Y ha he (nm_r (e' := nI m) (by rw [pk_sub (by omega), show a + m - a = m by omega]) ⟨m + 1, wy_mv54 (c1 := c - m) (by omega) (by rw [Y.1, pk_sub (by omega)]) (fun mv hmv => ⟨c - m - a + 1, ?_⟩) m 0 a_moved (by omega) (fun j hj => by omega)⟩))
  have hmvB : ∀ j, j < m → mv j = nI (r (a + j)) := fun j hj => by rw [hmv j hj]; exact Y.2.1 _ (by omega)
  refine wy_shift (a_row := a_row) (m := m) (a := a) (c' := c - m) (W := fun n i row' => wY_move_99 post (nI (r a)) (nI (r p)) (nI kk) (nI a) (nI m) (nI (c - m)) f_top f_listed f_outputs n i row' a_depth a_name a_value mv a_kind a_with a_length a_sets a_fresh a_type a_number a_set a_list a_there a_match a_priority a_out a_on a_todo a_within a_output) (by omega) (fun n row1 g1 g2 => ?_) (fun n i row' x y hw => ?_) (by omega) (c - m - a) a a_row (by omega) (Nat.le_refl _) (fun j _ => rfl) (fun j x y => by omega) (fun j _ => rfl)
  rotate_left
  · exact br_f (nI_ge y (by omega)) ⟨by rw [nI_add]; exact vp_in_nI (by omega) (by omega), vp_in_nI (by omega) (by omega), nm_r (e' := upd row' i (row' (i + m))) (by rw [nI_add, nI_clamp (by omega), nI_clamp (by omega)]) (nm_r (nI_1 i) hw)⟩
  have Y1 : ∀ i, i < c - m → row1 i = nI (td_cutd a m r i) := fun i hi => by
    rcases Nat.lt_or_ge i a with y | y
    · rw [td_cutd_lo y, g1 i y]; exact Y.2.1 i (by omega)
    · rw [td_cutd_hi y, g2 i y hi]; exact Y.2.1 _ (by omega)
  have Y' : re_YT (c - m) (td_cutd a m r) (td_cutd a m d) (nI (c - m)) row1 a_depth := ⟨rfl, Y1, fun i hi => by
    rcases Nat.lt_or_ge i a with y | y
    · rw [td_cutd_lo y, td_cutd_lo y]; exact Y.2.2 i (by omega)
    · rw [td_cutd_hi y, td_cutd_hi y]; exact Y.2.2 _ (by omega)⟩
  refine br_t (nI_le (Nat.le_refl _) (by omega)) (wy_where T' Y' (fun w hw => ?_))
  rcases hw with ⟨i, hi, e, ew⟩ | ⟨hn, -⟩
  rotate_left
  · exact absurd (by rw [ecr]) (hn p' hp')
  have ei : i = p' := by
    have := T'.2.2.2.1 i hi
    rw [nI_eq (by omega) (by omega), ← ecr] at e
    exact (T'.2.2.2.2 p' i hp' hi e).symm
  subst ei
  subst ew
  refine wy_place T' Y' hp' he' hkk (fun x hx => br_f (nI_pos (by have := hx.2.1; omega)) ?_) (fun hct => br_t tz_m1lt ?_)
  · have hx1 := hx.1
    have hx2 := hx.2.1
    unfold wY_move_157
    refine br_f (by decide) (nm_r (e' := nI (x + (c - m - x) - 1)) ?_ ⟨c - m - x + 1, wy_mv176 (c1 := c - m) (row1 := row1) (by omega) (by omega) (by omega) hx2 rfl (fun w => absurd w (by decide)) (fun _ => ⟨vp_in_nI rp (by omega), vp_in_nI ra (by omega), fun row2 q1 q2 => ⟨m + 1, ?_⟩⟩) (c - m - x) row1 (by omega) (fun j _ => rfl) (fun j u v => by omega)⟩)
    · rw [show x + (c - m - x) - 1 = c - m - 1 by omega]
      exact pk_sub (a := c - m) (b := 1) (by omega)
    · refine wy_mv246 (B := fun j => r (a + j)) (dep0 := a_depth) (row2 := row2) (by omega) (Or.inr rfl) hmvB hB hBi (fun row3 dep3 fr w1 w2 w3 w4 w5 w6 => hgood kk x row3 dep3 mv fr rfl hkk hx ?_ (fun j hj => ?_) w5 w6) m 0 row2 a_depth (by omega) (fun j _ => rfl) (fun j hj => by omega) (fun j _ => rfl) (fun j hj => by omega) (fun q _ => rfl)
      · refine td_insr_cs (x := x) (fun i hi => ?_) (fun j hj => ?_) (fun i u v => ?_)
        · rw [td_insr_lo hi, w1 i hi, q1 i hi]; exact Y1 i (by omega)
        · rw [td_insr_in hj]; exact w2 j hj
        · rw [td_insr_hi u, w3 _ (by omega), q2 i u v]; exact Y1 i v
      · have hdj := hd j hj
        rw [w4 j hj, nI_clamp (by omega), nI_clamp (by omega), Y.2.2 p hp, Y.2.2 a ha, Y.2.2 (a + j) (by omega), nI_1]
        exact tz_by (by omega)
  · unfold wY_move_157
    refine br_t rfl (nm_r (e' := nI (a + (c - m - a) - 1)) ?_ ⟨c - m - a + 1, wy_mv176 (c1 := c - m) (row1 := row1) (by omega) (by omega) (by omega) (by omega) rfl (fun _ row2 q1 q2 => ⟨m + 1, ?_⟩) (fun w => absurd rfl w) (c - m - a) row1 (by omega) (fun j _ => rfl) (fun j u v => by omega)⟩)
    · rw [show a + (c - m - a) - 1 = c - m - 1 by omega]
      exact pk_sub (a := c - m) (b := 1) (by omega)
    · refine wy_mv246 (B := fun j => r (a + j)) (dep0 := a_depth) (row2 := row2) (by omega) (Or.inl rfl) hmvB hB hBi (fun row3 dep3 fr w1 w2 w3 w4 w5 w6 => hbad kk row3 dep3 mv fr rfl hkk hct (fun j hj => ?_) (fun q => ?_) w6) m 0 row2 a_depth (by omega) (fun j _ => rfl) (fun j hj => by omega) (fun j _ => rfl) (fun j hj => by omega) (fun q _ => rfl)
      · rcases Nat.lt_or_ge j a with u | u
        · rw [w1 j u, q1 j u]; exact g1 j u
        · rcases Nat.lt_or_ge j (a + m) with v | v
          · have := w2 (j - a) (by omega)
            rw [show a + (j - a) = j by omega] at this
            rw [this]; exact (Y.2.1 j hj).symm
          · rw [w3 j v]
            have q := q2 (j - m) (by omega) (by omega)
            rw [show j - m + m = j by omega] at q
            rw [q, g2 (j - m) (by omega) (by omega), show j - m + m = j by omega]
      · rcases Classical.em (∃ j, j < m ∧ r (a + j) = q) with ⟨j, hj, ej⟩ | u
        · rw [← ej, w4 j hj, Int32.add_zero]
        · exact w5 q (fun j hj e => u ⟨j, hj, e⟩)
end
end
section
/-! move, owed -/
theorem i_vc_move {k : Nat} {u : SX} {v : SY} (I : i_Rel k u v) (hk : k + 6 ≤ 3072) (v1 : Int32) (v2 : Int32) (v3 : Int32) : wpX_move (fun r u' => wpY_move (fun r' v' => r' = r ∧ i_Rel (k + 6) u' v') v v1 v2 v3) u v1 v2 v3 := by
  obtain ⟨f_nodeCount, f_draftLength, f_resultLength, a_inUse, a_parentOf, a_rankOf, a_nameOf, a_valueOf, a_order, a_along, a_draftKind, a_draftValue, a_draftEnd, a_tokenKind, a_tokenValue, a_tokenEnd, a_slotLength, a_setAt, a_amount, a_reached, a_agenda, a_isTemplate, a_matchSlot, a_priorityOf, a_outSlot, a_onSlot, a_waiting, a_result⟩ := u
  obtain ⟨f_count, f_top, f_listed, f_outputs, a_row, a_depth, a_name, a_value, a_moved, a_kind, a_with, a_length, a_sets, a_fresh, a_type, a_number, a_set, a_list, a_there, a_match, a_priority, a_out, a_on, a_todo, a_within, a_output⟩ := v
  have J := i_up I
  obtain ⟨c, n, mm, r, d, len, T, X, Y, e1, e2, hdl, hK, hF, e3, e4, e5, e6, e7, hP, hm, hrl, hou, e8⟩ := I
  have X0 := X
  obtain ⟨hnc, U, P, ho, hal⟩ := X
  have c24 := T.1
  unfold wpX_move
  refine wx_isNode T U (fun a ha ea => ?_) (fun hno => br_t rfl ?_)
  rotate_left
  · unfold wpY_move
    refine wy_where T Y (fun w hw => ?_)
    rcases hw with ⟨i, hi, e, -⟩ | ⟨-, rfl⟩
    · exact absurd e (hno i hi)
    · exact br_t tz_m1lt ⟨rfl, J⟩
  subst ea
  refine br_f (by decide) (wx_isNode T U (fun p hp ep => ?_) (fun hno => br_t rfl ?_))
  rotate_left
  · unfold wpY_move
    refine wy_where1 T Y ha (br_f (nI_pos (by omega)) (wy_where T Y (fun w hw => ?_)))
    rcases hw with ⟨i, hi, e, -⟩ | ⟨-, rfl⟩
    · exact absurd e (hno i hi)
    · exact br_t tz_m1lt ⟨rfl, J⟩
  subst ep
  have ra := T.2.2.2.1 a ha
  have rp := T.2.2.2.1 p hp
  obtain ⟨e, he⟩ := td_endEx (c := c) (d := d) ha
  obtain ⟨m, rfl⟩ : ∃ m, e = a + m := ⟨e - a, by have := he.1; omega⟩
  have he1 := he.1
  have he2 := he.2.1
  have ei : (216 : Int32) + nI (r a) = nI (9 * 24 + r a) := by rw [show (216 : Int32) = nI (9 * 24) from rfl, nI_add]
  have ec : ((216 : Int32) + nI (r a)).toNatClampNeg = 9 * 24 + r a := by rw [ei]; exact nI_clamp (by omega)
  refine br_f (by decide) ⟨by rw [ei]; exact vp_in_nI (by omega) (by omega), ?_⟩
  rw [ec]
  by_cases hin : td_An d a p ∨ p = a
  · refine br_f (fun w => ?_) ?_
    · rw [mk_f (by omega), (tx_blk T hal ha p hp).mpr hin] at w
      cases w
    · unfold wpY_move
      refine wy_where1 T Y ha (br_f (nI_pos (by omega)) (wy_where1 T Y hp (br_f (nI_pos (by omega)) ?_)))
      by_cases z : p = a
      · exact br_t (by rw [z]) ⟨rfl, J⟩
      · refine br_f (fun w => z ?_) (wy_isBelow T Y ha hp (fun _ => br_f (by decide) ⟨rfl, J⟩) (fun w => ?_))
        · rw [nI_eq (by omega) (by omega)] at w
          exact (T.2.2.2.2 a p ha hp w).symm
        · rcases hin with x | x
          · exact absurd x w
          · exact absurd x z
  refine br_t ((mk_f (by omega)).mpr (tz_nb (fun w => hin ((tx_blk T hal ha p hp).mp w)))) ?_
  have hnoA : ¬ td_An d a p := fun w => hin (Or.inl w)
  have hne : p ≠ a := fun w => hin (Or.inr w)
  have a0 : 0 < a := by
    rcases Nat.eq_zero_or_pos a with z | z
    · subst z
      refine absurd ⟨by omega, fun j x y => ?_⟩ hnoA
      have := td_pos T.2.1 x (by omega)
      have := T.2.1.1
      omega
    · exact z
  obtain ⟨q, hq⟩ := td_ex T.2.1 a0 ha
  have hqa := hq.1
  have blk := fun l hl => td_AnEn he (l := l) hl
  have pnb : p < a ∨ a + m ≤ p := by
    have := blk p hp
    rcases Nat.lt_or_ge p a with z | z
    · exact Or.inl z
    · refine Or.inr ?_
      rcases Nat.lt_or_ge p (a + m) with y | y
      · exact absurd (this.mpr ⟨by omega, y⟩) hnoA
      · exact y
  obtain ⟨p', hp', esh⟩ : ∃ p', p' < c - m ∧ td_sh a m p' = p := by
    rcases pnb with z | z
    · exact ⟨p, by omega, td_sh_lo z⟩
    · exact ⟨p - m, by omega, by rw [td_sh_hi (by omega)]; omega⟩
  have T' := td_cutT T hq ha he
  obtain ⟨e', he'⟩ := td_endEx (c := c - m) (d := td_cutd a m d) hp'
  obtain ⟨ep, hep⟩ := td_endEx (c := c) (d := d) hp
  have he'2 := he'.2.1
  have hep2 := hep.2.1
  have ecr : td_cutd a m r p' = r p := by
    rcases Nat.lt_or_ge p' a with z | z
    · rw [td_sh_lo z] at esh; rw [td_cutd_lo z, esh]
    · rw [td_sh_hi z] at esh; rw [td_cutd_hi z, esh]
  have ecd : td_cutd a m d p' = d p := by
    rcases Nat.lt_or_ge p' a with z | z
    · rw [td_sh_lo z] at esh; rw [td_cutd_lo z, esh]
    · rw [td_sh_hi z] at esh; rw [td_cutd_hi z, esh]
  -- the number of other children
  have cnt : td_ct d (d p + 1) (p + 1) ep = td_ct (td_cutd a m d) (td_cutd a m d p' + 1) (p' + 1) e' + (if p = q then 1 else 0) := by
    have x1 := tc_cut T.2.1 hq ha he p'
    rw [esh] at x1
    have x2 := tc_children T.2.1 hep c (Nat.le_refl _)
    have x3 := tc_children T'.2.1 he' (c - m) (Nat.le_refl _)
    rw [show (if c ≤ ep then c else ep) = ep by split <;> omega] at x2
    rw [show (if c - m ≤ e' then c - m else e') = e' by split <;> omega] at x3
    omega
  have cb : td_ct (td_cutd a m d) (td_cutd a m d p' + 1) (p' + 1) e' ≤ 24 := by
    have := td_ct_c (d := td_cutd a m d) (D := td_cutd a m d p' + 1) (lo := p' + 1) e'
    omega
  have eqp := (P.1 q a ha hq).1
  have rq := T.2.2.2.1 q (by omega)
  have ea2 : a_parentOf (nI (r a)).toNatClampNeg = nI (r q) := by rw [nI_clamp (by omega)]; exact eqp
  have K57 : wX_move_57 (fun r_1 u' => wpY_move (fun r' v' => r' = r_1 ∧ i_Rel (k + 6) u' v') (f_count, f_top, f_listed, f_outputs, a_row, a_depth, a_name, a_value, a_moved, a_kind, a_with, a_length, a_sets, a_fresh, a_type, a_number, a_set, a_list, a_there, a_match, a_priority, a_out, a_on, a_todo, a_within, a_output) (nI (r a)) (nI (r p)) v3) (nI (r a)) (nI (r p)) v3 (nI (td_ct (td_cutd a m d) (td_cutd a m d p' + 1) (p' + 1) e')) f_nodeCount f_draftLength f_resultLength a_inUse a_parentOf a_rankOf a_nameOf a_valueOf a_order a_along a_draftKind a_draftValue a_draftEnd a_tokenKind a_tokenValue a_tokenEnd a_slotLength a_setAt a_amount a_reached a_agenda a_isTemplate a_matchSlot a_priorityOf a_outSlot a_onSlot a_waiting a_result := by
    unfold wX_move_57
    by_cases kn : v3 < 0
    · exact br_t kn (wy_move T Y ha hp hq he hnoA hne hp' esh he' (fun _ => ⟨rfl, J⟩) (fun kk _ _ _ _ e hkk => absurd (by rw [← e]; exact kn) (nI_pos hkk)) (fun kk _ _ _ _ _ e hkk => absurd (by rw [← e]; exact kn) (nI_pos hkk)))
    obtain ⟨kk, hkk, rfl⟩ := nI_of kn
    refine br_f kn ?_
    by_cases kc : kk ≤ td_ct (td_cutd a m d) (td_cutd a m d p' + 1) (p' + 1) e'
    rotate_left
    · refine br_f (nI_ge (by omega) (by omega)) (wy_move T Y ha hp hq he hnoA hne hp' esh he' (fun w => absurd w kn) (fun kk' row3 dep3 mv fr e hkk' _ h1 h2 h3 => ⟨rfl, c, n, mm, r, d, len, T, X0, ⟨by rw [show c - m + m = c by omega], fun i hi => by rw [h1 i hi]; exact Y.2.1 i hi, fun i hi => by rw [h2]; exact Y.2.2 i hi⟩, e1, e2, hdl, hK, re_F0 h3, e3, e4, e5, e6, e7, hP, hm, hrl, hou, e8⟩) (fun kk' x _ _ _ _ e hkk' hx => ?_))
      rw [nI_eq hkk hkk'] at e
      have := td_pl_up hx he'
      omega
    obtain ⟨x, hx⟩ := td_pl_ex T'.2.1 hp' he' kk kc
    have hx1 := hx.1
    have hx2 := hx.2.1
    have hd : ∀ j, j < m → d a ≤ d (a + j) ∧ (0 < j → d a < d (a + j)) := fun j hj => by
      by_cases z : j = 0
      · subst z; exact ⟨Nat.le_refl _, fun w => by omega⟩
      · have := he.2.2.1 (a + j) (by omega) (by omega); omega
    have Ins : td_Ins (c - m) x m p' (td_cutd a m d) (fun j => d (a + j) + (d p + 1) - d a) (td_insr x m (fun j => d (a + j) + (d p + 1) - d a) (td_cutd a m d)) := by
      refine ⟨by omega, hx1, hx2, hx.2.2.1, hx.2.2.2.1, ?_, fun j u v => ?_, fun i hi => td_insr_lo hi, fun j hj => td_insr_in hj, fun i u v => td_insr_hi u⟩
      · show d (a + 0) + (d p + 1) - d a = _
        rw [ecd, Nat.add_zero]; omega
      · show _ < d (a + j) + (d p + 1) - d a
        have := (hd j v).2 u
        rw [ecd]; omega
    have hB : ∀ j, j < m → r (a + j) < 24 := fun j hj => T.2.2.2.1 _ (by omega)
    have hBi : ∀ i j, i < m → j < m → r (a + i) = r (a + j) → i = j := fun i j hi hj e => by have := T.2.2.2.2 _ _ (by omega) (by omega) e; omega
    have hdis : ∀ i j, i < c - m → j < m → td_cutd a m r i ≠ r (a + j) := fun i j hi hj e => by
      rcases Nat.lt_or_ge i a with z | z
      · rw [td_cutd_lo z] at e; have := T.2.2.2.2 _ _ (by omega) (by omega) e; omega
      · rw [td_cutd_hi z] at e; have := T.2.2.2.2 _ _ (by omega) (by omega) e; omega
    have T2 : td_T (c - m + m) (td_insr x m (fun j => r (a + j)) (td_cutd a m r)) (td_insr x m (fun j => d (a + j) + (d p + 1) - d a) (td_cutd a m d)) := by
      refine td_insT T' Ins (by omega) (fun j hj => ?_) hB hBi hdis
      show d (a + (j + 1)) + (d p + 1) - d a ≤ d (a + j) + (d p + 1) - d a + 1
      have y1 := (T.2.1.2 (a + j) (by omega)).2
      have y2 := (hd j (by omega)).1
      rw [show a + (j + 1) = a + j + 1 by omega]
      omega
    have usd : ∀ i, i < c - m → a_inUse (td_cutd a m r i) ≠ 0 := fun i hi => by
      rcases Nat.lt_or_ge i a with z | z
      · rw [td_cutd_lo z]; exact tx_U_1 U (by omega) (T.2.2.2.1 _ (by omega))
      · rw [td_cutd_hi z]; exact tx_U_1 U (by omega) (T.2.2.2.1 _ (by omega))
    have cover : ∀ Q : Nat → Prop, (∃ i, i < c ∧ Q (r i)) → ∃ i, i < c - m + m ∧ Q (td_insr x m (fun j => r (a + j)) (td_cutd a m r) i) := by
      rintro Q ⟨i, hi, hQ⟩
      have cutc : ∀ i', i' < c - m → Q (td_cutd a m r i') → ∃ i, i < c - m + m ∧ Q (td_insr x m (fun j => r (a + j)) (td_cutd a m r) i) := fun i' hi' hQ' => by
        rcases Nat.lt_or_ge i' x with y | y
        · exact ⟨i', by omega, by rw [td_insr_lo y]; exact hQ'⟩
        · exact ⟨i' + m, by omega, by rw [td_insr_hi y]; exact hQ'⟩
      rcases Nat.lt_or_ge i a with z | z
      · exact cutc i (by omega) (by rw [td_cutd_lo z]; exact hQ)
      · rcases Nat.lt_or_ge i (a + m) with y | y
        · refine ⟨x + (i - a), by omega, ?_⟩
          rw [td_insr_in (by omega), show a + (i - a) = i by omega]
          exact hQ
        · exact cutc (i - m) (by omega) (by rw [td_cutd_hi (by omega), show i - m + m = i by omega]; exact hQ)
    have U2 : tx_U (c - m + m) (td_insr x m (fun j => r (a + j)) (td_cutd a m r)) a_inUse := by
      intro g hg
      rcases U g hg with ⟨w1, w2⟩ | ⟨w1, w2⟩
      · exact Or.inl ⟨w1, cover (fun y => y = g) w2⟩
      · refine Or.inr ⟨w1, td_insr_cs (x := x) (fun i hi => ?_) (fun j hj => ?_) (fun i y1 y2 => ?_)⟩
        · rw [td_insr_lo hi]
          rcases Nat.lt_or_ge i a with z | z
          · rw [td_cutd_lo z]; exact w2 i (by omega)
          · rw [td_cutd_hi z]; exact w2 _ (by omega)
        · rw [td_insr_in hj]; exact w2 _ (by omega)
        · rw [td_insr_hi y1]
          rcases Nat.lt_or_ge i a with z | z
          · rw [td_cutd_lo z]; exact w2 i (by omega)
          · rw [td_cutd_hi z]; exact w2 _ (by omega)
    have cm : f_nodeCount = nI (c - m + m) := by rw [hnc, show c - m + m = c by omega]
    subst cm
    refine br_t (nI_le kc (by omega)) (wx_detach ra (fun rk1 hD => wx_attach ra (fun pa2 rk2 hA => ?_)))
    obtain ⟨Pc, Pb⟩ := tx_det T P U hq ha he hD
    rw [← ecr] at hA
    have P2 := tx_att T' Pc (tx_PRb_sh (x := d a) (y := d p + 1) Pb (b' := fun j => d (a + j) + (d p + 1) - d a) (fun j hj => by
      show d (a + j) + (d p + 1) - d a + d a = d (a + j) + (d p + 1)
      have := (hd j hj).1
      omega)) Ins hx T2 hB hBi hdis usd hA
    refine wx_layOut T2 U2 P2 (fun od al hod hal' => wy_move T Y ha hp hq he hnoA hne hp' esh he' (fun w => absurd w kn) (fun kk' row3 dep3 mv fr e hkk' hct h1 h2 h3 => ?_) (fun kk' x' row3 dep3 mv fr e hkk' hx' h1 h2 h3 h4 => ?_))
    · rw [nI_eq hkk hkk'] at e
      omega
    · rw [nI_eq hkk hkk'] at e
      subst e
      have exx := td_pl_uq hx' hx he'
      subst exx
      refine ⟨rfl, c - m + m, n, mm, _, _, len, T2, ⟨rfl, U2, P2, hod, hal'⟩, ⟨rfl, h1, ?_⟩, e1, e2, hdl, hK, re_F0 h4, e3, e4, e5, e6, e7, hP, hm, hrl, hou, e8⟩
      refine td_insr_cs (x := x') (fun i hi => ?_) (fun j hj => ?_) (fun i y1 y2 => ?_)
      · rw [td_insr_lo hi, td_insr_lo hi, h3 _ (fun j hj w => hdis i j (by omega) hj w.symm)]
        rcases Nat.lt_or_ge i a with z | z
        · rw [td_cutd_lo z, td_cutd_lo z]; exact Y.2.2 i (by omega)
        · rw [td_cutd_hi z, td_cutd_hi z]; exact Y.2.2 _ (by omega)
      · rw [td_insr_in hj, td_insr_in hj]; exact h2 j hj
      · rw [td_insr_hi y1, td_insr_hi y1, h3 _ (fun j hj w => hdis i j y2 hj w.symm)]
        rcases Nat.lt_or_ge i a with z | z
        · rw [td_cutd_lo z, td_cutd_lo z]; exact Y.2.2 i (by omega)
        · rw [td_cutd_hi z, td_cutd_hi z]; exact Y.2.2 _ (by omega)
  refine wx_childCount T hal hp hep ⟨vp_in_nI ra (by omega), ?_⟩
  by_cases z : p = q
  · refine br_t (by rw [ea2, z]) (nm_r (e' := nI (td_ct (td_cutd a m d) (td_cutd a m d p' + 1) (p' + 1) e')) ?_ K57)
    rw [cnt, if_pos z, pk_m1]
  · refine br_f (fun w => z ?_) ?_
    · rw [ea2, nI_eq (by omega) (by omega)] at w
      exact (T.2.2.2.2 q p (by omega) hp w).symm
    · rw [cnt, if_neg z, Nat.add_zero]
      exact K57
end
section
/-! kinds of tokens: operands, types -/
theorem wy_inr {post : Int32 → Prop} {k lo hi : Nat} (hk : k < 2 ^ 31) (hl : lo < 2 ^ 31) (hh : hi < 2 ^ 31) (h1 : lo ≤ k → k ≤ hi → post 1) (h0 : ¬ (lo ≤ k ∧ k ≤ hi) → post 0) : wpY_in post (nI k) (nI lo) (nI hi) := by
  unfold wpY_in
  by_cases z : k < lo
  · exact br_t (nI_lt z hl) (h0 (by omega))
  · by_cases y : hi < k
    · exact br_f (nI_nlt (by omega) hk) (br_t (nI_lt y hk) (h0 (by omega)))
    · exact br_f (nI_nlt (by omega) hk) (br_f (nI_nlt (by omega) hh) (h1 (by omega) (by omega)))
theorem te_18 {P : Nat → Prop} (h0 : P 0) ( h1 : P 1) ( h2 : P 2) ( h3 : P 3) ( h4 : P 4) ( h5 : P 5) ( h6 : P 6) ( h7 : P 7) ( h8 : P 8) ( h9 : P 9) ( h10 : P 10) ( h11 : P 11) ( h12 : P 12) ( h13 : P 13) ( h14 : P 14) ( h15 : P 15) ( h16 : P 16) ( h17 : P 17)  {k : Nat} (hk : k < 18) : P k := by
  have e : k = 0 ∨ k = 1 ∨ k = 2 ∨ k = 3 ∨ k = 4 ∨ k = 5 ∨ k = 6 ∨ k = 7 ∨ k = 8 ∨ k = 9 ∨ k = 10 ∨ k = 11 ∨ k = 12 ∨ k = 13 ∨ k = 14 ∨ k = 15 ∨ k = 16 ∨ k = 17 := by omega
  rcases e with e | e | e | e | e | e | e | e | e | e | e | e | e | e | e | e | e | e <;> subst e <;> assumption
section
variable {f_nodeCount f_draftLength f_resultLength : Int32} {a_inUse a_parentOf a_rankOf a_nameOf a_valueOf a_order a_along a_draftKind a_draftValue a_draftEnd a_tokenKind a_tokenValue a_tokenEnd a_slotLength a_setAt a_amount a_reached a_agenda a_isTemplate a_matchSlot a_priorityOf a_outSlot a_onSlot a_waiting a_result : Nat → Int32}
theorem wx_operands {post : Int32 → Prop} {k w : Nat} {v : Int32} (hk : k < 18) (hv : k = 2 → v = nI w ∧ w < 384) (h : post (nI (te_o k w))) : wpX_operandsOf post (f_nodeCount, f_draftLength, f_resultLength, a_inUse, a_parentOf, a_rankOf, a_nameOf, a_valueOf, a_order, a_along, a_draftKind, a_draftValue, a_draftEnd, a_tokenKind, a_tokenValue, a_tokenEnd, a_slotLength, a_setAt, a_amount, a_reached, a_agenda, a_isTemplate, a_matchSlot, a_priorityOf, a_outSlot, a_onSlot, a_waiting, a_result) (nI k) v := by
  revert hv h
  refine te_18 (P := fun k => (k = 2 → v = nI w ∧ w < 384) → post (nI (te_o k w)) → wpX_operandsOf post (f_nodeCount, f_draftLength, f_resultLength, a_inUse, a_parentOf, a_rankOf, a_nameOf, a_valueOf, a_order, a_along, a_draftKind, a_draftValue, a_draftEnd, a_tokenKind, a_tokenValue, a_tokenEnd, a_slotLength, a_setAt, a_amount, a_reached, a_agenda, a_isTemplate, a_matchSlot, a_priorityOf, a_outSlot, a_onSlot, a_waiting, a_result) (nI k) v) ?_ ?_ ?_ ?_ ?_ ?_ ?_ ?_ ?_ ?_ ?_ ?_ ?_ ?_ ?_ ?_ ?_ ?_ hk
  · intro hv h
    unfold wpX_operandsOf
    exact br_t (by decide) h
  · intro hv h
    unfold wpX_operandsOf
    exact br_t (by decide) h
  · intro hv h
    obtain ⟨rfl, hw⟩ := hv rfl
    unfold wpX_operandsOf
    refine br_f (by decide) (br_f (by decide) (br_t (by decide) ?_))
    have e : (1 : Int32) + (nI w >>> ((7 : Int32) &&& 31)) = nI (te_o 2 w) := by
      rw [pk_shrN (by omega) _ 7 (by decide), show (1 : Int32) = nI 1 from rfl, nI_add]; rfl
    show post ((1 : Int32) + (nI w >>> ((7 : Int32) &&& 31)))
    rw [e]; exact h
  · intro hv h
    unfold wpX_operandsOf
    exact br_f (by decide) (br_f (by decide) (br_f (by decide) (br_t (by decide) h)))
  · intro hv h
    unfold wpX_operandsOf
    exact br_f (by decide) (br_f (by decide) (br_f (by decide) (br_f (by decide) (br_t (by decide) h))))
  · intro hv h
    unfold wpX_operandsOf
    exact br_f (by decide) (br_f (by decide) (br_f (by decide) (br_f (by decide) (br_f (by decide) (br_t (by decide) h)))))
  · intro hv h
    unfold wpX_operandsOf
    exact br_f (by decide) (br_f (by decide) (br_f (by decide) (br_f (by decide) (br_f (by decide) (br_f (by decide) (br_t (by decide) h))))))
  · intro hv h
    unfold wpX_operandsOf
    exact br_f (by decide) (br_f (by decide) (br_f (by decide) (br_f (by decide) (br_f (by decide) (br_f (by decide) (br_f (by decide) (br_t (by decide) h)))))))
  · intro hv h
    unfold wpX_operandsOf
    exact br_f (by decide) (br_f (by decide) (br_f (by decide) (br_f (by decide) (br_f (by decide) (br_f (by decide) (br_f (by decide) (br_f (by decide) (br_t (by decide) h))))))))
  · intro hv h
    unfold wpX_operandsOf
    exact br_f (by decide) (br_f (by decide) (br_f (by decide) (br_f (by decide) (br_f (by decide) (br_f (by decide) (br_f (by decide) (br_f (by decide) (br_f (by decide) (br_t (by decide) h)))))))))
  · intro hv h
    unfold wpX_operandsOf
    exact br_f (by decide) (br_f (by decide) (br_f (by decide) (br_f (by decide) (br_f (by decide) (br_f (by decide) (br_f (by decide) (br_f (by decide) (br_f (by decide) (br_f (by decide) (br_t (by decide) h))))))))))
  · intro hv h
    unfold wpX_operandsOf
    exact br_f (by decide) (br_f (by decide) (br_f (by decide) (br_f (by decide) (br_f (by decide) (br_f (by decide) (br_f (by decide) (br_f (by decide) (br_f (by decide) (br_f (by decide) (br_f (by decide) (br_t (by decide) h)))))))))))
  · intro hv h
    unfold wpX_operandsOf
    exact br_f (by decide) (br_f (by decide) (br_f (by decide) (br_f (by decide) (br_f (by decide) (br_f (by decide) (br_f (by decide) (br_f (by decide) (br_f (by decide) (br_f (by decide) (br_f (by decide) (br_f (by decide) (br_t (by decide) h))))))))))))
  · intro hv h
    unfold wpX_operandsOf
    exact br_f (by decide) (br_f (by decide) (br_f (by decide) (br_f (by decide) (br_f (by decide) (br_f (by decide) (br_f (by decide) (br_f (by decide) (br_f (by decide) (br_f (by decide) (br_f (by decide) (br_f (by decide) (br_f (by decide) (br_t (by decide) h)))))))))))))
  · intro hv h
    unfold wpX_operandsOf
    exact br_f (by decide) (br_f (by decide) (br_f (by decide) (br_f (by decide) (br_f (by decide) (br_f (by decide) (br_f (by decide) (br_f (by decide) (br_f (by decide) (br_f (by decide) (br_f (by decide) (br_f (by decide) (br_f (by decide) (br_f (by decide) (br_t (by decide) h))))))))))))))
  · intro hv h
    unfold wpX_operandsOf
    exact br_f (by decide) (br_f (by decide) (br_f (by decide) (br_f (by decide) (br_f (by decide) (br_f (by decide) (br_f (by decide) (br_f (by decide) (br_f (by decide) (br_f (by decide) (br_f (by decide) (br_f (by decide) (br_f (by decide) (br_f (by decide) (br_f (by decide) (br_t (by decide) h)))))))))))))))
  · intro hv h
    unfold wpX_operandsOf
    exact br_f (by decide) (br_f (by decide) (br_f (by decide) (br_f (by decide) (br_f (by decide) (br_f (by decide) (br_f (by decide) (br_f (by decide) (br_f (by decide) (br_f (by decide) (br_f (by decide) (br_f (by decide) (br_f (by decide) (br_f (by decide) (br_f (by decide) (br_f (by decide) (br_t (by decide) h))))))))))))))))
  · intro hv h
    unfold wpX_operandsOf
    exact br_f (by decide) (br_f (by decide) (br_f (by decide) (br_f (by decide) (br_f (by decide) (br_f (by decide) (br_f (by decide) (br_f (by decide) (br_f (by decide) (br_f (by decide) (br_f (by decide) (br_f (by decide) (br_f (by decide) (br_f (by decide) (br_f (by decide) (br_f (by decide) (br_f (by decide) (br_t (by decide) h)))))))))))))))))
theorem wx_loosest {post : Int32 → Prop} {k t : Nat} (hk : k < 18) (ht : t < 2 ^ 31) (h : post (nI (te_lo k t))) : wpX_loosestOperand post (f_nodeCount, f_draftLength, f_resultLength, a_inUse, a_parentOf, a_rankOf, a_nameOf, a_valueOf, a_order, a_along, a_draftKind, a_draftValue, a_draftEnd, a_tokenKind, a_tokenValue, a_tokenEnd, a_slotLength, a_setAt, a_amount, a_reached, a_agenda, a_isTemplate, a_matchSlot, a_priorityOf, a_outSlot, a_onSlot, a_waiting, a_result) (nI k) (nI t) := by
  revert h
  refine te_18 (P := fun k => post (nI (te_lo k t)) → wpX_loosestOperand post (f_nodeCount, f_draftLength, f_resultLength, a_inUse, a_parentOf, a_rankOf, a_nameOf, a_valueOf, a_order, a_along, a_draftKind, a_draftValue, a_draftEnd, a_tokenKind, a_tokenValue, a_tokenEnd, a_slotLength, a_setAt, a_amount, a_reached, a_agenda, a_isTemplate, a_matchSlot, a_priorityOf, a_outSlot, a_onSlot, a_waiting, a_result) (nI k) (nI t)) ?_ ?_ ?_ ?_ ?_ ?_ ?_ ?_ ?_ ?_ ?_ ?_ ?_ ?_ ?_ ?_ ?_ ?_ hk
  · intro h
    unfold wpX_loosestOperand
    exact br_t (by decide) h
  · intro h
    unfold wpX_loosestOperand
    exact br_t (by decide) h
  · intro h
    unfold wpX_loosestOperand
    refine br_f (by decide) (br_f (by decide) (br_t (by decide) ?_))
    by_cases z : t = 0
    · subst z; exact br_t (by decide) h
    · refine br_f (fun w => z ((nI_eq (b := 0) ht (by omega)).mp w)) ?_
      rw [show te_lo 2 t = 2 by unfold te_lo; rw [if_pos rfl, if_neg z]] at h
      exact h
  · intro h
    unfold wpX_loosestOperand
    exact br_f (by decide) (br_f (by decide) (br_f (by decide) (br_t (by decide) h)))
  · intro h
    unfold wpX_loosestOperand
    exact br_f (by decide) (br_f (by decide) (br_f (by decide) (br_f (by decide) (br_t (by decide) h))))
  · intro h
    unfold wpX_loosestOperand
    exact br_f (by decide) (br_f (by decide) (br_f (by decide) (br_f (by decide) (br_f (by decide) (br_t (by decide) h)))))
  · intro h
    unfold wpX_loosestOperand
    exact br_f (by decide) (br_f (by decide) (br_f (by decide) (br_f (by decide) (br_f (by decide) (br_f (by decide) (br_t (by decide) h))))))
  · intro h
    unfold wpX_loosestOperand
    exact br_f (by decide) (br_f (by decide) (br_f (by decide) (br_f (by decide) (br_f (by decide) (br_f (by decide) (br_f (by decide) (br_t (by decide) h)))))))
  · intro h
    unfold wpX_loosestOperand
    exact br_f (by decide) (br_f (by decide) (br_f (by decide) (br_f (by decide) (br_f (by decide) (br_f (by decide) (br_f (by decide) (br_f (by decide) (br_t (by decide) h))))))))
  · intro h
    unfold wpX_loosestOperand
    exact br_f (by decide) (br_f (by decide) (br_f (by decide) (br_f (by decide) (br_f (by decide) (br_f (by decide) (br_f (by decide) (br_f (by decide) (br_f (by decide) (br_t (by decide) h)))))))))
  · intro h
    unfold wpX_loosestOperand
    exact br_f (by decide) (br_f (by decide) (br_f (by decide) (br_f (by decide) (br_f (by decide) (br_f (by decide) (br_f (by decide) (br_f (by decide) (br_f (by decide) (br_f (by decide) (br_t (by decide) h))))))))))
  · intro h
    unfold wpX_loosestOperand
    exact br_f (by decide) (br_f (by decide) (br_f (by decide) (br_f (by decide) (br_f (by decide) (br_f (by decide) (br_f (by decide) (br_f (by decide) (br_f (by decide) (br_f (by decide) (br_f (by decide) (br_t (by decide) h)))))))))))
  · intro h
    unfold wpX_loosestOperand
    exact br_f (by decide) (br_f (by decide) (br_f (by decide) (br_f (by decide) (br_f (by decide) (br_f (by decide) (br_f (by decide) (br_f (by decide) (br_f (by decide) (br_f (by decide) (br_f (by decide) (br_f (by decide) (br_t (by decide) h))))))))))))
  · intro h
    unfold wpX_loosestOperand
    exact br_f (by decide) (br_f (by decide) (br_f (by decide) (br_f (by decide) (br_f (by decide) (br_f (by decide) (br_f (by decide) (br_f (by decide) (br_f (by decide) (br_f (by decide) (br_f (by decide) (br_f (by decide) (br_f (by decide) (br_t (by decide) h)))))))))))))
  · intro h
    unfold wpX_loosestOperand
    exact br_f (by decide) (br_f (by decide) (br_f (by decide) (br_f (by decide) (br_f (by decide) (br_f (by decide) (br_f (by decide) (br_f (by decide) (br_f (by decide) (br_f (by decide) (br_f (by decide) (br_f (by decide) (br_f (by decide) (br_f (by decide) (br_t (by decide) h))))))))))))))
  · intro h
    unfold wpX_loosestOperand
    exact br_f (by decide) (br_f (by decide) (br_f (by decide) (br_f (by decide) (br_f (by decide) (br_f (by decide) (br_f (by decide) (br_f (by decide) (br_f (by decide) (br_f (by decide) (br_f (by decide) (br_f (by decide) (br_f (by decide) (br_f (by decide) (br_f (by decide) (br_t (by decide) h)))))))))))))))
  · intro h
    unfold wpX_loosestOperand
    exact br_f (by decide) (br_f (by decide) (br_f (by decide) (br_f (by decide) (br_f (by decide) (br_f (by decide) (br_f (by decide) (br_f (by decide) (br_f (by decide) (br_f (by decide) (br_f (by decide) (br_f (by decide) (br_f (by decide) (br_f (by decide) (br_f (by decide) (br_f (by decide) (br_t (by decide) h))))))))))))))))
  · intro h
    unfold wpX_loosestOperand
    exact br_f (by decide) (br_f (by decide) (br_f (by decide) (br_f (by decide) (br_f (by decide) (br_f (by decide) (br_f (by decide) (br_f (by decide) (br_f (by decide) (br_f (by decide) (br_f (by decide) (br_f (by decide) (br_f (by decide) (br_f (by decide) (br_f (by decide) (br_f (by decide) (br_f (by decide) (br_t (by decide) h)))))))))))))))))
theorem wx_typeOf {post : Int32 → Prop} {k : Nat} (hk : k < 18) (h : post (nI (te_ty k))) : wpX_typeOf post (f_nodeCount, f_draftLength, f_resultLength, a_inUse, a_parentOf, a_rankOf, a_nameOf, a_valueOf, a_order, a_along, a_draftKind, a_draftValue, a_draftEnd, a_tokenKind, a_tokenValue, a_tokenEnd, a_slotLength, a_setAt, a_amount, a_reached, a_agenda, a_isTemplate, a_matchSlot, a_priorityOf, a_outSlot, a_onSlot, a_waiting, a_result) (nI k) := by
  unfold wpX_typeOf
  unfold te_ty at h
  by_cases z : k < 4
  · rw [if_pos z] at h
    exact br_f (nI_nlt (a := 3) (b := k) (by omega) (by omega)) h
  · rw [if_neg z] at h
    by_cases y : k < 13
    · rw [if_pos y] at h
      exact br_t (nI_lt (a := 3) (by omega) (by omega)) (br_f (nI_nlt (a := 12) (b := k) (by omega) (by omega)) h)
    · rw [if_neg y] at h
      exact br_t (nI_lt (a := 3) (by omega) (by omega)) (br_t (nI_lt (a := 12) (by omega) (by omega)) h)
end
theorem wy_typeOf {post : Int32 → Prop} {k : Nat} (hk : k < 18) (h : post (nI (te_ty k))) : wpY_typeOf post (nI k) := by
  unfold wpY_typeOf
  unfold te_ty at h
  by_cases z : k < 4
  · rw [if_pos z] at h
    exact br_f (nI_ge (b := 4) z (by omega)) h
  · rw [if_neg z] at h
    by_cases y : k < 13
    · rw [if_pos y] at h
      exact br_t (nI_le (a := 4) (by omega) (by omega)) (br_f (nI_ge (b := 13) y (by omega)) h)
    · rw [if_neg y] at h
      exact br_t (nI_le (a := 4) (by omega) (by omega)) (br_t (nI_le (a := 13) (by omega) (by omega)) h)
theorem wy_operands {post : Int32 → Prop} {k w : Nat} {v : Int32} (hk : k < 18) (hv : k = 2 → v = nI w ∧ w < 384) (h : post (nI (te_o k w))) : wpY_operands post (nI k) v := by
  unfold wpY_operands
  have ne : ∀ {j : Nat}, j < 18 → k ≠ j → ¬ nI k = nI j := fun hj z w => z ((nI_eq (by omega) (by omega)).mp w)
  by_cases z2 : k = 2
  · subst z2
    obtain ⟨rfl, hw⟩ := hv rfl
    refine br_t (by decide) ?_
    have e : (1 : Int32) + (nI w >>> ((7 : Int32) &&& 31)) = nI (te_o 2 w) := by
      rw [pk_shrN (by omega) _ 7 (by decide), show (1 : Int32) = nI 1 from rfl, nI_add]; rfl
    rw [e]; exact h
  refine br_f (ne (j := 2) (by omega) z2) ?_
  by_cases z3 : k = 3
  · subst z3
    exact br_t (by decide) h
  refine br_f (ne (j := 3) (by omega) z3) ?_
  unfold te_o at h
  rw [if_neg z2, if_neg z3] at h
  by_cases z9 : k ≤ 9
  · refine br_t (nI_le (b := 9) z9 (by omega)) ?_
    by_cases z6 : k < 7
    · rw [if_pos z6] at h
      exact br_t (nI_le (b := 6) (by omega) (by omega)) h
    · rw [if_neg z6, if_pos (show k < 10 by omega)] at h
      exact br_f (nI_ge (a := 6) (by omega) (by omega)) h
  · refine br_f (nI_ge (a := 9) (by omega) (by omega)) ?_
    rw [if_neg (show ¬ k < 7 by omega), if_neg (show ¬ k < 10 by omega)] at h
    by_cases z17 : k < 17
    · rw [if_pos z17] at h
      exact br_f (nI_ge (b := 17) z17 (by omega)) h
    · rw [if_neg z17] at h
      exact br_t (nI_le (a := 17) (by omega) (by omega)) (br_f (nI_ge (a := 6) (by omega) (by omega)) h)
/-- tokens as two arrays hold them -/
def te_D (K W : Nat → Nat) (kd wt : Nat → Int32) (b L : Nat) : Prop := ∀ i, b ≤ i → i < L → kd i = nI (K i) ∧ K i < 18 ∧ (K i = 2 → wt i = nI (W i) ∧ W i < 384)
theorem te_uq {K W E E' : Nat → Nat} {b L : Nat} (h : te_Ws K W E b L) (h' : te_Ws K W E' b L) : ∀ i, i < L → b ≤ i → E i = E' i := by
  refine te_down L ?_
  intro i hi ih hb
  have key : ∀ t, t ≤ te_o (K i) (W i) → te_ch E (i + 1) t = te_ch E' (i + 1) t := by
    intro t
    induction t with
    | zero => intro _; rfl
    | succ t it =>
      intro ht
      have e := it (by omega)
      have o := te_op h hb hi (t := t) (by omega)
      rw [te_ch_s, te_ch_s, ← e]
      exact ih _ o.1 o.2.1 (by omega)
  rw [(h i hb hi).1, (h' i hb hi).1]
  exact key _ (Nat.le_refl _)
theorem te_Ws_up {K W E : Nat → Nat} {b b' L : Nat} (h : te_Ws K W E b L) (hb : b ≤ b') : te_Ws K W E b' L := fun i x y => h i (by omega) y
def te_Wh (K W : Nat → Nat) (n : Nat) : Prop := 0 < n ∧ ∃ E, te_Ws K W E 0 n ∧ E 0 = n
/-- token i spoils it -/
theorem te_bad {K W E : Nat → Nat} {n i h : Nat} (hw : te_Ws K W E (i + 1) n) (f : te_F E n (i + 1) h) (hi : i < n) (z : ¬ (te_o (K i) (W i) ≤ h ∧ ∀ t, t < te_o (K i) (W i) → te_ty (K (te_ch E (i + 1) t)) ≤ te_lo (K i) t)) : ¬ te_Wh K W n := by
  rintro ⟨n0, E', h', -⟩
  apply z
  have u := te_uq hw (te_Ws_up h' (by omega))
  have o := fun t ht => te_op h' (i := i) (by omega) hi (t := t) ht
  have key : ∀ t, t ≤ te_o (K i) (W i) → t ≤ h → te_ch E (i + 1) t = te_ch E' (i + 1) t := by
    intro t
    induction t with
    | zero => intro _ _; rfl
    | succ t it =>
      intro ht hh
      have e := it (by omega) (by omega)
      have oo := o t (by omega)
      rw [te_ch_s, te_ch_s, ← e]
      rw [← e] at oo
      exact u _ oo.2.1 (by omega)
  have le : te_o (K i) (W i) ≤ h := by
    rcases Nat.lt_or_ge h (te_o (K i) (W i)) with y | y
    · have e := key h (by omega) (Nat.le_refl _)
      have oo := o h y
      rw [← e, f.1] at oo
      omega
    · exact y
  refine ⟨le, fun t ht => ?_⟩
  rw [key t (by omega) (by omega)]
  exact (o t ht).2.2
theorem te_end {K W E : Nat → Nat} {n h : Nat} (hw : te_Ws K W E 0 n) (f : te_F E n 0 h) (n0 : 0 < n) : (E 0 = n ↔ h = 1) ∧ (E 0 = n ↔ te_Wh K W n) := by
  have h0 : 0 < h := by
    rcases Nat.eq_zero_or_pos h with z | z
    · subst z
      have : te_ch E 0 0 = 0 := rfl
      have := f.1
      omega
    · exact z
  have e1 : te_ch E 0 1 = E 0 := rfl
  refine ⟨⟨fun e => ?_, fun e => ?_⟩, ⟨fun e => ⟨n0, E, hw, e⟩, fun ⟨_, E', h', e'⟩ => ?_⟩⟩
  · rcases Nat.lt_or_ge 1 h with y | y
    · have := f.2 1 y
      omega
    · omega
  · subst e; rw [← e1]; exact f.1
  · rw [te_uq hw h' 0 n0 (Nat.le_refl _)]; exact e'
end
section
/-! is the draft one expression -/
theorem te_o3 {k w : Nat} (h : k = 2 → w < 384) : te_o k w ≤ 3 := by
  unfold te_o
  by_cases z : k = 2
  · have := h z
    rw [if_pos z]; omega
  · rw [if_neg z]
    by_cases a : k = 3
    · rw [if_pos a]; omega
    · rw [if_neg a]
      by_cases b : k < 7
      · rw [if_pos b]; omega
      · rw [if_neg b]
        by_cases c : k < 10
        · rw [if_pos c]; omega
        · rw [if_neg c]
          by_cases e : k < 17
          · rw [if_pos e]; omega
          · rw [if_neg e]; omega
theorem te_o_pos {k w : Nat} (h : 0 < te_o k w) : k = 2 ∨ k = 3 ∨ 7 ≤ k := by
  unfold te_o at h
  by_cases z : k = 2
  · exact Or.inl z
  · rw [if_neg z] at h
    by_cases a : k = 3
    · exact Or.inr (Or.inl a)
    · rw [if_neg a] at h
      by_cases b : k < 7
      · rw [if_pos b] at h; omega
      · exact Or.inr (Or.inr (by omega))
theorem te_ty2 (k : Nat) : te_ty k ≤ 2 := by
  unfold te_ty
  by_cases h : k < 4
  · rw [if_pos h]; omega
  · rw [if_neg h]
    by_cases h2 : k < 13
    · rw [if_pos h2]; omega
    · rw [if_neg h2]; omega
theorem te_lo_iff {k t τ : Nat} (ho : k = 2 ∨ k = 3 ∨ 7 ≤ k) (hk : k < 18) (hτ : τ ≤ 2) :
    τ ≤ te_lo k t ↔ ¬ (((k = 3 ∨ (k = 2 ∧ t = 0) ∨ (7 ≤ k ∧ k ≤ 9)) ∧ τ ≠ 0) ∨ ((10 ≤ k ∧ k ≤ 14) ∧ τ = 2)) := by
  unfold te_lo
  by_cases z : k = 2
  · rw [if_pos z]
    by_cases y : t = 0
    · rw [if_pos y]; omega
    · rw [if_neg y]; omega
  · rw [if_neg z]
    by_cases a : k < 10
    · rw [if_pos a]; omega
    · rw [if_neg a]
      by_cases b : k < 15
      · rw [if_pos b]; omega
      · rw [if_neg b]; omega
theorem te_lo2 {k t : Nat} : te_lo k t ≤ 2 := by
  unfold te_lo
  by_cases z : k = 2
  · rw [if_pos z]; split <;> omega
  · rw [if_neg z]; split
    · omega
    · split <;> omega
theorem tz_m1s (x : Int32) : x + (-1) = x - 1 := (Int32.sub_eq_add_neg x 1).symm
section
variable {f_nodeCount f_draftLength f_resultLength : Int32} {a_inUse a_parentOf a_rankOf a_nameOf a_valueOf a_order a_along a_draftKind a_draftValue a_draftEnd a_tokenKind a_tokenValue a_tokenEnd a_slotLength a_setAt a_amount a_reached a_agenda a_isTemplate a_matchSlot a_priorityOf a_outSlot a_onSlot a_waiting a_result : Nat → Int32} {K W E : Nat → Nat} {n i h : Nat}
theorem wx_dEnd {post : Int32 → Prop} (hn : f_draftLength = nI n) (n40 : n ≤ 40) (D : te_D K W a_draftKind a_draftValue 0 n) (he : ∀ j, i + 1 ≤ j → j < n → a_draftEnd j = nI (E j)) (hw : te_Ws K W E (i + 1) n) (f : te_F E n (i + 1) h) (hi : i < n)
    (h1 : (te_o (K i) (W i) ≤ h ∧ ∀ t, t < te_o (K i) (W i) → te_ty (K (te_ch E (i + 1) t)) ≤ te_lo (K i) t) → post (nI (te_ch E (i + 1) (te_o (K i) (W i)))))
    (h0 : ¬ (te_o (K i) (W i) ≤ h ∧ ∀ t, t < te_o (K i) (W i) → te_ty (K (te_ch E (i + 1) t)) ≤ te_lo (K i) t) → post (-1)) : wpX_draftEndFrom post (f_nodeCount, f_draftLength, f_resultLength, a_inUse, a_parentOf, a_rankOf, a_nameOf, a_valueOf, a_order, a_along, a_draftKind, a_draftValue, a_draftEnd, a_tokenKind, a_tokenValue, a_tokenEnd, a_slotLength, a_setAt, a_amount, a_reached, a_agenda, a_isTemplate, a_matchSlot, a_priorityOf, a_outSlot, a_onSlot, a_waiting, a_result) (nI i) := by
  subst hn
  obtain ⟨d1, d2, d3⟩ := D i (by omega) hi
  have o3 := te_o3 (fun z => (d3 z).2)
  have ge := te_ch_ge hw f
  have hh := te_F_le hw f
  have ei : (nI i).toNatClampNeg = i := nI_clamp (by omega)
  have key : ∀ u t, t + u = te_o (K i) (W i) → t ≤ h → (∀ s, s < t → te_ty (K (te_ch E (i + 1) s)) ≤ te_lo (K i) s) → wX_draftEndFrom_27 post (nI (K i)) (nI (te_o (K i) (W i))) f_nodeCount (nI n) f_resultLength a_inUse a_parentOf a_rankOf a_nameOf a_valueOf a_order a_along a_draftKind a_draftValue a_draftEnd a_tokenKind a_tokenValue a_tokenEnd a_slotLength a_setAt a_amount a_reached a_agenda a_isTemplate a_matchSlot a_priorityOf a_outSlot a_onSlot a_waiting a_result (u + 1) (nI (te_ch E (i + 1) t)) (nI t) := by
    intro u
    induction u with
    | zero =>
      intro t ht hth hty
      have e : t = te_o (K i) (W i) := by omega
      refine br_t (nI_le (by omega) (by omega)) ?_
      rw [e]
      exact h1 ⟨by omega, fun s hs => hty s (by omega)⟩
    | succ u iu =>
      intro t ht hth hty
      refine br_f (nI_ge (by omega) (by omega)) ?_
      by_cases z : t < h
      · have lt := f.2 t z
        have gt := ge t hth
        obtain ⟨c1, c2, c3⟩ := D (te_ch E (i + 1) t) (by omega) lt
        have ec : (nI (te_ch E (i + 1) t)).toNatClampNeg = te_ch E (i + 1) t := nI_clamp (by omega)
        refine br_t (nI_lt lt (by omega)) ⟨vp_in_nI (by omega) (by omega), ?_⟩
        rw [ec, c1]
        refine wx_typeOf c2 (wx_loosest d2 (by omega) ?_)
        have l2 := te_lo2 (k := K i) (t := t)
        have t2 := te_ty2 (K (te_ch E (i + 1) t))
        by_cases y : te_ty (K (te_ch E (i + 1) t)) ≤ te_lo (K i) t
        · refine br_t (nI_le y (by omega)) ⟨vp_in_nI (by omega) (by omega), nm_r (e' := nI (te_ch E (i + 1) (t + 1))) (by rw [he _ (by omega) lt, te_ch_s]) (nm_r (nI_1 t) (iu (t + 1) (by omega) (by omega) (fun s hs => ?_)))⟩
          by_cases w : s = t
          · subst w; exact y
          · exact hty s (by omega)
        · exact br_f (nI_ge (by omega) (by omega)) (h0 (fun g => y (g.2 t (by omega))))
      · have e : t = h := by omega
        subst e
        rw [f.1]
        exact br_f (nI_nlt (Nat.le_refl _) (by omega)) (h0 (fun g => by omega))
  unfold wpX_draftEndFrom
  refine ⟨vp_in_nI (by omega) (by omega), nm_r (e' := nI (K i)) (by rw [ei]; exact d1) ⟨vp_in_nI (by omega) (by omega), wx_operands (w := W i) d2 (fun z => by rw [ei]; exact d3 z) (nm_r (nI_1 i) ⟨te_o (K i) (W i) + 1, key _ 0 (by omega) (by omega) (fun s hs => by omega)⟩)⟩⟩
theorem wx_whole {post : Int32 → SX → Prop} (hn : f_draftLength = nI n) (n40 : n ≤ 40) (D : te_D K W a_draftKind a_draftValue 0 n)
    (h1 : ∀ e E, te_Ws K W E 0 n → E 0 = n → 0 < n → (∀ j, j < n → e j = nI (E j)) → post 1 (f_nodeCount, f_draftLength, f_resultLength, a_inUse, a_parentOf, a_rankOf, a_nameOf, a_valueOf, a_order, a_along, a_draftKind, a_draftValue, e, a_tokenKind, a_tokenValue, a_tokenEnd, a_slotLength, a_setAt, a_amount, a_reached, a_agenda, a_isTemplate, a_matchSlot, a_priorityOf, a_outSlot, a_onSlot, a_waiting, a_result)) (h0 : ¬ te_Wh K W n → ∀ e, post 0 (f_nodeCount, f_draftLength, f_resultLength, a_inUse, a_parentOf, a_rankOf, a_nameOf, a_valueOf, a_order, a_along, a_draftKind, a_draftValue, e, a_tokenKind, a_tokenValue, a_tokenEnd, a_slotLength, a_setAt, a_amount, a_reached, a_agenda, a_isTemplate, a_matchSlot, a_priorityOf, a_outSlot, a_onSlot, a_waiting, a_result)) : wpX_draftIsWhole post (f_nodeCount, f_draftLength, f_resultLength, a_inUse, a_parentOf, a_rankOf, a_nameOf, a_valueOf, a_order, a_along, a_draftKind, a_draftValue, a_draftEnd, a_tokenKind, a_tokenValue, a_tokenEnd, a_slotLength, a_setAt, a_amount, a_reached, a_agenda, a_isTemplate, a_matchSlot, a_priorityOf, a_outSlot, a_onSlot, a_waiting, a_result) := by
  have key : ∀ i e E h, i ≤ n → (∀ j, i ≤ j → j < n → e j = nI (E j)) → te_Ws K W E i n → te_F E n i h → wX_draftIsWhole_7 post f_nodeCount f_draftLength f_resultLength (i + 1) (nI i - 1) a_inUse a_parentOf a_rankOf a_nameOf a_valueOf a_order a_along a_draftKind a_draftValue e a_tokenKind a_tokenValue a_tokenEnd a_slotLength a_setAt a_amount a_reached a_agenda a_isTemplate a_matchSlot a_priorityOf a_outSlot a_onSlot a_waiting a_result := by
    intro i
    induction i with
    | zero =>
      intro e E h hi he hw f
      refine br_t (by decide) ?_
      by_cases z : n = 0
      · refine br_t (by rw [hn, z]; decide) (h0 (fun w => by have := w.1; omega) e)
      · have te := te_end hw f (by omega)
        have E0 := te_E_le hw (i := 0) (Nat.le_refl _) (by omega)
        refine br_f (by rw [hn]; exact nI_nle (by omega) (by omega)) ?_
        by_cases y : E 0 = n
        · exact br_t (by rw [he 0 (by omega) (by omega), hn, y]) (h1 e E hw y (by omega) (fun j hj => he j (by omega) hj))
        · refine br_f (fun w => y ?_) (h0 (fun w => y (te.2.mpr w)) e)
          rw [he 0 (by omega) (by omega), hn] at w
          exact (nI_eq (by omega) (by omega)).mp w
    | succ i ih =>
      intro e E h hi he hw f
      have ge := te_ch_ge hw f
      rw [nI_pred]
      refine br_f (nI_pos (by omega)) (wx_dEnd hn n40 D he hw f (by omega) (fun g => ?_) (fun g => br_t rfl (h0 (te_bad hw f (by omega) g) e)))
      have le := ge _ g.1
      have ub : te_ch E (i + 1) (te_o (K i) (W i)) ≤ n := by
        rcases Nat.lt_or_ge (te_o (K i) (W i)) h with y | y
        · have := f.2 _ y; omega
        · rw [show te_o (K i) (W i) = h by have := g.1; omega, f.1]; exact Nat.le_refl _
      have st := te_step (E' := fun j => if j = i then te_ch E (i + 1) (te_o (K i) (W i)) else E j) hw f (by omega) rfl g.1 g.2 (fun j hj => if_neg (by omega)) (if_pos rfl)
      refine br_f (tx_m1' (by omega)) ⟨vp_in_nI (by omega) (by omega), nm_r (e' := upd e i (nI (te_ch E (i + 1) (te_o (K i) (W i))))) (by rw [nI_clamp (by omega)]) (nm_r (tz_m1s _) (ih _ _ _ (by omega) (fun j a b => ?_) st.1 st.2.1))⟩
      by_cases z : j = i
      · subst z; rw [pk_us, if_pos rfl]
      · rw [pk_un z, if_neg z]; exact he j (by omega) b
  unfold wpX_draftIsWhole
  exact nm_r (e' := nI n - 1) (by rw [hn]) ⟨n + 1, key n a_draftEnd (fun _ => 0) 0 (Nat.le_refl _) (fun j a b => by omega) (fun j a b => by omega) (te_F_0 _ _)⟩
end
section
variable {f_count f_top f_listed f_outputs : Int32} {a_row a_depth a_name a_value a_moved a_kind a_with a_length a_sets a_fresh a_type a_number a_set a_list a_there a_match a_priority a_out a_on a_todo a_within a_output : Nat → Int32} {K W : Nat → Nat} {n : Nat}
theorem wy_op {post : Int32 → SY → Prop} {J19 : Int32 → Int32 → (Nat → Int32) → (Nat → Int32) → (Nat → Int32) → (Nat → Int32) → (Nat → Int32) → (Nat → Int32) → (Nat → Int32) → (Nat → Int32) → (Nat → Int32) → (Nat → Int32) → (Nat → Int32) → (Nat → Int32) → (Nat → Int32) → (Nat → Int32) → (Nat → Int32) → (Nat → Int32) → (Nat → Int32) → (Nat → Int32) → (Nat → Int32) → (Nat → Int32) → (Nat → Int32) → (Nat → Int32) → Prop} {J54 : Int32 → Prop} {x1 x2 : Int32} {k t τ : Nat} (ek : a_kind x1.toNatClampNeg = nI k) (hv : vp_in x1 360) (hk : k < 18) (ho : k = 2 ∨ k = 3 ∨ 7 ≤ k) (ht : t < 2 ^ 31) (hτ : τ ≤ 2)
    (h1 : τ ≤ te_lo k t → J54 (nI (t + 1))) (h0 : ¬ τ ≤ te_lo k t → post 0 (f_count, f_top, f_listed, f_outputs, a_row, a_depth, a_name, a_value, a_moved, a_kind, a_with, a_length, a_sets, a_fresh, a_type, a_number, a_set, a_list, a_there, a_match, a_priority, a_out, a_on, a_todo, a_within, a_output)) :
    (((a_kind x1.toNatClampNeg) = 3 → (wY_isWhole_114 post J19 J54 x1 x2 (nI t) (nI τ) f_count f_top f_listed f_outputs a_row a_depth a_name a_value a_moved a_kind a_with a_length a_sets a_fresh a_type a_number a_set a_list a_there a_match a_priority a_out a_on a_todo a_within a_output)) ∧ (¬ (a_kind x1.toNatClampNeg) = 3 → (vp_in x1 360 ∧ ((((a_kind x1.toNatClampNeg) = 2 → (((nI t = 0 → (wY_isWhole_114 post J19 J54 x1 x2 (nI t) (nI τ) f_count f_top f_listed f_outputs a_row a_depth a_name a_value a_moved a_kind a_with a_length a_sets a_fresh a_type a_number a_set a_list a_there a_match a_priority a_out a_on a_todo a_within a_output)) ∧ (¬ nI t = 0 → (wY_isWhole_98 post J19 J54 x1 x2 (nI t) (nI τ) f_count f_top f_listed f_outputs a_row a_depth a_name a_value a_moved a_kind a_with a_length a_sets a_fresh a_type a_number a_set a_list a_there a_match a_priority a_out a_on a_todo a_within a_output))))) ∧ (¬ (a_kind x1.toNatClampNeg) = 2 → (wY_isWhole_98 post J19 J54 x1 x2 (nI t) (nI τ) f_count f_top f_listed f_outputs a_row a_depth a_name a_value a_moved a_kind a_with a_length a_sets a_fresh a_type a_number a_set a_list a_there a_match a_priority a_out a_on a_todo a_within a_output))))))) := by
  have iff := te_lo_iff (t := t) ho hk hτ
  have ne : ∀ {j : Nat}, j < 18 → k ≠ j → ¬ nI k = nI j := fun hj z w => z ((nI_eq (by omega) (by omega)).mp w)
  have L146 : ∀ b : Nat, b ≤ 1 → (b = 1 ↔ (10 ≤ k ∧ k ≤ 14)) → ((k = 3 ∨ (k = 2 ∧ t = 0) ∨ (7 ≤ k ∧ k ≤ 9)) → τ = 0) → wY_isWhole_146 post J19 J54 x1 x2 (nI t) (nI τ) (nI b) f_count f_top f_listed f_outputs a_row a_depth a_name a_value a_moved a_kind a_with a_length a_sets a_fresh a_type a_number a_set a_list a_there a_match a_priority a_out a_on a_todo a_within a_output := by
    intro b hb hb1 hs
    unfold wY_isWhole_146
    by_cases z : b = 0
    · subst z
      exact br_t (by decide) (nm_r (nI_1 t) (h1 (iff.mpr (by omega))))
    · have e : b = 1 := by omega
      subst e
      refine br_f (by decide) ?_
      by_cases y : τ = 2
      · exact br_t (by rw [y]; rfl) (h0 (fun w => iff.mp w (Or.inr ⟨hb1.mp rfl, y⟩)))
      · exact br_f (fun w => y ((nI_eq (b := 2) (by omega) (by omega)).mp w)) (nm_r (nI_1 t) (h1 (iff.mpr (by omega))))
  have L119 : ∀ b : Nat, b ≤ 1 → (b = 1 ↔ (k = 3 ∨ (k = 2 ∧ t = 0) ∨ (7 ≤ k ∧ k ≤ 9))) → wY_isWhole_119 post J19 J54 x1 x2 (nI t) (nI τ) (nI b) f_count f_top f_listed f_outputs a_row a_depth a_name a_value a_moved a_kind a_with a_length a_sets a_fresh a_type a_number a_set a_list a_there a_match a_priority a_out a_on a_todo a_within a_output := by
    intro b hb hb1
    unfold wY_isWhole_119
    refine ⟨hv, ?_⟩
    rw [ek]
    have go : ∀ g : Nat, g ≤ 1 → (g = 1 ↔ (10 ≤ k ∧ k ≤ 14)) → (((nI b = 0 → (wY_isWhole_146 post J19 J54 x1 x2 (nI t) (nI τ) (nI g) f_count f_top f_listed f_outputs a_row a_depth a_name a_value a_moved a_kind a_with a_length a_sets a_fresh a_type a_number a_set a_list a_there a_match a_priority a_out a_on a_todo a_within a_output)) ∧ (¬ nI b = 0 → (((nI τ = 0 → (wY_isWhole_146 post J19 J54 x1 x2 (nI t) (nI τ) (nI g) f_count f_top f_listed f_outputs a_row a_depth a_name a_value a_moved a_kind a_with a_length a_sets a_fresh a_type a_number a_set a_list a_there a_match a_priority a_out a_on a_todo a_within a_output)) ∧ (¬ nI τ = 0 → (post 0 (f_count, f_top, f_listed, f_outputs, a_row, a_depth, a_name, a_value, a_moved, a_kind, a_with, a_length, a_sets, a_fresh, a_type, a_number, a_set, a_list, a_there, a_match, a_priority, a_out, a_on, a_todo, a_within, a_output)))))))) := by
      intro g hg hg1
      by_cases z : b = 0
      · subst z
        exact br_t (by decide) (L146 g hg hg1 (fun w => by have := hb1.mpr w; omega))
      · have e : b = 1 := by omega
        subst e
        refine br_f (by decide) ?_
        by_cases y : τ = 0
        · exact br_t (by rw [y]; rfl) (L146 g hg hg1 (fun _ => y))
        · exact br_f (fun w => y ((nI_eq (b := 0) (by omega) (by omega)).mp w)) (h0 (fun w => iff.mp w (Or.inl ⟨hb1.mp rfl, y⟩)))
    exact wy_inr (lo := 10) (hi := 14) (by omega) (by omega) (by omega) (fun a b' => go 1 (by omega) (by omega)) (fun w => go 0 (by omega) (by omega))
  have L114 : (k = 3 ∨ (k = 2 ∧ t = 0) ∨ (7 ≤ k ∧ k ≤ 9)) → wY_isWhole_114 post J19 J54 x1 x2 (nI t) (nI τ) f_count f_top f_listed f_outputs a_row a_depth a_name a_value a_moved a_kind a_with a_length a_sets a_fresh a_type a_number a_set a_list a_there a_match a_priority a_out a_on a_todo a_within a_output := fun w => L119 1 (by omega) (by omega)
  have L98 : ¬ (k = 3 ∨ (k = 2 ∧ t = 0)) → wY_isWhole_98 post J19 J54 x1 x2 (nI t) (nI τ) f_count f_top f_listed f_outputs a_row a_depth a_name a_value a_moved a_kind a_with a_length a_sets a_fresh a_type a_number a_set a_list a_there a_match a_priority a_out a_on a_todo a_within a_output := by
    intro w
    unfold wY_isWhole_98
    refine ⟨hv, ?_⟩
    rw [ek]
    exact wy_inr (lo := 7) (hi := 9) (by omega) (by omega) (by omega) (fun a b => br_f (by decide) (L114 (by omega))) (fun y => br_t rfl (L119 0 (by omega) (by omega)))
  rw [ek]
  by_cases z3 : k = 3
  · exact br_t (by rw [z3]; rfl) (L114 (Or.inl z3))
  refine br_f (ne (j := 3) (by omega) z3) ⟨hv, ?_⟩
  by_cases z2 : k = 2
  · refine br_t (by rw [z2]; rfl) ?_
    by_cases z : t = 0
    · exact br_t (by rw [z]; rfl) (L114 (by omega))
    · exact br_f (fun w => z ((nI_eq (b := 0) ht (by omega)).mp w)) (L98 (by omega))
  · exact br_f (ne (j := 2) (by omega) z2) (L98 (by omega))
theorem wy_whole {post : Int32 → SY → Prop} (hl : a_length 8 = nI n) (n40 : n ≤ 40) (n0 : 0 < n) (D : te_D K W (fun i => a_kind (320 + i)) (fun i => a_with (320 + i)) 0 n)
    (h1 : te_Wh K W n → ∀ top ty, post 1 (f_count, top, f_listed, f_outputs, a_row, a_depth, a_name, a_value, a_moved, a_kind, a_with, a_length, a_sets, a_fresh, ty, a_number, a_set, a_list, a_there, a_match, a_priority, a_out, a_on, a_todo, a_within, a_output)) (h0 : ¬ te_Wh K W n → ∀ top ty, post 0 (f_count, top, f_listed, f_outputs, a_row, a_depth, a_name, a_value, a_moved, a_kind, a_with, a_length, a_sets, a_fresh, ty, a_number, a_set, a_list, a_there, a_match, a_priority, a_out, a_on, a_todo, a_within, a_output)) : wpY_isWhole post (f_count, f_top, f_listed, f_outputs, a_row, a_depth, a_name, a_value, a_moved, a_kind, a_with, a_length, a_sets, a_fresh, a_type, a_number, a_set, a_list, a_there, a_match, a_priority, a_out, a_on, a_todo, a_within, a_output) := by
  have key : ∀ i E h ty, i ≤ n → te_Ws K W E i n → te_F E n i h → (∀ t, t < h → ty (h - 1 - t) = nI (te_ty (K (te_ch E i t)))) → wY_isWhole_19 post f_count f_listed f_outputs (i + 1) (nI (320 + i) - 1) (nI h) a_row a_depth a_name a_value a_moved a_kind a_with a_length a_sets a_fresh ty a_number a_set a_list a_there a_match a_priority a_out a_on a_todo a_within a_output := by
    intro i
    induction i with
    | zero =>
      intro E h ty hi hw f hty
      have te := te_end hw f n0
      have hh := te_F_le hw f
      refine br_t (by decide) ?_
      by_cases y : h = 1
      · exact br_t (by rw [y]; rfl) (h1 (te.2.mp (te.1.mpr y)) _ _)
      · exact br_f (fun w => y ((nI_eq (b := 1) (by omega) (by omega)).mp w)) (h0 (fun w => y (te.1.mp (te.2.mpr w))) _ _)
    | succ i ih =>
      intro E h ty hi hw f hty
      have hh := te_F_le hw f
      have ge := te_ch_ge hw f
      obtain ⟨d1, d2, d3⟩ := D i (by omega) (by omega)
      have o3 := te_o3 (fun z => (d3 z).2)
      rw [show 320 + (i + 1) = 320 + i + 1 by omega, nI_pred]
      have e1 : (nI (320 + i)).toNatClampNeg = 320 + i := nI_clamp (by omega)
      have ek : a_kind (nI (320 + i)).toNatClampNeg = nI (K i) := by rw [e1]; exact d1
      have vi : vp_in (nI (320 + i)) 360 := vp_in_nI (by omega) (by omega)
      refine br_f (nI_nlt (b := 320) (by omega) (by omega)) ⟨vi, vi, ?_⟩
      rw [ek]
      refine wy_operands (w := W i) d2 (fun z => by rw [e1]; exact d3 z) ?_
      by_cases oh : te_o (K i) (W i) ≤ h
      rotate_left
      · exact br_f (nI_ge (by omega) (by omega)) (h0 (te_bad hw f (by omega) (fun g => oh g.1)) _ _)
      refine br_t (nI_le oh (by omega)) ⟨te_o (K i) (W i) + 1, ?_⟩
      have inner : ∀ u t, t + u = te_o (K i) (W i) → (∀ s, s < t → te_ty (K (te_ch E (i + 1) s)) ≤ te_lo (K i) s) → wY_isWhole_54 post (wY_isWhole_19 post f_count f_listed f_outputs (i + 1)) (nI (320 + i)) (nI (te_o (K i) (W i))) f_count (nI h) f_listed f_outputs a_row a_depth a_name a_value a_moved a_kind a_with a_length a_sets a_fresh ty a_number a_set a_list a_there a_match a_priority a_out a_on a_todo a_within a_output (u + 1) (nI t) := by
        intro u
        induction u with
        | zero =>
          intro t ht hts
          have e : t = te_o (K i) (W i) := by omega
          subst e
          have st := te_step (E' := fun j => if j = i then te_ch E (i + 1) (te_o (K i) (W i)) else E j) hw f (by omega) rfl oh hts (fun j hj => if_neg (by omega)) (if_pos rfl)
          refine br_t (nI_le (Nat.le_refl _) (by omega)) (nm_r (pk_sub oh) (nm_r (nI_1 _) ⟨vi, ?_⟩))
          rw [ek]
          refine wy_typeOf d2 ⟨vp_in_nI (by omega) (by omega), nm_r (e' := upd ty (h - te_o (K i) (W i)) (nI (te_ty (K i)))) (by rw [nI_clamp (by omega)]) (nm_r (tz_m1s _) (ih _ _ _ (by omega) st.1 st.2.1 (fun t ht => ?_)))⟩
          cases t with
          | zero =>
            rw [show h - te_o (K i) (W i) + 1 - 1 - 0 = h - te_o (K i) (W i) by omega]
            exact pk_us
          | succ t =>
            rw [st.2.2 t (by omega), pk_un (by omega), ← hty _ (by omega)]
            exact congrArg ty (by omega)
        | succ u iu =>
          intro t ht hts
          have et : (nI h - 1) - nI t = nI (h - 1 - t) := by
            rw [show nI h - 1 = nI (h - 1) from pk_sub (a := h) (b := 1) (by omega), pk_sub (by omega)]
          refine br_f (nI_ge (by omega) (by omega)) ⟨by rw [et]; exact vp_in_nI (by omega) (by omega), nm_r (e' := nI (te_ty (K (te_ch E (i + 1) t)))) (by rw [et, nI_clamp (by omega)]; exact hty t (by omega)) ⟨vi, ?_⟩⟩
          refine wy_op ek vi d2 (te_o_pos (w := W i) (by omega)) (by omega) (te_ty2 _) (fun g => iu (t + 1) (by omega) (fun s hs => ?_)) (fun g => h0 (te_bad hw f (by omega) (fun q => g (q.2 t (by omega)))) _ _)
          by_cases w : s = t
          · subst w; exact g
          · exact hts s (by omega)
      exact inner _ 0 (by omega) (fun s hs => by omega)
  unfold wpY_isWhole
  exact nm_r (e' := nI (320 + n) - 1) (by rw [hl, show (320 : Int32) = nI 320 from rfl, nI_add]) ⟨n + 1, key n (fun _ => 0) 0 a_type (Nat.le_refl _) (fun j a b => by omega) (te_F_0 _ _) (fun t ht => by omega)⟩
end
end
section
/-! expression -/
theorem te_Ws_sh {K W E K' W' E' : Nat → Nat} {b n : Nat} (h : te_Ws K W E 0 n) (e : ∀ i, i < n → K' (b + i) = K i ∧ W' (b + i) = W i ∧ E' (b + i) = b + E i) : te_Ws K' W' E' b (b + n) := by
  intro j h1 h2
  obtain ⟨i, rfl⟩ : ∃ i, j = b + i := ⟨j - b, by omega⟩
  obtain ⟨e1, e2, e3⟩ := e i (by omega)
  have bd := (te_bnd h i (by omega) (Nat.zero_le _)).2.2
  obtain ⟨w1, w2⟩ := h i (Nat.zero_le _) (by omega)
  have key : ∀ t, t ≤ te_o (K i) (W i) → te_ch E' (b + i + 1) t = b + te_ch E (i + 1) t := by
    intro t
    induction t with
    | zero => intro _; rfl
    | succ t it =>
      intro ht
      have x := w2 t (by omega)
      rw [te_ch_s, te_ch_s, it (by omega)]
      exact (e _ x.1).2.2
  refine ⟨by rw [e1, e2, e3, w1, key _ (Nat.le_refl _)], fun t ht => ?_⟩
  rw [e1, e2] at ht
  have x := w2 t ht
  rw [key t (by omega), (e _ x.1).1, e1]
  exact ⟨by omega, x.2⟩
section
variable {f_nodeCount f_draftLength f_resultLength : Int32} {a_inUse a_parentOf a_rankOf a_nameOf a_valueOf a_order a_along a_draftKind a_draftValue a_draftEnd a_tokenKind a_tokenValue a_tokenEnd a_slotLength a_setAt a_amount a_reached a_agenda a_isTemplate a_matchSlot a_priorityOf a_outSlot a_onSlot a_waiting a_result : Nat → Int32}
theorem wx_keep {post : SX → Prop} {s n : Nat} {E : Nat → Nat} (hs : s < 8) (hn : f_draftLength = nI n) (n40 : n ≤ 40) (he : ∀ j, j < n → a_draftEnd j = nI (E j))
    (h : ∀ tk tv te, (∀ i, i < n → tk (40 * s + i) = a_draftKind i ∧ tv (40 * s + i) = a_draftValue i ∧ te (40 * s + i) = nI (40 * s + E i)) → (∀ j, ¬ (40 * s ≤ j ∧ j < 40 * s + n) → tk j = a_tokenKind j ∧ tv j = a_tokenValue j ∧ te j = a_tokenEnd j) →
      post (f_nodeCount, f_draftLength, f_resultLength, a_inUse, a_parentOf, a_rankOf, a_nameOf, a_valueOf, a_order, a_along, a_draftKind, a_draftValue, a_draftEnd, tk, tv, te, upd a_slotLength s (nI n), a_setAt, a_amount, a_reached, a_agenda, a_isTemplate, a_matchSlot, a_priorityOf, a_outSlot, a_onSlot, a_waiting, a_result)) : wpX_keepDraft post (f_nodeCount, f_draftLength, f_resultLength, a_inUse, a_parentOf, a_rankOf, a_nameOf, a_valueOf, a_order, a_along, a_draftKind, a_draftValue, a_draftEnd, a_tokenKind, a_tokenValue, a_tokenEnd, a_slotLength, a_setAt, a_amount, a_reached, a_agenda, a_isTemplate, a_matchSlot, a_priorityOf, a_outSlot, a_onSlot, a_waiting, a_result) (nI s) := by
  subst hn
  have es : (nI s).toNatClampNeg = s := nI_clamp (by omega)
  have key : ∀ k i tk tv te, i + k = n → (∀ j, j < i → tk (40 * s + j) = a_draftKind j ∧ tv (40 * s + j) = a_draftValue j ∧ te (40 * s + j) = nI (40 * s + E j)) → (∀ j, ¬ (40 * s ≤ j ∧ j < 40 * s + i) → tk j = a_tokenKind j ∧ tv j = a_tokenValue j ∧ te j = a_tokenEnd j) →
      wX_keepDraft_7 post (nI s) (nI (40 * s)) f_nodeCount (nI n) f_resultLength (k + 1) (nI i) a_inUse a_parentOf a_rankOf a_nameOf a_valueOf a_order a_along a_draftKind a_draftValue a_draftEnd tk tv te a_slotLength a_setAt a_amount a_reached a_agenda a_isTemplate a_matchSlot a_priorityOf a_outSlot a_onSlot a_waiting a_result := by
    intro k
    induction k with
    | zero =>
      intro i tk tv te hi g1 g2
      have e : i = n := by omega
      subst e
      exact br_t (nI_le (Nat.le_refl _) (by omega)) ⟨vp_in_nI hs (by omega), nm_r (e' := upd a_slotLength s (nI i)) (by rw [es]) (h tk tv te g1 g2)⟩
    | succ k ih =>
      intro i tk tv te hi g1 g2
      have ei : (nI i).toNatClampNeg = i := nI_clamp (by omega)
      have e2 : (nI (40 * s) + nI i).toNatClampNeg = 40 * s + i := by rw [nI_add]; exact nI_clamp (by omega)
      have vi : vp_in (nI i) 40 := vp_in_nI (by omega) (by omega)
      have v2 : vp_in (nI (40 * s) + nI i) 320 := by rw [nI_add]; exact vp_in_nI (by omega) (by omega)
      refine br_f (nI_ge (by omega) (by omega)) ⟨vi, v2, nm_r (e' := upd tk (40 * s + i) (a_draftKind i)) (by rw [e2, ei]) ⟨vi, v2, nm_r (e' := upd tv (40 * s + i) (a_draftValue i)) (by rw [e2, ei]) ⟨vi, v2, nm_r (e' := upd te (40 * s + i) (nI (40 * s + E i))) (by rw [e2, ei, he i (by omega), nI_add]) (nm_r (nI_1 i) (ih (i + 1) _ _ _ (by omega) (fun j hj => ?_) (fun j hj => ?_)))⟩⟩⟩
      · by_cases z : j = i
        · subst z
          exact ⟨pk_us, pk_us, pk_us⟩
        · rw [pk_un (by omega), pk_un (by omega), pk_un (by omega)]
          exact g1 j (by omega)
      · rw [pk_un (by omega), pk_un (by omega), pk_un (by omega)]
        exact g2 j (by omega)
  unfold wpX_keepDraft
  exact nm_r (e' := nI (40 * s)) (by rw [show (40 : Int32) = nI 40 from rfl, pk_mul, Nat.mul_comm]) ⟨n + 1, key n 0 _ _ _ (by omega) (fun j hj => by omega) (fun j _ => ⟨rfl, rfl, rfl⟩)⟩
end
section
variable {f_count f_top f_listed f_outputs : Int32} {a_row a_depth a_name a_value a_moved a_kind a_with a_length a_sets a_fresh a_type a_number a_set a_list a_there a_match a_priority a_out a_on a_todo a_within a_output : Nat → Int32}
theorem wy_ex68 {post : Int32 → SY → Prop} {s n k0 : Nat} (hs : s < 8) (n40 : n ≤ 40) (hk0 : a_kind 320 = nI k0) (hk18 : k0 < 18)
    (h : ∀ kd wt, (∀ i, i < n → kd (40 * s + i) = a_kind (320 + i) ∧ wt (40 * s + i) = a_with (320 + i)) → (∀ j, ¬ (40 * s ≤ j ∧ j < 40 * s + n) → kd j = a_kind j ∧ wt j = a_with j) →
      post (nI (te_ty k0)) (f_count, f_top, f_listed, f_outputs, a_row, a_depth, a_name, a_value, a_moved, kd, wt, a_length, a_sets, upd a_fresh s 0, a_type, a_number, a_set, a_list, a_there, a_match, a_priority, a_out, a_on, a_todo, a_within, a_output)) :
    ∀ k i kd wt, i + k = n → (∀ j, j < i → kd (40 * s + j) = a_kind (320 + j) ∧ wt (40 * s + j) = a_with (320 + j)) → (∀ j, ¬ (40 * s ≤ j ∧ j < 40 * s + i) → kd j = a_kind j ∧ wt j = a_with j) →
      wY_expression_68 post (nI s) (nI n) f_count f_top f_listed f_outputs (k + 1) (nI i) a_row a_depth a_name a_value a_moved kd wt a_length a_sets a_fresh a_type a_number a_set a_list a_there a_match a_priority a_out a_on a_todo a_within a_output := by
  have es : (nI s).toNatClampNeg = s := nI_clamp (by omega)
  intro k
  induction k with
  | zero =>
    intro i kd wt hi g1 g2
    have e : i = n := by omega
    subst e
    refine br_t (nI_le (Nat.le_refl _) (by omega)) ⟨vp_in_nI hs (by omega), nm_r (e' := upd a_fresh s 0) (by rw [es, tz_b0]) ?_⟩
    rw [(g2 320 (by omega)).1, hk0]
    exact wy_typeOf hk18 (h kd wt g1 g2)
  | succ k ih =>
    intro i kd wt hi g1 g2
    have e1 : ((320 : Int32) + nI i).toNatClampNeg = 320 + i := by rw [show (320 : Int32) = nI 320 from rfl, nI_add]; exact nI_clamp (by omega)
    have v1 : vp_in ((320 : Int32) + nI i) 360 := by rw [show (320 : Int32) = nI 320 from rfl, nI_add]; exact vp_in_nI (by omega) (by omega)
    have e0 : (40 : Int32) * nI s + nI i = nI (40 * s + i) := by rw [show (40 : Int32) = nI 40 from rfl, pk_mul, nI_add]
    have e2 : ((40 : Int32) * nI s + nI i).toNatClampNeg = 40 * s + i := by rw [e0]; exact nI_clamp (by omega)
    have v2 : vp_in ((40 : Int32) * nI s + nI i) 360 := by rw [e0]; exact vp_in_nI (by omega) (by omega)
    have gi := g2 (320 + i) (by omega)
    refine br_f (nI_ge (by omega) (by omega)) ⟨v1, v2, nm_r (e' := upd kd (40 * s + i) (a_kind (320 + i))) (by rw [e1, e2, gi.1]) ⟨v1, v2, nm_r (e' := upd wt (40 * s + i) (a_with (320 + i))) (by rw [e1, e2, gi.2]) (nm_r (nI_1 i) (ih (i + 1) _ _ (by omega) (fun j hj => ?_) (fun j hj => ?_)))⟩⟩
    · by_cases z : j = i
      · subst z
        exact ⟨pk_us, pk_us⟩
      · rw [pk_un (by omega), pk_un (by omega)]
        exact g1 j (by omega)
    · rw [pk_un (by omega), pk_un (by omega)]
      exact g2 j (by omega)
end
theorem i_vc_expression {k : Nat} {u : SX} {v : SY} (I : i_Rel k u v) (hk : k + 6 ≤ 3072) (v1 : Int32) : wpX_expression (fun r u' => wpY_expression (fun r' v' => r' = r ∧ i_Rel (k + 6) u' v') v v1) u v1 := by
  obtain ⟨f_nodeCount, f_draftLength, f_resultLength, a_inUse, a_parentOf, a_rankOf, a_nameOf, a_valueOf, a_order, a_along, a_draftKind, a_draftValue, a_draftEnd, a_tokenKind, a_tokenValue, a_tokenEnd, a_slotLength, a_setAt, a_amount, a_reached, a_agenda, a_isTemplate, a_matchSlot, a_priorityOf, a_outSlot, a_onSlot, a_waiting, a_result⟩ := u
  obtain ⟨f_count, f_top, f_listed, f_outputs, a_row, a_depth, a_name, a_value, a_moved, a_kind, a_with, a_length, a_sets, a_fresh, a_type, a_number, a_set, a_list, a_there, a_match, a_priority, a_out, a_on, a_todo, a_within, a_output⟩ := v
  have J := i_up I
  obtain ⟨c, n, m, r, d, len, T, X, Y, e1, e2, hdl, hK, hF, e3, e4, e5, e6, e7, hP, hm, hrl, hou, e8⟩ := I
  obtain ⟨k1, k2, k3, k4, k5, k6⟩ := hK
  have tok : ∀ i, i < n → a_draftKind i = nI (te_R 0 n a_draftKind i) ∧ te_R 0 n a_draftKind i < 18 ∧ (te_R 0 n a_draftKind i = 2 → a_draftValue i = nI (te_R 0 n a_draftValue i) ∧ te_R 0 n a_draftValue i < 384) := by
    intro i hi
    obtain ⟨q1, q2⟩ := k3 i (by omega)
    obtain ⟨kn, w1, w2, w3⟩ := k5 i hi
    have ek : te_R 0 n a_draftKind i = kn := te_R_n (by omega) hi (by rw [q1]; exact w2) (by omega)
    refine ⟨by rw [ek, q1]; exact w2, by omega, fun z => ?_⟩
    obtain ⟨w, g1, g2, g3⟩ := w3 (by omega)
    have ew : te_R 0 n a_draftValue i = w := te_R_n (by omega) hi (by rw [q2]; exact g2) (by omega)
    exact ⟨by rw [ew, q2]; exact g2, by omega⟩
  have DX : te_D (te_R 0 n a_draftKind) (te_R 0 n a_draftValue) a_draftKind a_draftValue 0 n := fun i _ hi => tok i hi
  have DY : te_D (te_R 0 n a_draftKind) (te_R 0 n a_draftValue) (fun i => a_kind (320 + i)) (fun i => a_with (320 + i)) 0 n := fun i _ hi => by
    have q := k3 i (by omega)
    have t := tok i hi
    rw [q.1, q.2] at t
    exact t
  unfold wpX_expression
  refine wx_isSlot (fun s hs es => ?_) (fun hno => br_t rfl ?_)
  rotate_left
  · unfold wpY_expression
    exact wy_in0 (n := 7) (by omega) (fun j hj ej => absurd ej (hno j (by omega))) (fun _ => br_t rfl ⟨rfl, J⟩)
  subst es
  have inY : ∀ {Q : Int32 → Prop}, Q 1 → wpY_in Q (nI s) 0 7 := fun q => wy_in0 (n := 7) (by omega) (fun _ _ _ => q) (fun h => absurd rfl (h s (by omega)))
  refine br_f (by decide) (wx_whole hdl k1 DX (fun e E hw E0 n0 he => ?_) (fun hnw e => ?_))
  · refine br_f (by decide) (wx_keep hs hdl k1 he (fun tk tv te t1 t2 => ?_))
    have es : (nI s).toNatClampNeg = s := nI_clamp (by omega)
    have e40 : nI s * 40 = nI (40 * s) := by rw [show (40 : Int32) = nI 40 from rfl, pk_mul, Nat.mul_comm]
    have c40 : (nI s * 40).toNatClampNeg = 40 * s := by rw [e40]; exact nI_clamp (by omega)
    have tok0 := tok 0 n0
    have tk0 : tk (40 * s) = nI (te_R 0 n a_draftKind 0) := by
      have := (t1 0 n0).1
      rw [Nat.add_zero] at this
      rw [this]; exact tok0.1
    unfold wX_expression_24
    refine br_f (by decide) ⟨by rw [e40]; exact vp_in_nI (by omega) (by omega), ?_⟩
    rw [c40, tk0]
    refine wx_typeOf tok0.2.1 ?_
    unfold wpY_expression
    refine inY (br_f (by decide) (br_f (by rw [k2]; exact nI_nle n0 (by omega)) (wy_whole k2 k1 n0 DY (fun _ top ty => br_f (by decide) ?_) (fun w => absurd ⟨n0, E, hw, E0⟩ w))))
    unfold wY_expression_34
    refine nm_r (e' := nI n) k2 (nm_e (br_f (by decide) ⟨vp_in_nI (by omega) (by omega), nm_r (e' := upd (upd a_length 8 0) s (nI n)) (by rw [es]) ⟨n + 1, ?_⟩⟩))
    refine wy_ex68 (k0 := te_R 0 n a_draftKind 0) hs k1 ?_ tok0.2.1 (fun kd wt y1 y2 => ?_) n 0 a_kind a_with (by omega) (fun j hj => by omega) (fun j _ => ⟨rfl, rfl⟩)
    · have := (k3 0 (by omega)).1
      rw [Nat.add_zero] at this
      rw [← this]; exact tok0.1
    refine ⟨rfl, c, 0, m, r, d, fun t => if t = s then n else len t, T, X, Y, e1, e2, nI_0.symm, ⟨by omega, ?_, ?_, ?_, fun i hi => by omega, ?_⟩, ?_, e3, e4, e5, e6, e7, hP, hm, hrl, hou, e8⟩
    · rw [pk_un (by omega), pk_us]; exact nI_0.symm
    · intro i hi
      obtain ⟨z1, z2⟩ := y2 (320 + i) (by omega)
      rw [z1, z2]; exact k3 i hi
    · intro i hi
      by_cases z : 40 * s ≤ i ∧ i < 40 * s + n
      · obtain ⟨j, rfl⟩ : ∃ j, i = 40 * s + j := ⟨i - 40 * s, by omega⟩
        obtain ⟨z1, z2, -⟩ := t1 j (by omega)
        obtain ⟨z3, z4⟩ := y1 j (by omega)
        rw [z1, z2, z3, z4]
        exact k3 j (by omega)
      · obtain ⟨z1, z2, -⟩ := t2 i z
        obtain ⟨z3, z4⟩ := y2 i z
        rw [z1, z2, z3, z4]
        exact k4 i hi
    · intro t ht
      by_cases z : t = s
      · subst z
        show _ = nI (if t = t then n else len t) ∧ _ = nI (if t = t then n else len t) ∧ re_Slot kd wt te (40 * t) (if t = t then n else len t)
        rw [if_pos rfl]
        refine ⟨pk_us, pk_us, k1, fun i hi1 hi2 => ?_, fun _ => ?_⟩
        · obtain ⟨j, rfl⟩ : ∃ j, i = 40 * t + j := ⟨i - 40 * t, by omega⟩
          obtain ⟨z1, z2, z3⟩ := t1 j (by omega)
          obtain ⟨z4, z5⟩ := y1 j (by omega)
          obtain ⟨kn, w1, w2, w3⟩ := k5 j (by omega)
          have El := te_E_le hw (i := j) (by omega) (by omega)
          refine ⟨⟨kn, w1, by rw [z4]; exact w2, fun w => by rw [z5]; exact w3 w⟩, ?_⟩
          rw [te_R_n hi1 hi2 z3 (by omega)]
          exact z3
        · have El : ∀ j, j < n → E j ≤ n := fun j hj => te_E_le hw (i := j) (by omega) hj
          constructor
          · refine te_Ws_sh hw (fun i hi => ?_)
            obtain ⟨z1, z2, z3⟩ := t1 i hi
            obtain ⟨z4, z5⟩ := y1 i hi
            have q := k3 i (by omega)
            refine ⟨?_, ?_, te_R_n (by omega) (by omega) z3 (by have := El i hi; omega)⟩
            · unfold te_R
              rw [if_pos ⟨by omega, by omega⟩, if_pos ⟨by omega, hi⟩, z4, ← q.1]
            · unfold te_R
              rw [if_pos ⟨by omega, by omega⟩, if_pos ⟨by omega, hi⟩, z5, ← q.2]
          · have z3 := (t1 0 n0).2.2
            rw [Nat.add_zero, E0] at z3
            exact te_R_n (by omega) (by omega) z3 (by omega)
      · show _ = nI (if t = s then n else len t) ∧ _ = nI (if t = s then n else len t) ∧ re_Slot kd wt te (40 * t) (if t = s then n else len t)
        rw [if_neg z]
        obtain ⟨q1, q2, q3⟩ := k6 t ht
        have l40 := q3.1
        refine ⟨by rw [pk_un z]; exact q1, by rw [pk_un z, pk_un (by omega)]; exact q2, re_Slot_c q3 (fun i x y => ?_)⟩
        have z1 := t2 i (by omega)
        have z2 := y2 i (by omega)
        exact ⟨z2.1, z2.2, z1.2.2⟩
    · intro t ht
      obtain ⟨q1, q2⟩ := hF t ht
      by_cases z : t = s
      · subst z
        rw [pk_us]
        exact ⟨Or.inl rfl, fun w => absurd rfl w⟩
      · rw [pk_un z]
        refine ⟨q1, fun w => ?_⟩
        show re_F1 c r d a_name a_value kd wt te a_sets (40 * t) (40 * t + (if t = s then n else len t))
        rw [if_neg z]
        have l40 := (k6 t ht).2.2.1
        refine re_F1_c (q2 w) (fun i x y => ?_)
        have z1 := t2 i (by omega)
        have z2 := y2 i (by omega)
        exact ⟨z2.1, z2.2, z1.2.2⟩
  · refine br_t rfl ?_
    unfold wX_expression_24
    refine br_t rfl ?_
    have fin : ∀ top ty, wY_expression_33 (fun r' v' => r' = -2 ∧ i_Rel (k + 6) (f_nodeCount, 0, f_resultLength, a_inUse, a_parentOf, a_rankOf, a_nameOf, a_valueOf, a_order, a_along, a_draftKind, a_draftValue, e, a_tokenKind, a_tokenValue, a_tokenEnd, a_slotLength, a_setAt, a_amount, a_reached, a_agenda, a_isTemplate, a_matchSlot, a_priorityOf, a_outSlot, a_onSlot, a_waiting, a_result) v') (nI s) f_count top f_listed f_outputs a_row a_depth a_name a_value a_moved a_kind a_with a_length a_sets a_fresh ty a_number a_set a_list a_there a_match a_priority a_out a_on a_todo a_within a_output := by
      intro top ty
      unfold wY_expression_33 wY_expression_34
      refine nm_e (nm_e (br_t rfl ⟨rfl, c, 0, m, r, d, len, T, X, Y, e1, e2, nI_0.symm, ⟨by omega, ?_, k3, k4, fun i hi => by omega, fun t ht => ?_⟩, hF, e3, e4, e5, e6, e7, hP, hm, hrl, hou, e8⟩))
      · rw [pk_us]; exact nI_0.symm
      · obtain ⟨q1, q2, q3⟩ := k6 t ht
        exact ⟨q1, by rw [pk_un (by omega)]; exact q2, q3⟩
    unfold wpY_expression
    refine inY (br_f (by decide) ?_)
    by_cases n0 : n = 0
    · exact br_t (by rw [k2, n0]; decide) (fin f_top a_type)
    · exact br_f (by rw [k2]; exact nI_nle (by omega) (by omega)) (wy_whole k2 k1 (by omega) DY (fun w => absurd w hnw) (fun _ top ty => br_t rfl (fin top ty)))
end
section
/-! numbers, by the component -/
def te_Sl (K W E : Nat → Nat) (V : Nat → Int32) (tk tv te : Nat → Int32) (b L : Nat) : Prop :=
  L ≤ 320 ∧ L ≤ b + 40 ∧ te_D K W tk tv b L ∧ (∀ i, b ≤ i → i < L → te i = nI (E i) ∧ tv i = V i) ∧ te_Ws K W E b L
section
variable {f_nodeCount f_draftLength f_resultLength : Int32} {a_inUse a_parentOf a_rankOf a_nameOf a_valueOf a_order a_along a_draftKind a_draftValue a_draftEnd a_tokenKind a_tokenValue a_tokenEnd a_slotLength a_setAt a_amount a_reached a_agenda a_isTemplate a_matchSlot a_priorityOf a_outSlot a_onSlot a_waiting a_result : Nat → Int32} {c : Nat} {r d : Nat → Nat} {K W E : Nat → Nat} {V : Nat → Int32} {b L : Nat}
theorem wx_sum {post : Int32 → Prop} {x : Int32} (h : post (tc_sum a_valueOf (bt x) 24)) : wpX_sumOf post (f_nodeCount, f_draftLength, f_resultLength, a_inUse, a_parentOf, a_rankOf, a_nameOf, a_valueOf, a_order, a_along, a_draftKind, a_draftValue, a_draftEnd, a_tokenKind, a_tokenValue, a_tokenEnd, a_slotLength, a_setAt, a_amount, a_reached, a_agenda, a_isTemplate, a_matchSlot, a_priorityOf, a_outSlot, a_onSlot, a_waiting, a_result) x := by
  have key : ∀ k i, i + k = 24 → wX_sumOf_4 post x f_nodeCount f_draftLength f_resultLength a_inUse a_parentOf a_rankOf a_nameOf a_valueOf a_order a_along a_draftKind a_draftValue a_draftEnd a_tokenKind a_tokenValue a_tokenEnd a_slotLength a_setAt a_amount a_reached a_agenda a_isTemplate a_matchSlot a_priorityOf a_outSlot a_onSlot a_waiting a_result (k + 1) (tc_sum a_valueOf (bt x) i) (nI i) := by
    intro k
    induction k with
    | zero =>
      intro i hi
      have e : i = 24 := by omega
      subst e
      exact br_t (nI_le (a := 24) (b := 24) (by omega) (by omega)) h
    | succ k ih =>
      intro i hi
      refine br_f (nI_ge (a := i) (b := 24) (by omega) (by omega)) ?_
      have s := tc_sum_s a_valueOf (bt x) i
      have i1 := ih (i + 1) (by omega)
      by_cases z : bt x i = true
      · rw [if_pos z] at s
        rw [s] at i1
        exact br_f (fun w => by rw [mk_f (by omega), z] at w; cases w) ⟨vp_in_nI (by omega) (by omega), nm_r (by rw [nI_clamp (by omega)]) (nm_r (nI_1 i) i1)⟩
      · rw [if_neg z] at s
        rw [s] at i1
        exact br_t ((mk_f (by omega)).mpr (tz_nb z)) (nm_r (nI_1 i) i1)
  exact ⟨25, key 24 0 rfl⟩
theorem wx_first {post : Int32 → Prop} {x : Int32} (T : td_T c r d) (hnc : f_nodeCount = nI c) (ho : ∀ i, i < c → a_order i = nI (r i)) (h : post (tn_first r a_valueOf x c 0)) : wpX_firstValueOf post (f_nodeCount, f_draftLength, f_resultLength, a_inUse, a_parentOf, a_rankOf, a_nameOf, a_valueOf, a_order, a_along, a_draftKind, a_draftValue, a_draftEnd, a_tokenKind, a_tokenValue, a_tokenEnd, a_slotLength, a_setAt, a_amount, a_reached, a_agenda, a_isTemplate, a_matchSlot, a_priorityOf, a_outSlot, a_onSlot, a_waiting, a_result) x := by
  have c24 := T.1
  subst hnc
  have key : ∀ k i, i + k = c → post (tn_first r a_valueOf x k i) → wX_firstValueOf_2 post x (nI c) f_draftLength f_resultLength a_inUse a_parentOf a_rankOf a_nameOf a_valueOf a_order a_along a_draftKind a_draftValue a_draftEnd a_tokenKind a_tokenValue a_tokenEnd a_slotLength a_setAt a_amount a_reached a_agenda a_isTemplate a_matchSlot a_priorityOf a_outSlot a_onSlot a_waiting a_result (k + 1) (nI i) := by
    intro k
    induction k with
    | zero => intro i hi h; exact br_t (nI_le (by omega) (by omega)) h
    | succ k ih =>
      intro i hi h
      have ri := T.2.2.2.1 i (by omega)
      have ei : a_order (nI i).toNatClampNeg = nI (r i) := by rw [nI_clamp (by omega)]; exact ho i (by omega)
      rw [tn_first_s] at h
      refine br_f (nI_ge (by omega) (by omega)) ⟨vp_in_nI (by omega) (by omega), ?_⟩
      rw [ei]
      by_cases z : bt x (r i) = true
      · rw [if_pos z] at h
        refine br_f (fun w => by rw [mk_f (by omega), z] at w; cases w) ⟨vp_in_nI (by omega) (by omega), vp_in_nI ri (by omega), ?_⟩
        rw [nI_clamp (by omega)]; exact h
      · rw [if_neg z] at h
        exact br_t ((mk_f (by omega)).mpr (tz_nb z)) (nm_r (nI_1 i) (ih (i + 1) (by omega) h))
  exact ⟨c + 1, key c 0 (by omega) h⟩
theorem te_ix {j q : Nat} : nI j * 24 + nI q = nI (j * 24 + q) := tx_ix
theorem wx_isTrue {post : Int32 → Prop} {j q : Nat} (S : te_Sl K W E V a_tokenKind a_tokenValue a_tokenEnd b L) (hb : b ≤ j) (hj : j < L) (hq : q < 24)
    (h1 : tn_tr (K j) (a_setAt (j * 24 + q)) (a_amount j) → post 1) (h0 : ¬ tn_tr (K j) (a_setAt (j * 24 + q)) (a_amount j) → post 0) : wpX_isTrue post (f_nodeCount, f_draftLength, f_resultLength, a_inUse, a_parentOf, a_rankOf, a_nameOf, a_valueOf, a_order, a_along, a_draftKind, a_draftValue, a_draftEnd, a_tokenKind, a_tokenValue, a_tokenEnd, a_slotLength, a_setAt, a_amount, a_reached, a_agenda, a_isTemplate, a_matchSlot, a_priorityOf, a_outSlot, a_onSlot, a_waiting, a_result) (nI j) (nI q) := by
  obtain ⟨l1, l2, D, hE, hw⟩ := S
  obtain ⟨d1, d2, -⟩ := D j hb hj
  have ej : (nI j).toNatClampNeg = j := nI_clamp (by omega)
  have vj : vp_in (nI j) 320 := vp_in_nI (by omega) (by omega)
  unfold wpX_isTrue
  unfold tn_tr at h1 h0
  refine ⟨vj, ?_⟩
  rw [ej, d1]
  by_cases z : K j < 4
  · rw [if_pos z] at h1 h0
    have e2 : (nI j * 24 + nI q).toNatClampNeg = j * 24 + q := by rw [te_ix]; exact nI_clamp (by omega)
    refine br_f (nI_nlt (a := 3) (by omega) (by omega)) ⟨by rw [te_ix]; exact vp_in_nI (by omega) (by omega), ?_⟩
    rw [e2]
    by_cases y : a_setAt (j * 24 + q) = 0
    · exact br_t y (h0 (fun w => w y))
    · exact br_f y (h1 y)
  · rw [if_neg z] at h1 h0
    refine br_t (nI_lt (a := 3) (by omega) (by omega)) ⟨vj, ?_⟩
    by_cases y : a_amount j = 0
    · exact br_t y (h0 (fun w => w y))
    · exact br_f y (h1 y)
/-- which nodes a side of a comparison has -/
theorem tn_in_bt {k m : Nat} {x : Int32} (hm : m < 24) : bt (if k < 4 then x else 1) m = true ↔ tn_in k x m := by
  unfold tn_in
  by_cases z : k < 4
  · rw [if_pos z, if_pos z]
  · rw [if_neg z, if_neg z, mk_b1, decide_eq_true_iff]
theorem wx_cmp {post : Int32 → Prop} {j q : Nat} (S : te_Sl K W E V a_tokenKind a_tokenValue a_tokenEnd b L) (hb : b ≤ j) (hj : j < L) (hq : q < 24) (hk : K j = 13 ∨ K j = 14)
    (h1 : tn_Cm (K j) a_valueOf (K (j + 1)) (a_setAt ((j + 1) * 24 + q)) (a_amount (j + 1)) (K (E (j + 1))) (a_setAt (E (j + 1) * 24 + q)) (a_amount (E (j + 1))) → post 1)
    (h0 : ¬ tn_Cm (K j) a_valueOf (K (j + 1)) (a_setAt ((j + 1) * 24 + q)) (a_amount (j + 1)) (K (E (j + 1))) (a_setAt (E (j + 1) * 24 + q)) (a_amount (E (j + 1))) → post 0) : wpX_compared post (f_nodeCount, f_draftLength, f_resultLength, a_inUse, a_parentOf, a_rankOf, a_nameOf, a_valueOf, a_order, a_along, a_draftKind, a_draftValue, a_draftEnd, a_tokenKind, a_tokenValue, a_tokenEnd, a_slotLength, a_setAt, a_amount, a_reached, a_agenda, a_isTemplate, a_matchSlot, a_priorityOf, a_outSlot, a_onSlot, a_waiting, a_result) (nI j) (nI q) := by
  obtain ⟨l1, l2, D, hE, hw⟩ := S
  obtain ⟨d1, d2, -⟩ := D j hb hj
  have s2 := te_two hw hb hj (te_o2 (by omega) (by omega))
  obtain ⟨f1, f2, -⟩ := D (j + 1) (by omega) s2.1
  obtain ⟨g1, g2, -⟩ := D (E (j + 1)) (by omega) s2.2.2.1
  have eE := (hE (j + 1) (by omega) s2.1).1
  have ej : (nI j).toNatClampNeg = j := nI_clamp (by omega)
  have ej1 : (nI (j + 1)).toNatClampNeg = j + 1 := nI_clamp (by omega)
  have ej2 : (nI (E (j + 1))).toNatClampNeg = E (j + 1) := nI_clamp (by omega)
  have v1 : vp_in (nI (j + 1)) 320 := vp_in_nI (by omega) (by omega)
  have v2 : vp_in (nI (E (j + 1))) 320 := vp_in_nI (by omega) (by omega)
  have x1 : (nI (j + 1) * 24 + nI q).toNatClampNeg = (j + 1) * 24 + q := by rw [te_ix]; exact nI_clamp (by omega)
  have x2 : (nI (E (j + 1)) * 24 + nI q).toNatClampNeg = E (j + 1) * 24 + q := by rw [te_ix]; exact nI_clamp (by omega)
  have y1 : vp_in (nI (j + 1) * 24 + nI q) 7680 := by rw [te_ix]; exact vp_in_nI (by omega) (by omega)
  have y2 : vp_in (nI (E (j + 1)) * 24 + nI q) 7680 := by rw [te_ix]; exact vp_in_nI (by omega) (by omega)
  -- the two loops
  have loops : ∀ l s t : Int32, (l = if K j = 13 then 1 else 0) → (s = if K (j + 1) < 4 then 1 else 0) → (t = if K (E (j + 1)) < 4 then 1 else 0) →
      ∃ n116, wX_compared_116 post l (nI (j + 1)) (nI (E (j + 1))) s t (if K (j + 1) < 4 then a_setAt ((j + 1) * 24 + q) else 1) (if K (E (j + 1)) < 4 then a_setAt (E (j + 1) * 24 + q) else 1) f_nodeCount f_draftLength f_resultLength a_inUse a_parentOf a_rankOf a_nameOf a_valueOf a_order a_along a_draftKind a_draftValue a_draftEnd a_tokenKind a_tokenValue a_tokenEnd a_slotLength a_setAt a_amount a_reached a_agenda a_isTemplate a_matchSlot a_priorityOf a_outSlot a_onSlot a_waiting a_result n116 0 := by
    intro l s t hl hs ht
    have inner : ∀ (J : Int32 → Prop) (m : Nat), m < 24 → tn_in (K (j + 1)) (a_setAt ((j + 1) * 24 + q)) m → ((¬ ∃ n, n < 24 ∧ tn_in (K (E (j + 1))) (a_setAt (E (j + 1) * 24 + q)) n ∧ (if K j = 13 then tn_at (K (j + 1)) a_valueOf (a_amount (j + 1)) m < tn_at (K (E (j + 1))) a_valueOf (a_amount (E (j + 1))) n else tn_at (K (j + 1)) a_valueOf (a_amount (j + 1)) m = tn_at (K (E (j + 1))) a_valueOf (a_amount (E (j + 1))) n)) → J (nI (m + 1))) →
        ∀ k i, i + k = 24 → (∀ n, n < i → ¬ (tn_in (K (E (j + 1))) (a_setAt (E (j + 1) * 24 + q)) n ∧ (if K j = 13 then tn_at (K (j + 1)) a_valueOf (a_amount (j + 1)) m < tn_at (K (E (j + 1))) a_valueOf (a_amount (E (j + 1))) n else tn_at (K (j + 1)) a_valueOf (a_amount (j + 1)) m = tn_at (K (E (j + 1))) a_valueOf (a_amount (E (j + 1))) n))) →
        wX_compared_163 post J l (nI (j + 1)) (nI (E (j + 1))) s t (if K (j + 1) < 4 then a_setAt ((j + 1) * 24 + q) else 1) (if K (E (j + 1)) < 4 then a_setAt (E (j + 1) * 24 + q) else 1) (nI m) (tn_at (K (j + 1)) a_valueOf (a_amount (j + 1)) m) f_nodeCount f_draftLength f_resultLength a_inUse a_parentOf a_rankOf a_nameOf a_valueOf a_order a_along a_draftKind a_draftValue a_draftEnd a_tokenKind a_tokenValue a_tokenEnd a_slotLength a_setAt a_amount a_reached a_agenda a_isTemplate a_matchSlot a_priorityOf a_outSlot a_onSlot a_waiting a_result (k + 1) (nI i) := by
      intro J m hm hmin hJ k
      induction k with
      | zero =>
        intro i hi hn
        refine br_t (nI_le (a := 24) (b := i) (by omega) (by omega)) (nm_r (nI_1 m) (hJ ?_))
        rintro ⟨n, hn24, w⟩
        exact hn n (by omega) w
      | succ k ih =>
        intro i hi hn
        have nx : ¬ (tn_in (K (E (j + 1))) (a_setAt (E (j + 1) * 24 + q)) i ∧ (if K j = 13 then tn_at (K (j + 1)) a_valueOf (a_amount (j + 1)) m < tn_at (K (E (j + 1))) a_valueOf (a_amount (E (j + 1))) i else tn_at (K (j + 1)) a_valueOf (a_amount (j + 1)) m = tn_at (K (E (j + 1))) a_valueOf (a_amount (E (j + 1))) i)) → wX_compared_163 post J l (nI (j + 1)) (nI (E (j + 1))) s t (if K (j + 1) < 4 then a_setAt ((j + 1) * 24 + q) else 1) (if K (E (j + 1)) < 4 then a_setAt (E (j + 1) * 24 + q) else 1) (nI m) (tn_at (K (j + 1)) a_valueOf (a_amount (j + 1)) m) f_nodeCount f_draftLength f_resultLength a_inUse a_parentOf a_rankOf a_nameOf a_valueOf a_order a_along a_draftKind a_draftValue a_draftEnd a_tokenKind a_tokenValue a_tokenEnd a_slotLength a_setAt a_amount a_reached a_agenda a_isTemplate a_matchSlot a_priorityOf a_outSlot a_onSlot a_waiting a_result (k + 1) (nI (i + 1)) := fun w => ih (i + 1) (by omega) (fun n hn' => by
          by_cases y : n = i
          · subst y; exact w
          · exact hn n (by omega))
        have go : ∀ z0 : Int32, z0 = tn_at (K (E (j + 1))) a_valueOf (a_amount (E (j + 1))) i → wX_compared_192 post (J) (wX_compared_163 post J l (nI (j + 1)) (nI (E (j + 1))) s t (if K (j + 1) < 4 then a_setAt ((j + 1) * 24 + q) else 1) (if K (E (j + 1)) < 4 then a_setAt (E (j + 1) * 24 + q) else 1) (nI m) (tn_at (K (j + 1)) a_valueOf (a_amount (j + 1)) m) f_nodeCount f_draftLength f_resultLength a_inUse a_parentOf a_rankOf a_nameOf a_valueOf a_order a_along a_draftKind a_draftValue a_draftEnd a_tokenKind a_tokenValue a_tokenEnd a_slotLength a_setAt a_amount a_reached a_agenda a_isTemplate a_matchSlot a_priorityOf a_outSlot a_onSlot a_waiting a_result (k + 1)) l (nI (j + 1)) (nI (E (j + 1))) s t (if K (j + 1) < 4 then a_setAt ((j + 1) * 24 + q) else 1) (if K (E (j + 1)) < 4 then a_setAt (E (j + 1) * 24 + q) else 1) (nI m) (tn_at (K (j + 1)) a_valueOf (a_amount (j + 1)) m) (nI i) z0 f_nodeCount f_draftLength f_resultLength a_inUse a_parentOf a_rankOf a_nameOf a_valueOf a_order a_along a_draftKind a_draftValue a_draftEnd a_tokenKind a_tokenValue a_tokenEnd a_slotLength a_setAt a_amount a_reached a_agenda a_isTemplate a_matchSlot a_priorityOf a_outSlot a_onSlot a_waiting a_result := by
          intro z0 ez
          subst ez
          have fin0 : ¬ (if K j = 13 then tn_at (K (j + 1)) a_valueOf (a_amount (j + 1)) m < tn_at (K (E (j + 1))) a_valueOf (a_amount (E (j + 1))) i else tn_at (K (j + 1)) a_valueOf (a_amount (j + 1)) m = tn_at (K (E (j + 1))) a_valueOf (a_amount (E (j + 1))) i) → wX_compared_225 post J (wX_compared_163 post J l (nI (j + 1)) (nI (E (j + 1))) s t (if K (j + 1) < 4 then a_setAt ((j + 1) * 24 + q) else 1) (if K (E (j + 1)) < 4 then a_setAt (E (j + 1) * 24 + q) else 1) (nI m) (tn_at (K (j + 1)) a_valueOf (a_amount (j + 1)) m) f_nodeCount f_draftLength f_resultLength a_inUse a_parentOf a_rankOf a_nameOf a_valueOf a_order a_along a_draftKind a_draftValue a_draftEnd a_tokenKind a_tokenValue a_tokenEnd a_slotLength a_setAt a_amount a_reached a_agenda a_isTemplate a_matchSlot a_priorityOf a_outSlot a_onSlot a_waiting a_result (k + 1)) l (nI (j + 1)) (nI (E (j + 1))) s t (if K (j + 1) < 4 then a_setAt ((j + 1) * 24 + q) else 1) (if K (E (j + 1)) < 4 then a_setAt (E (j + 1) * 24 + q) else 1) (nI m) (tn_at (K (j + 1)) a_valueOf (a_amount (j + 1)) m) (nI i) 0 f_nodeCount f_draftLength f_resultLength a_inUse a_parentOf a_rankOf a_nameOf a_valueOf a_order a_along a_draftKind a_draftValue a_draftEnd a_tokenKind a_tokenValue a_tokenEnd a_slotLength a_setAt a_amount a_reached a_agenda a_isTemplate a_matchSlot a_priorityOf a_outSlot a_onSlot a_waiting a_result :=
            fun w => br_t rfl (nm_r (nI_1 i) (nx (fun v => w v.2)))
          have fin1 : (if K j = 13 then tn_at (K (j + 1)) a_valueOf (a_amount (j + 1)) m < tn_at (K (E (j + 1))) a_valueOf (a_amount (E (j + 1))) i else tn_at (K (j + 1)) a_valueOf (a_amount (j + 1)) m = tn_at (K (E (j + 1))) a_valueOf (a_amount (E (j + 1))) i) → wX_compared_225 post J (wX_compared_163 post J l (nI (j + 1)) (nI (E (j + 1))) s t (if K (j + 1) < 4 then a_setAt ((j + 1) * 24 + q) else 1) (if K (E (j + 1)) < 4 then a_setAt (E (j + 1) * 24 + q) else 1) (nI m) (tn_at (K (j + 1)) a_valueOf (a_amount (j + 1)) m) f_nodeCount f_draftLength f_resultLength a_inUse a_parentOf a_rankOf a_nameOf a_valueOf a_order a_along a_draftKind a_draftValue a_draftEnd a_tokenKind a_tokenValue a_tokenEnd a_slotLength a_setAt a_amount a_reached a_agenda a_isTemplate a_matchSlot a_priorityOf a_outSlot a_onSlot a_waiting a_result (k + 1)) l (nI (j + 1)) (nI (E (j + 1))) s t (if K (j + 1) < 4 then a_setAt ((j + 1) * 24 + q) else 1) (if K (E (j + 1)) < 4 then a_setAt (E (j + 1) * 24 + q) else 1) (nI m) (tn_at (K (j + 1)) a_valueOf (a_amount (j + 1)) m) (nI i) 1 f_nodeCount f_draftLength f_resultLength a_inUse a_parentOf a_rankOf a_nameOf a_valueOf a_order a_along a_draftKind a_draftValue a_draftEnd a_tokenKind a_tokenValue a_tokenEnd a_slotLength a_setAt a_amount a_reached a_agenda a_isTemplate a_matchSlot a_priorityOf a_outSlot a_onSlot a_waiting a_result := by
            intro w
            refine br_f (by decide) ?_
            by_cases y : tn_in (K (E (j + 1))) (a_setAt (E (j + 1) * 24 + q)) i
            · exact br_f (fun v => by rw [mk_f (by omega), (tn_in_bt (by omega)).mpr y] at v; cases v) (h1 ⟨m, i, hm, by omega, hmin, y, w⟩)
            · exact br_t ((mk_f (by omega)).mpr (tz_nb (fun v => y ((tn_in_bt (by omega)).mp v)))) (nm_r (nI_1 i) (nx (fun v => y v.1)))
          unfold wX_compared_192
          by_cases k13 : K j = 13
          · rw [if_pos k13] at hl
            rw [if_pos k13] at fin0 fin1
            refine br_f (by rw [hl]; decide) ?_
            by_cases y : tn_at (K (j + 1)) a_valueOf (a_amount (j + 1)) m < tn_at (K (E (j + 1))) a_valueOf (a_amount (E (j + 1))) i
            · exact br_f (Int32.not_le.mpr y) (fin1 y)
            · exact br_t (Int32.not_lt.mp y) (fin0 y)
          · rw [if_neg k13] at hl
            rw [if_neg k13] at fin0 fin1
            refine br_t hl ?_
            by_cases y : tn_at (K (j + 1)) a_valueOf (a_amount (j + 1)) m = tn_at (K (E (j + 1))) a_valueOf (a_amount (E (j + 1))) i
            · exact br_t y (fin1 y)
            · exact br_f y (fin0 y)
        refine br_f (nI_ge (a := i) (b := 24) (by omega) (by omega)) ?_
        by_cases k4 : K (E (j + 1)) < 4
        · rw [if_pos k4] at ht
          refine br_f (by rw [ht]; decide) ⟨vp_in_nI (by omega) (by omega), go _ ?_⟩
          rw [nI_clamp (by omega)]
          unfold tn_at
          rw [if_pos k4]
        · rw [if_neg k4] at ht
          refine br_t ht ⟨v2, go _ ?_⟩
          rw [ej2]
          unfold tn_at
          rw [if_neg k4]
    have outer : ∀ k i, i + k = 24 → (∀ m, m < i → ¬ ∃ n, n < 24 ∧ tn_in (K (j + 1)) (a_setAt ((j + 1) * 24 + q)) m ∧ tn_in (K (E (j + 1))) (a_setAt (E (j + 1) * 24 + q)) n ∧ (if K j = 13 then tn_at (K (j + 1)) a_valueOf (a_amount (j + 1)) m < tn_at (K (E (j + 1))) a_valueOf (a_amount (E (j + 1))) n else tn_at (K (j + 1)) a_valueOf (a_amount (j + 1)) m = tn_at (K (E (j + 1))) a_valueOf (a_amount (E (j + 1))) n)) →
        wX_compared_116 post l (nI (j + 1)) (nI (E (j + 1))) s t (if K (j + 1) < 4 then a_setAt ((j + 1) * 24 + q) else 1) (if K (E (j + 1)) < 4 then a_setAt (E (j + 1) * 24 + q) else 1) f_nodeCount f_draftLength f_resultLength a_inUse a_parentOf a_rankOf a_nameOf a_valueOf a_order a_along a_draftKind a_draftValue a_draftEnd a_tokenKind a_tokenValue a_tokenEnd a_slotLength a_setAt a_amount a_reached a_agenda a_isTemplate a_matchSlot a_priorityOf a_outSlot a_onSlot a_waiting a_result (k + 1) (nI i) := by
      intro k
      induction k with
      | zero =>
        intro i hi hn
        refine br_t (nI_le (a := 24) (b := i) (by omega) (by omega)) (h0 ?_)
        rintro ⟨m, n, hm, hn24, w1, w2, w3⟩
        exact hn m (by omega) ⟨n, hn24, w1, w2, w3⟩
      | succ k ih =>
        intro i hi hn
        refine br_f (nI_ge (a := i) (b := 24) (by omega) (by omega)) ?_
        by_cases y : tn_in (K (j + 1)) (a_setAt ((j + 1) * 24 + q)) i
        · have cont := inner (wX_compared_116 post l (nI (j + 1)) (nI (E (j + 1))) s t (if K (j + 1) < 4 then a_setAt ((j + 1) * 24 + q) else 1) (if K (E (j + 1)) < 4 then a_setAt (E (j + 1) * 24 + q) else 1) f_nodeCount f_draftLength f_resultLength a_inUse a_parentOf a_rankOf a_nameOf a_valueOf a_order a_along a_draftKind a_draftValue a_draftEnd a_tokenKind a_tokenValue a_tokenEnd a_slotLength a_setAt a_amount a_reached a_agenda a_isTemplate a_matchSlot a_priorityOf a_outSlot a_onSlot a_waiting a_result (k + 1)) i (by omega) y (fun w => ih (i + 1) (by omega) (fun m hm => by
            by_cases e : m = i
            · subst e
              rintro ⟨n, hn24, -, w2, w3⟩
              exact w ⟨n, hn24, w2, w3⟩
            · exact hn m (by omega))) 24 0 rfl (fun n hn' => by omega)
          refine br_f (fun v => by rw [mk_f (by omega), (tn_in_bt (by omega)).mpr y] at v; cases v) ?_
          by_cases k4 : K (j + 1) < 4
          · rw [if_pos k4] at hs
            refine br_f (by rw [hs]; decide) ⟨vp_in_nI (by omega) (by omega), nm_r (e' := tn_at (K (j + 1)) a_valueOf (a_amount (j + 1)) i) ?_ ⟨25, cont⟩⟩
            rw [nI_clamp (by omega)]
            unfold tn_at
            rw [if_pos k4]
          · rw [if_neg k4] at hs
            refine br_t hs ⟨v1, nm_r (e' := tn_at (K (j + 1)) a_valueOf (a_amount (j + 1)) i) ?_ ⟨25, cont⟩⟩
            rw [ej1]
            unfold tn_at
            rw [if_neg k4]
        · refine br_t ((mk_f (by omega)).mpr (tz_nb (fun v => y ((tn_in_bt (by omega)).mp v)))) (nm_r (nI_1 i) (ih (i + 1) (by omega) (fun m hm => ?_)))
          by_cases e : m = i
          · subst e
            rintro ⟨n, -, w1, -, -⟩
            exact y w1
          · exact hn m (by omega)
    exact ⟨25, outer 24 0 rfl (fun m hm => by omega)⟩
  have c65 : ∀ l s t : Int32, (l = if K j = 13 then 1 else 0) → (s = if K (j + 1) < 4 then 1 else 0) → (t = if K (E (j + 1)) < 4 then 1 else 0) → wX_compared_65 post (nI q) l (nI (j + 1)) (nI (E (j + 1))) s t f_nodeCount f_draftLength f_resultLength a_inUse a_parentOf a_rankOf a_nameOf a_valueOf a_order a_along a_draftKind a_draftValue a_draftEnd a_tokenKind a_tokenValue a_tokenEnd a_slotLength a_setAt a_amount a_reached a_agenda a_isTemplate a_matchSlot a_priorityOf a_outSlot a_onSlot a_waiting a_result := by
    intro l s t hl hs ht
    have M := loops l s t hl hs ht
    unfold wX_compared_65 wX_compared_88
    by_cases k1 : K (j + 1) < 4
    · rw [if_pos k1] at hs
      refine br_f (by rw [hs]; decide) ⟨y1, ?_⟩
      rw [x1]
      by_cases k2 : K (E (j + 1)) < 4
      · rw [if_pos k2] at ht
        rw [if_pos k1, if_pos k2] at M
        exact br_f (by rw [ht]; decide) ⟨y2, nm_r (e' := a_setAt (E (j + 1) * 24 + q)) (by rw [x2]) M⟩
      · rw [if_neg k2] at ht
        rw [if_pos k1, if_neg k2] at M
        exact br_t ht M
    · rw [if_neg k1] at hs
      refine br_t hs ?_
      by_cases k2 : K (E (j + 1)) < 4
      · rw [if_pos k2] at ht
        rw [if_neg k1, if_pos k2] at M
        exact br_f (by rw [ht]; decide) ⟨y2, nm_r (e' := a_setAt (E (j + 1) * 24 + q)) (by rw [x2]) M⟩
      · rw [if_neg k2] at ht
        rw [if_neg k1, if_neg k2] at M
        exact br_t ht M
  have c47 : ∀ l s : Int32, (l = if K j = 13 then 1 else 0) → (s = if K (j + 1) < 4 then 1 else 0) → wX_compared_47 post (nI q) l (nI (j + 1)) (nI (E (j + 1))) s f_nodeCount f_draftLength f_resultLength a_inUse a_parentOf a_rankOf a_nameOf a_valueOf a_order a_along a_draftKind a_draftValue a_draftEnd a_tokenKind a_tokenValue a_tokenEnd a_slotLength a_setAt a_amount a_reached a_agenda a_isTemplate a_matchSlot a_priorityOf a_outSlot a_onSlot a_waiting a_result := by
    intro l s hl hs
    unfold wX_compared_47
    refine ⟨v2, ?_⟩
    rw [ej2, g1]
    by_cases k2 : K (E (j + 1)) < 4
    · exact br_f (nI_nlt (a := 3) (by omega) (by omega)) (c65 l s 1 hl hs (by rw [if_pos k2]))
    · exact br_t (nI_lt (a := 3) (by omega) (by omega)) (c65 l s 0 hl hs (by rw [if_neg k2]))
  have c16 : ∀ l : Int32, (l = if K j = 13 then 1 else 0) → wX_compared_16 post (nI j) (nI q) l f_nodeCount f_draftLength f_resultLength a_inUse a_parentOf a_rankOf a_nameOf a_valueOf a_order a_along a_draftKind a_draftValue a_draftEnd a_tokenKind a_tokenValue a_tokenEnd a_slotLength a_setAt a_amount a_reached a_agenda a_isTemplate a_matchSlot a_priorityOf a_outSlot a_onSlot a_waiting a_result := by
    intro l hl
    unfold wX_compared_16
    refine nm_r (nI_1 j) ⟨v1, nm_r (e' := nI (E (j + 1))) (by rw [ej1]; exact eE) ⟨v1, ?_⟩⟩
    rw [ej1, f1]
    by_cases k2 : K (j + 1) < 4
    · exact br_f (nI_nlt (a := 3) (by omega) (by omega)) (c47 l 1 hl (by rw [if_pos k2]))
    · exact br_t (nI_lt (a := 3) (by omega) (by omega)) (c47 l 0 hl (by rw [if_neg k2]))
  unfold wpX_compared
  refine ⟨vp_in_nI (by omega) (by omega), ?_⟩
  rw [ej, d1]
  by_cases k13 : K j = 13
  · exact br_t (by rw [k13]; rfl) (c16 1 (by rw [if_pos k13]))
  · exact br_f (fun w => k13 ((nI_eq (b := 13) (by omega) (by omega)).mp w)) (c16 0 (by rw [if_neg k13]))
end
end
section
/-! a token worked out, by the component -/
theorem tg_mono {K W E : Nat → Nat} {b L y due : Nat} (h : te_Ws K W E b L) (hb : b ≤ y) (hy : y < L) (hlt : ∀ t, t < due → tg_it K E y t < E y) : ∀ t, t ≤ due → y + t ≤ tg_it K E y t ∧ ∀ s, s < t → tg_it K E y s < tg_it K E y t := by
  have EL := te_E_le h hb hy
  intro t
  induction t with
  | zero => intro _; exact ⟨Nat.le_refl _, fun s hs => by omega⟩
  | succ t ih =>
    intro ht
    obtain ⟨i1, i2⟩ := ih (by omega)
    have l := hlt t (by omega)
    have g := (tg_nx_gt h (j := tg_it K E y t) (by omega) (by omega)).1
    rw [tg_it_s]
    refine ⟨by omega, fun s hs => ?_⟩
    by_cases z : s = t
    · subst z; exact g
    · have := i2 s (by omega); omega
section
variable {f_nodeCount f_draftLength f_resultLength : Int32} {a_inUse a_parentOf a_rankOf a_nameOf a_valueOf a_order a_along a_draftKind a_draftValue a_draftEnd a_tokenKind a_tokenValue a_tokenEnd a_slotLength a_setAt a_amount a_reached a_agenda a_isTemplate a_matchSlot a_priorityOf a_outSlot a_onSlot a_waiting a_result : Nat → Int32} {c : Nat} {r d : Nat → Nat} {K W E : Nat → Nat} {V : Nat → Int32} {b L : Nat}
theorem wx_plan {post : Int32 → SX → Prop} {y : Nat} (S : te_Sl K W E V a_tokenKind a_tokenValue a_tokenEnd b L) (hb : b ≤ y) (hy : y < L)
    (h : ∀ due ag, tg_it K E y due = E y → (∀ t, t < due → tg_it K E y t < E y) → (∀ t, t < due → ag t = nI (tg_it K E y t)) → due ≤ 40 → post (nI due) (f_nodeCount, f_draftLength, f_resultLength, a_inUse, a_parentOf, a_rankOf, a_nameOf, a_valueOf, a_order, a_along, a_draftKind, a_draftValue, a_draftEnd, a_tokenKind, a_tokenValue, a_tokenEnd, a_slotLength, a_setAt, a_amount, a_reached, ag, a_isTemplate, a_matchSlot, a_priorityOf, a_outSlot, a_onSlot, a_waiting, a_result)) : wpX_planWork post (f_nodeCount, f_draftLength, f_resultLength, a_inUse, a_parentOf, a_rankOf, a_nameOf, a_valueOf, a_order, a_along, a_draftKind, a_draftValue, a_draftEnd, a_tokenKind, a_tokenValue, a_tokenEnd, a_slotLength, a_setAt, a_amount, a_reached, a_agenda, a_isTemplate, a_matchSlot, a_priorityOf, a_outSlot, a_onSlot, a_waiting, a_result) (nI y) := by
  obtain ⟨l1, l2, D, hE, hw⟩ := S
  have EL := te_E_le hw hb hy
  have Eg := te_E_gt hw hb hy
  have key : ∀ k i due ag, i + k = E y → y ≤ i → i ≤ tg_it K E y due → tg_it K E y due ≤ E y → (∀ t, t < due → tg_it K E y t < E y) → (∀ t, t < due → ag t = nI (tg_it K E y t)) →
      wX_planWork_15 post (nI (E y)) f_nodeCount f_draftLength f_resultLength (k + 1) (nI due) (nI (tg_it K E y due)) (nI i) a_inUse a_parentOf a_rankOf a_nameOf a_valueOf a_order a_along a_draftKind a_draftValue a_draftEnd a_tokenKind a_tokenValue a_tokenEnd a_slotLength a_setAt a_amount a_reached ag a_isTemplate a_matchSlot a_priorityOf a_outSlot a_onSlot a_waiting a_result := by
    intro k
    induction k with
    | zero =>
      intro i due ag hi hyi h1 h2 h3 h4
      have m := (tg_mono hw hb hy h3 due (Nat.le_refl _)).1
      exact br_t (nI_le (by omega) (by omega)) (h due ag (by omega) h3 h4 (by omega))
    | succ k ih =>
      intro i due ag hi hyi h1 h2 h3 h4
      have m := (tg_mono hw hb hy h3 due (Nat.le_refl _)).1
      refine br_f (nI_ge (by omega) (by omega)) ?_
      by_cases z : i < tg_it K E y due
      · exact br_t (nI_lt z (by omega)) (nm_r (nI_1 i) (ih (i + 1) due ag (by omega) (by omega) (by omega) h2 h3 h4))
      · have e : i = tg_it K E y due := by omega
        obtain ⟨d1, d2, -⟩ := D i (by omega) (by omega)
        have eE := (hE i (by omega) (by omega)).1
        have ei : (nI i).toNatClampNeg = i := nI_clamp (by omega)
        have nx := tg_nx_gt hw (j := i) (by omega) (by omega)
        have nl := te_nest hw y hy hb i hyi (by omega)
        have nit : tg_it K E y (due + 1) = tg_nx K E i := by rw [tg_it_s, ← e]
        have h3' : ∀ t, t < due + 1 → tg_it K E y t < E y := fun t ht => by
          by_cases w : t = due
          · subst w; omega
          · exact h3 t (by omega)
        have h4' : ∀ t, t < due + 1 → upd ag due (nI i) t = nI (tg_it K E y t) := fun t ht => by
          by_cases w : t = due
          · subst w; rw [pk_us, e]
          · rw [pk_un w]; exact h4 t (by omega)
        have nxt := ih (i + 1) (due + 1) (upd ag due (nI i)) (by omega) (by omega) (by omega) (by omega) h3' h4'
        rw [nit] at nxt
        refine br_f (nI_nlt (by omega) (by omega)) (br_f (nI_ge (b := 40) (by omega) (by omega)) ⟨vp_in_nI (by omega) (by omega), nm_r (e' := upd ag due (nI i)) (by rw [nI_clamp (by omega)]) (nm_r (nI_1 due) ⟨vp_in_nI (by omega) (by omega), ?_⟩)⟩)
        rw [ei, d1]
        by_cases k4 : K i < 4
        · refine br_f (nI_nlt (a := 3) (by omega) (by omega)) ⟨vp_in_nI (by omega) (by omega), nm_r (e' := nI (tg_nx K E i)) ?_ (nm_r (nI_1 i) nxt)⟩
          unfold tg_nx
          rw [if_pos k4]; exact eE
        · refine br_t (nI_lt (a := 3) (by omega) (by omega)) (nm_r (e' := nI (tg_nx K E i)) ?_ (nm_r (nI_1 i) nxt))
          unfold tg_nx
          rw [if_neg k4, nI_1]
  unfold wpX_planWork
  refine ⟨vp_in_nI (by omega) (by omega), nm_r (e' := nI (E y)) (by rw [nI_clamp (by omega)]; exact (hE y hb hy).1) ⟨E y - y + 1, key (E y - y) y 0 a_agenda (by omega) (Nat.le_refl _) (Nat.le_refl _) (by show y ≤ E y; omega) (fun t ht => by omega) (fun t ht => by omega)⟩⟩
theorem wx_calc {post : Int32 → Prop} {j : Nat} (S : te_Sl K W E V a_tokenKind a_tokenValue a_tokenEnd b L) (hb : b ≤ j) (hj : j < L) (h10 : 10 ≤ K j) (h12 : K j ≤ 12)
    (h : post (if K j = 10 then a_amount (j + 1) + a_amount (E (j + 1)) else if K j = 11 then a_amount (j + 1) - a_amount (E (j + 1)) else a_amount (j + 1) * a_amount (E (j + 1)))) : wpX_calculated post (f_nodeCount, f_draftLength, f_resultLength, a_inUse, a_parentOf, a_rankOf, a_nameOf, a_valueOf, a_order, a_along, a_draftKind, a_draftValue, a_draftEnd, a_tokenKind, a_tokenValue, a_tokenEnd, a_slotLength, a_setAt, a_amount, a_reached, a_agenda, a_isTemplate, a_matchSlot, a_priorityOf, a_outSlot, a_onSlot, a_waiting, a_result) (nI j) := by
  obtain ⟨l1, l2, D, hE, hw⟩ := S
  obtain ⟨d1, d2, -⟩ := D j hb hj
  have s2 := te_two hw hb hj (te_o2 (by omega) (by omega))
  have eE := (hE (j + 1) (by omega) s2.1).1
  have ej : (nI j).toNatClampNeg = j := nI_clamp (by omega)
  have ej1 : (nI j + 1).toNatClampNeg = j + 1 := by rw [nI_1]; exact nI_clamp (by omega)
  have v1 : vp_in (nI j + 1) 320 := by rw [nI_1]; exact vp_in_nI (by omega) (by omega)
  have vj : vp_in (nI j) 320 := vp_in_nI (by omega) (by omega)
  unfold wpX_calculated
  refine ⟨v1, nm_r (e' := a_amount (j + 1)) (by rw [ej1]) ⟨v1, by rw [ej1, eE]; exact vp_in_nI (by omega) (by omega), nm_r (e' := a_amount (E (j + 1))) (by rw [ej1, eE, nI_clamp (by omega)]) ⟨vj, ?_⟩⟩⟩
  rw [ej, d1]
  by_cases z : K j = 10
  · rw [if_pos z] at h
    exact br_t (by rw [z]; rfl) h
  · rw [if_neg z] at h
    refine br_f (fun w => z ((nI_eq (b := 10) (by omega) (by omega)).mp w)) ⟨vj, ?_⟩
    by_cases y : K j = 11
    · rw [if_pos y] at h
      exact br_t (by rw [y]; rfl) h
    · rw [if_neg y] at h
      exact br_f (fun w => y ((nI_eq (b := 11) (by omega) (by omega)).mp w)) h
theorem wx_work {post : SX → Prop} {y q : Nat} {pos last : Int32} (S : te_Sl K W E V a_tokenKind a_tokenValue a_tokenEnd b L) (T : td_T c r d) (hnc : f_nodeCount = nI c) (ho : ∀ i, i < c → a_order i = nI (r i)) (hb : b ≤ y) (hy : y < L) (hq : q < 24)
    (h : ∀ am ag, am y = tn_pl c r a_valueOf (K y) (a_setAt (y * 24 + q)) (tn_nv c r a_valueOf K E V (fun j => a_setAt (j * 24 + q)) pos last y) → post (f_nodeCount, f_draftLength, f_resultLength, a_inUse, a_parentOf, a_rankOf, a_nameOf, a_valueOf, a_order, a_along, a_draftKind, a_draftValue, a_draftEnd, a_tokenKind, a_tokenValue, a_tokenEnd, a_slotLength, a_setAt, am, a_reached, ag, a_isTemplate, a_matchSlot, a_priorityOf, a_outSlot, a_onSlot, a_waiting, a_result)) : wpX_workOut post (f_nodeCount, f_draftLength, f_resultLength, a_inUse, a_parentOf, a_rankOf, a_nameOf, a_valueOf, a_order, a_along, a_draftKind, a_draftValue, a_draftEnd, a_tokenKind, a_tokenValue, a_tokenEnd, a_slotLength, a_setAt, a_amount, a_reached, a_agenda, a_isTemplate, a_matchSlot, a_priorityOf, a_outSlot, a_onSlot, a_waiting, a_result) (nI y) (nI q) pos last := by
  have S0 := S
  obtain ⟨l1, l2, D, hE, hw⟩ := S
  have EL := te_E_le hw hb hy
  have eqv := tn_nv_eq (c := c) (r := r) (val := a_valueOf) (V := V) (σ := fun j => a_setAt (j * 24 + q)) (pos := pos) (last := last) hw (by omega)
  generalize hη : tn_nv c r a_valueOf K E V (fun j => a_setAt (j * 24 + q)) pos last = η at h eqv
  unfold wpX_workOut
  refine wx_plan S0 hb hy (fun due ag hd hlt hag h40 => ?_)
  have mono := tg_mono hw hb hy hlt
  have hge : ∀ t, t ≤ due → y ≤ tg_it K E y t := fun t ht => by have := (mono t ht).1; omega
  have d0 : 0 < due := by
    rcases Nat.eq_zero_or_pos due with z | z
    · subst z
      have g := te_E_gt hw hb hy
      have : tg_it K E y 0 = y := rfl
      omega
    · exact z
  have key : ∀ k am, k ≤ due → (∀ t, k ≤ t → t < due → am (tg_it K E y t) = tn_pl c r a_valueOf (K (tg_it K E y t)) (a_setAt (tg_it K E y t * 24 + q)) (η (tg_it K E y t))) →
      wX_workOut_13 post (nI q) pos last f_nodeCount f_draftLength f_resultLength (k + 1) (nI k - 1) a_inUse a_parentOf a_rankOf a_nameOf a_valueOf a_order a_along a_draftKind a_draftValue a_draftEnd a_tokenKind a_tokenValue a_tokenEnd a_slotLength a_setAt am a_reached ag a_isTemplate a_matchSlot a_priorityOf a_outSlot a_onSlot a_waiting a_result := by
    intro k
    induction k with
    | zero =>
      intro am hk ham
      exact br_t (by decide) (h am ag (ham 0 (Nat.le_refl _) d0))
    | succ k ih =>
      intro am hk ham
      obtain ⟨j, ej⟩ : ∃ j, tg_it K E y k = j := ⟨_, rfl⟩
      have jl := hlt k (by omega)
      have jg := hge k (by omega)
      rw [ej] at jl jg
      obtain ⟨d1, d2, d3⟩ := D j (by omega) (by omega)
      obtain ⟨eE, eV⟩ := hE j (by omega) (by omega)
      have cj : (nI j).toNatClampNeg = j := nI_clamp (by omega)
      have vj : vp_in (nI j) 320 := vp_in_nI (by omega) (by omega)
      have ev := eqv j (by omega) (by omega)
      have fin : ∀ v, v = tn_pl c r a_valueOf (K j) (a_setAt (j * 24 + q)) (η j) → wX_workOut_13 post (nI q) pos last f_nodeCount f_draftLength f_resultLength (k + 1) (nI k - 1) a_inUse a_parentOf a_rankOf a_nameOf a_valueOf a_order a_along a_draftKind a_draftValue a_draftEnd a_tokenKind a_tokenValue a_tokenEnd a_slotLength a_setAt (upd am j v) a_reached ag a_isTemplate a_matchSlot a_priorityOf a_outSlot a_onSlot a_waiting a_result := by
        intro v hv
        refine ih _ (by omega) (fun t ht1 ht2 => ?_)
        by_cases z : t = k
        · subst z
          rw [ej, pk_us]; exact hv
        · have := (mono t (by omega)).2 k (by omega)
          rw [pk_un (by omega)]
          exact ham t (by omega) ht2
      have ends : ∀ v, v = tn_pl c r a_valueOf (K j) (a_setAt (j * 24 + q)) (η j) → (vp_in (nI j) 320 ∧ ∀ am', am' = upd am (nI j).toNatClampNeg v → ∀ x6, x6 = nI k + (-1) → wX_workOut_13 post (nI q) pos last f_nodeCount f_draftLength f_resultLength (k + 1) x6 a_inUse a_parentOf a_rankOf a_nameOf a_valueOf a_order a_along a_draftKind a_draftValue a_draftEnd a_tokenKind a_tokenValue a_tokenEnd a_slotLength a_setAt am' a_reached ag a_isTemplate a_matchSlot a_priorityOf a_outSlot a_onSlot a_waiting a_result) :=
        fun v hv => ⟨vj, nm_r (by rw [cj]) (nm_r (tz_m1s _) (fin v hv))⟩
      have pl4 : ¬ K j < 4 → tn_pl c r a_valueOf (K j) (a_setAt (j * 24 + q)) (η j) = η j := fun z => by unfold tn_pl; rw [if_neg z]
      have x24 : (nI j * 24 + nI q).toNatClampNeg = j * 24 + q := by rw [te_ix]; exact nI_clamp (by omega)
      have x24' : (nI (j + 1) * 24 + nI q).toNatClampNeg = (j + 1) * 24 + q ∨ ¬ j + 1 < L := by
        by_cases w : j + 1 < L
        · exact Or.inl (by rw [te_ix]; exact nI_clamp (by omega))
        · exact Or.inr w
      have ne : ∀ {i : Nat}, i < 18 → K j ≠ i → ¬ nI (K j) = nI i := fun hi z w => z ((nI_eq (by omega) (by omega)).mp w)
      -- one operand, two operands
      have op1 : ¬ K j < 4 → 0 < te_o (K j) (W j) → j + 1 < L ∧ am (j + 1) = tn_pl c r a_valueOf (K (j + 1)) (a_setAt ((j + 1) * 24 + q)) (η (j + 1)) := fun z o => by
        obtain ⟨a1, a2, a3⟩ := tg_op1 hw hb hy hd hlt hge (by omega) ej z o
        have := ham (k + 1) (Nat.le_refl _) a2
        rw [a1] at this
        exact ⟨a3, this⟩
      have op2 : ¬ K j < 4 → te_o (K j) (W j) = 2 → E (j + 1) < L ∧ b ≤ E (j + 1) ∧ am (E (j + 1)) = tn_pl c r a_valueOf (K (E (j + 1))) (a_setAt (E (j + 1) * 24 + q)) (η (E (j + 1))) := fun z o => by
        obtain ⟨k2, a1, a2, a3⟩ := tg_op2 hw hb hy hd hlt hge (by omega) ej z o
        have := ham k2 (by omega) a2
        rw [a3] at this
        have s := te_two hw (i := j) (by omega) (by omega) o
        exact ⟨s.2.2.1, by omega, this⟩
      have sm : ∀ i, am i = tn_pl c r a_valueOf (K i) (a_setAt (i * 24 + q)) (η i) → tn_Sm (K i) (a_setAt (i * 24 + q)) (am i) (a_setAt (i * 24 + q)) (η i) := fun i hi => ⟨fun _ => rfl, fun z => by rw [hi]; unfold tn_pl; rw [if_neg z]⟩
      rw [nI_pred]
      refine br_f (nI_pos (by omega)) ⟨vp_in_nI (by omega) (by omega), nm_r (e' := nI j) (by rw [nI_clamp (by omega), hag k (by omega), ej]) (nm_r (nI_1 j) ⟨vj, nm_r (e' := nI (K j)) (by rw [cj]; exact d1) ?_⟩)⟩
      by_cases z4 : K j < 4
      · refine br_t (nI_lt (b := 4) z4 (by omega)) ⟨by rw [te_ix]; exact vp_in_nI (by omega) (by omega), wx_first T hnc ho (ends _ ?_)⟩
        rw [x24]
        unfold tn_pl
        rw [if_pos z4]
      have P4 := pl4 z4
      refine br_f (nI_nlt (b := 4) (by omega) (by omega)) (br_f (nI_nlt (a := 17) (b := K j) (by omega) (by omega)) ?_)
      by_cases z : K j = 4
      · refine br_t (by rw [z]; rfl) ⟨vj, ends _ ?_⟩
        rw [P4, ev, cj, eV, z]; rfl
      refine br_f (ne (i := 4) (by omega) z) ?_
      by_cases z5 : K j = 5
      · refine br_t (by rw [z5]; rfl) (ends _ ?_)
        rw [P4, ev, z5]; rfl
      refine br_f (ne (i := 5) (by omega) z5) ?_
      by_cases z6 : K j = 6
      · refine br_t (by rw [z6]; rfl) (ends _ ?_)
        rw [P4, ev, z6]; rfl
      refine br_f (ne (i := 6) (by omega) z6) ?_
      by_cases z7 : K j = 7
      · have s1 := te_set1 hw (i := j) (by omega) (by omega) (by omega) (by omega)
        have xx := x24'.resolve_right (fun w => w s1.1)
        refine br_t (by rw [z7]; rfl) ⟨by rw [te_ix]; exact vp_in_nI (by omega) (by omega), wx_count (ends _ ?_)⟩
        rw [P4, ev, xx, z7]; rfl
      refine br_f (ne (i := 7) (by omega) z7) ?_
      by_cases z8 : K j = 8
      · have s1 := te_set1 hw (i := j) (by omega) (by omega) (by omega) (by omega)
        have xx := x24'.resolve_right (fun w => w s1.1)
        refine br_t (by rw [z8]; rfl) ⟨by rw [te_ix]; exact vp_in_nI (by omega) (by omega), wx_sum (ends _ ?_)⟩
        rw [P4, ev, xx, z8]; rfl
      refine br_f (ne (i := 8) (by omega) z8) ?_
      by_cases z9 : K j = 9
      · have s1 := te_set1 hw (i := j) (by omega) (by omega) (by omega) (by omega)
        obtain ⟨o1, o2⟩ := op1 z4 (by rw [te_o1 (by omega) (by omega)]; omega)
        refine br_t (by rw [z9]; rfl) ⟨vp_in_nI (by omega) (by omega), ends _ ?_⟩
        rw [P4, ev, nI_clamp (by omega), o2, z9]
        unfold tn_pl
        rw [if_pos s1.2]; rfl
      refine br_f (ne (i := 9) (by omega) z9) ?_
      by_cases z17 : K j = 17
      · obtain ⟨o1, o2⟩ := op1 z4 (by rw [te_o17 (by omega)]; omega)
        have tre := tn_tr_c (sm (j + 1) o2)
        refine br_f (ne (i := 10) (by omega) (by omega)) (br_f (ne (i := 11) (by omega) (by omega)) (br_f (ne (i := 12) (by omega) (by omega)) (br_f (ne (i := 13) (by omega) (by omega)) (br_f (ne (i := 14) (by omega) (by omega)) (br_f (ne (i := 15) (by omega) (by omega)) (br_f (ne (i := 16) (by omega) (by omega)) (br_t (by rw [z17]; rfl) (wx_isTrue S0 (by omega) o1 hq (fun w => br_f (by decide) (ends 0 ?_)) (fun w => br_t rfl (ends 1 ?_))))))))))
        · rw [P4, ev, z17]
          rw [tre] at w
          exact (tn_b_f (fun v => v w)).symm
        · rw [P4, ev, z17]
          rw [tre] at w
          exact (tn_b_t w).symm
      have two := te_o2 (k := K j) (w := W j) (by omega) (by omega)
      obtain ⟨o1, o2⟩ := op1 z4 (by omega)
      obtain ⟨p1, p2, p3⟩ := op2 z4 two
      have eE1 : a_tokenEnd (nI (j + 1)).toNatClampNeg = nI (E (j + 1)) := by rw [nI_clamp (by omega)]; exact (hE (j + 1) (by omega) o1).1
      have vj1 : vp_in (nI (j + 1)) 320 := vp_in_nI (by omega) (by omega)
      have calc1 : 10 ≤ K j → K j ≤ 12 → wX_workOut_221 post (wX_workOut_13 post (nI q) pos last f_nodeCount f_draftLength f_resultLength (k + 1)) (nI q) pos last (nI k) (nI j) f_nodeCount f_draftLength f_resultLength a_inUse a_parentOf a_rankOf a_nameOf a_valueOf a_order a_along a_draftKind a_draftValue a_draftEnd a_tokenKind a_tokenValue a_tokenEnd a_slotLength a_setAt am a_reached ag a_isTemplate a_matchSlot a_priorityOf a_outSlot a_onSlot a_waiting a_result := by
        intro h10 h12
        unfold wX_workOut_221
        refine wx_calc S0 (by omega) (by omega) h10 h12 (ends _ ?_)
        rw [P4, ev, o2, p3]
        unfold tn_res
        rw [if_neg z4, if_neg (show ¬ K j < 10 by omega), if_pos (show K j < 17 by omega)]
        unfold tn_r2
        by_cases y10 : K j = 10
        · rw [if_pos y10, if_pos y10]
        · rw [if_neg y10, if_neg y10]
          by_cases y11 : K j = 11
          · rw [if_pos y11, if_pos y11]
          · rw [if_neg y11, if_neg y11, if_pos (show K j = 12 by omega)]
      have cmp1 : K j = 13 ∨ K j = 14 → wX_workOut_237 post (wX_workOut_13 post (nI q) pos last f_nodeCount f_draftLength f_resultLength (k + 1)) (nI q) pos last (nI k) (nI j) f_nodeCount f_draftLength f_resultLength a_inUse a_parentOf a_rankOf a_nameOf a_valueOf a_order a_along a_draftKind a_draftValue a_draftEnd a_tokenKind a_tokenValue a_tokenEnd a_slotLength a_setAt am a_reached ag a_isTemplate a_matchSlot a_priorityOf a_outSlot a_onSlot a_waiting a_result := by
        intro h1314
        have ce := tn_Cm_c (kd := K j) (val := a_valueOf) (sm (j + 1) o2) (sm (E (j + 1)) p3)
        have er : η j = tn_b (tn_Cm (K j) a_valueOf (K (j + 1)) (a_setAt ((j + 1) * 24 + q)) (η (j + 1)) (K (E (j + 1))) (a_setAt (E (j + 1) * 24 + q)) (η (E (j + 1)))) := by
          rw [ev]
          unfold tn_res
          rw [if_neg z4, if_neg (show ¬ K j < 10 by omega), if_pos (show K j < 17 by omega)]
          unfold tn_r2
          rw [if_neg (show ¬ K j = 10 by omega), if_neg (show ¬ K j = 11 by omega), if_neg (show ¬ K j = 12 by omega), if_pos (show K j < 15 by omega)]
        unfold wX_workOut_237
        refine wx_cmp S0 (by omega) (by omega) hq h1314 (fun w => br_f (by decide) (ends 1 ?_)) (fun w => br_t rfl (ends 0 ?_))
        · rw [ce] at w
          rw [P4, er, tn_b_t w]
        · rw [ce] at w
          rw [P4, er, tn_b_f w]
      by_cases z10 : K j = 10
      · exact br_t (by rw [z10]; rfl) (calc1 (by omega) (by omega))
      refine br_f (ne (i := 10) (by omega) z10) ?_
      by_cases z11 : K j = 11
      · exact br_t (by rw [z11]; rfl) (calc1 (by omega) (by omega))
      refine br_f (ne (i := 11) (by omega) z11) ?_
      by_cases z12 : K j = 12
      · exact br_t (by rw [z12]; rfl) (calc1 (by omega) (by omega))
      refine br_f (ne (i := 12) (by omega) z12) ?_
      by_cases z13 : K j = 13
      · exact br_t (by rw [z13]; rfl) (cmp1 (Or.inl z13))
      refine br_f (ne (i := 13) (by omega) z13) ?_
      by_cases z14 : K j = 14
      · exact br_t (by rw [z14]; rfl) (cmp1 (Or.inr z14))
      refine br_f (ne (i := 14) (by omega) z14) ?_
      have t1 := tn_tr_c (sm (j + 1) o2)
      have t2 := tn_tr_c (sm (E (j + 1)) p3)
      by_cases z15 : K j = 15
      · refine br_t (by rw [z15]; rfl) (wx_isTrue S0 (by omega) o1 hq (fun w => br_f (by decide) ⟨vj1, ?_⟩) (fun w => br_t rfl (ends 0 ?_)))
        · rw [eE1]
          refine wx_isTrue S0 p2 p1 hq (fun w2 => br_f (by decide) (ends 1 ?_)) (fun w2 => br_t rfl (ends 0 ?_))
          · rw [P4, ev, z15]
            rw [t1] at w
            rw [t2] at w2
            exact (tn_b_t ⟨w, w2⟩).symm
          · rw [P4, ev, z15]
            rw [t2] at w2
            exact (tn_b_f (fun v => w2 v.2)).symm
        · rw [P4, ev, z15]
          rw [t1] at w
          exact (tn_b_f (fun v => w v.1)).symm
      refine br_f (ne (i := 15) (by omega) z15) ?_
      have z16 : K j = 16 := by omega
      refine br_t (by rw [z16]; rfl) (wx_isTrue S0 (by omega) o1 hq (fun w => br_f (by decide) (ends 1 ?_)) (fun w => br_t rfl ⟨vj1, ?_⟩))
      · rw [P4, ev, z16]
        rw [t1] at w
        exact (tn_b_t (Or.inl w)).symm
      · rw [eE1]
        refine wx_isTrue S0 p2 p1 hq (fun w2 => br_f (by decide) (ends 1 ?_)) (fun w2 => br_t rfl (ends 0 ?_))
        · rw [P4, ev, z16]
          rw [t2] at w2
          exact (tn_b_t (Or.inr w2)).symm
        · rw [P4, ev, z16]
          rw [t1] at w
          rw [t2] at w2
          exact (tn_b_f (fun v => v.elim w w2)).symm
  exact nm_r (e' := nI due - 1) rfl ⟨due + 1, key due a_amount (Nat.le_refl _) (fun t a b' => by omega)⟩
end
end
section
/-! sifting a list, by the component -/
theorem tk_pi_inj {c ax i j : Nat} (hi : i < c) (hj : j < c) (e : tk_pi c ax i = tk_pi c ax j) : i = j := by
  have a := tk_pi_pi (ax := ax) hi
  have b := tk_pi_pi (ax := ax) hj
  rw [e] at a
  omega
theorem tk_o_lt {c ax : Nat} {r d : Nat → Nat} (T : td_T c r d) : ∀ j, j < c → r (tk_pi c ax j) < 24 := fun j hj => T.2.2.2.1 _ (tk_pi_lt hj)
theorem tk_o_inj {c ax : Nat} {r d : Nat → Nat} (T : td_T c r d) : ∀ i j, i < c → j < c → r (tk_pi c ax i) = r (tk_pi c ax j) → i = j := fun i j hi hj e => tk_pi_inj hi hj (T.2.2.2.2 _ _ (tk_pi_lt hi) (tk_pi_lt hj) e)
section
variable {f_nodeCount f_draftLength f_resultLength : Int32} {a_inUse a_parentOf a_rankOf a_nameOf a_valueOf a_order a_along a_draftKind a_draftValue a_draftEnd a_tokenKind a_tokenValue a_tokenEnd a_slotLength a_setAt a_amount a_reached a_agenda a_isTemplate a_matchSlot a_priorityOf a_outSlot a_onSlot a_waiting a_result : Nat → Int32} {c : Nat} {r d : Nat → Nat} {K W E : Nat → Nat} {V : Nat → Int32} {b L : Nat}
theorem wx_named {post : Int32 → Prop} {nm : Nat} (T : td_T c r d) (hnc : f_nodeCount = nI c) (ho : ∀ i, i < c → a_order i = nI (r i)) (hnm : nm < 8)
    (h : ∀ x, tk_Mi r (fun i => tk_d (nm = 6 ∨ a_nameOf (r i) = nI nm)) c x → post x) : wpX_nodesNamed post (f_nodeCount, f_draftLength, f_resultLength, a_inUse, a_parentOf, a_rankOf, a_nameOf, a_valueOf, a_order, a_along, a_draftKind, a_draftValue, a_draftEnd, a_tokenKind, a_tokenValue, a_tokenEnd, a_slotLength, a_setAt, a_amount, a_reached, a_agenda, a_isTemplate, a_matchSlot, a_priorityOf, a_outSlot, a_onSlot, a_waiting, a_result) (nI nm) := by
  have c24 := T.1
  subst hnc
  have key : ∀ k i x, i + k = c → tk_Mi r (fun i => tk_d (nm = 6 ∨ a_nameOf (r i) = nI nm)) i x → wX_nodesNamed_4 post (nI nm) (nI c) f_draftLength f_resultLength a_inUse a_parentOf a_rankOf a_nameOf a_valueOf a_order a_along a_draftKind a_draftValue a_draftEnd a_tokenKind a_tokenValue a_tokenEnd a_slotLength a_setAt a_amount a_reached a_agenda a_isTemplate a_matchSlot a_priorityOf a_outSlot a_onSlot a_waiting a_result (k + 1) x (nI i) := by
    intro k
    induction k with
    | zero =>
      intro i x hi hx
      have e : i = c := by omega
      subst e
      exact br_t (nI_le (Nat.le_refl _) (by omega)) (h x hx)
    | succ k ih =>
      intro i x hi hx
      have ri := T.2.2.2.1 i (by omega)
      have ei : a_order (nI i).toNatClampNeg = nI (r i) := by rw [nI_clamp (by omega)]; exact ho i (by omega)
      have yes : (nm = 6 ∨ a_nameOf (r i) = nI nm) → wX_nodesNamed_37 post (wX_nodesNamed_4 post (nI nm) (nI c) f_draftLength f_resultLength a_inUse a_parentOf a_rankOf a_nameOf a_valueOf a_order a_along a_draftKind a_draftValue a_draftEnd a_tokenKind a_tokenValue a_tokenEnd a_slotLength a_setAt a_amount a_reached a_agenda a_isTemplate a_matchSlot a_priorityOf a_outSlot a_onSlot a_waiting a_result (k + 1)) (nI nm) x (nI i) (nI (r i)) (nI c) f_draftLength f_resultLength a_inUse a_parentOf a_rankOf a_nameOf a_valueOf a_order a_along a_draftKind a_draftValue a_draftEnd a_tokenKind a_tokenValue a_tokenEnd a_slotLength a_setAt a_amount a_reached a_agenda a_isTemplate a_matchSlot a_priorityOf a_outSlot a_onSlot a_waiting a_result := fun w =>
        nm_e (nm_r (nI_1 i) (ih (i + 1) _ (by omega) (tk_Mi_t hx ri (tk_d_t.mpr w))))
      refine br_f (nI_ge (by omega) (by omega)) ⟨vp_in_nI (by omega) (by omega), nm_r (e' := nI (r i)) ei ?_⟩
      by_cases z : nm = 6
      · exact br_t (by rw [z]; rfl) (yes (Or.inl z))
      · refine br_f (fun w => z ((nI_eq (b := 6) (by omega) (by omega)).mp w)) ⟨vp_in_nI ri (by omega), ?_⟩
        rw [nI_clamp (n := r i) (by omega)]
        by_cases y : a_nameOf (r i) = nI nm
        · exact br_t y (yes (Or.inr y))
        · exact br_f y (nm_r (nI_1 i) (ih (i + 1) _ (by omega) (tk_Mi_f hx (tk_d_f.mpr (fun w => w.elim z y)))))
  exact ⟨c + 1, key c 0 0 (by omega) tk_Mi_0⟩
theorem wx_sift {post : Int32 → SX → Prop} {x : Int32} {S0 : Nat → Bool} {ax y : Nat} (S : te_Sl K W E V a_tokenKind a_tokenValue a_tokenEnd b L) (T : td_T c r d) (hnc : f_nodeCount = nI c) (ho : ∀ i, i < c → a_order i = nI (r i)) (hb : b ≤ y) (hy : y < L) (hax : ax < 11)
    (hx : tk_Mi (fun i => r (tk_pi c ax i)) S0 c x)
    (h : ∀ res am ag, tk_Mi (fun i => r (tk_pi c ax i)) (fun i => S0 i && tk_H c r a_valueOf K E V (fun t n => a_setAt (t * 24 + n)) y (tk_pi c ax i) (tc_n S0 i + 1) (tc_n S0 c)) c res → post res (f_nodeCount, f_draftLength, f_resultLength, a_inUse, a_parentOf, a_rankOf, a_nameOf, a_valueOf, a_order, a_along, a_draftKind, a_draftValue, a_draftEnd, a_tokenKind, a_tokenValue, a_tokenEnd, a_slotLength, a_setAt, am, a_reached, ag, a_isTemplate, a_matchSlot, a_priorityOf, a_outSlot, a_onSlot, a_waiting, a_result)) :
    wpX_sift post (f_nodeCount, f_draftLength, f_resultLength, a_inUse, a_parentOf, a_rankOf, a_nameOf, a_valueOf, a_order, a_along, a_draftKind, a_draftValue, a_draftEnd, a_tokenKind, a_tokenValue, a_tokenEnd, a_slotLength, a_setAt, a_amount, a_reached, a_agenda, a_isTemplate, a_matchSlot, a_priorityOf, a_outSlot, a_onSlot, a_waiting, a_result) x (nI ax) (nI y) := by
  have c24 := T.1
  subst hnc
  have S' := S
  obtain ⟨l1, l2, D, hE, hw⟩ := S
  obtain ⟨d1, d2, -⟩ := D y hb hy
  have ey : (nI y).toNatClampNeg = y := nI_clamp (by omega)
  have vy : vp_in (nI y) 320 := vp_in_nI (by omega) (by omega)
  have cnt := tk_Mi_cnt hx (tk_o_lt T) (tk_o_inj T)
  have cb : tc_n S0 c ≤ c := tc_le _ _
  have key : ∀ z0 : Int32, (z0 = 0 ∧ ¬ (0 < ax ∧ ax % 2 = 0) ∨ z0 = 1 ∧ (0 < ax ∧ ax % 2 = 0)) → ∀ k i st am ag, i + k = c → tk_Mi (fun i => r (tk_pi c ax i)) (fun i => S0 i && tk_H c r a_valueOf K E V (fun t n => a_setAt (t * 24 + n)) y (tk_pi c ax i) (tc_n S0 i + 1) (tc_n S0 c)) i st →
      wX_sift_33 post x (nI y) z0 (nI (tc_n S0 c)) (k + 1) (nI (tc_n S0 i)) st (nI i) (nI c) f_draftLength f_resultLength a_inUse a_parentOf a_rankOf a_nameOf a_valueOf a_order a_along a_draftKind a_draftValue a_draftEnd a_tokenKind a_tokenValue a_tokenEnd a_slotLength a_setAt am a_reached ag a_isTemplate a_matchSlot a_priorityOf a_outSlot a_onSlot a_waiting a_result := by
    intro z0 hz k
    induction k with
    | zero =>
      intro i st am ag hi hst
      have e : i = c := by omega
      subst e
      exact br_t (nI_le (Nat.le_refl _) (by omega)) (h st am ag hst)
    | succ k ih =>
      intro i st am ag hi hst
      have ri := tk_o_lt (ax := ax) T i (by omega)
      have pl := tk_pi_lt (ax := ax) (show i < c by omega)
      have ib : tc_n S0 i ≤ i := tc_le _ _
      have bit := tk_Mi_bt hx (tk_o_lt T) (tk_o_inj T) (show i < c by omega)
      have s65 : ∀ ix : Int32, ix = nI (tk_pi c ax i) → wX_sift_65 post (wX_sift_33 post x (nI y) z0 (nI (tc_n S0 c)) (k + 1)) x (nI y) z0 (nI (tc_n S0 c)) (nI (tc_n S0 i)) st (nI i) ix (nI c) f_draftLength f_resultLength a_inUse a_parentOf a_rankOf a_nameOf a_valueOf a_order a_along a_draftKind a_draftValue a_draftEnd a_tokenKind a_tokenValue a_tokenEnd a_slotLength a_setAt am a_reached ag a_isTemplate a_matchSlot a_priorityOf a_outSlot a_onSlot a_waiting a_result := by
        intro ix eix
        subst eix
        unfold wX_sift_65
        refine ⟨vp_in_nI (by omega) (by omega), nm_r (e' := nI (r (tk_pi c ax i))) (by rw [nI_clamp (by omega)]; exact ho _ pl) ?_⟩
        cases s0 : S0 i with
        | false =>
          refine br_t ((mk_f (by omega)).mpr (bit.trans s0)) (nm_r (nI_1 i) ?_)
          have nx := ih (i + 1) st am ag (by omega) (tk_Mi_f hst (by rw [s0]; rfl))
          rw [tc_ff s0] at nx
          exact nx
        | true =>
          have nxt : ∀ am ag, tk_H c r a_valueOf K E V (fun t n => a_setAt (t * 24 + n)) y (tk_pi c ax i) (tc_n S0 i + 1) (tc_n S0 c) = true → wX_sift_33 post x (nI y) z0 (nI (tc_n S0 c)) (k + 1) (nI (tc_n S0 i + 1)) (st ||| ((1 : Int32) <<< (nI (r (tk_pi c ax i)) &&& 31))) (nI (i + 1)) (nI c) f_draftLength f_resultLength a_inUse a_parentOf a_rankOf a_nameOf a_valueOf a_order a_along a_draftKind a_draftValue a_draftEnd a_tokenKind a_tokenValue a_tokenEnd a_slotLength a_setAt am a_reached ag a_isTemplate a_matchSlot a_priorityOf a_outSlot a_onSlot a_waiting a_result := fun am ag w => by
            have nx := ih (i + 1) _ am ag (by omega) (tk_Mi_t hst ri (by rw [s0, w]; rfl))
            rw [tc_t s0] at nx
            exact nx
          have nxf : ∀ am ag, ¬ tk_H c r a_valueOf K E V (fun t n => a_setAt (t * 24 + n)) y (tk_pi c ax i) (tc_n S0 i + 1) (tc_n S0 c) = true → wX_sift_33 post x (nI y) z0 (nI (tc_n S0 c)) (k + 1) (nI (tc_n S0 i + 1)) st (nI (i + 1)) (nI c) f_draftLength f_resultLength a_inUse a_parentOf a_rankOf a_nameOf a_valueOf a_order a_along a_draftKind a_draftValue a_draftEnd a_tokenKind a_tokenValue a_tokenEnd a_slotLength a_setAt am a_reached ag a_isTemplate a_matchSlot a_priorityOf a_outSlot a_onSlot a_waiting a_result := fun am ag w => by
            have nx := ih (i + 1) st am ag (by omega) (tk_Mi_f hst (by rw [s0, tz_nb w]; rfl))
            rw [tc_t s0] at nx
            exact nx
          refine br_f (fun w => by rw [mk_f (by omega)] at w; rw [bit, s0] at w; cases w) (nm_r (nI_1 _) (wx_work S' T rfl ho hb hy ri (fun am' ag' ham => ⟨vy, ?_⟩)))
          have iff : tk_H c r a_valueOf K E V (fun t n => a_setAt (t * 24 + n)) y (tk_pi c ax i) (tc_n S0 i + 1) (tc_n S0 c) = true ↔ tn_hold (K y) (a_setAt (y * 24 + r (tk_pi c ax i))) (tn_nv c r a_valueOf K E V (fun j => a_setAt (j * 24 + r (tk_pi c ax i))) (nI (tc_n S0 i + 1)) (nI (tc_n S0 c)) y) (nI (tc_n S0 i + 1)) := by
            unfold tk_H
            rw [tk_d_t]
          rw [ey, d1]
          refine wx_typeOf d2 ?_
          have s131 : ∀ g : Int32, (g = 1 ∧ tk_H c r a_valueOf K E V (fun t n => a_setAt (t * 24 + n)) y (tk_pi c ax i) (tc_n S0 i + 1) (tc_n S0 c) = true ∨ g = 0 ∧ ¬ tk_H c r a_valueOf K E V (fun t n => a_setAt (t * 24 + n)) y (tk_pi c ax i) (tc_n S0 i + 1) (tc_n S0 c) = true) →
              wX_sift_131 post (wX_sift_33 post x (nI y) z0 (nI (tc_n S0 c)) (k + 1)) x (nI y) z0 (nI (tc_n S0 c)) (nI (tc_n S0 i + 1)) st (nI i) (nI (r (tk_pi c ax i))) g (nI c) f_draftLength f_resultLength a_inUse a_parentOf a_rankOf a_nameOf a_valueOf a_order a_along a_draftKind a_draftValue a_draftEnd a_tokenKind a_tokenValue a_tokenEnd a_slotLength a_setAt am' a_reached ag' a_isTemplate a_matchSlot a_priorityOf a_outSlot a_onSlot a_waiting a_result := by
            intro g hg
            unfold wX_sift_131
            rcases hg with ⟨rfl, w⟩ | ⟨rfl, w⟩
            · exact br_f (by decide) (nm_e (nm_r (nI_1 i) (nxt am' ag' w)))
            · exact br_t rfl (nm_r (nI_1 i) (nxf am' ag' w))
          unfold tn_hold at iff
          by_cases k4 : K y < 4
          · rw [if_pos k4] at iff
            refine br_f (by rw [show te_ty (K y) = 0 by unfold te_ty; rw [if_pos k4]]; decide) (wx_isTrue S' hb hy ri (fun w => s131 1 (Or.inl ⟨rfl, iff.mpr ?_⟩)) (fun w => s131 0 (Or.inr ⟨rfl, fun v => w ?_⟩)))
            · unfold tn_tr at w; rw [if_pos k4] at w; exact w
            · unfold tn_tr; rw [if_pos k4]; exact iff.mp v
          · rw [if_neg k4] at iff
            unfold tn_pl at ham
            rw [if_neg k4] at ham
            by_cases k13 : K y < 13
            · rw [if_pos k13, ← ham] at iff
              refine br_t (by rw [show te_ty (K y) = 1 by unfold te_ty; rw [if_neg k4, if_pos k13]]; rfl) ⟨vy, ?_⟩
              by_cases w : am' y = nI (tc_n S0 i + 1)
              · exact br_t w (s131 1 (Or.inl ⟨rfl, iff.mpr w⟩))
              · exact br_f w (s131 0 (Or.inr ⟨rfl, fun v => w (iff.mp v)⟩))
            · rw [if_neg k13, ← ham] at iff
              refine br_f (by rw [show te_ty (K y) = 2 by unfold te_ty; rw [if_neg k4, if_neg k13]]; decide) (wx_isTrue S' hb hy ri (fun w => s131 1 (Or.inl ⟨rfl, iff.mpr ?_⟩)) (fun w => s131 0 (Or.inr ⟨rfl, fun v => w ?_⟩)))
              · unfold tn_tr at w; rw [if_neg k4] at w; exact w
              · unfold tn_tr; rw [if_neg k4]; exact iff.mp v
      refine br_f (nI_ge (by omega) (by omega)) ?_
      rcases hz with ⟨z, hz⟩ | ⟨z, hz⟩
      · exact br_t z (s65 _ (by unfold tk_pi; rw [if_neg hz]))
      · refine br_f (by rw [z]; decide) (s65 _ ?_)
        unfold tk_pi
        rw [if_pos hz, show nI c - 1 = nI (c - 1) from pk_sub (a := c) (b := 1) (by omega), pk_sub (by omega)]
  have s15 : ∀ z0 : Int32, (z0 = 0 ∧ ¬ (0 < ax ∧ ax % 2 = 0) ∨ z0 = 1 ∧ (0 < ax ∧ ax % 2 = 0)) → wX_sift_15 post x (nI y) z0 (nI c) f_draftLength f_resultLength a_inUse a_parentOf a_rankOf a_nameOf a_valueOf a_order a_along a_draftKind a_draftValue a_draftEnd a_tokenKind a_tokenValue a_tokenEnd a_slotLength a_setAt a_amount a_reached a_agenda a_isTemplate a_matchSlot a_priorityOf a_outSlot a_onSlot a_waiting a_result := by
    intro z0 hz
    unfold wX_sift_15
    refine wx_count ⟨c + 1, ?_⟩
    rw [cnt]
    exact key z0 hz c 0 0 a_amount a_agenda (by omega) tk_Mi_0
  unfold wpX_sift
  by_cases z : ax = 0
  · exact br_t (by rw [z]; rfl) (s15 0 (Or.inl ⟨rfl, by omega⟩))
  · refine br_f (fun w => z ((nI_eq (b := 0) (by omega) (by omega)).mp w)) ⟨by decide, ?_⟩
    rw [show nI ax - nI ax / 2 * 2 = nI (ax % 2) from pk_rem (a := ax) (d := 2) (by omega) (by omega) (by omega)]
    by_cases w : ax % 2 = 0
    · exact br_t (by rw [w]; rfl) (s15 1 (Or.inr ⟨rfl, by omega, w⟩))
    · exact br_f (fun v => w ((nI_eq (b := 0) (by omega) (by omega)).mp v)) (s15 0 (Or.inl ⟨rfl, by omega⟩))
end
end
section
/-! all sets of a slot, by the component -/
theorem tz_pm2 {m j : Nat} (hm : m < 2 ^ 31) (hj : j < 2 ^ 31) : nI m - 1 < nI j ↔ m ≤ j := by
  rcases Nat.eq_zero_or_pos m with z | z
  · subst z
    refine ⟨fun _ => Nat.zero_le _, fun _ => ?_⟩
    rw [show nI 0 - 1 = (-1 : Int32) from by decide]
    exact Int32.lt_of_lt_of_le tz_m1lt (nI_pos' hj)
  · rw [show nI m - 1 = nI (m - 1) from pk_sub (a := m) (b := 1) z, nI_ltI (by omega) hj]
    omega
section
variable {f_nodeCount f_draftLength f_resultLength : Int32} {a_inUse a_parentOf a_rankOf a_nameOf a_valueOf a_order a_along a_draftKind a_draftValue a_draftEnd a_tokenKind a_tokenValue a_tokenEnd a_slotLength a_setAt a_amount a_reached a_agenda a_isTemplate a_matchSlot a_priorityOf a_outSlot a_onSlot a_waiting a_result : Nat → Int32} {c : Nat} {r d : Nat → Nat} {K W E : Nat → Nat} {V : Nat → Int32} {b L : Nat}
theorem wx_axis {post : Int32 → Prop} {w : Nat} (hw : w < 2 ^ 31) (h : post (nI (w % 16))) : wpX_axisOf post (f_nodeCount, f_draftLength, f_resultLength, a_inUse, a_parentOf, a_rankOf, a_nameOf, a_valueOf, a_order, a_along, a_draftKind, a_draftValue, a_draftEnd, a_tokenKind, a_tokenValue, a_tokenEnd, a_slotLength, a_setAt, a_amount, a_reached, a_agenda, a_isTemplate, a_matchSlot, a_priorityOf, a_outSlot, a_onSlot, a_waiting, a_result) (nI w) := by
  unfold wpX_axisOf
  show post (nI w &&& 15)
  rw [show nI w &&& 15 = nI (w % 16) from pk_andN (by omega) 4 (by decide)]
  exact h
theorem wx_tests {post : Int32 → Prop} {w : Nat} (hw : w < 2 ^ 31) (h : post (nI (w / 128))) : wpX_testsOf post (f_nodeCount, f_draftLength, f_resultLength, a_inUse, a_parentOf, a_rankOf, a_nameOf, a_valueOf, a_order, a_along, a_draftKind, a_draftValue, a_draftEnd, a_tokenKind, a_tokenValue, a_tokenEnd, a_slotLength, a_setAt, a_amount, a_reached, a_agenda, a_isTemplate, a_matchSlot, a_priorityOf, a_outSlot, a_onSlot, a_waiting, a_result) (nI w) := by
  unfold wpX_testsOf
  show post (nI w >>> ((7 : Int32) &&& 31))
  rw [pk_shrN hw _ 7 (by decide)]
  exact h
theorem wx_sname {post : Int32 → Prop} {w : Nat} (hw : w < 2 ^ 31) (h : post (nI (w / 16 % 8))) : wpX_stepNameOf post (f_nodeCount, f_draftLength, f_resultLength, a_inUse, a_parentOf, a_rankOf, a_nameOf, a_valueOf, a_order, a_along, a_draftKind, a_draftValue, a_draftEnd, a_tokenKind, a_tokenValue, a_tokenEnd, a_slotLength, a_setAt, a_amount, a_reached, a_agenda, a_isTemplate, a_matchSlot, a_priorityOf, a_outSlot, a_onSlot, a_waiting, a_result) (nI w) := by
  unfold wpX_stepNameOf
  show post ((nI w >>> ((4 : Int32) &&& 31)) &&& 7)
  rw [pk_shrN hw _ 4 (by decide), show nI (w / 2 ^ 4) &&& 7 = nI (w / 2 ^ 4 % 8) from pk_andN (by omega) 3 (by decide)]
  exact h
theorem wx_gather {post : SX → Prop} {t : Nat} (T : td_T c r d) (hnc : f_nodeCount = nI c) (ho : ∀ i, i < c → a_order i = nI (r i)) (ht : t + 1 < 320)
    (hm : ∀ m, m < c → ∀ g, g < 24 → bt (a_setAt ((t + 1) * 24 + r m)) g = true → mk_24 (a_reached g))
    (h : ∀ A, (∀ j, (∀ m, m < c → j ≠ t * 24 + r m) → A j = a_setAt j) → (∀ m, m < c → mk_24 (A (t * 24 + r m)) ∧ ∀ q, q < 24 → (bt (A (t * 24 + r m)) q = true ↔ ∃ g, g < 24 ∧ bt (a_setAt ((t + 1) * 24 + r m)) g = true ∧ bt (a_reached g) q = true)) → post (f_nodeCount, f_draftLength, f_resultLength, a_inUse, a_parentOf, a_rankOf, a_nameOf, a_valueOf, a_order, a_along, a_draftKind, a_draftValue, a_draftEnd, a_tokenKind, a_tokenValue, a_tokenEnd, a_slotLength, A, a_amount, a_reached, a_agenda, a_isTemplate, a_matchSlot, a_priorityOf, a_outSlot, a_onSlot, a_waiting, a_result)) :
    wpX_gatherReached post (f_nodeCount, f_draftLength, f_resultLength, a_inUse, a_parentOf, a_rankOf, a_nameOf, a_valueOf, a_order, a_along, a_draftKind, a_draftValue, a_draftEnd, a_tokenKind, a_tokenValue, a_tokenEnd, a_slotLength, a_setAt, a_amount, a_reached, a_agenda, a_isTemplate, a_matchSlot, a_priorityOf, a_outSlot, a_onSlot, a_waiting, a_result) (nI t) := by
  have c24 := T.1
  subst hnc
  have key : ∀ k i A, i + k = c → (∀ j, (∀ m, m < i → j ≠ t * 24 + r m) → A j = a_setAt j) → (∀ m, m < i → mk_24 (A (t * 24 + r m)) ∧ ∀ q, q < 24 → (bt (A (t * 24 + r m)) q = true ↔ ∃ g, g < 24 ∧ bt (a_setAt ((t + 1) * 24 + r m)) g = true ∧ bt (a_reached g) q = true)) →
      wX_gatherReached_2 post (nI t) (nI c) f_draftLength f_resultLength (k + 1) (nI i) a_inUse a_parentOf a_rankOf a_nameOf a_valueOf a_order a_along a_draftKind a_draftValue a_draftEnd a_tokenKind a_tokenValue a_tokenEnd a_slotLength A a_amount a_reached a_agenda a_isTemplate a_matchSlot a_priorityOf a_outSlot a_onSlot a_waiting a_result := by
    intro k
    induction k with
    | zero =>
      intro i A hi g1 g2
      have e : i = c := by omega
      subst e
      exact br_t (nI_le (Nat.le_refl _) (by omega)) (h A g1 g2)
    | succ k ih =>
      intro i A hi g1 g2
      have ri := T.2.2.2.1 i (by omega)
      have i1 : (nI t + 1) * 24 + nI (r i) = nI ((t + 1) * 24 + r i) := by rw [nI_1, te_ix]
      have fr : A ((t + 1) * 24 + r i) = a_setAt ((t + 1) * 24 + r i) := g1 _ (fun m hm' e => by have := T.2.2.2.1 m (by omega); omega)
      have inner : ∀ k' g st, g + k' = 24 → mk_24 st → (∀ q, q < 24 → (bt st q = true ↔ ∃ g', g' < g ∧ bt (a_setAt ((t + 1) * 24 + r i)) g' = true ∧ bt (a_reached g') q = true)) →
          wX_gatherReached_38 post (wX_gatherReached_2 post (nI t) (nI c) f_draftLength f_resultLength (k + 1)) (nI t) (nI i) (nI (r i)) (a_setAt ((t + 1) * 24 + r i)) (nI c) f_draftLength f_resultLength a_inUse a_parentOf a_rankOf a_nameOf a_valueOf a_order a_along a_draftKind a_draftValue a_draftEnd a_tokenKind a_tokenValue a_tokenEnd a_slotLength A a_amount a_reached a_agenda a_isTemplate a_matchSlot a_priorityOf a_outSlot a_onSlot a_waiting a_result (k' + 1) st (nI g) := by
        intro k'
        induction k' with
        | zero =>
          intro g st hg h24 hst
          have e : g = 24 := by omega
          subst e
          refine br_t (nI_le (a := 24) (b := 24) (by omega) (by omega)) ⟨by rw [te_ix]; exact vp_in_nI (by omega) (by omega), nm_r (e' := upd A (t * 24 + r i) st) (by rw [te_ix, nI_clamp (by omega)]) (nm_r (nI_1 i) (ih (i + 1) _ (by omega) (fun j hj => ?_) (fun m hm' => ?_)))⟩
          · rw [pk_un (hj i (by omega))]
            exact g1 j (fun m hm' => hj m (by omega))
          · by_cases z : m = i
            · subst z
              rw [pk_us]
              exact ⟨h24, hst⟩
            · rw [pk_un (fun e => z (T.2.2.2.2 m i (by omega) (by omega) (by omega)))]
              exact g2 m (by omega)
        | succ k' ih' =>
          intro g st hg h24 hst
          refine br_f (nI_ge (a := g) (b := 24) (by omega) (by omega)) ?_
          by_cases z : bt (a_setAt ((t + 1) * 24 + r i)) g = true
          · have hm24 := hm i (by omega) g (by omega) z
            refine br_f (fun w => by rw [mk_f (by omega), z] at w; cases w) ⟨vp_in_nI (by omega) (by omega), nm_r (e' := st ||| a_reached g) (by rw [nI_clamp (by omega)]) (nm_r (nI_1 g) (ih' (g + 1) _ (by omega) (mk_24_or h24 hm24) (fun q hq => ?_)))⟩
            rw [b_or, Bool.or_eq_true, hst q hq]
            constructor
            · rintro (⟨g', w1, w2⟩ | w)
              · exact ⟨g', by omega, w2⟩
              · exact ⟨g, by omega, z, w⟩
            · rintro ⟨g', w1, w2, w3⟩
              by_cases y : g' = g
              · subst y; exact Or.inr w3
              · exact Or.inl ⟨g', by omega, w2, w3⟩
          · refine br_t ((mk_f (by omega)).mpr (tz_nb z)) (nm_r (nI_1 g) (ih' (g + 1) _ (by omega) h24 (fun q hq => ?_)))
            rw [hst q hq]
            constructor
            · rintro ⟨g', w1, w2⟩
              exact ⟨g', by omega, w2⟩
            · rintro ⟨g', w1, w2, w3⟩
              by_cases y : g' = g
              · subst y; exact absurd w2 z
              · exact ⟨g', by omega, w2, w3⟩
      refine br_f (nI_ge (by omega) (by omega)) ⟨vp_in_nI (by omega) (by omega), nm_r (e' := nI (r i)) (by rw [nI_clamp (by omega)]; exact ho i (by omega)) ⟨by rw [i1]; exact vp_in_nI (by omega) (by omega), nm_r (e' := a_setAt ((t + 1) * 24 + r i)) (by rw [i1, nI_clamp (by omega)]; exact fr) ⟨25, inner 24 0 0 rfl mk_24_0 (fun q hq => ?_)⟩⟩⟩
      rw [b_0]
      exact ⟨fun w => (by cases w), fun ⟨g', w1, _⟩ => by omega⟩
  exact ⟨c + 1, key c 0 a_setAt (by omega) (fun j _ => rfl) (fun m hm' => by omega)⟩
/-- the list before any test -/
theorem tk_S0_Mi {t m : Nat} {x y : Int32} (T : td_T c r d) (hm : m < c) (hx : mk_24 x ∧ ∀ q, q < 24 → (bt x q = true ↔ tx_R0 r d c (W t % 16) (r m) q)) (hy : tk_Mi r (fun i => tk_d (W t / 16 % 8 = 6 ∨ a_nameOf (r i) = nI (W t / 16 % 8))) c y) {σ : Nat → Nat → Int32} :
    tk_Mi (fun i => r (tk_pi c (W t % 16) i)) (tk_S c r d a_nameOf a_valueOf K W E V σ t m 0) c (x &&& y) := by
  refine ⟨mk_24_and hx.1, fun q hq => ?_⟩
  rw [b_and, Bool.and_eq_true, hx.2 q hq, hy.2 q hq]
  constructor
  · rintro ⟨⟨a, l, ha, hl, e1, e2, e3⟩, ⟨l', hl', e4, e5⟩⟩
    rw [T.2.2.2.2 a m ha hm e1] at e3
    have ll : l' = l := T.2.2.2.2 l' l hl' hl (by rw [e4, e2])
    subst ll
    have pp := tk_pi_pi (ax := W t % 16) hl
    refine ⟨tk_pi c (W t % 16) l', tk_pi_lt hl, (by show r (tk_pi c (W t % 16) (tk_pi c (W t % 16) l')) = q; rw [pp]; exact e2), ?_⟩
    show tk_d _ = true
    rw [pp]
    exact tk_d_t.mpr ⟨e3, tk_d_t.mp e5⟩
  · rintro ⟨i, hi, e1, e2⟩
    have e3 := tk_d_t.mp e2
    exact ⟨⟨m, tk_pi c (W t % 16) i, hm, tk_pi_lt hi, rfl, e1, e3.1⟩, ⟨tk_pi c (W t % 16) i, tk_pi_lt hi, e1, tk_d_t.mpr e3.2⟩⟩
theorem wx_fillStep {post : SX → Prop} {t : Nat} (S : te_Sl K W E V a_tokenKind a_tokenValue a_tokenEnd b L) (T : td_T c r d) (c0 : 0 < c) (hnc : f_nodeCount = nI c) (ho : ∀ i, i < c → a_order i = nI (r i)) (hal : tx_Rep a_along (tx_R0 r d c)) (hb : b ≤ t) (ht : t < L) (h2 : K t = 2) (hax : W t % 16 ≤ 10)
    (Q : tk_Eq c r d a_nameOf a_valueOf K W E V (t + 1) L (fun t n => a_setAt (t * 24 + n)))
    (h : ∀ A re am ag, (∀ j, (∀ m, m < c → j ≠ t * 24 + r m) → A j = a_setAt j) → (∀ m, m < c → mk_24 (A (t * 24 + r m)) ∧ ∀ q, q < 24 → (bt (A (t * 24 + r m)) q = true ↔ tk_M c r d a_nameOf a_valueOf K W E V (fun t n => a_setAt (t * 24 + n)) t m q)) →
      post (f_nodeCount, f_draftLength, f_resultLength, a_inUse, a_parentOf, a_rankOf, a_nameOf, a_valueOf, a_order, a_along, a_draftKind, a_draftValue, a_draftEnd, a_tokenKind, a_tokenValue, a_tokenEnd, a_slotLength, A, am, re, ag, a_isTemplate, a_matchSlot, a_priorityOf, a_outSlot, a_onSlot, a_waiting, a_result)) : wpX_fillStep post (f_nodeCount, f_draftLength, f_resultLength, a_inUse, a_parentOf, a_rankOf, a_nameOf, a_valueOf, a_order, a_along, a_draftKind, a_draftValue, a_draftEnd, a_tokenKind, a_tokenValue, a_tokenEnd, a_slotLength, a_setAt, a_amount, a_reached, a_agenda, a_isTemplate, a_matchSlot, a_priorityOf, a_outSlot, a_onSlot, a_waiting, a_result) (nI t) := by
  have c24 := T.1
  have S' := S
  obtain ⟨l1, l2, D, hE, hw⟩ := S
  obtain ⟨d1, d2, d3⟩ := D t hb ht
  obtain ⟨d4, d5⟩ := d3 h2
  have ot := te_o_st (w := W t) h2
  have o0 := te_op hw hb ht (t := 0) (by omega)
  have t1 : t + 1 < L := o0.2.1
  have k1 : K (t + 1) < 4 := by
    have := o0.2.2
    rw [show te_lo (K t) 0 = 0 by unfold te_lo; rw [if_pos h2, if_pos rfl]] at this
    exact te_ty_0.mp this
  have et : (nI t).toNatClampNeg = t := nI_clamp (by omega)
  have tins := tk_in (te_Ws_up hw (b' := t + 1) (by omega)) c0 Q (t + 1) t1 (Nat.le_refl _) k1
  have chE : ∀ j, j < 1 + W t / 128 → te_ch E (t + 1) j < L ∧ t < te_ch E (t + 1) j := fun j hj => by
    have o := te_op hw hb ht (t := j) (by omega)
    exact ⟨o.2.1, o.1⟩
  subst hnc
  have outer : ∀ nmd, tk_Mi r (fun i => tk_d (W t / 16 % 8 = 6 ∨ a_nameOf (r i) = nI (W t / 16 % 8))) c nmd → ∀ k i re am ag, i + k = c →
      (∀ m, m < i → tk_Mi (fun i => r (tk_pi c (W t % 16) i)) (tk_S c r d a_nameOf a_valueOf K W E V (fun t n => a_setAt (t * 24 + n)) t m (W t / 128)) c (re (r m))) →
      wX_fillStep_38 post (nI t) (nI (W t % 16)) (nI (W t / 128)) nmd (k + 1) (nI i) (nI c) f_draftLength f_resultLength a_inUse a_parentOf a_rankOf a_nameOf a_valueOf a_order a_along a_draftKind a_draftValue a_draftEnd a_tokenKind a_tokenValue a_tokenEnd a_slotLength a_setAt am re ag a_isTemplate a_matchSlot a_priorityOf a_outSlot a_onSlot a_waiting a_result := by
    intro nmd hn k
    induction k with
    | zero =>
      intro i re am ag hi hre
      have e : i = c := by omega
      subst e
      refine br_t (nI_le (Nat.le_refl _) (by omega)) (wx_gather T rfl ho (by omega) (fun m hm g hg hgb => ?_) (fun A g1 g2 => h A re am ag g1 (fun m hm => ⟨(g2 m hm).1, fun q hq => ?_⟩)))
      · obtain ⟨l, hl, el⟩ := tins m hm g hg hgb
        rw [← el]
        exact (hre l hl).1
      · rw [(g2 m hm).2 q hq]
        unfold tk_M
        rw [if_neg (by omega), if_neg (by omega), if_neg (by omega)]
        constructor
        · rintro ⟨g, hg, w1, w2⟩
          obtain ⟨l, hl, el⟩ := tins m hm g hg w1
          subst el
          exact ⟨l, hl, w1, ((hre l hl).2 q hq).mp w2⟩
        · rintro ⟨l, hl, w1, w2⟩
          exact ⟨r l, T.2.2.2.1 l hl, w1, ((hre l hl).2 q hq).mpr w2⟩
    | succ k ih =>
      intro i re am ag hi hre
      have ri := T.2.2.2.1 i (by omega)
      have inner : ∀ u j x am ag, j + u = W t / 128 → tk_Mi (fun i => r (tk_pi c (W t % 16) i)) (tk_S c r d a_nameOf a_valueOf K W E V (fun t n => a_setAt (t * 24 + n)) t i j) c x →
          wX_fillStep_86 post (wX_fillStep_38 post (nI t) (nI (W t % 16)) (nI (W t / 128)) nmd (k + 1)) (nI t) (nI (W t % 16)) (nI (W t / 128)) nmd (nI i) (nI (r i)) (u + 1) x (nI (te_ch E (t + 1) (j + 1))) (nI j) (nI c) f_draftLength f_resultLength a_inUse a_parentOf a_rankOf a_nameOf a_valueOf a_order a_along a_draftKind a_draftValue a_draftEnd a_tokenKind a_tokenValue a_tokenEnd a_slotLength a_setAt am re ag a_isTemplate a_matchSlot a_priorityOf a_outSlot a_onSlot a_waiting a_result := by
        intro u
        induction u with
        | zero =>
          intro j x am ag hj hx
          have e : j = W t / 128 := by omega
          refine br_t (nI_le (by omega) (by omega)) ⟨vp_in_nI ri (by omega), nm_r (e' := upd re (r i) x) (by rw [nI_clamp (by omega)]) (nm_r (nI_1 i) (ih (i + 1) _ am ag (by omega) (fun m hm => ?_)))⟩
          by_cases z : m = i
          · subst z
            rw [pk_us, ← e]; exact hx
          · rw [pk_un (fun w => z (T.2.2.2.2 m i (by omega) (by omega) w))]
            exact hre m (by omega)
        | succ u iu =>
          intro j x am ag hj hx
          obtain ⟨y1, y2⟩ := chE (j + 1) (by omega)
          refine br_f (nI_ge (by omega) (by omega)) (wx_sift (y := te_ch E (t + 1) (j + 1)) S' T rfl ho (by omega) y1 (by omega) hx (fun res am' ag' hres => ⟨vp_in_nI (by omega) (by omega), nm_r (e' := nI (te_ch E (t + 1) (j + 1 + 1))) ?_ (nm_r (nI_1 j) (iu (j + 1) res am' ag' (by omega) hres))⟩))
          rw [nI_clamp (by omega), (hE _ (by omega) y1).1]
          rfl
      refine br_f (nI_ge (by omega) (by omega)) ⟨vp_in_nI (by omega) (by omega), nm_r (e' := nI (r i)) (by rw [nI_clamp (by omega)]; exact ho i (by omega)) ⟨by rw [te_ix]; exact vp_in_nI (by omega) (by omega), nm_r (e' := a_along (W t % 16 * 24 + r i) &&& nmd) (by rw [te_ix, nI_clamp (by omega)]) ⟨by rw [nI_1]; exact vp_in_nI (by omega) (by omega), nm_r (e' := nI (te_ch E (t + 1) 1)) ?_ ⟨W t / 128 + 1, inner (W t / 128) 0 _ am ag (by omega) (tk_S0_Mi T (by omega) (hal (W t % 16) (by omega) (r i) ri) hn)⟩⟩⟩⟩
      rw [nI_1, nI_clamp (by omega)]
      exact (hE (t + 1) (by omega) t1).1
  unfold wpX_fillStep
  refine ⟨vp_in_nI (by omega) (by omega), nm_r (e' := nI (W t)) (by rw [et]; exact d4) (wx_axis (by omega) (wx_tests (by omega) (wx_sname (by omega) (wx_named T rfl ho (by omega) (fun nmd hn => ⟨c + 1, outer nmd hn c 0 a_reached a_amount a_agenda (by omega) (fun m hm => by omega)⟩)))))⟩
end
end
section
/-! all sets of a slot, by the component: the simple ones, and the whole slot -/
section
variable {f_nodeCount f_draftLength f_resultLength : Int32} {a_inUse a_parentOf a_rankOf a_nameOf a_valueOf a_order a_along a_draftKind a_draftValue a_draftEnd a_tokenKind a_tokenValue a_tokenEnd a_slotLength a_setAt a_amount a_reached a_agenda a_isTemplate a_matchSlot a_priorityOf a_outSlot a_onSlot a_waiting a_result : Nat → Int32} {c : Nat} {r d : Nat → Nat} {K W E : Nat → Nat} {V : Nat → Int32} {b L : Nat}
theorem wx_fillSimple {post : SX → Prop} {t : Nat} (S : te_Sl K W E V a_tokenKind a_tokenValue a_tokenEnd b L) (T : td_T c r d) (hnc : f_nodeCount = nI c) (ho : ∀ i, i < c → a_order i = nI (r i)) (hb : b ≤ t) (ht : t < L) (h4 : K t < 4) (h2 : K t ≠ 2)
    (Q : tk_Eq c r d a_nameOf a_valueOf K W E V (t + 1) L (fun t n => a_setAt (t * 24 + n)))
    (h : ∀ A, (∀ j, (∀ m, m < c → j ≠ t * 24 + r m) → A j = a_setAt j) → (∀ m, m < c → mk_24 (A (t * 24 + r m)) ∧ ∀ q, q < 24 → (bt (A (t * 24 + r m)) q = true ↔ tk_M c r d a_nameOf a_valueOf K W E V (fun t n => a_setAt (t * 24 + n)) t m q)) →
      post (f_nodeCount, f_draftLength, f_resultLength, a_inUse, a_parentOf, a_rankOf, a_nameOf, a_valueOf, a_order, a_along, a_draftKind, a_draftValue, a_draftEnd, a_tokenKind, a_tokenValue, a_tokenEnd, a_slotLength, A, a_amount, a_reached, a_agenda, a_isTemplate, a_matchSlot, a_priorityOf, a_outSlot, a_onSlot, a_waiting, a_result)) : wpX_fillSimpleSet post (f_nodeCount, f_draftLength, f_resultLength, a_inUse, a_parentOf, a_rankOf, a_nameOf, a_valueOf, a_order, a_along, a_draftKind, a_draftValue, a_draftEnd, a_tokenKind, a_tokenValue, a_tokenEnd, a_slotLength, a_setAt, a_amount, a_reached, a_agenda, a_isTemplate, a_matchSlot, a_priorityOf, a_outSlot, a_onSlot, a_waiting, a_result) (nI t) := by
  have c24 := T.1
  obtain ⟨l1, l2, D, hE, hw⟩ := S
  obtain ⟨d1, d2, d3⟩ := D t hb ht
  have et : (nI t).toNatClampNeg = t := nI_clamp (by omega)
  have vt : vp_in (nI t) 320 := vp_in_nI (by omega) (by omega)
  subst hnc
  have key : ∀ k i A, i + k = c → (∀ j, (∀ m, m < i → j ≠ t * 24 + r m) → A j = a_setAt j) → (∀ m, m < i → mk_24 (A (t * 24 + r m)) ∧ ∀ q, q < 24 → (bt (A (t * 24 + r m)) q = true ↔ tk_M c r d a_nameOf a_valueOf K W E V (fun t n => a_setAt (t * 24 + n)) t m q)) →
      wX_fillSimpleSet_2 post (nI t) (nI c) f_draftLength f_resultLength (k + 1) (nI i) a_inUse a_parentOf a_rankOf a_nameOf a_valueOf a_order a_along a_draftKind a_draftValue a_draftEnd a_tokenKind a_tokenValue a_tokenEnd a_slotLength A a_amount a_reached a_agenda a_isTemplate a_matchSlot a_priorityOf a_outSlot a_onSlot a_waiting a_result := by
    intro k
    induction k with
    | zero =>
      intro i A hi g1 g2
      have e : i = c := by omega
      subst e
      exact br_t (nI_le (Nat.le_refl _) (by omega)) (h A g1 g2)
    | succ k ih =>
      intro i A hi g1 g2
      have ri := T.2.2.2.1 i (by omega)
      have s89 : ∀ x : Int32, mk_24 x → (∀ q, q < 24 → (bt x q = true ↔ tk_M c r d a_nameOf a_valueOf K W E V (fun t n => a_setAt (t * 24 + n)) t i q)) → wX_fillSimpleSet_89 post (wX_fillSimpleSet_2 post (nI t) (nI c) f_draftLength f_resultLength (k + 1)) (nI t) (nI i) (nI (r i)) x (nI c) f_draftLength f_resultLength a_inUse a_parentOf a_rankOf a_nameOf a_valueOf a_order a_along a_draftKind a_draftValue a_draftEnd a_tokenKind a_tokenValue a_tokenEnd a_slotLength A a_amount a_reached a_agenda a_isTemplate a_matchSlot a_priorityOf a_outSlot a_onSlot a_waiting a_result := by
        intro x hx1 hx2
        unfold wX_fillSimpleSet_89
        refine ⟨by rw [te_ix]; exact vp_in_nI (by omega) (by omega), nm_r (e' := upd A (t * 24 + r i) x) (by rw [te_ix, nI_clamp (by omega)]) (nm_r (nI_1 i) (ih (i + 1) _ (by omega) (fun j hj => ?_) (fun m hm' => ?_)))⟩
        · rw [pk_un (hj i (by omega))]
          exact g1 j (fun m hm' => hj m (by omega))
        · by_cases z : m = i
          · subst z
            rw [pk_us]
            exact ⟨hx1, hx2⟩
          · rw [pk_un (fun e => z (T.2.2.2.2 m i (by omega) (by omega) (by omega)))]
            exact g2 m (by omega)
      refine br_f (nI_ge (by omega) (by omega)) ⟨vp_in_nI (by omega) (by omega), nm_r (e' := nI (r i)) (by rw [nI_clamp (by omega)]; exact ho i (by omega)) (nm_e ⟨vt, ?_⟩)⟩
      rw [et, d1]
      by_cases z1 : K t = 1
      · refine br_t (by rw [z1]; rfl) (s89 1 (fun q hq => by rw [mk_b1, decide_eq_false (by omega)]) (fun q hq => ?_))
        rw [mk_b1, decide_eq_true_iff]
        unfold tk_M
        rw [if_neg (by omega), if_pos z1, T.2.2.1]
      refine br_f (fun w => z1 ((nI_eq (b := 1) (by omega) (by omega)).mp w)) ⟨vt, ?_⟩
      by_cases z3 : K t = 3
      · have s := te_two hw hb ht (te_o_un z3)
        have o0 := te_op hw hb ht (t := 0) (by rw [te_o_un z3]; omega)
        have o1 := te_op hw hb ht (t := 1) (by rw [te_o_un z3]; omega)
        have l0 : ∀ t', te_lo (K t) t' = 0 := fun t' => te_lo0 (by omega) (by omega)
        rw [l0] at o0 o1
        have q1 := (Q (t + 1) (Nat.le_refl _) s.1 (te_ty_0.mp o0.2.2) i (by omega)).1
        have q2 := (Q (E (t + 1)) (by omega) s.2.2.1 (te_ty_0.mp o1.2.2) i (by omega)).1
        have f1 : A ((t + 1) * 24 + r i) = a_setAt ((t + 1) * 24 + r i) := g1 _ (fun m hm' e => by have := T.2.2.2.1 m (by omega); omega)
        have f2 : A (E (t + 1) * 24 + r i) = a_setAt (E (t + 1) * 24 + r i) := g1 _ (fun m hm' e => by have := T.2.2.2.1 m (by omega); omega)
        refine br_t (by rw [z3]; rfl) (nm_r (nI_1 t) ⟨vp_in_nI (by omega) (by omega), nm_r (e' := nI (E (t + 1))) (by rw [nI_clamp (by omega)]; exact (hE (t + 1) (by omega) s.1).1) ⟨by rw [te_ix]; exact vp_in_nI (by omega) (by omega), by rw [te_ix]; exact vp_in_nI (by omega) (by omega), nm_r (e' := a_setAt ((t + 1) * 24 + r i) ||| a_setAt (E (t + 1) * 24 + r i)) (by rw [te_ix, te_ix, nI_clamp (by omega), nI_clamp (by omega), f1, f2]) (s89 _ (mk_24_or q1 q2) (fun q hq => ?_))⟩⟩)
        rw [b_or, Bool.or_eq_true]
        unfold tk_M
        rw [if_neg (by omega), if_neg z1, if_pos z3]
      · have z0 : K t = 0 := by omega
        refine br_f (fun w => z3 ((nI_eq (b := 3) (by omega) (by omega)).mp w)) (s89 _ (mk_24_sh ri) (fun q hq => ?_))
        rw [mk_sh _ (by omega), decide_eq_true_iff]
        unfold tk_M
        rw [if_pos z0]
  exact ⟨c + 1, key c 0 a_setAt (by omega) (fun j _ => rfl) (fun m hm' => by omega)⟩
/-- the equation at a token just filled, and those behind it -/
theorem tk_fill {t : Nat} {A B : Nat → Int32} (T : td_T c r d) (hw : te_Ws K W E b L) (hL : L ≤ 320) (hb : b ≤ t) (ht : t < L)
    (Q : tk_Eq c r d a_nameOf a_valueOf K W E V (t + 1) L (fun t n => A (t * 24 + n))) (g1 : ∀ j, (∀ m, m < c → j ≠ t * 24 + r m) → B j = A j)
    (g2 : K t < 4 → ∀ m, m < c → mk_24 (B (t * 24 + r m)) ∧ ∀ q, q < 24 → (bt (B (t * 24 + r m)) q = true ↔ tk_M c r d a_nameOf a_valueOf K W E V (fun t n => A (t * 24 + n)) t m q)) :
    tk_Eq c r d a_nameOf a_valueOf K W E V t L (fun t n => B (t * 24 + n)) := by
  have same : ∀ j, t < j → ∀ m, m < c → B (j * 24 + r m) = A (j * 24 + r m) := fun j hj m hm => g1 _ (fun m' hm' e => by have := T.2.2.2.1 m' hm'; have := T.2.2.2.1 m hm; omega)
  intro i h1 h2
  by_cases z : i = t
  · subst z
    intro h4 m hm
    obtain ⟨x1, x2⟩ := g2 h4 m hm
    exact ⟨x1, fun q hq => (x2 q hq).trans (tk_M_c hw (by omega) hb ht h4 hm (fun j a b' _ m hm => (same j a m hm).symm))⟩
  · exact tk_Q_c hw (by omega) (by omega) h2 (fun j a b' _ m hm => (same j (by omega) m hm).symm) (Q i (by omega) h2)
theorem wx_prepare {post : SX → Prop} {s n : Nat} (S : te_Sl K W E V a_tokenKind a_tokenValue a_tokenEnd (40 * s) (40 * s + n)) (hsl : a_slotLength s = nI n) (hs : s < 8) (T : td_T c r d) (c0 : 0 < c) (hnc : f_nodeCount = nI c) (ho : ∀ i, i < c → a_order i = nI (r i)) (hal : tx_Rep a_along (tx_R0 r d c))
    (hax : ∀ i, 40 * s ≤ i → i < 40 * s + n → K i = 2 → W i % 16 ≤ 10)
    (h : ∀ A re am ag, tk_Eq c r d a_nameOf a_valueOf K W E V (40 * s) (40 * s + n) (fun t n => A (t * 24 + n)) → (∀ j, (j < 40 * s * 24 ∨ (40 * s + n) * 24 ≤ j) → A j = a_setAt j) → post (f_nodeCount, f_draftLength, f_resultLength, a_inUse, a_parentOf, a_rankOf, a_nameOf, a_valueOf, a_order, a_along, a_draftKind, a_draftValue, a_draftEnd, a_tokenKind, a_tokenValue, a_tokenEnd, a_slotLength, A, am, re, ag, a_isTemplate, a_matchSlot, a_priorityOf, a_outSlot, a_onSlot, a_waiting, a_result)) :
    wpX_prepare post (f_nodeCount, f_draftLength, f_resultLength, a_inUse, a_parentOf, a_rankOf, a_nameOf, a_valueOf, a_order, a_along, a_draftKind, a_draftValue, a_draftEnd, a_tokenKind, a_tokenValue, a_tokenEnd, a_slotLength, a_setAt, a_amount, a_reached, a_agenda, a_isTemplate, a_matchSlot, a_priorityOf, a_outSlot, a_onSlot, a_waiting, a_result) (nI s) := by
  have S' := S
  obtain ⟨l1, l2, D, hE, hw⟩ := S
  have key : ∀ k A re am ag, 40 * s + k ≤ 40 * s + n → tk_Eq c r d a_nameOf a_valueOf K W E V (40 * s + k) (40 * s + n) (fun t n => A (t * 24 + n)) → (∀ j, (j < 40 * s * 24 ∨ (40 * s + n) * 24 ≤ j) → A j = a_setAt j) →
      wX_prepare_16 post (nI (40 * s)) (k + 1) (nI (40 * s + k) - 1) f_nodeCount f_draftLength f_resultLength a_inUse a_parentOf a_rankOf a_nameOf a_valueOf a_order a_along a_draftKind a_draftValue a_draftEnd a_tokenKind a_tokenValue a_tokenEnd a_slotLength A am re ag a_isTemplate a_matchSlot a_priorityOf a_outSlot a_onSlot a_waiting a_result := by
    intro k
    induction k with
    | zero =>
      intro A re am ag hk Q hA
      exact br_t ((tz_pm2 (by omega) (by omega)).mpr (by omega)) (h A re am ag Q hA)
    | succ k ih =>
      intro A re am ag hk Q hA
      rw [show 40 * s + (k + 1) = 40 * s + k + 1 by omega, nI_pred]
      obtain ⟨d1, d2, -⟩ := D (40 * s + k) (by omega) (by omega)
      have et : (nI (40 * s + k)).toNatClampNeg = 40 * s + k := nI_clamp (by omega)
      have vt : vp_in (nI (40 * s + k)) 320 := vp_in_nI (by omega) (by omega)
      have nxt : ∀ B re am ag, (∀ j, (∀ m, m < c → j ≠ (40 * s + k) * 24 + r m) → B j = A j) → (K (40 * s + k) < 4 → ∀ m, m < c → mk_24 (B ((40 * s + k) * 24 + r m)) ∧ ∀ q, q < 24 → (bt (B ((40 * s + k) * 24 + r m)) q = true ↔ tk_M c r d a_nameOf a_valueOf K W E V (fun t n => A (t * 24 + n)) (40 * s + k) m q)) →
          wX_prepare_16 post (nI (40 * s)) (k + 1) (nI (40 * s + k) - 1) f_nodeCount f_draftLength f_resultLength a_inUse a_parentOf a_rankOf a_nameOf a_valueOf a_order a_along a_draftKind a_draftValue a_draftEnd a_tokenKind a_tokenValue a_tokenEnd a_slotLength B am re ag a_isTemplate a_matchSlot a_priorityOf a_outSlot a_onSlot a_waiting a_result := fun B re am ag g1 g2 =>
        ih B re am ag (by omega) (tk_fill T hw l1 (by omega) (by omega) Q g1 g2) (fun j hj => (g1 j (fun m hm e => by have := T.2.2.2.1 m hm; omega)).trans (hA j hj))
      refine br_f (nI_nlt (by omega) (by omega)) ⟨vt, ?_⟩
      rw [et, d1]
      by_cases z2 : K (40 * s + k) = 2
      · exact br_t (by rw [z2]; rfl) (wx_fillStep S' T c0 hnc ho hal (by omega) (by omega) z2 (hax _ (by omega) (by omega) z2) Q (fun B re am ag g1 g2 => nm_r (tz_m1s _) (nxt B re am ag g1 (fun _ => g2))))
      · refine br_f (fun w => z2 ((nI_eq (b := 2) (by omega) (by omega)).mp w)) ⟨vt, ?_⟩
        by_cases z4 : K (40 * s + k) < 4
        · exact br_f (nI_nlt (a := 3) (by omega) (by omega)) (wx_fillSimple S' T hnc ho (by omega) (by omega) z4 z2 Q (fun B g1 g2 => nm_r (tz_m1s _) (nxt B re am ag g1 (fun _ => g2))))
        · exact br_t (nI_lt (a := 3) (by omega) (by omega)) (nm_r (tz_m1s _) (nxt A re am ag (fun _ _ => rfl) (fun w => absurd w z4)))
  unfold wpX_prepare
  refine nm_r (e' := nI (40 * s)) (by rw [show (40 : Int32) = nI 40 from rfl, pk_mul, Nat.mul_comm]) ⟨vp_in_nI hs (by omega), nm_r (e' := nI (40 * s + n) - 1) (by rw [nI_clamp (by omega), hsl, nI_add]) ⟨n + 1, key n a_setAt a_reached a_amount a_agenda (Nat.le_refl _) (fun i h1 h2 => by omega) (fun j _ => rfl)⟩⟩
end
end
section
/-! numbers, by the reference -/
def te_Sy (K W E : Nat → Nat) (V : Nat → Int32) (kd wt : Nat → Int32) (b L : Nat) : Prop :=
  L ≤ 320 ∧ L ≤ b + 40 ∧ te_D K W kd wt b L ∧ (∀ i, b ≤ i → i < L → wt i = V i) ∧ te_Ws K W E b L
def ty_En (ty st nb : Nat → Int32) (p k : Nat) (x n : Int32) : Prop := ty p = nI (te_ty k) ∧ st p = (if k < 4 then x else 0) ∧ nb p = n
theorem te_ty_e {k : Nat} : nI (te_ty k) = 0 ↔ k < 4 := by
  have := te_ty2 k
  rw [← nI_0, nI_eq (by omega) (by omega), ← te_ty_0]
  omega
section
variable {f_count f_top f_listed f_outputs : Int32} {a_row a_depth a_name a_value a_moved a_kind a_with a_length a_sets a_fresh a_type a_number a_set a_list a_there a_match a_priority a_out a_on a_todo a_within a_output : Nat → Int32} {c : Nat} {r d : Nat → Nat} {K W E : Nat → Nat} {V : Nat → Int32} {b L : Nat}
theorem wy_endOf {post : Int32 → Prop} {i : Nat} (S : te_Sy K W E V a_kind a_with b L) (hb : b ≤ i) (hi : i < L) (h : post (nI (E i))) : wpY_endOf post (f_count, f_top, f_listed, f_outputs, a_row, a_depth, a_name, a_value, a_moved, a_kind, a_with, a_length, a_sets, a_fresh, a_type, a_number, a_set, a_list, a_there, a_match, a_priority, a_out, a_on, a_todo, a_within, a_output) (nI i) := by
  obtain ⟨l1, l2, D, hV, hw⟩ := S
  have EL := te_E_le hw hb hi
  have sc := te_scan hw (fun n m j => m + 3 * (320 - j) ≤ 10000 → wY_endOf_4 post f_count f_top f_listed f_outputs a_row a_depth a_name a_value a_moved a_kind a_with a_length a_sets a_fresh a_type a_number a_set a_list a_there a_match a_priority a_out a_on a_todo a_within a_output n (nI m) (nI j)) (fun n m j hj1 hj2 hp hm => by
    obtain ⟨d1, d2, d3⟩ := D j hj1 hj2
    have o3 := te_o3 (fun z => (d3 z).2)
    have ej : (nI j).toNatClampNeg = j := nI_clamp (by omega)
    have vj : vp_in (nI j) 360 := vp_in_nI (by omega) (by omega)
    refine br_f (nI_nle (by omega) (by omega)) ⟨vj, vj, ?_⟩
    rw [ej, d1]
    refine wy_operands (w := W j) d2 d3 (nm_r (e' := nI (m + te_o (K j) (W j))) ?_ (nm_r (nI_1 j) (hp (by omega))))
    rw [← nI_1, ← nI_add]
    grind) i hi hb 1 0 (fun _ => br_t (by decide) h)
  exact ⟨_, sc (by omega)⟩
theorem wy_counted {post : Int32 → Prop} {x : Int32} (h : post (nI (tc_n (bt x) 24))) : wpY_counted post (f_count, f_top, f_listed, f_outputs, a_row, a_depth, a_name, a_value, a_moved, a_kind, a_with, a_length, a_sets, a_fresh, a_type, a_number, a_set, a_list, a_there, a_match, a_priority, a_out, a_on, a_todo, a_within, a_output) x := by
  have key : ∀ k i, i + k = 24 → wY_counted_4 post x f_count f_top f_listed f_outputs a_row a_depth a_name a_value a_moved a_kind a_with a_length a_sets a_fresh a_type a_number a_set a_list a_there a_match a_priority a_out a_on a_todo a_within a_output (k + 1) (nI (tc_n (bt x) i)) (nI i) := by
    intro k
    induction k with
    | zero =>
      intro i hi
      have e : i = 24 := by omega
      subst e
      exact br_t (nI_le (a := 24) (b := 24) (by omega) (by omega)) h
    | succ k ih =>
      intro i hi
      exact br_f (nI_ge (a := i) (b := 24) (by omega) (by omega)) (nm_r (tc_step (by omega)) (nm_r (nI_1 i) (ih (i + 1) (by omega))))
  exact ⟨25, key 24 0 rfl⟩
theorem wy_summed {post : Int32 → Prop} {x : Int32} (h : post (tc_sum a_value (bt x) 24)) : wpY_summed post (f_count, f_top, f_listed, f_outputs, a_row, a_depth, a_name, a_value, a_moved, a_kind, a_with, a_length, a_sets, a_fresh, a_type, a_number, a_set, a_list, a_there, a_match, a_priority, a_out, a_on, a_todo, a_within, a_output) x := by
  have key : ∀ k i, i + k = 24 → wY_summed_4 post x f_count f_top f_listed f_outputs a_row a_depth a_name a_value a_moved a_kind a_with a_length a_sets a_fresh a_type a_number a_set a_list a_there a_match a_priority a_out a_on a_todo a_within a_output (k + 1) (tc_sum a_value (bt x) i) (nI i) := by
    intro k
    induction k with
    | zero =>
      intro i hi
      have e : i = 24 := by omega
      subst e
      exact br_t (nI_le (a := 24) (b := 24) (by omega) (by omega)) h
    | succ k ih =>
      intro i hi
      refine br_f (nI_ge (a := i) (b := 24) (by omega) (by omega)) ?_
      have s := tc_sum_s a_value (bt x) i
      have i1 := ih (i + 1) (by omega)
      by_cases z : bt x i = true
      · rw [if_pos z] at s
        rw [s] at i1
        exact br_t ((mk_t (by omega)).mpr z) ⟨vp_in_nI (by omega) (by omega), nm_r (by rw [nI_clamp (by omega)]) (nm_r (nI_1 i) i1)⟩
      · rw [if_neg z] at s
        rw [s] at i1
        exact br_f (fun w => z ((mk_t (by omega)).mp w)) (nm_r (nI_1 i) i1)
  exact ⟨25, key 24 0 rfl⟩
theorem wy_first {post : Int32 → Prop} {x : Int32} (T : td_T c r d) (Y : re_YT c r d f_count a_row a_depth) (h : post (tn_first r a_value x c 0)) : wpY_firstOf post (f_count, f_top, f_listed, f_outputs, a_row, a_depth, a_name, a_value, a_moved, a_kind, a_with, a_length, a_sets, a_fresh, a_type, a_number, a_set, a_list, a_there, a_match, a_priority, a_out, a_on, a_todo, a_within, a_output) x := by
  have c24 := T.1
  obtain ⟨rfl, ho, -⟩ := Y
  have key : ∀ k i, i + k = c → post (tn_first r a_value x k i) → wY_firstOf_2 post x (nI c) f_top f_listed f_outputs a_row a_depth a_name a_value a_moved a_kind a_with a_length a_sets a_fresh a_type a_number a_set a_list a_there a_match a_priority a_out a_on a_todo a_within a_output (k + 1) (nI i) := by
    intro k
    induction k with
    | zero => intro i hi h; exact br_t (nI_le (by omega) (by omega)) h
    | succ k ih =>
      intro i hi h
      have ri := T.2.2.2.1 i (by omega)
      have ei : a_row (nI i).toNatClampNeg = nI (r i) := by rw [nI_clamp (by omega)]; exact ho i (by omega)
      rw [tn_first_s] at h
      refine br_f (nI_ge (by omega) (by omega)) ⟨vp_in_nI (by omega) (by omega), ?_⟩
      rw [ei]
      by_cases z : bt x (r i) = true
      · rw [if_pos z] at h
        refine br_t ((mk_t (by omega)).mpr z) ⟨vp_in_nI (by omega) (by omega), vp_in_nI ri (by omega), ?_⟩
        rw [nI_clamp (by omega)]; exact h
      · rw [if_neg z] at h
        exact br_f (fun w => z ((mk_t (by omega)).mp w)) (nm_r (nI_1 i) (ih (i + 1) (by omega) h))
  exact ⟨c + 1, key c 0 (by omega) h⟩
theorem wy_isTrue {post : Int32 → Prop} {p k : Nat} {x n : Int32} (e : ty_En a_type a_set a_number p k x n) (hp : p < 48) (h1 : tn_tr k x n → post 1) (h0 : ¬ tn_tr k x n → post 0) : wpY_isTrue post (f_count, f_top, f_listed, f_outputs, a_row, a_depth, a_name, a_value, a_moved, a_kind, a_with, a_length, a_sets, a_fresh, a_type, a_number, a_set, a_list, a_there, a_match, a_priority, a_out, a_on, a_todo, a_within, a_output) (nI p) := by
  obtain ⟨e1, e2, e3⟩ := e
  have ep : (nI p).toNatClampNeg = p := nI_clamp (by omega)
  have vp : vp_in (nI p) 48 := vp_in_nI hp (by omega)
  unfold wpY_isTrue
  unfold tn_tr at h1 h0
  refine ⟨vp, ?_⟩
  rw [ep, e1]
  by_cases z : k < 4
  · rw [if_pos z] at h1 h0 e2
    refine br_t (te_ty_e.mpr z) ⟨vp, ?_⟩
    rw [e2]
    by_cases y : x = 0
    · exact br_t y (h0 (fun w => w y))
    · exact br_f y (h1 y)
  · rw [if_neg z] at h1 h0
    refine br_f (fun w => z (te_ty_e.mp w)) ⟨vp, ?_⟩
    rw [e3]
    by_cases y : n = 0
    · exact br_t y (h0 (fun w => w y))
    · exact br_f y (h1 y)
theorem wy_plain {post : Int32 → Prop} {p k : Nat} {x n : Int32} (T : td_T c r d) (Y : re_YT c r d f_count a_row a_depth) (e : ty_En a_type a_set a_number p k x n) (hp : p < 48) (h : post (tn_pl c r a_value k x n)) : wpY_plain post (f_count, f_top, f_listed, f_outputs, a_row, a_depth, a_name, a_value, a_moved, a_kind, a_with, a_length, a_sets, a_fresh, a_type, a_number, a_set, a_list, a_there, a_match, a_priority, a_out, a_on, a_todo, a_within, a_output) (nI p) := by
  obtain ⟨e1, e2, e3⟩ := e
  have ep : (nI p).toNatClampNeg = p := nI_clamp (by omega)
  have vp : vp_in (nI p) 48 := vp_in_nI hp (by omega)
  unfold wpY_plain
  unfold tn_pl at h
  refine ⟨vp, ?_⟩
  rw [ep, e1]
  by_cases z : k < 4
  · rw [if_pos z] at h e2
    refine br_t (te_ty_e.mpr z) ⟨vp, ?_⟩
    rw [e2]
    exact wy_first T Y h
  · rw [if_neg z] at h
    refine br_f (fun w => z (te_ty_e.mp w)) ⟨vp, ?_⟩
    rw [e3]
    exact h
theorem wy_cmp {post : Int32 → Prop} {kd a bb ka kb : Nat} {xa na xb nb : Int32} (hkd : kd = 13 ∨ kd = 14) (ea : ty_En a_type a_set a_number a ka xa na) (eb : ty_En a_type a_set a_number bb kb xb nb) (ha : a < 48) (hb' : bb < 48)
    (h1 : tn_Cm kd a_value ka xa na kb xb nb → post 1) (h0 : ¬ tn_Cm kd a_value ka xa na kb xb nb → post 0) : wpY_compare post (f_count, f_top, f_listed, f_outputs, a_row, a_depth, a_name, a_value, a_moved, a_kind, a_with, a_length, a_sets, a_fresh, a_type, a_number, a_set, a_list, a_there, a_match, a_priority, a_out, a_on, a_todo, a_within, a_output) (nI kd) (nI a) (nI bb) := by
  obtain ⟨a1, a2, a3⟩ := ea
  obtain ⟨b1, b2, b3⟩ := eb
  have va : vp_in (nI a) 48 := vp_in_nI ha (by omega)
  have vb : vp_in (nI bb) 48 := vp_in_nI hb' (by omega)
  have ta : a_type (nI a).toNatClampNeg = nI (te_ty ka) := by rw [nI_clamp (by omega)]; exact a1
  have tb : a_type (nI bb).toNatClampNeg = nI (te_ty kb) := by rw [nI_clamp (by omega)]; exact b1
  have sa : a_set (nI a).toNatClampNeg = (if ka < 4 then xa else 0) := by rw [nI_clamp (by omega)]; exact a2
  have sb : a_set (nI bb).toNatClampNeg = (if kb < 4 then xb else 0) := by rw [nI_clamp (by omega)]; exact b2
  have na' : a_number (nI a).toNatClampNeg = na := by rw [nI_clamp (by omega)]; exact a3
  have nb' : a_number (nI bb).toNatClampNeg = nb := by rw [nI_clamp (by omega)]; exact b3
  have inner : ∀ (J : Int32 → Prop) (m : Nat), m < 24 → tn_in ka xa m → ((¬ ∃ n, n < 24 ∧ tn_in kb xb n ∧ (if kd = 13 then tn_at ka a_value na m < tn_at kb a_value nb n else tn_at ka a_value na m = tn_at kb a_value nb n)) → J (nI (m + 1))) →
      ∀ k i, i + k = 24 → (∀ n, n < i → ¬ (tn_in kb xb n ∧ (if kd = 13 then tn_at ka a_value na m < tn_at kb a_value nb n else tn_at ka a_value na m = tn_at kb a_value nb n))) →
      wY_compare_74 post J (nI kd) (nI a) (nI bb) (nI m) (tn_at ka a_value na m) f_count f_top f_listed f_outputs a_row a_depth a_name a_value a_moved a_kind a_with a_length a_sets a_fresh a_type a_number a_set a_list a_there a_match a_priority a_out a_on a_todo a_within a_output (k + 1) (nI i) := by
    intro J m hm hmin hJ k
    induction k with
    | zero =>
      intro i hi hn
      refine br_t (nI_le (a := 24) (b := i) (by omega) (by omega)) (nm_r (nI_1 m) (hJ ?_))
      rintro ⟨n, hn24, w⟩
      exact hn n (by omega) w
    | succ k ih =>
      intro i hi hn
      have nx : ¬ (tn_in kb xb i ∧ (if kd = 13 then tn_at ka a_value na m < tn_at kb a_value nb i else tn_at ka a_value na m = tn_at kb a_value nb i)) → wY_compare_74 post J (nI kd) (nI a) (nI bb) (nI m) (tn_at ka a_value na m) f_count f_top f_listed f_outputs a_row a_depth a_name a_value a_moved a_kind a_with a_length a_sets a_fresh a_type a_number a_set a_list a_there a_match a_priority a_out a_on a_todo a_within a_output (k + 1) (nI (i + 1)) := fun w => ih (i + 1) (by omega) (fun n hn' => by
        by_cases y : n = i
        · subst y; exact w
        · exact hn n (by omega))
      have c140 : tn_in kb xb i → ∀ z0 : Int32, z0 = tn_at kb a_value nb i → wY_compare_140 post J (wY_compare_74 post J (nI kd) (nI a) (nI bb) (nI m) (tn_at ka a_value na m) f_count f_top f_listed f_outputs a_row a_depth a_name a_value a_moved a_kind a_with a_length a_sets a_fresh a_type a_number a_set a_list a_there a_match a_priority a_out a_on a_todo a_within a_output (k + 1)) (nI kd) (nI a) (nI bb) (nI m) (tn_at ka a_value na m) (nI i) z0 f_count f_top f_listed f_outputs a_row a_depth a_name a_value a_moved a_kind a_with a_length a_sets a_fresh a_type a_number a_set a_list a_there a_match a_priority a_out a_on a_todo a_within a_output := by
        intro hin z0 ez
        subst ez
        unfold wY_compare_140
        by_cases k13 : kd = 13
        · refine br_t (by rw [k13]; rfl) ?_
          by_cases y : tn_at ka a_value na m < tn_at kb a_value nb i
          · exact br_f (Int32.not_le.mpr y) (h1 ⟨m, i, hm, by omega, hmin, hin, by rw [if_pos k13]; exact y⟩)
          · exact br_t (Int32.not_lt.mp y) (nm_r (nI_1 i) (nx (fun w => y (by have := w.2; rw [if_pos k13] at this; exact this))))
        · refine br_f (fun w => k13 ((nI_eq (b := 13) (by omega) (by omega)).mp w)) ?_
          by_cases y : tn_at ka a_value na m = tn_at kb a_value nb i
          · exact br_t y (h1 ⟨m, i, hm, by omega, hmin, hin, by rw [if_neg k13]; exact y⟩)
          · exact br_f y (nm_r (nI_1 i) (nx (fun w => y (by have := w.2; rw [if_neg k13] at this; exact this))))
      have c115 : tn_in kb xb i → wY_compare_115 post J (wY_compare_74 post J (nI kd) (nI a) (nI bb) (nI m) (tn_at ka a_value na m) f_count f_top f_listed f_outputs a_row a_depth a_name a_value a_moved a_kind a_with a_length a_sets a_fresh a_type a_number a_set a_list a_there a_match a_priority a_out a_on a_todo a_within a_output (k + 1)) (nI kd) (nI a) (nI bb) (nI m) (tn_at ka a_value na m) (nI i) f_count f_top f_listed f_outputs a_row a_depth a_name a_value a_moved a_kind a_with a_length a_sets a_fresh a_type a_number a_set a_list a_there a_match a_priority a_out a_on a_todo a_within a_output := by
        intro hin
        unfold wY_compare_115
        refine ⟨vb, ?_⟩
        rw [tb]
        by_cases z : kb < 4
        · exact br_t (te_ty_e.mpr z) ⟨vp_in_nI (by omega) (by omega), c140 hin _ (by unfold tn_at; rw [if_pos z, nI_clamp (by omega)])⟩
        · exact br_f (fun w => z (te_ty_e.mp w)) ⟨vb, c140 hin _ (by unfold tn_at; rw [if_neg z, nb'])⟩
      refine br_f (nI_ge (a := i) (b := 24) (by omega) (by omega)) ⟨vb, ?_⟩
      rw [tb]
      by_cases z : kb < 4
      · refine br_t (te_ty_e.mpr z) ⟨vb, ?_⟩
        rw [sb, if_pos z]
        by_cases y : bt xb i = true
        · exact br_f (fun w => by rw [mk_f (by omega), y] at w; cases w) (c115 (by unfold tn_in; rw [if_pos z]; exact y))
        · exact br_t ((mk_f (by omega)).mpr (tz_nb y)) (nm_r (nI_1 i) (nx (fun w => y (by have := w.1; unfold tn_in at this; rw [if_pos z] at this; exact this))))
      · refine br_f (fun w => z (te_ty_e.mp w)) ?_
        by_cases y : i = 0
        · exact br_t (by rw [y]; decide) (c115 (by unfold tn_in; rw [if_neg z]; exact y))
        · exact br_f (nI_nle (by omega) (by omega)) (nm_r (nI_1 i) (nx (fun w => y (by have := w.1; unfold tn_in at this; rw [if_neg z] at this; exact this))))
  have outer : ∀ k i, i + k = 24 → (∀ m, m < i → ¬ ∃ n, n < 24 ∧ tn_in ka xa m ∧ tn_in kb xb n ∧ (if kd = 13 then tn_at ka a_value na m < tn_at kb a_value nb n else tn_at ka a_value na m = tn_at kb a_value nb n)) →
      wY_compare_3 post (nI kd) (nI a) (nI bb) f_count f_top f_listed f_outputs a_row a_depth a_name a_value a_moved a_kind a_with a_length a_sets a_fresh a_type a_number a_set a_list a_there a_match a_priority a_out a_on a_todo a_within a_output (k + 1) (nI i) := by
    intro k
    induction k with
    | zero =>
      intro i hi hn
      refine br_t (nI_le (a := 24) (b := i) (by omega) (by omega)) (h0 ?_)
      rintro ⟨m, n, hm, hn24, w1, w2, w3⟩
      exact hn m (by omega) ⟨n, hn24, w1, w2, w3⟩
    | succ k ih =>
      intro i hi hn
      have nx : ¬ tn_in ka xa i → wY_compare_3 post (nI kd) (nI a) (nI bb) f_count f_top f_listed f_outputs a_row a_depth a_name a_value a_moved a_kind a_with a_length a_sets a_fresh a_type a_number a_set a_list a_there a_match a_priority a_out a_on a_todo a_within a_output (k + 1) (nI (i + 1)) := fun w => ih (i + 1) (by omega) (fun m hm => by
        by_cases e : m = i
        · subst e
          rintro ⟨n, -, w1, -, -⟩
          exact w w1
        · exact hn m (by omega))
      have c44 : tn_in ka xa i → wY_compare_44 post (wY_compare_3 post (nI kd) (nI a) (nI bb) f_count f_top f_listed f_outputs a_row a_depth a_name a_value a_moved a_kind a_with a_length a_sets a_fresh a_type a_number a_set a_list a_there a_match a_priority a_out a_on a_todo a_within a_output (k + 1)) (nI kd) (nI a) (nI bb) (nI i) f_count f_top f_listed f_outputs a_row a_depth a_name a_value a_moved a_kind a_with a_length a_sets a_fresh a_type a_number a_set a_list a_there a_match a_priority a_out a_on a_todo a_within a_output := by
        intro hin
        have cont := inner (wY_compare_3 post (nI kd) (nI a) (nI bb) f_count f_top f_listed f_outputs a_row a_depth a_name a_value a_moved a_kind a_with a_length a_sets a_fresh a_type a_number a_set a_list a_there a_match a_priority a_out a_on a_todo a_within a_output (k + 1)) i (by omega) hin (fun w => ih (i + 1) (by omega) (fun m hm => by
          by_cases e : m = i
          · subst e
            rintro ⟨n, hn24, -, w2, w3⟩
            exact w ⟨n, hn24, w2, w3⟩
          · exact hn m (by omega))) 24 0 rfl (fun n hn' => by omega)
        unfold wY_compare_44
        refine ⟨va, ?_⟩
        rw [ta]
        by_cases z : ka < 4
        · exact br_t (te_ty_e.mpr z) ⟨vp_in_nI (by omega) (by omega), nm_r (e' := tn_at ka a_value na i) (by unfold tn_at; rw [if_pos z, nI_clamp (by omega)]) ⟨25, cont⟩⟩
        · exact br_f (fun w => z (te_ty_e.mp w)) ⟨va, nm_r (e' := tn_at ka a_value na i) (by unfold tn_at; rw [if_neg z, na']) ⟨25, cont⟩⟩
      refine br_f (nI_ge (a := i) (b := 24) (by omega) (by omega)) ⟨va, ?_⟩
      rw [ta]
      by_cases z : ka < 4
      · refine br_t (te_ty_e.mpr z) ⟨va, ?_⟩
        rw [sa, if_pos z]
        by_cases y : bt xa i = true
        · exact br_f (fun w => by rw [mk_f (by omega), y] at w; cases w) (c44 (by unfold tn_in; rw [if_pos z]; exact y))
        · exact br_t ((mk_f (by omega)).mpr (tz_nb y)) (nm_r (nI_1 i) (nx (fun w => y (by unfold tn_in at w; rw [if_pos z] at w; exact w))))
      · refine br_f (fun w => z (te_ty_e.mp w)) ?_
        by_cases y : i = 0
        · exact br_t (by rw [y]; decide) (c44 (by unfold tn_in; rw [if_neg z]; exact y))
        · exact br_f (nI_nle (by omega) (by omega)) (nm_r (nI_1 i) (nx (fun w => y (by unfold tn_in at w; rw [if_neg z] at w; exact w))))
  exact ⟨25, outer 24 0 rfl (fun m hm => by omega)⟩
theorem wy_result {post : Int32 → Prop} {k a ka kb : Nat} {v xa na xb nb pos last av : Int32} (T : td_T c r d) (Y : re_YT c r d f_count a_row a_depth) (hk : k < 18) (h4 : 4 ≤ k) (hav : 7 ≤ k → av = nI a)
    (ea : 7 ≤ k → a < 48 ∧ ty_En a_type a_set a_number a ka xa na) (eb : 10 ≤ k → k < 17 → 0 < a ∧ ty_En a_type a_set a_number (a - 1) kb xb nb) (ka4 : 7 ≤ k → k < 10 → ka < 4)
    (h : post (tn_res c r a_value pos last k v ka xa na kb xb nb)) : wpY_result post (f_count, f_top, f_listed, f_outputs, a_row, a_depth, a_name, a_value, a_moved, a_kind, a_with, a_length, a_sets, a_fresh, a_type, a_number, a_set, a_list, a_there, a_match, a_priority, a_out, a_on, a_todo, a_within, a_output) (nI k) v av pos last := by
  have ne : ∀ {i : Nat}, i < 18 → k ≠ i → ¬ nI k = nI i := fun hi z w => z ((nI_eq (by omega) (by omega)).mp w)
  unfold wpY_result
  refine br_f (nI_nlt (b := 4) (by omega) (by omega)) (br_f (nI_nlt (a := 17) (b := k) (by omega) (by omega)) ?_)
  by_cases z : k = 4
  · subst z; exact br_t (by decide) h
  refine br_f (ne (i := 4) (by omega) z) ?_
  by_cases z5 : k = 5
  · subst z5; exact br_t (by decide) h
  refine br_f (ne (i := 5) (by omega) z5) ?_
  by_cases z6 : k = 6
  · subst z6; exact br_t (by decide) h
  refine br_f (ne (i := 6) (by omega) z6) ?_
  have h7 : 7 ≤ k := by omega
  obtain ⟨a48, En⟩ := ea h7
  have eav := hav h7
  subst eav
  have ep : (nI a).toNatClampNeg = a := nI_clamp (by omega)
  have vp : vp_in (nI a) 48 := vp_in_nI a48 (by omega)
  have es : k < 10 → a_set (nI a).toNatClampNeg = xa := fun w => by rw [ep, En.2.1, if_pos (ka4 h7 w)]
  by_cases z7 : k = 7
  · subst z7
    refine br_t (by decide) ⟨vp, ?_⟩
    rw [es (by omega)]
    exact wy_counted h
  refine br_f (ne (i := 7) (by omega) z7) ?_
  by_cases z8 : k = 8
  · subst z8
    refine br_t (by decide) ⟨vp, ?_⟩
    rw [es (by omega)]
    exact wy_summed h
  refine br_f (ne (i := 8) (by omega) z8) ?_
  by_cases z9 : k = 9
  · subst z9
    refine br_t (by decide) ⟨vp, ?_⟩
    rw [es (by omega)]
    exact wy_first T Y h
  refine br_f (ne (i := 9) (by omega) z9) ?_
  by_cases z17 : k = 17
  · subst z17
    refine br_f (by decide) (br_f (by decide) (br_f (by decide) (br_f (by decide) (br_f (by decide) (br_f (by decide) (br_f (by decide) (br_t (by decide) (wy_isTrue En a48 (fun w => br_f (by decide) ?_) (fun w => br_t rfl ?_)))))))))
    · have e : tn_res c r a_value pos last 17 v ka xa na kb xb nb = 0 := tn_b_f (fun x => x w)
      rw [e] at h; exact h
    · have e : tn_res c r a_value pos last 17 v ka xa na kb xb nb = 1 := tn_b_t w
      rw [e] at h; exact h
  obtain ⟨a0, Eb⟩ := eb (by omega) (by omega)
  have am : nI a - 1 = nI (a - 1) := pk_sub (a := a) (b := 1) (by omega)
  have pln : wY_result_193 (fun x => post x) (nI k) (nI a) f_count f_top f_listed f_outputs a_row a_depth a_name a_value a_moved a_kind a_with a_length a_sets a_fresh a_type a_number a_set a_list a_there a_match a_priority a_out a_on a_todo a_within a_output ∨ 13 ≤ k := by
    by_cases y : k < 13
    · refine Or.inl ?_
      unfold wY_result_193
      rw [am]
      refine wy_plain T Y En a48 (wy_plain T Y Eb (by omega) ?_)
      by_cases y10 : k = 10
      · subst y10; exact br_t (by decide) h
      refine br_f (ne (i := 10) (by omega) y10) ?_
      by_cases y11 : k = 11
      · subst y11; exact br_t (by decide) h
      have y12 : k = 12 := by omega
      subst y12
      exact br_f (by decide) h
    · exact Or.inr (by omega)
  have cmp : k = 13 ∨ k = 14 → wY_result_113 (fun x => post x) (nI k) (nI a) f_count f_top f_listed f_outputs a_row a_depth a_name a_value a_moved a_kind a_with a_length a_sets a_fresh a_type a_number a_set a_list a_there a_match a_priority a_out a_on a_todo a_within a_output := by
    intro y
    have e : tn_res c r a_value pos last k v ka xa na kb xb nb = tn_b (tn_Cm k a_value ka xa na kb xb nb) := by
      rcases y with y | y <;> subst y <;> rfl
    rw [e] at h
    unfold wY_result_113
    rw [am]
    refine wy_cmp y En Eb a48 (by omega) (fun w => br_f (by decide) ?_) (fun w => br_t rfl ?_)
    · rw [tn_b_t w] at h; exact h
    · rw [tn_b_f w] at h; exact h
  by_cases z10 : k = 10
  · exact br_t (by rw [z10]; rfl) (pln.resolve_right (by omega))
  refine br_f (ne (i := 10) (by omega) z10) ?_
  by_cases z11 : k = 11
  · exact br_t (by rw [z11]; rfl) (pln.resolve_right (by omega))
  refine br_f (ne (i := 11) (by omega) z11) ?_
  by_cases z12 : k = 12
  · exact br_t (by rw [z12]; rfl) (pln.resolve_right (by omega))
  refine br_f (ne (i := 12) (by omega) z12) ?_
  by_cases z13 : k = 13
  · exact br_t (by rw [z13]; rfl) (cmp (Or.inl z13))
  refine br_f (ne (i := 13) (by omega) z13) ?_
  by_cases z14 : k = 14
  · exact br_t (by rw [z14]; rfl) (cmp (Or.inr z14))
  refine br_f (ne (i := 14) (by omega) z14) ?_
  rw [am]
  by_cases z15 : k = 15
  · subst z15
    have e : tn_res c r a_value pos last 15 v ka xa na kb xb nb = tn_b (tn_tr ka xa na ∧ tn_tr kb xb nb) := rfl
    rw [e] at h
    refine br_t (by decide) (wy_isTrue En a48 (fun w => br_f (by decide) (wy_isTrue Eb (by omega) (fun w2 => br_f (by decide) ?_) (fun w2 => br_t rfl ?_))) (fun w => br_t rfl ?_))
    · rw [tn_b_t ⟨w, w2⟩] at h; exact h
    · rw [tn_b_f (fun x => w2 x.2)] at h; exact h
    · rw [tn_b_f (fun x => w x.1)] at h; exact h
  have z16 : k = 16 := by omega
  subst z16
  have e : tn_res c r a_value pos last 16 v ka xa na kb xb nb = tn_b (tn_tr ka xa na ∨ tn_tr kb xb nb) := rfl
  rw [e] at h
  refine br_f (by decide) (br_t (by decide) (wy_isTrue En a48 (fun w => br_f (by decide) ?_) (fun w => br_t rfl (wy_isTrue Eb (by omega) (fun w2 => br_f (by decide) ?_) (fun w2 => br_t rfl ?_)))))
  · rw [tn_b_t (Or.inl w)] at h; exact h
  · rw [tn_b_t (Or.inr w2)] at h; exact h
  · rw [tn_b_f (fun x => x.elim w w2)] at h; exact h
end
end
section
/-! a token worked out, by the reference -/
theorem te_Ws_sub {K W E : Nat → Nat} {b L y : Nat} (h : te_Ws K W E b L) (hb : b ≤ y) (hy : y < L) : te_Ws K W E y (E y) := by
  have EL := te_E_le h hb hy
  intro i h1 h2
  obtain ⟨w1, w2⟩ := h i (by omega) (by omega)
  have n := te_nest h y hy hb i h1 h2
  have le : ∀ u t, t + u = te_o (K i) (W i) → te_ch E (i + 1) t ≤ E i := by
    intro u
    induction u with
    | zero => intro t ht; rw [w1, ← ht]; exact Nat.le_refl _
    | succ u iu =>
      intro t ht
      have x := iu (t + 1) (by omega)
      have o := te_op h (i := i) (t := t) (by omega) (by omega) (by omega)
      have g := te_E_gt h (i := te_ch E (i + 1) t) (by omega) o.2.1
      rw [te_ch_s] at x
      omega
  refine ⟨w1, fun t ht => ⟨?_, (w2 t ht).2⟩⟩
  have o := te_op h (i := i) (t := t) (by omega) (by omega) ht
  have g := te_E_gt h (i := te_ch E (i + 1) t) (by omega) o.2.1
  have x := le (te_o (K i) (W i) - (t + 1)) (t + 1) (by omega)
  rw [te_ch_s] at x
  omega
section
variable {f_count f_top f_listed f_outputs : Int32} {a_row a_depth a_name a_value a_moved a_kind a_with a_length a_sets a_fresh a_type a_number a_set a_list a_there a_match a_priority a_out a_on a_todo a_within a_output : Nat → Int32} {c : Nat} {r d : Nat → Nat} {K W E : Nat → Nat} {V : Nat → Int32} {b L : Nat}
theorem wy_work {post : SY → Prop} {s tt y q : Nat} {pos last : Int32} (S : te_Sy K W E V a_kind a_with b L) (T : td_T c r d) (Y : re_YT c r d f_count a_row a_depth) (ey : 40 * s + tt = y) (hb : b ≤ y) (hy : y < L) (hq : q < 24)
    (h : ∀ top ty st nb, ty_En ty st nb 0 (K y) (a_sets (24 * y + q)) (tn_nv c r a_value K E V (fun j => a_sets (24 * j + q)) pos last y) → post (f_count, top, f_listed, f_outputs, a_row, a_depth, a_name, a_value, a_moved, a_kind, a_with, a_length, a_sets, a_fresh, ty, nb, st, a_list, a_there, a_match, a_priority, a_out, a_on, a_todo, a_within, a_output)) :
    wpY_workOut post (f_count, f_top, f_listed, f_outputs, a_row, a_depth, a_name, a_value, a_moved, a_kind, a_with, a_length, a_sets, a_fresh, a_type, a_number, a_set, a_list, a_there, a_match, a_priority, a_out, a_on, a_todo, a_within, a_output) (nI s) (nI tt) (nI q) pos last := by
  have S' := S
  obtain ⟨l1, l2, D, hV, hw⟩ := S
  have EL := te_E_le hw hb hy
  have Eg := te_E_gt hw hb hy
  have eqv := tn_nv_eq (c := c) (r := r) (val := a_value) (V := V) (σ := fun j => a_sets (24 * j + q)) (pos := pos) (last := last) hw (by omega)
  generalize hη : tn_nv c r a_value K E V (fun j => a_sets (24 * j + q)) pos last = η at h eqv
  have hs := te_Ws_sub hw hb hy
  have key : ∀ k i hh ty st nb, i = y + k → i ≤ E y → te_F E (E y) i hh → (∀ t, t < hh → ty_En ty st nb (hh - 1 - t) (K (te_ch E i t)) (a_sets (24 * te_ch E i t + q)) (η (te_ch E i t))) →
      wY_workOut_23 post (nI q) pos last (nI y) f_count f_listed f_outputs (k + 1) (nI i - 1) (nI hh) a_row a_depth a_name a_value a_moved a_kind a_with a_length a_sets a_fresh ty nb st a_list a_there a_match a_priority a_out a_on a_todo a_within a_output := by
    intro k
    induction k with
    | zero =>
      intro i hh ty st nb hi hiE f hst
      have e : i = y := by omega
      subst e
      have h1 : hh = 1 := by
        rcases Nat.lt_trichotomy hh 1 with z | z | z
        · have z0 : hh = 0 := by omega
          rw [z0] at f
          have : te_ch E i 0 = i := rfl
          have := f.1
          omega
        · exact z
        · have := f.2 1 z
          have : te_ch E i 1 = E i := rfl
          omega
      subst h1
      exact br_t ((tz_pm2 (by omega) (by omega)).mpr (Nat.le_refl _)) (h _ ty st nb (hst 0 (by omega)))
    | succ k ih =>
      intro i' hh ty st nb hi hiE f hst
      obtain ⟨i, rfl⟩ : ∃ i, i' = i + 1 := ⟨i' - 1, by omega⟩
      have hws := te_Ws_up hs (b' := i + 1) (by omega)
      have fl := te_F_le hws f
      have ge := te_ch_ge hws f
      obtain ⟨d1, d2, d3⟩ := D i (by omega) (by omega)
      have o3 := te_o3 (fun z => (d3 z).2)
      have wi := hs i (by omega) (by omega)
      have oh : te_o (K i) (W i) ≤ hh := by
        rcases Nat.lt_or_ge hh (te_o (K i) (W i)) with z | z
        · have := (wi.2 hh z).1
          have := f.1
          omega
        · exact z
      have ei : (nI i).toNatClampNeg = i := nI_clamp (by omega)
      have vi : vp_in (nI i) 360 := vp_in_nI (by omega) (by omega)
      have f' : te_F E (E y) i (hh - te_o (K i) (W i) + 1) := te_F_s f oh wi.1 (by omega)
      have top' : ∀ t, te_ch E i (t + 1) = te_ch E (i + 1) (te_o (K i) (W i) + t) := fun t => te_F_top (L := E y) (h := hh) wi.1
      rw [nI_pred]
      refine br_f (nI_nlt (by omega) (by omega)) ⟨vi, vi, ?_⟩
      rw [ei, d1]
      refine wy_operands (w := W i) d2 d3 (nm_r (pk_sub oh) (nm_e ⟨vi, ?_⟩))
      have c139 : ∀ x11 z0 : Int32, x11 = (if K i < 4 then a_sets (24 * i + q) else 0) → z0 = η i → wY_workOut_139 post (wY_workOut_23 post (nI q) pos last (nI y) f_count f_listed f_outputs (k + 1)) (nI q) pos last (nI y) (nI i) (nI (te_ty (K i))) x11 z0 f_count (nI (hh - te_o (K i) (W i))) f_listed f_outputs a_row a_depth a_name a_value a_moved a_kind a_with a_length a_sets a_fresh ty nb st a_list a_there a_match a_priority a_out a_on a_todo a_within a_output := by
        intro x11 z0 ex ez
        have vt : vp_in (nI (hh - te_o (K i) (W i))) 48 := vp_in_nI (by omega) (by omega)
        have et : (nI (hh - te_o (K i) (W i))).toNatClampNeg = hh - te_o (K i) (W i) := nI_clamp (by omega)
        unfold wY_workOut_139
        refine ⟨vt, nm_r (e' := upd ty (hh - te_o (K i) (W i)) (nI (te_ty (K i)))) (by rw [et]) ⟨vt, nm_r (e' := upd st (hh - te_o (K i) (W i)) x11) (by rw [et]) ⟨vt, nm_r (e' := upd nb (hh - te_o (K i) (W i)) z0) (by rw [et]) (nm_r (nI_1 _) (nm_r (tz_m1s _) (ih i _ _ _ _ (by omega) (by omega) f' (fun t ht => ?_))))⟩⟩⟩
        cases t with
        | zero =>
          rw [show hh - te_o (K i) (W i) + 1 - 1 - 0 = hh - te_o (K i) (W i) by omega]
          refine ⟨pk_us, ?_, ?_⟩
          · rw [pk_us]; exact ex
          · rw [pk_us]; exact ez
        | succ t =>
          obtain ⟨g1, g2, g3⟩ := hst (te_o (K i) (W i) + t) (by omega)
          rw [top' t]
          rw [show hh - te_o (K i) (W i) + 1 - 1 - (t + 1) = hh - 1 - (te_o (K i) (W i) + t) by omega]
          refine ⟨?_, ?_, ?_⟩
          · rw [pk_un (by omega)]; exact g1
          · rw [pk_un (by omega)]; exact g2
          · rw [pk_un (by omega)]; exact g3
      refine wy_typeOf d2 ?_
      have ev := eqv i (by omega) (by omega)
      have ie : (24 : Int32) * nI i + nI q = nI (24 * i + q) := by rw [show (24 : Int32) = nI 24 from rfl, pk_mul, nI_add]
      by_cases k4 : K i < 4
      · refine br_t (te_ty_e.mpr k4) ⟨by rw [ie]; exact vp_in_nI (by omega) (by omega), ?_⟩
        rw [ie, nI_clamp (by omega)]
        unfold wY_workOut_104
        refine br_t (te_ty_e.mpr k4) (c139 _ 0 (by rw [if_pos k4]) ?_)
        rw [ev]
        unfold tn_res
        rw [if_pos k4]
      · refine br_f (fun w => k4 (te_ty_e.mp w)) ?_
        unfold wY_workOut_104
        refine br_f (fun w => k4 (te_ty_e.mp w)) ⟨vi, vi, ?_⟩
        rw [ei, d1, hV i (by omega) (by omega)]
        have o7 : 7 ≤ K i → 0 < te_o (K i) (W i) := fun w => by
          rcases Nat.lt_or_ge (K i) 10 with z | z
          · rw [te_o1 w z]; omega
          · rcases Nat.lt_or_ge (K i) 17 with z' | z'
            · rw [te_o2 z z']; omega
            · rw [te_o17 z']; omega
        refine wy_result (a := hh - 1) (ka := K (i + 1)) (kb := K (E (i + 1))) (xa := a_sets (24 * (i + 1) + q)) (na := η (i + 1)) (xb := a_sets (24 * E (i + 1) + q)) (nb := η (E (i + 1))) T Y d2 (by omega) (fun w => ?_) (fun w => ⟨by omega, ?_⟩) (fun w1 w2 => ⟨?_, ?_⟩) (fun w1 w2 => (te_set1 hw (i := i) (by omega) (by omega) w1 w2).2) (c139 0 _ (by rw [if_neg k4]) ev.symm)
        · have := o7 w
          rw [nI_add, show hh - te_o (K i) (W i) + te_o (K i) (W i) = hh by omega]
          exact pk_sub (a := hh) (b := 1) (by omega)
        · have := o7 w
          have g := hst 0 (by omega)
          exact g
        · have := te_o2 (w := W i) w1 w2
          omega
        · have o2 := te_o2 (w := W i) w1 w2
          have g := hst 1 (by omega)
          exact g
  unfold wpY_workOut
  refine nm_r (e' := nI y) (by rw [show (40 : Int32) = nI 40 from rfl, pk_mul, nI_add, ey]) (wy_endOf S' hb hy (nm_e ⟨E y - y + 1, ?_⟩))
  have := key (E y - y) (E y) 0 a_type a_set a_number (by omega) (Nat.le_refl _) (te_F_0 _ _) (fun t ht => by omega)
  exact this
/-! the axes, by the reference -/
theorem wy_isOn {post : Int32 → Prop} {ax i l : Nat} (T : td_T c r d) (Y : re_YT c r d f_count a_row a_depth) (hi : i < c) (hl : l < c) (hax : ax < 11) (h1 : td_on d ax i l → post 1) (h0 : ¬ td_on d ax i l → post 0) :
    wpY_isOn post (f_count, f_top, f_listed, f_outputs, a_row, a_depth, a_name, a_value, a_moved, a_kind, a_with, a_length, a_sets, a_fresh, a_type, a_number, a_set, a_list, a_there, a_match, a_priority, a_out, a_on, a_todo, a_within, a_output) (nI ax) (nI (r i)) (nI (r l)) := by
  have c24 := T.1
  have ri := T.2.2.2.1 i hi
  have rl := T.2.2.2.1 l hl
  have erl : nI (r l) = nI (r i) ↔ l = i := by
    rw [nI_eq (by omega) (by omega)]
    exact ⟨fun e => T.2.2.2.2 l i hl hi e, fun e => by rw [e]⟩
  obtain ⟨e, he⟩ := td_endEx (c := c) (d := d) hi
  obtain ⟨f, hf⟩ := td_endEx (c := c) (d := d) hl
  have A1 := td_AnEn he hl
  have A2 := td_AnEn hf hi
  have he2 := he.2.1
  have hf2 := hf.2.1
  -- the last stage: x6 below, x7 above, x8 the parent, z0 sibling
  have s91 : ∀ x6 x7 x8 z0 : Int32, (x6 = 1 ∧ td_An d i l ∨ x6 = 0 ∧ ¬ td_An d i l) → (x7 = 1 ∧ td_An d l i ∨ x7 = 0 ∧ ¬ td_An d l i) → (nI (r l) = x8 ↔ td_Pa d l i) →
      (z0 = 1 ∧ (∃ p, td_Pa d p i ∧ td_Pa d p l) ∨ z0 = 0 ∧ ¬ (∃ p, td_Pa d p i ∧ td_Pa d p l)) → wY_isOn_91 post (nI ax) (nI (r i)) (nI (r l)) (nI i) (nI l) x6 x7 x8 z0 f_count f_top f_listed f_outputs a_row a_depth a_name a_value a_moved a_kind a_with a_length a_sets a_fresh a_type a_number a_set a_list a_there a_match a_priority a_out a_on a_todo a_within a_output := by
    intro x6 x7 x8 z0 H6 H7 H8 HZ
    have di : a_depth (nI (r i)).toNatClampNeg = nI (d i) := by rw [nI_clamp (by omega)]; exact Y.2.2 i hi
    have dl : a_depth (nI (r l)).toNatClampNeg = nI (d l) := by rw [nI_clamp (by omega)]; exact Y.2.2 l hl
    have dib := td_dc T.2.1 hi
    have dlb := td_dc T.2.1 hl
    have vi : vp_in (nI (r i)) 24 := vp_in_nI ri (by omega)
    have vl : vp_in (nI (r l)) 24 := vp_in_nI rl (by omega)
    have ne : ∀ {j : Nat}, j < 18 → ax ≠ j → ¬ nI ax = nI j := fun hj z w => z ((nI_eq (by omega) (by omega)).mp w)
    unfold wY_isOn_91
    refine br_f (nI_pos (by omega)) ?_
    by_cases z10 : ax = 10
    · subst z10
      rw [td_on10] at h1 h0
      refine br_t (by decide) ?_
      rcases H7 with ⟨rfl, w⟩ | ⟨rfl, w⟩
      · exact br_f (by decide) (h1 (Or.inl w))
      · refine br_t rfl ?_
        by_cases y : l = i
        · exact br_t (erl.mpr y) (h1 (Or.inr y))
        · exact br_f (fun v => y (erl.mp v)) (h0 (fun v => v.elim w y))
    refine br_f (nI_nlt (a := 9) (b := ax) (by omega) (by omega)) ?_
    by_cases z0' : ax = 0
    · subst z0'
      have on : td_on d 0 i l ↔ l = i := by unfold td_on; simp
      rw [on] at h1 h0
      refine br_t (by decide) ?_
      by_cases y : l = i
      · exact br_t (erl.mpr y) (h1 y)
      · exact br_f (fun v => y (erl.mp v)) (h0 y)
    refine br_f (ne (j := 0) (by omega) z0') ?_
    by_cases z1 : ax = 1
    · subst z1
      rw [td_on1] at h1 h0
      refine br_t (by decide) ?_
      rcases H6 with ⟨rfl, w⟩ | ⟨rfl, w⟩
      · refine br_f (by decide) ⟨vl, vi, ?_⟩
        rw [di, dl, nI_1]
        by_cases y : d l = d i + 1
        · exact br_t (by rw [y]) (h1 (td_AP w y))
        · exact br_f (fun v => y ((nI_eq (by omega) (by omega)).mp v)) (h0 (fun v => y (td_dp T.2.1 hl v)))
      · exact br_t rfl (h0 (fun v => w (td_PA v)))
    refine br_f (ne (j := 1) (by omega) z1) ?_
    by_cases z2 : ax = 2
    · subst z2
      have on : td_on d 2 i l ↔ td_Pa d l i := by unfold td_on; simp
      rw [on] at h1 h0
      refine br_t (by decide) ?_
      by_cases y : nI (r l) = x8
      · exact br_t y (h1 (H8.mp y))
      · exact br_f y (h0 (fun v => y (H8.mpr v)))
    refine br_f (ne (j := 2) (by omega) z2) ?_
    by_cases z3 : ax = 3
    · subst z3
      have on : td_on d 3 i l ↔ td_An d i l := by unfold td_on; simp
      rw [on] at h1 h0
      refine br_t (by decide) ?_
      rcases H6 with ⟨rfl, w⟩ | ⟨rfl, w⟩
      · exact ⟨rfl, h1 w⟩
      · exact ⟨rfl, h0 w⟩
    refine br_f (ne (j := 3) (by omega) z3) ?_
    by_cases z4 : ax = 4
    · subst z4
      have on : td_on d 4 i l ↔ td_An d l i := by unfold td_on; simp
      rw [on] at h1 h0
      refine br_t (by decide) ?_
      rcases H7 with ⟨rfl, w⟩ | ⟨rfl, w⟩
      · exact ⟨rfl, h1 w⟩
      · exact ⟨rfl, h0 w⟩
    refine br_f (ne (j := 4) (by omega) z4) ?_
    by_cases z5 : ax = 5
    · subst z5
      have on : td_on d 5 i l ↔ ((∃ p, td_Pa d p i ∧ td_Pa d p l) ∧ i < l) := by unfold td_on; simp
      rw [on] at h1 h0
      refine br_t (by decide) ?_
      rcases HZ with ⟨rfl, w⟩ | ⟨rfl, w⟩
      · refine br_f (by decide) ?_
        by_cases y : i < l
        · exact br_f (nI_ge y (by omega)) (h1 ⟨w, y⟩)
        · exact br_t (nI_le (by omega) (by omega)) (h0 (fun v => y v.2))
      · exact br_t rfl (h0 (fun v => w v.1))
    refine br_f (ne (j := 5) (by omega) z5) ?_
    by_cases z6 : ax = 6
    · subst z6
      have on : td_on d 6 i l ↔ ((∃ p, td_Pa d p i ∧ td_Pa d p l) ∧ l < i) := by unfold td_on; simp
      rw [on] at h1 h0
      refine br_t (by decide) ?_
      rcases HZ with ⟨rfl, w⟩ | ⟨rfl, w⟩
      · refine br_f (by decide) ?_
        by_cases y : l < i
        · exact br_f (nI_ge y (by omega)) (h1 ⟨w, y⟩)
        · exact br_t (nI_le (by omega) (by omega)) (h0 (fun v => y v.2))
      · exact br_t rfl (h0 (fun v => w v.1))
    refine br_f (ne (j := 6) (by omega) z6) ?_
    by_cases z7 : ax = 7
    · subst z7
      have on : td_on d 7 i l ↔ (i < l ∧ ¬ td_An d i l) := by unfold td_on; simp
      rw [on] at h1 h0
      refine br_t (by decide) ?_
      by_cases y : i < l
      · refine br_f (nI_ge y (by omega)) ?_
        rcases H6 with ⟨rfl, w⟩ | ⟨rfl, w⟩
        · exact br_f (by decide) (h0 (fun v => v.2 w))
        · exact br_t rfl (h1 ⟨y, w⟩)
      · exact br_t (nI_le (by omega) (by omega)) (h0 (fun v => y v.1))
    refine br_f (ne (j := 7) (by omega) z7) ?_
    by_cases z8 : ax = 8
    · subst z8
      have on : td_on d 8 i l ↔ (l < i ∧ ¬ td_An d l i) := by unfold td_on; simp
      rw [on] at h1 h0
      refine br_t (by decide) ?_
      by_cases y : l < i
      · refine br_f (nI_ge y (by omega)) ?_
        rcases H7 with ⟨rfl, w⟩ | ⟨rfl, w⟩
        · exact br_f (by decide) (h0 (fun v => v.2 w))
        · exact br_t rfl (h1 ⟨y, w⟩)
      · exact br_t (nI_le (by omega) (by omega)) (h0 (fun v => y v.1))
    refine br_f (ne (j := 8) (by omega) z8) ?_
    have z9 : ax = 9 := by omega
    subst z9
    rw [td_on9] at h1 h0
    refine br_t (by decide) ?_
    rcases H6 with ⟨rfl, w⟩ | ⟨rfl, w⟩
    · exact br_f (by decide) (h1 (Or.inl w))
    · refine br_t rfl ?_
      by_cases y : l = i
      · exact br_t (erl.mpr y) (h1 (Or.inr y))
      · exact br_f (fun v => y (erl.mp v)) (h0 (fun v => v.elim w y))
  have s62 : ∀ x6 x7 : Int32, (x6 = 1 ∧ td_An d i l ∨ x6 = 0 ∧ ¬ td_An d i l) → (x7 = 1 ∧ td_An d l i ∨ x7 = 0 ∧ ¬ td_An d l i) → wY_isOn_62 post (nI ax) (nI (r i)) (nI (r l)) (nI i) (nI l) x6 x7 f_count f_top f_listed f_outputs a_row a_depth a_name a_value a_moved a_kind a_with a_length a_sets a_fresh a_type a_number a_set a_list a_there a_match a_priority a_out a_on a_todo a_within a_output := by
    intro x6 x7 H6 H7
    unfold wY_isOn_62
    refine wy_parentOf T Y hi (fun p hp => ?_) (fun i0 => ?_)
    · have hpi := hp.1
      have rp := T.2.2.2.1 p (by omega)
      have H8 : nI (r l) = nI (r p) ↔ td_Pa d l i := by
        rw [nI_eq (by omega) (by omega)]
        exact ⟨fun e => by rw [T.2.2.2.2 l p hl (by omega) e]; exact hp, fun e => by rw [td_uq e hp]⟩
      refine br_f (nI_pos (by omega)) (wy_parentOf T Y hl (fun p2 hp2 => ?_) (fun l0 => ?_))
      · have hpl := hp2.1
        have rp2 := T.2.2.2.1 p2 (by omega)
        by_cases y : p = p2
        · exact br_t (by rw [y]) (s91 _ _ _ 1 H6 H7 H8 (Or.inl ⟨rfl, p, hp, by rw [y]; exact hp2⟩))
        · refine br_f (fun w => y ?_) (s91 _ _ _ 0 H6 H7 H8 (Or.inr ⟨rfl, fun ⟨p3, g1, g2⟩ => y (by rw [td_uq hp g1, td_uq hp2 g2])⟩))
          rw [nI_eq (by omega) (by omega)] at w
          exact T.2.2.2.2 p p2 (by omega) (by omega) w
      · exact br_f (tx_m1' (by omega)) (s91 _ _ _ 0 H6 H7 H8 (Or.inr ⟨rfl, fun ⟨p3, g1, g2⟩ => by rw [l0] at g2; exact td_p0 g2⟩))
    · refine br_t tz_m1lt (s91 _ _ _ 0 H6 H7 ⟨fun w => absurd w (tx_m1' (by omega)), fun w => ?_⟩ (Or.inr ⟨rfl, fun ⟨p3, g1, g2⟩ => ?_⟩))
      · rw [i0] at w; exact absurd w td_p0
      · rw [i0] at g1; exact td_p0 g1
  have s37 : ∀ x6 : Int32, (x6 = 1 ∧ td_An d i l ∨ x6 = 0 ∧ ¬ td_An d i l) → wY_isOn_37 post (nI ax) (nI (r i)) (nI (r l)) (nI i) (nI l) x6 f_count f_top f_listed f_outputs a_row a_depth a_name a_value a_moved a_kind a_with a_length a_sets a_fresh a_type a_number a_set a_list a_there a_match a_priority a_out a_on a_todo a_within a_output := by
    intro x6 H6
    unfold wY_isOn_37
    by_cases y : i ≤ l
    · exact br_t (nI_le y (by omega)) (s62 x6 0 H6 (Or.inr ⟨rfl, fun w => by have := w.1; omega⟩))
    · refine br_f (nI_ge (by omega) (by omega)) (wy_behind T Y hl hf ?_)
      by_cases w : f ≤ i
      · exact br_t (nI_le w (by omega)) (s62 x6 0 H6 (Or.inr ⟨rfl, fun v => by rw [A2] at v; omega⟩))
      · exact br_f (nI_ge (by omega) (by omega)) (s62 x6 1 H6 (Or.inl ⟨rfl, A2.mpr ⟨by omega, by omega⟩⟩))
  unfold wpY_isOn
  refine wy_where1 T Y hi (wy_where1 T Y hl ?_)
  by_cases y : l ≤ i
  · exact br_t (nI_le y (by omega)) (s37 0 (Or.inr ⟨rfl, fun w => by have := w.1; omega⟩))
  · refine br_f (nI_ge (by omega) (by omega)) (wy_behind T Y hi he ?_)
    by_cases w : e ≤ l
    · exact br_t (nI_le w (by omega)) (s37 0 (Or.inr ⟨rfl, fun v => by rw [A1] at v; omega⟩))
    · exact br_f (nI_ge (by omega) (by omega)) (s37 1 (Or.inl ⟨rfl, A1.mpr ⟨by omega, by omega⟩⟩))
end
end
section
/-! sifting a list and stepping, by the reference -/
section
variable {f_count f_top f_listed f_outputs : Int32} {a_row a_depth a_name a_value a_moved a_kind a_with a_length a_sets a_fresh a_type a_number a_set a_list a_there a_match a_priority a_out a_on a_todo a_within a_output : Nat → Int32} {c : Nat} {r d : Nat → Nat} {K W E : Nat → Nat} {V : Nat → Int32} {b L : Nat}
theorem wy_sift {post : SY → Prop} {S0 : Nat → Bool} {ax s tt y : Nat} (S : te_Sy K W E V a_kind a_with b L) (T : td_T c r d) (Y : re_YT c r d f_count a_row a_depth) (ey : 40 * s + tt = y) (hb : b ≤ y) (hy : y < L)
    (hl : f_listed = nI (tc_n S0 c)) (hls : tk_Ls (fun i => r (tk_pi c ax i)) S0 a_list 0 c)
    (h : ∀ top ty nb st la, tk_Ls (fun i => r (tk_pi c ax i)) (fun i => S0 i && tk_H c r a_value K E V (fun t n => a_sets (24 * t + n)) y (tk_pi c ax i) (tc_n S0 i + 1) (tc_n S0 c)) la 0 c →
      post (f_count, top, nI (tc_n (fun i => S0 i && tk_H c r a_value K E V (fun t n => a_sets (24 * t + n)) y (tk_pi c ax i) (tc_n S0 i + 1) (tc_n S0 c)) c), f_outputs, a_row, a_depth, a_name, a_value, a_moved, a_kind, a_with, a_length, a_sets, a_fresh, ty, nb, st, la, a_there, a_match, a_priority, a_out, a_on, a_todo, a_within, a_output)) :
    wpY_sift post (f_count, f_top, f_listed, f_outputs, a_row, a_depth, a_name, a_value, a_moved, a_kind, a_with, a_length, a_sets, a_fresh, a_type, a_number, a_set, a_list, a_there, a_match, a_priority, a_out, a_on, a_todo, a_within, a_output) (nI s) (nI tt) := by
  have c24 := T.1
  subst hl
  have hw := S.2.2.2.2
  have L320 := S.1
  have cb : tc_n S0 c ≤ c := tc_le _ _
  obtain ⟨S1, hS1⟩ : ∃ S1 : Nat → Bool, S1 = (fun i => S0 i && tk_H c r a_value K E V (fun t n => a_sets (24 * t + n)) y (tk_pi c ax i) (tc_n S0 i + 1) (tc_n S0 c)) := ⟨_, rfl⟩
  rw [← hS1] at h
  have sub : ∀ j, j < c → S1 j = true → S0 j = true := fun j _ w => by
    rw [hS1] at w
    exact (Bool.and_eq_true _ _ ▸ w : S0 j = true ∧ _).1
  have key : ∀ k i top ty nb st la, i + k = c → tk_Ls (fun i => r (tk_pi c ax i)) S1 la 0 i → tk_Ls (fun i => r (tk_pi c ax i)) S0 la i c →
      wY_sift_13 post (nI s) (nI tt) (nI (tc_n S0 c)) (tc_n S0 c - tc_n S0 i + 1) (nI (tc_n S0 i)) f_count top (nI (tc_n S1 i)) f_outputs a_row a_depth a_name a_value a_moved a_kind a_with a_length a_sets a_fresh ty nb st la a_there a_match a_priority a_out a_on a_todo a_within a_output := by
    intro k
    induction k with
    | zero =>
      intro i top ty nb st la hi g1 g2
      have e : i = c := by omega
      subst e
      rw [Nat.sub_self]
      exact br_t (nI_le (Nat.le_refl _) (by omega)) (h top ty nb st la g1)
    | succ k ih =>
      intro i top ty nb st la hi g1 g2
      cases s0 : S0 i with
      | false =>
        have s1 : S1 i = false := by rw [hS1]; show (S0 i && _) = false; rw [s0]; rfl
        have nx := ih (i + 1) top ty nb st la (by omega) (tk_Ls_f g1 s1) (tk_Ls_n g2)
        rw [tc_ff s0, tc_ff s1] at nx
        exact nx
      | true =>
        have lt := tc_slt s0 (show i < c by omega)
        have m1 : tc_n S1 i ≤ tc_n S0 i := tc_sub (fun j hj => sub j (by omega))
        have ri := tk_o_lt (ax := ax) T i (by omega)
        have e5 : la (nI (tc_n S0 i)).toNatClampNeg = nI (r (tk_pi c ax i)) := by rw [nI_clamp (by omega)]; exact g2 i (Nat.le_refl _) (by omega) s0
        rw [show tc_n S0 c - tc_n S0 i + 1 = tc_n S0 c - (tc_n S0 i + 1) + 1 + 1 by omega]
        have c113 : ∀ (g : Int32) top ty nb st, (g = 1 ∧ S1 i = true ∨ g = 0 ∧ S1 i = false) → wY_sift_113 post (wY_sift_13 post (nI s) (nI tt) (nI (tc_n S0 c)) (tc_n S0 c - (tc_n S0 i + 1) + 1)) (nI s) (nI tt) (nI (tc_n S0 c)) (nI (tc_n S0 i)) (nI (r (tk_pi c ax i))) g f_count top (nI (tc_n S1 i)) f_outputs a_row a_depth a_name a_value a_moved a_kind a_with a_length a_sets a_fresh ty nb st la a_there a_match a_priority a_out a_on a_todo a_within a_output := by
          intro g top ty nb st hg
          unfold wY_sift_113
          rcases hg with ⟨rfl, w⟩ | ⟨rfl, w⟩
          · refine br_f (by decide) (nm_r (nI_1 _) ⟨vp_in_nI (by omega) (by omega), nm_r (e' := upd la (tc_n S1 i) (nI (r (tk_pi c ax i)))) (by rw [nI_clamp (by omega)]) (nm_r (nI_1 _) ?_)⟩)
            have nx := ih (i + 1) top ty nb st _ (by omega) (tk_Ls_t g1) (tk_Ls_k (T := S1) g2 s0 sub (by omega))
            rw [tc_t s0, tc_t w] at nx
            exact nx
          · refine br_t rfl (nm_r (nI_1 _) ?_)
            have nx := ih (i + 1) top ty nb st la (by omega) (tk_Ls_f g1 w) (tk_Ls_n g2)
            rw [tc_t s0, tc_ff w] at nx
            exact nx
        refine br_f (nI_ge lt (by omega)) ⟨vp_in_nI (by omega) (by omega), nm_r (e' := nI (r (tk_pi c ax i))) e5 ?_⟩
        rw [nI_1]
        refine wy_work S T Y ey hb hy ri (fun top' ty' st' nb' En => ?_)
        have ev := tn_nv_eq (c := c) (r := r) (val := a_value) (V := V) (σ := fun j => a_sets (24 * j + r (tk_pi c ax i))) (pos := nI (tc_n S0 i + 1)) (last := nI (tc_n S0 c)) hw (by omega) y hb hy
        have iff : S1 i = true ↔ tn_hold (K y) (a_sets (24 * y + r (tk_pi c ax i))) (tn_nv c r a_value K E V (fun j => a_sets (24 * j + r (tk_pi c ax i))) (nI (tc_n S0 i + 1)) (nI (tc_n S0 c)) y) (nI (tc_n S0 i + 1)) := by
          rw [hS1]
          show (S0 i && tk_H c r a_value K E V (fun t n => a_sets (24 * t + n)) y (tk_pi c ax i) (tc_n S0 i + 1) (tc_n S0 c)) = true ↔ _
          rw [s0, Bool.true_and]
          unfold tk_H
          rw [tk_d_t]
        generalize hη : tn_nv c r a_value K E V (fun j => a_sets (24 * j + r (tk_pi c ax i))) (nI (tc_n S0 i + 1)) (nI (tc_n S0 c)) = η at En ev iff
        obtain ⟨n1, n2, n3⟩ := En
        unfold tn_hold at iff
        dsimp only
        rw [n1, n2, n3]
        by_cases k4 : K y < 4
        · rw [if_pos k4] at iff
          rw [if_pos k4]
          refine br_t (te_ty_e.mpr k4) ?_
          by_cases w : a_sets (24 * y + r (tk_pi c ax i)) = 0
          · exact br_t w (c113 0 _ _ _ _ (Or.inr ⟨rfl, tz_nb (fun v => iff.mp v w)⟩))
          · exact br_f w (c113 1 _ _ _ _ (Or.inl ⟨rfl, iff.mpr w⟩))
        · rw [if_neg k4] at iff
          refine br_f (fun w => k4 (te_ty_e.mp w)) ?_
          by_cases k13 : K y < 13
          · rw [if_pos k13] at iff
            refine br_t (by rw [show te_ty (K y) = 1 by unfold te_ty; rw [if_neg k4, if_pos k13]]; rfl) ?_
            by_cases w : η y = nI (tc_n S0 i + 1)
            · exact br_t w (c113 1 _ _ _ _ (Or.inl ⟨rfl, iff.mpr w⟩))
            · exact br_f w (c113 0 _ _ _ _ (Or.inr ⟨rfl, tz_nb (fun v => w (iff.mp v))⟩))
          · rw [if_neg k13] at iff
            refine br_f (by rw [show te_ty (K y) = 2 by unfold te_ty; rw [if_neg k4, if_neg k13]]; decide) ?_
            have o1 := tn_01 (c := c) (r := r) (val := a_value) (pos := nI (tc_n S0 i + 1)) (last := nI (tc_n S0 c)) (k := K y) (v := V y) (ka := K (y + 1)) (xa := a_sets (24 * (y + 1) + r (tk_pi c ax i))) (na := η (y + 1)) (kb := K (E (y + 1))) (xb := a_sets (24 * E (y + 1) + r (tk_pi c ax i))) (nb := η (E (y + 1))) (by omega)
            rw [← ev] at o1
            rcases o1 with w | w
            · exact br_f (by rw [w]; decide) (c113 0 _ _ _ _ (Or.inr ⟨rfl, tz_nb (fun v => iff.mp v w)⟩))
            · exact br_t w (c113 1 _ _ _ _ (Or.inl ⟨rfl, iff.mpr (by rw [w]; decide)⟩))
  unfold wpY_sift
  have k0 := key c 0 f_top a_type a_number a_set a_list (by omega) (fun j a b' => by omega) hls
  exact ⟨_, k0⟩
theorem wy_all {post : Int32 → SY → Prop} {o : Nat → Nat} {S0 : Nat → Bool} (hc : c ≤ 24) (ho : ∀ i, i < c → o i < 24) (hl : f_listed = nI (tc_n S0 c)) (hls : tk_Ls o S0 a_list 0 c) (h : ∀ x, tk_Mi o S0 c x → post x (f_count, f_top, f_listed, f_outputs, a_row, a_depth, a_name, a_value, a_moved, a_kind, a_with, a_length, a_sets, a_fresh, a_type, a_number, a_set, a_list, a_there, a_match, a_priority, a_out, a_on, a_todo, a_within, a_output)) :
    ∃ n, wY_step_209 post f_count f_top f_listed f_outputs a_row a_depth a_name a_value a_moved a_kind a_with a_length a_sets a_fresh a_type a_number a_set a_list a_there a_match a_priority a_out a_on a_todo a_within a_output n 0 0 := by
  subst hl
  have cb : tc_n S0 c ≤ c := tc_le _ _
  have key : ∀ k i x, i + k = c → tk_Mi o S0 i x → wY_step_209 post f_count f_top (nI (tc_n S0 c)) f_outputs a_row a_depth a_name a_value a_moved a_kind a_with a_length a_sets a_fresh a_type a_number a_set a_list a_there a_match a_priority a_out a_on a_todo a_within a_output (tc_n S0 c - tc_n S0 i + 1) x (nI (tc_n S0 i)) := by
    intro k
    induction k with
    | zero =>
      intro i x hi hx
      have e : i = c := by omega
      subst e
      rw [Nat.sub_self]
      exact br_t (nI_le (Nat.le_refl _) (by omega)) (h x hx)
    | succ k ih =>
      intro i x hi hx
      cases s0 : S0 i with
      | false =>
        have nx := ih (i + 1) x (by omega) (tk_Mi_f hx s0)
        rw [tc_ff s0] at nx
        exact nx
      | true =>
        have lt := tc_slt s0 (show i < c by omega)
        rw [show tc_n S0 c - tc_n S0 i + 1 = tc_n S0 c - (tc_n S0 i + 1) + 1 + 1 by omega]
        have nx := ih (i + 1) _ (by omega) (tk_Mi_t hx (ho i (by omega)) s0)
        rw [tc_t s0] at nx
        refine br_f (nI_ge lt (by omega)) ⟨vp_in_nI (by omega) (by omega), nm_r ?_ (nm_r (nI_1 _) nx)⟩
        rw [nI_clamp (by omega), hls i (by omega) (by omega) s0]
  exact ⟨_, key c 0 0 (by omega) tk_Mi_0⟩
theorem wy_step {post : Int32 → SY → Prop} {s tt t m : Nat} (S : te_Sy K W E V a_kind a_with b L) (T : td_T c r d) (Y : re_YT c r d f_count a_row a_depth) (et : 40 * s + tt = t) (hs40 : 40 * s = b) (hb : b ≤ t) (ht : t < L) (hm : m < c) (h2 : K t = 2) (hax : W t % 16 ≤ 10)
    (h : ∀ x top li ty nb st la, tk_Mi (fun i => r (tk_pi c (W t % 16) i)) (tk_S c r d a_name a_value K W E V (fun t n => a_sets (24 * t + n)) t m (W t / 128)) c x →
      post x (f_count, top, li, f_outputs, a_row, a_depth, a_name, a_value, a_moved, a_kind, a_with, a_length, a_sets, a_fresh, ty, nb, st, la, a_there, a_match, a_priority, a_out, a_on, a_todo, a_within, a_output)) : wpY_step post (f_count, f_top, f_listed, f_outputs, a_row, a_depth, a_name, a_value, a_moved, a_kind, a_with, a_length, a_sets, a_fresh, a_type, a_number, a_set, a_list, a_there, a_match, a_priority, a_out, a_on, a_todo, a_within, a_output) (nI s) (nI tt) (nI (r m)) := by
  have c24 := T.1
  have S' := S
  obtain ⟨l1, l2, D, hV, hw⟩ := S
  obtain ⟨d1, d2, d3⟩ := D t hb ht
  obtain ⟨d4, d5⟩ := d3 h2
  have ot := te_o_st (w := W t) h2
  have o0 := te_op hw hb ht (t := 0) (by omega)
  have t1 : t + 1 < L := o0.2.1
  have e40 : (40 : Int32) * nI s + nI tt = nI t := by rw [show (40 : Int32) = nI 40 from rfl, pk_mul, nI_add, et]
  have rm := T.2.2.2.1 m hm
  have a1 : nI (W t) &&& 15 = nI (W t % 16) := pk_andN (by omega) 4 (by decide)
  have a2 : (nI (W t) >>> ((4 : Int32) &&& 31)) &&& 7 = nI (W t / 16 % 8) := by
    rw [pk_shrN (by omega) _ 4 (by decide)]
    exact pk_andN (by omega) 3 (by decide)
  have a3 : nI (W t) >>> ((7 : Int32) &&& 31) = nI (W t / 128) := pk_shrN (by omega) _ 7 (by decide)
  have chE : ∀ j, j < 1 + W t / 128 → te_ch E (t + 1) j < L ∧ t < te_ch E (t + 1) j := fun j hj => by
    have o := te_op hw hb ht (t := j) (by omega)
    exact ⟨o.2.1, o.1⟩
  -- the tests
  have tests : ∀ u j top li ty nb st la, j + u = W t / 128 → li = nI (tc_n (tk_S c r d a_name a_value K W E V (fun t n => a_sets (24 * t + n)) t m j) c) → tk_Ls (fun i => r (tk_pi c (W t % 16) i)) (tk_S c r d a_name a_value K W E V (fun t n => a_sets (24 * t + n)) t m j) la 0 c →
      wY_step_167 post (nI s) (nI (W t)) (u + 1) (nI (te_ch E (t + 1) (j + 1))) (nI j) f_count top li f_outputs a_row a_depth a_name a_value a_moved a_kind a_with a_length a_sets a_fresh ty nb st la a_there a_match a_priority a_out a_on a_todo a_within a_output := by
    intro u
    induction u with
    | zero =>
      intro j top li ty nb st la hj hli hla
      have e : j = W t / 128 := by omega
      rw [e] at hli hla
      refine br_t (by rw [a3]; exact nI_le (by omega) (by omega)) (wy_all c24 (tk_o_lt T) hli hla (fun x hx => h x top li ty nb st la hx))
    | succ u iu =>
      intro j top li ty nb st la hj hli hla
      obtain ⟨y1, y2⟩ := chE (j + 1) (by omega)
      have esub : nI (te_ch E (t + 1) (j + 1)) - (40 : Int32) * nI s = nI (te_ch E (t + 1) (j + 1) - b) := by
        rw [show (40 : Int32) = nI 40 from rfl, pk_mul, hs40, pk_sub (by omega)]
      refine br_f (by rw [a3]; exact nI_ge (by omega) (by omega)) ?_
      rw [esub]
      refine wy_sift (y := te_ch E (t + 1) (j + 1)) (S0 := tk_S c r d a_name a_value K W E V (fun t n => a_sets (24 * t + n)) t m j) (ax := W t % 16) S' T Y (by omega) (by omega) y1 hli hla (fun top' ty' nb' st' la' hla' => wy_endOf S' (by omega) y1 (nm_r (nI_1 j) (iu (j + 1) top' _ ty' nb' st' la' (by omega) rfl hla')))
  -- the list
  have ne : ∀ {j k : Nat}, j < 18 → k < 18 → k ≠ j → ¬ nI k = nI j := fun hj hk z w => z ((nI_eq (by omega) (by omega)).mp w)
  have lst : ∀ z0 : Int32, (z0 = 0 ∧ ¬ (0 < W t % 16 ∧ W t % 16 % 2 = 0) ∨ z0 = 1 ∧ (0 < W t % 16 ∧ W t % 16 % 2 = 0)) → ∀ k i la, i + k = c → tk_Ls (fun i => r (tk_pi c (W t % 16) i)) (tk_S c r d a_name a_value K W E V (fun t n => a_sets (24 * t + n)) t m 0) la 0 i →
      wY_step_56 post (nI s) (nI tt) (nI (r m)) (nI (W t)) (nI (W t % 16)) z0 (nI (W t / 16 % 8)) f_count f_top f_outputs (k + 1) (nI i) (nI (tc_n (tk_S c r d a_name a_value K W E V (fun t n => a_sets (24 * t + n)) t m 0) i)) a_row a_depth a_name a_value a_moved a_kind a_with a_length a_sets a_fresh a_type a_number a_set la a_there a_match a_priority a_out a_on a_todo a_within a_output := by
    intro z0 hz k
    induction k with
    | zero =>
      intro i la hi hla
      have e : i = c := by omega
      subst e
      refine br_t (by rw [Y.1]; exact nI_le (Nat.le_refl _) (by omega)) ?_
      rw [e40, nI_1]
      exact wy_endOf S' (by omega) t1 ⟨W t / 128 + 1, tests (W t / 128) 0 f_top _ a_type a_number a_set la (by omega) rfl hla⟩
    | succ k ih =>
      intro i la hi hla
      have pl := tk_pi_lt (ax := W t % 16) (show i < c by omega)
      have ri := tk_o_lt (ax := W t % 16) T i (by omega)
      have ib : tc_n (tk_S c r d a_name a_value K W E V (fun t n => a_sets (24 * t + n)) t m 0) i ≤ i := tc_le _ _
      have nxf : ¬ (td_on d (W t % 16) m (tk_pi c (W t % 16) i) ∧ (W t / 16 % 8 = 6 ∨ a_name (r (tk_pi c (W t % 16) i)) = nI (W t / 16 % 8))) → wY_step_56 post (nI s) (nI tt) (nI (r m)) (nI (W t)) (nI (W t % 16)) z0 (nI (W t / 16 % 8)) f_count f_top f_outputs (k + 1) (nI (i + 1)) (nI (tc_n (tk_S c r d a_name a_value K W E V (fun t n => a_sets (24 * t + n)) t m 0) i)) a_row a_depth a_name a_value a_moved a_kind a_with a_length a_sets a_fresh a_type a_number a_set la a_there a_match a_priority a_out a_on a_todo a_within a_output := fun w => by
        have s1 : tk_S c r d a_name a_value K W E V (fun t n => a_sets (24 * t + n)) t m 0 i = false := tk_d_f.mpr w
        have nx := ih (i + 1) la (by omega) (tk_Ls_f hla s1)
        rw [tc_ff s1] at nx
        exact nx
      have yes : (td_on d (W t % 16) m (tk_pi c (W t % 16) i) ∧ (W t / 16 % 8 = 6 ∨ a_name (r (tk_pi c (W t % 16) i)) = nI (W t / 16 % 8))) → wY_step_126 post (wY_step_56 post (nI s) (nI tt) (nI (r m)) (nI (W t)) (nI (W t % 16)) z0 (nI (W t / 16 % 8)) f_count f_top f_outputs (k + 1)) (nI s) (nI tt) (nI (r m)) (nI (W t)) (nI (W t % 16)) z0 (nI (W t / 16 % 8)) (nI i) (nI (r (tk_pi c (W t % 16) i))) f_count f_top (nI (tc_n (tk_S c r d a_name a_value K W E V (fun t n => a_sets (24 * t + n)) t m 0) i)) f_outputs a_row a_depth a_name a_value a_moved a_kind a_with a_length a_sets a_fresh a_type a_number a_set la a_there a_match a_priority a_out a_on a_todo a_within a_output := fun w => by
        have s1 : tk_S c r d a_name a_value K W E V (fun t n => a_sets (24 * t + n)) t m 0 i = true := tk_d_t.mpr w
        have nx := ih (i + 1) _ (by omega) (tk_Ls_t hla)
        rw [tc_t s1] at nx
        unfold wY_step_126
        exact nm_r (nI_1 _) ⟨vp_in_nI (by omega) (by omega), nm_r (by rw [nI_clamp (by omega)]) (nm_r (nI_1 i) nx)⟩
      have s88 : ∀ ix : Int32, ix = nI (tk_pi c (W t % 16) i) → wY_step_88 post (wY_step_56 post (nI s) (nI tt) (nI (r m)) (nI (W t)) (nI (W t % 16)) z0 (nI (W t / 16 % 8)) f_count f_top f_outputs (k + 1)) (nI s) (nI tt) (nI (r m)) (nI (W t)) (nI (W t % 16)) z0 (nI (W t / 16 % 8)) (nI i) ix f_count f_top (nI (tc_n (tk_S c r d a_name a_value K W E V (fun t n => a_sets (24 * t + n)) t m 0) i)) f_outputs a_row a_depth a_name a_value a_moved a_kind a_with a_length a_sets a_fresh a_type a_number a_set la a_there a_match a_priority a_out a_on a_todo a_within a_output := by
        intro ix eix
        subst eix
        unfold wY_step_88
        refine ⟨vp_in_nI (by omega) (by omega), nm_r (e' := nI (r (tk_pi c (W t % 16) i))) (by rw [nI_clamp (by omega)]; exact Y.2.1 _ pl) (wy_isOn T Y hm pl (by omega) (fun on => br_f (by decide) ?_) (fun on => br_t rfl (nm_r (nI_1 i) (nxf (fun w => on w.1)))))⟩
        by_cases z6 : W t / 16 % 8 = 6
        · exact br_t (by rw [z6]; rfl) (yes ⟨on, Or.inl z6⟩)
        · refine br_f (ne (j := 6) (by omega) (by omega) z6) ⟨vp_in_nI ri (by omega), ?_⟩
          rw [nI_clamp (n := r (tk_pi c (W t % 16) i)) (by omega)]
          by_cases w : a_name (r (tk_pi c (W t % 16) i)) = nI (W t / 16 % 8)
          · exact br_t w (yes ⟨on, Or.inr w⟩)
          · exact br_f w (nm_r (nI_1 i) (nxf (fun v => v.2.elim z6 w)))
      refine br_f (by rw [Y.1]; exact nI_ge (by omega) (by omega)) ?_
      rcases hz with ⟨z, hz⟩ | ⟨z, hz⟩
      · exact br_t z (s88 _ (by unfold tk_pi; rw [if_neg hz]))
      · refine br_f (by rw [z]; decide) (s88 _ ?_)
        unfold tk_pi
        rw [if_pos hz, Y.1, show nI c - 1 = nI (c - 1) from pk_sub (a := c) (b := 1) (by omega), pk_sub (by omega)]
  have s37 : ∀ z0 : Int32, (z0 = 0 ∧ ¬ (0 < W t % 16 ∧ W t % 16 % 2 = 0) ∨ z0 = 1 ∧ (0 < W t % 16 ∧ W t % 16 % 2 = 0)) → wY_step_37 post (nI s) (nI tt) (nI (r m)) (nI (W t)) (nI (W t % 16)) z0 f_count f_top f_listed f_outputs a_row a_depth a_name a_value a_moved a_kind a_with a_length a_sets a_fresh a_type a_number a_set a_list a_there a_match a_priority a_out a_on a_todo a_within a_output := by
    intro z0 hz
    unfold wY_step_37
    exact nm_r a2 ⟨c + 1, lst z0 hz c 0 a_list (by omega) (fun j a b' => by omega)⟩
  unfold wpY_step
  refine ⟨by rw [e40]; exact vp_in_nI (by omega) (by omega), nm_r (e' := nI (W t)) (by rw [e40, nI_clamp (by omega)]; exact d4) (nm_r a1 ?_)⟩
  by_cases z : W t % 16 = 0
  · exact br_t (by rw [z]; decide) (s37 0 (Or.inl ⟨rfl, by omega⟩))
  · refine br_f (nI_nle (by omega) (by omega)) ⟨by decide, ?_⟩
    rw [show nI (W t % 16) - nI (W t % 16) / 2 * 2 = nI (W t % 16 % 2) from pk_rem (a := W t % 16) (d := 2) (by omega) (by omega) (by omega)]
    by_cases w : W t % 16 % 2 = 0
    · exact br_t (by rw [w]; rfl) (s37 1 (Or.inr ⟨rfl, by omega, w⟩))
    · exact br_f (ne (j := 0) (by omega) (by omega) w) (s37 0 (Or.inl ⟨rfl, by omega⟩))
end
end
section
/-! all sets of a slot, by the reference -/
section
variable {c : Nat} {r d : Nat → Nat} {nm val : Nat → Int32} {K W E : Nat → Nat} {V : Nat → Int32} {b L : Nat}
theorem tk_fillS {t : Nat} {σ σ' : Nat → Nat → Int32} (hw : te_Ws K W E b L) (hL : L ≤ 320) (hb : b ≤ t) (ht : t < L) (Q : tk_Eq c r d nm val K W E V (t + 1) L σ) (same : ∀ j, t < j → j < L → ∀ m, m < c → σ' j (r m) = σ j (r m))
    (g2 : K t < 4 → ∀ m, m < c → mk_24 (σ' t (r m)) ∧ ∀ q, q < 24 → (bt (σ' t (r m)) q = true ↔ tk_M c r d nm val K W E V σ t m q)) : tk_Eq c r d nm val K W E V t L σ' := by
  intro i h1 h2
  by_cases z : i = t
  · subst z
    intro h4 m hm
    obtain ⟨x1, x2⟩ := g2 h4 m hm
    exact ⟨x1, fun q hq => (x2 q hq).trans (tk_M_c hw (by omega) hb ht h4 hm (fun j a b' _ m hm => (same j a b' m hm).symm))⟩
  · exact tk_Q_c hw (by omega) (by omega) h2 (fun j a b' _ m hm => (same j (by omega) b' m hm).symm) (Q i (by omega) h2)
end
section
variable {f_count f_top f_listed f_outputs : Int32} {a_row a_depth a_name a_value a_moved a_kind a_with a_length a_sets a_fresh a_type a_number a_set a_list a_there a_match a_priority a_out a_on a_todo a_within a_output : Nat → Int32} {c : Nat} {r d : Nat → Nat} {K W E : Nat → Nat} {V : Nat → Int32} {b L : Nat}
theorem ty_ix {t n : Nat} : nI (24 * t) + nI n = nI (24 * t + n) := nI_add _ _
theorem ty_ix24 {t n : Nat} : nI (24 * t) + 24 + nI n = nI (24 * (t + 1) + n) := by
  rw [show (24 : Int32) = nI 24 from rfl, nI_add, nI_add]
  exact congrArg nI (by omega)
def ty_Out (A B : Nat → Int32) (t : Nat) : Prop := ∀ j, (j < 24 * t ∨ 24 * (t + 1) ≤ j) → B j = A j
theorem wy_ptok {post : SY → Prop} {J : Int32 → Int32 → Int32 → Int32 → Int32 → (Nat → Int32) → (Nat → Int32) → (Nat → Int32) → (Nat → Int32) → (Nat → Int32) → (Nat → Int32) → (Nat → Int32) → (Nat → Int32) → (Nat → Int32) → (Nat → Int32) → (Nat → Int32) → (Nat → Int32) → (Nat → Int32) → (Nat → Int32) → (Nat → Int32) → (Nat → Int32) → (Nat → Int32) → (Nat → Int32) → (Nat → Int32) → (Nat → Int32) → (Nat → Int32) → (Nat → Int32) → Prop} {s tt t : Nat}
    (S : te_Sy K W E V a_kind a_with b L) (T : td_T c r d) (Y : re_YT c r d f_count a_row a_depth) (c0 : 0 < c) (et : 40 * s + tt = t) (hs40 : 40 * s = b) (hb : b ≤ t) (ht : t < L) (h4 : K t < 4) (hax : K t = 2 → W t % 16 ≤ 10)
    (Q : tk_Eq c r d a_name a_value K W E V (t + 1) L (fun t n => a_sets (24 * t + n)))
    (h : ∀ B top li ty nb st la, ty_Out a_sets B t → (∀ m, m < c → mk_24 (B (24 * t + r m)) ∧ ∀ q, q < 24 → (bt (B (24 * t + r m)) q = true ↔ tk_M c r d a_name a_value K W E V (fun t n => a_sets (24 * t + n)) t m q)) →
      J (nI tt + (-1)) f_count top li f_outputs a_row a_depth a_name a_value a_moved a_kind a_with a_length B a_fresh ty nb st la a_there a_match a_priority a_out a_on a_todo a_within a_output) :
    ∃ n64, wY_prepare_64 post J (nI s) (nI tt) (nI (K t)) (nI (24 * t)) f_count f_top f_listed f_outputs n64 0 a_row a_depth a_name a_value a_moved a_kind a_with a_length a_sets a_fresh a_type a_number a_set a_list a_there a_match a_priority a_out a_on a_todo a_within a_output := by
  have c24 := T.1
  have S' := S
  obtain ⟨l1, l2, D, hV, hw⟩ := S
  have ne : ∀ {j : Nat}, j < 18 → K t ≠ j → ¬ nI (K t) = nI j := fun hj z w => z ((nI_eq (by omega) (by omega)).mp w)
  have e41 : (40 : Int32) * nI s + nI tt + 1 = nI (t + 1) := by rw [show (40 : Int32) = nI 40 from rfl, pk_mul, nI_add, et, nI_1]
  -- no step: the end
  have e190 : K t ≠ 2 → ∀ B, ty_Out a_sets B t → (∀ m, m < c → mk_24 (B (24 * t + r m)) ∧ ∀ q, q < 24 → (bt (B (24 * t + r m)) q = true ↔ tk_M c r d a_name a_value K W E V (fun t n => a_sets (24 * t + n)) t m q)) →
      ∃ n190, wY_prepare_190 post J (nI s) (nI tt) (nI (K t)) (nI (24 * t)) n190 0 f_count f_top f_listed f_outputs a_row a_depth a_name a_value a_moved a_kind a_with a_length B a_fresh a_type a_number a_set a_list a_there a_match a_priority a_out a_on a_todo a_within a_output := fun z B g1 g2 =>
    ⟨1, br_f (by rw [Y.1]; exact nI_nle c0 (by omega)) (br_f (ne (j := 2) (by omega) z) (nm_e (h B f_top f_listed a_type a_number a_set a_list g1 g2)))⟩
  -- the step's loop
  have s190 : K t = 2 → ∀ k m B top li ty nb st la, m + k = c → ty_Out a_sets B t →
      (∀ n, n < 24 → mk_24 (B (24 * t + n)) ∧ ∀ q, q < 24 → (bt (B (24 * t + n)) q = true ↔ ∃ m', m' < m ∧ bt (a_sets (24 * (t + 1) + n)) (r m') = true ∧ ∃ i, i < c ∧ r (tk_pi c (W t % 16) i) = q ∧ tk_S c r d a_name a_value K W E V (fun t n => a_sets (24 * t + n)) t m' (W t / 128) i = true)) →
      wY_prepare_190 post J (nI s) (nI tt) (nI (K t)) (nI (24 * t)) (k + 1) (nI m) f_count top li f_outputs a_row a_depth a_name a_value a_moved a_kind a_with a_length B a_fresh ty nb st la a_there a_match a_priority a_out a_on a_todo a_within a_output := by
    intro z2 k
    have t1 : t + 1 < L := (te_op hw hb ht (t := 0) (by rw [te_o_st z2]; omega)).2.1
    induction k with
    | zero =>
      intro m B top li ty nb st la hm g1 g2
      have e : m = c := by omega
      subst e
      refine br_t (by rw [Y.1]; exact nI_le (Nat.le_refl _) (by omega)) (nm_e (h B top li ty nb st la g1 (fun l hl => ?_)))
      obtain ⟨w1, w2⟩ := g2 (r l) (T.2.2.2.1 l hl)
      refine ⟨w1, fun q hq => ?_⟩
      rw [w2 q hq]
      unfold tk_M
      rw [if_neg (by omega), if_neg (by omega), if_neg (by omega)]
    | succ k ih =>
      intro m B top li ty nb st la hm g1 g2
      have rm := T.2.2.2.1 m (by omega)
      refine br_f (by rw [Y.1]; exact nI_ge (by omega) (by omega)) (br_t (by rw [z2]; rfl) ⟨vp_in_nI (by omega) (by omega), nm_r (e' := nI (r m)) (by rw [nI_clamp (by omega)]; exact Y.2.1 m (by omega)) (wy_step (m := m) S' T Y et hs40 hb ht (by omega) z2 (hax z2) (fun x top' li' ty' nb' st' la' hx => ⟨25, ?_⟩))⟩)
      have sc : ∀ i, i < c → tk_S c r d a_name a_value K W E V (fun t n => B (24 * t + n)) t m (W t / 128) i = tk_S c r d a_name a_value K W E V (fun t n => a_sets (24 * t + n)) t m (W t / 128) i :=
        tk_S_c hw (by omega) hb ht z2 (fun j a b' _ l hl => g1 (24 * j + r l) (Or.inr (by omega))) (W t / 128) (Nat.le_refl _)
      have hx' := tk_Mi_c hx sc
      have from' : ∀ n, n < 24 → ∀ B' : Nat → Int32, ty_Out a_sets B' t → B' (24 * (t + 1) + n) = a_sets (24 * (t + 1) + n) := fun n hn B' g => g _ (Or.inr (by omega))
      have inner : ∀ u i B', i + u = 24 → ty_Out a_sets B' t →
          (∀ n, n < i → mk_24 (B' (24 * t + n)) ∧ ∀ q, q < 24 → (bt (B' (24 * t + n)) q = true ↔ ∃ m', m' < m + 1 ∧ bt (a_sets (24 * (t + 1) + n)) (r m') = true ∧ ∃ i, i < c ∧ r (tk_pi c (W t % 16) i) = q ∧ tk_S c r d a_name a_value K W E V (fun t n => a_sets (24 * t + n)) t m' (W t / 128) i = true)) →
          (∀ n, i ≤ n → n < 24 → B' (24 * t + n) = B (24 * t + n)) →
          wY_prepare_226 post J (wY_prepare_190 post J (nI s) (nI tt) (nI (K t)) (nI (24 * t)) (k + 1)) (nI s) (nI tt) (nI (K t)) (nI (24 * t)) (nI m) (nI (r m)) x f_count top' li' f_outputs (u + 1) (nI i) a_row a_depth a_name a_value a_moved a_kind a_with a_length B' a_fresh ty' nb' st' la' a_there a_match a_priority a_out a_on a_todo a_within a_output := by
        intro u
        induction u with
        | zero =>
          intro i B' hi q1 q2 q3
          have e : i = 24 := by omega
          subst e
          exact br_t (nI_le (a := 24) (b := 24) (by omega) (by omega)) (nm_r (nI_1 m) (ih (m + 1) B' top' li' ty' nb' st' la' (by omega) q1 q2))
        | succ u iu =>
          intro i B' hi q1 q2 q3
          have fi := from' i (by omega) B' q1
          obtain ⟨w1, w2⟩ := g2 i (by omega)
          have bi := q3 i (Nat.le_refl _) (by omega)
          have ei1 : (nI (24 * t) + 24 + nI i).toNatClampNeg = 24 * (t + 1) + i := by rw [ty_ix24]; exact nI_clamp (by omega)
          refine br_f (nI_ge (a := i) (b := 24) (by omega) (by omega)) ⟨by rw [ty_ix24]; exact vp_in_nI (by omega) (by omega), ?_⟩
          rw [ei1, fi]
          by_cases z : bt (a_sets (24 * (t + 1) + i)) (r m) = true
          · refine br_t ((mk_t (by omega)).mpr z) ⟨by rw [ty_ix]; exact vp_in_nI (by omega) (by omega), by rw [ty_ix]; exact vp_in_nI (by omega) (by omega), nm_r (e' := upd B' (24 * t + i) (B (24 * t + i) ||| x)) (by rw [ty_ix, nI_clamp (by omega), bi]) (nm_r (nI_1 i) (iu (i + 1) _ (by omega) (fun j hj => ?_) (fun n hn => ?_) (fun n a b' => ?_)))⟩
            · rw [pk_un (by omega)]; exact q1 j hj
            · by_cases y : n = i
              · subst y
                rw [pk_us]
                refine ⟨mk_24_or w1 hx'.1, fun q hq => ?_⟩
                rw [b_or, Bool.or_eq_true, w2 q hq, hx'.2 q hq]
                constructor
                · rintro (⟨m', v1, v2⟩ | v)
                  · exact ⟨m', by omega, v2⟩
                  · exact ⟨m, by omega, z, v⟩
                · rintro ⟨m', v1, v2, v3⟩
                  by_cases e : m' = m
                  · subst e; exact Or.inr v3
                  · exact Or.inl ⟨m', by omega, v2, v3⟩
              · rw [pk_un (by omega)]; exact q2 n (by omega)
            · rw [pk_un (by omega)]; exact q3 n (by omega) b'
          · refine br_f (fun w => z ((mk_t (by omega)).mp w)) (nm_r (nI_1 i) (iu (i + 1) _ (by omega) q1 (fun n hn => ?_) (fun n a b' => q3 n (by omega) b')))
            by_cases y : n = i
            · subst y
              rw [bi]
              refine ⟨w1, fun q hq => ?_⟩
              rw [w2 q hq]
              constructor
              · rintro ⟨m', v1, v2⟩
                exact ⟨m', by omega, v2⟩
              · rintro ⟨m', v1, v2, v3⟩
                by_cases e : m' = m
                · subst e; exact absurd v2 z
                · exact ⟨m', by omega, v2, v3⟩
            · exact q2 n (by omega)
      exact inner 24 0 B rfl g1 (fun n hn => by omega) (fun n _ _ => rfl)
  -- the union's loop
  have u137 : K t = 3 → ∀ B0, ty_Out a_sets B0 t → ∀ u i B, i + u = 24 → ty_Out a_sets B t → (∀ n, n < i → B (24 * t + n) = a_sets (24 * (t + 1) + n) ||| a_sets (24 * E (t + 1) + n)) →
      wY_prepare_137 post J (nI s) (nI tt) (nI (K t)) (nI (24 * t)) (nI (E (t + 1))) f_count f_top f_listed f_outputs (u + 1) (nI i) a_row a_depth a_name a_value a_moved a_kind a_with a_length B a_fresh a_type a_number a_set a_list a_there a_match a_priority a_out a_on a_todo a_within a_output := by
    intro z3 B0 _ u
    have s2 := te_two hw hb ht (te_o_un z3)
    have o0 := te_op hw hb ht (t := 0) (by rw [te_o_un z3]; omega)
    have o1 := te_op hw hb ht (t := 1) (by rw [te_o_un z3]; omega)
    have l0 : ∀ t', te_lo (K t) t' = 0 := fun t' => te_lo0 (by omega) (by omega)
    rw [l0] at o0 o1
    induction u with
    | zero =>
      intro i B hi g1 g2
      refine br_t (nI_le (a := 24) (b := i) (by omega) (by omega)) (e190 (by omega) B g1 (fun m hm => ?_))
      have q1 := (Q (t + 1) (Nat.le_refl _) s2.1 (te_ty_0.mp o0.2.2) m hm).1
      have q2 := (Q (E (t + 1)) (by omega) s2.2.2.1 (te_ty_0.mp o1.2.2) m hm).1
      rw [g2 (r m) (by have := T.2.2.2.1 m hm; omega)]
      refine ⟨mk_24_or q1 q2, fun q hq => ?_⟩
      rw [b_or, Bool.or_eq_true]
      unfold tk_M
      rw [if_neg (by omega), if_neg (by omega), if_pos z3]
    | succ u iu =>
      intro i B hi g1 g2
      have e2 : (24 : Int32) * nI (E (t + 1)) + nI i = nI (24 * E (t + 1) + i) := by rw [show (24 : Int32) = nI 24 from rfl, pk_mul, nI_add]
      refine br_f (nI_ge (a := i) (b := 24) (by omega) (by omega)) ⟨by rw [ty_ix24]; exact vp_in_nI (by omega) (by omega), by rw [e2]; exact vp_in_nI (by omega) (by omega), by rw [ty_ix]; exact vp_in_nI (by omega) (by omega), nm_r (e' := upd B (24 * t + i) (a_sets (24 * (t + 1) + i) ||| a_sets (24 * E (t + 1) + i))) ?_ (nm_r (nI_1 i) (iu (i + 1) _ (by omega) (fun j hj => ?_) (fun n hn => ?_)))⟩
      · rw [ty_ix24, e2, ty_ix, nI_clamp (by omega), nI_clamp (by omega), nI_clamp (by omega), g1 _ (Or.inr (by omega)), g1 _ (Or.inr (by omega))]
      · rw [pk_un (by omega)]; exact g1 j hj
      · by_cases y : n = i
        · subst y; exact pk_us
        · rw [pk_un (by omega)]; exact g2 n (by omega)
  -- the first loop
  have k64 : ∀ u i B, i + u = 24 → ty_Out a_sets B t → (∀ n, n < i → B (24 * t + n) = if K t = 0 then (1 : Int32) <<< (nI n &&& 31) else if K t = 1 then (1 : Int32) <<< (nI (r 0) &&& 31) else 0) →
      wY_prepare_64 post J (nI s) (nI tt) (nI (K t)) (nI (24 * t)) f_count f_top f_listed f_outputs (u + 1) (nI i) a_row a_depth a_name a_value a_moved a_kind a_with a_length B a_fresh a_type a_number a_set a_list a_there a_match a_priority a_out a_on a_todo a_within a_output := by
    intro u
    induction u with
    | zero =>
      intro i B hi g1 g2
      have e : i = 24 := by omega
      subst e
      refine br_t (nI_le (a := 24) (b := 24) (by omega) (by omega)) ?_
      by_cases z3 : K t = 3
      · refine br_t (by rw [z3]; rfl) ?_
        rw [e41]
        have s2 := te_two hw hb ht (te_o_un z3)
        exact wy_endOf S' (by omega) s2.1 ⟨25, u137 z3 B g1 24 0 B rfl g1 (fun n hn => by omega)⟩
      · refine br_f (ne (j := 3) (by omega) z3) ?_
        by_cases z2 : K t = 2
        · refine ⟨c + 1, s190 z2 c 0 B f_top f_listed a_type a_number a_set a_list (by omega) g1 (fun n hn => ?_)⟩
          rw [g2 n hn, if_neg (by omega), if_neg (by omega)]
          refine ⟨mk_24_0, fun q hq => ?_⟩
          rw [b_0]
          exact ⟨fun w => (by cases w), fun ⟨m', w, _⟩ => by omega⟩
        · refine e190 z2 B g1 (fun m hm => ?_)
          have rm := T.2.2.2.1 m hm
          rw [g2 (r m) rm]
          by_cases z0 : K t = 0
          · rw [if_pos z0]
            refine ⟨mk_24_sh rm, fun q hq => ?_⟩
            rw [mk_sh _ (by omega), decide_eq_true_iff]
            unfold tk_M
            rw [if_pos z0]
          · have z1 : K t = 1 := by omega
            have r0 := T.2.2.2.1 0 c0
            rw [if_neg z0, if_pos z1]
            refine ⟨mk_24_sh r0, fun q hq => ?_⟩
            rw [mk_sh _ (by omega), decide_eq_true_iff]
            unfold tk_M
            rw [if_neg z0, if_pos z1]
    | succ u iu =>
      intro i B hi g1 g2
      have go : ∀ v, v = (if K t = 0 then (1 : Int32) <<< (nI i &&& 31) else if K t = 1 then (1 : Int32) <<< (nI (r 0) &&& 31) else 0) → (vp_in (nI (24 * t) + nI i) 7680 ∧ ∀ B', B' = upd B (nI (24 * t) + nI i).toNatClampNeg v → ∀ x5, x5 = nI i + 1 → wY_prepare_64 post J (nI s) (nI tt) (nI (K t)) (nI (24 * t)) f_count f_top f_listed f_outputs (u + 1) x5 a_row a_depth a_name a_value a_moved a_kind a_with a_length B' a_fresh a_type a_number a_set a_list a_there a_match a_priority a_out a_on a_todo a_within a_output) := fun v hv =>
        ⟨by rw [ty_ix]; exact vp_in_nI (by omega) (by omega), nm_r (e' := upd B (24 * t + i) v) (by rw [ty_ix, nI_clamp (by omega)]) (nm_r (nI_1 i) (iu (i + 1) _ (by omega) (fun j hj => by rw [pk_un (by omega)]; exact g1 j hj) (fun n hn => by
          by_cases y : n = i
          · subst y; rw [pk_us]; exact hv
          · rw [pk_un (by omega)]; exact g2 n (by omega))))⟩
      refine br_f (nI_ge (a := i) (b := 24) (by omega) (by omega)) ?_
      by_cases z0 : K t = 0
      · exact br_t (by rw [z0]; rfl) (go _ (by rw [if_pos z0]))
      refine br_f (ne (j := 0) (by omega) z0) ?_
      by_cases z1 : K t = 1
      · refine br_t (by rw [z1]; rfl) (go _ ?_)
        rw [if_neg z0, if_pos z1, Y.2.1 0 c0]
      · exact br_f (ne (j := 1) (by omega) z1) (go _ (by rw [if_neg z0, if_neg z1]))
  exact ⟨25, k64 24 0 a_sets rfl (fun j _ => rfl) (fun n hn => by omega)⟩
theorem wy_prep26 {post : SY → Prop} {s n : Nat} (S : te_Sy K W E V a_kind a_with (40 * s) (40 * s + n)) (T : td_T c r d) (Y : re_YT c r d f_count a_row a_depth) (c0 : 0 < c) (hax : ∀ i, 40 * s ≤ i → i < 40 * s + n → K i = 2 → W i % 16 ≤ 10)
    (h : ∀ B top li ty nb st la, tk_Eq c r d a_name a_value K W E V (40 * s) (40 * s + n) (fun t n => B (24 * t + n)) → (∀ j, (j < 24 * (40 * s) ∨ 24 * (40 * s + n) ≤ j) → B j = a_sets j) →
      post (f_count, top, li, f_outputs, a_row, a_depth, a_name, a_value, a_moved, a_kind, a_with, a_length, B, a_fresh, ty, nb, st, la, a_there, a_match, a_priority, a_out, a_on, a_todo, a_within, a_output)) :
    ∃ n26, wY_prepare_26 post (nI s) n26 (nI n - 1) f_count f_top f_listed f_outputs a_row a_depth a_name a_value a_moved a_kind a_with a_length a_sets a_fresh a_type a_number a_set a_list a_there a_match a_priority a_out a_on a_todo a_within a_output := by
  have S' := S
  obtain ⟨l1, l2, D, hV, hw⟩ := S
  have key : ∀ k B top li ty nb st la, k ≤ n → tk_Eq c r d a_name a_value K W E V (40 * s + k) (40 * s + n) (fun t n => B (24 * t + n)) → (∀ j, (j < 24 * (40 * s) ∨ 24 * (40 * s + n) ≤ j) → B j = a_sets j) →
      wY_prepare_26 post (nI s) (k + 1) (nI k - 1) f_count top li f_outputs a_row a_depth a_name a_value a_moved a_kind a_with a_length B a_fresh ty nb st la a_there a_match a_priority a_out a_on a_todo a_within a_output := by
    intro k
    induction k with
    | zero =>
      intro B top li ty nb st la hk Q hB
      exact br_t (by decide) (h B top li ty nb st la Q hB)
    | succ k ih =>
      intro B top li ty nb st la hk Q hB
      rw [nI_pred]
      obtain ⟨d1, d2, -⟩ := D (40 * s + k) (by omega) (by omega)
      have e40 : (40 : Int32) * nI s + nI k = nI (40 * s + k) := by rw [show (40 : Int32) = nI 40 from rfl, pk_mul, nI_add]
      refine br_f (nI_pos (by omega)) ⟨by rw [e40]; exact vp_in_nI (by omega) (by omega), nm_r (e' := nI (K (40 * s + k))) (by rw [e40, nI_clamp (by omega)]; exact d1) ?_⟩
      by_cases z4 : K (40 * s + k) < 4
      · refine br_t (nI_le (b := 3) (by omega) (by omega)) (nm_r (e' := nI (24 * (40 * s + k))) (by rw [e40, show (24 : Int32) = nI 24 from rfl, pk_mul]) (wy_ptok (t := 40 * s + k) S' T Y c0 rfl rfl (by omega) (by omega) z4 (hax _ (by omega) (by omega)) Q (fun B' top' li' ty' nb' st' la' g1 g2 => ?_)))
        rw [tz_m1s]
        refine ih B' top' li' ty' nb' st' la' (by omega) (tk_fillS hw l1 (by omega) (by omega) Q (fun j a b' m hm => g1 _ (Or.inr (by omega))) (fun _ => g2)) (fun j hj => (g1 j (by omega)).trans (hB j hj))
      · refine br_f (nI_ge (a := 3) (by omega) (by omega)) (nm_r (tz_m1s _) (ih B top li ty nb st la (by omega) (fun i h1 h2 => ?_) hB))
        by_cases y : i = 40 * s + k
        · subst y
          exact fun w => absurd w z4
        · exact Q i (by omega) h2
  exact ⟨n + 1, key n a_sets f_top f_listed a_type a_number a_set a_list (Nat.le_refl _) (fun i h1 h2 => by omega) (fun j _ => rfl)⟩
end
end
section
/-! a slot of the relation, asked on both sides -/
section
variable {c n : Nat} {r d len : Nat → Nat} {nm val dk dv tk tv te sl kd wt lt A B : Nat → Int32}
theorem re_tok (hK : re_K n len dk dv tk tv te sl kd wt lt) {s i : Nat} (hs : s < 8) (h1 : 40 * s ≤ i) (h2 : i < 40 * s + len s) :
    kd i = nI (te_R (40 * s) (40 * s + len s) kd i) ∧ te_R (40 * s) (40 * s + len s) kd i < 18 ∧ (te_R (40 * s) (40 * s + len s) kd i = 2 → wt i = nI (te_R (40 * s) (40 * s + len s) wt i) ∧ te_R (40 * s) (40 * s + len s) wt i < 384 ∧ te_R (40 * s) (40 * s + len s) wt i % 16 ≤ 10) := by
  obtain ⟨k1, k2, k3, k4, k5, k6⟩ := hK
  obtain ⟨-, -, s1, s2, s3⟩ := k6 s hs
  obtain ⟨⟨kn, w1, w2, w3⟩, -⟩ := s2 i h1 h2
  have ek := te_R_n h1 h2 w2 (by omega)
  refine ⟨by rw [ek]; exact w2, by omega, fun z => ?_⟩
  obtain ⟨w, g1, g2, g3, -⟩ := w3 (by omega)
  have ew := te_R_n h1 h2 g2 (by omega)
  exact ⟨by rw [ew]; exact g2, by omega, by rw [ew]; exact g3⟩
theorem re_sx (hK : re_K n len dk dv tk tv te sl kd wt lt) {s : Nat} (hs : s < 8) : te_Sl (te_R (40 * s) (40 * s + len s) kd) (te_R (40 * s) (40 * s + len s) wt) (te_R (40 * s) (40 * s + len s) te) (te_V (40 * s) (40 * s + len s) wt) tk tv te (40 * s) (40 * s + len s) := by
  have tok := fun i => re_tok hK (s := s) (i := i) hs
  obtain ⟨k1, k2, k3, k4, k5, k6⟩ := hK
  obtain ⟨-, -, s1, s2, s3⟩ := k6 s hs
  refine ⟨by omega, by omega, fun i h1 h2 => ?_, fun i h1 h2 => ⟨(s2 i h1 h2).2, ?_⟩, fun i h1 h2 => (s3 (by omega)).1 i h1 h2⟩
  · obtain ⟨t1, t2, t3⟩ := tok i h1 h2
    obtain ⟨q1, q2⟩ := k4 i (by omega)
    rw [q1, q2]
    exact ⟨t1, t2, fun z => ⟨(t3 z).1, (t3 z).2.1⟩⟩
  · rw [(k4 i (by omega)).2, te_V_i h1 h2]
theorem re_sy (hK : re_K n len dk dv tk tv te sl kd wt lt) {s : Nat} (hs : s < 8) : te_Sy (te_R (40 * s) (40 * s + len s) kd) (te_R (40 * s) (40 * s + len s) wt) (te_R (40 * s) (40 * s + len s) te) (te_V (40 * s) (40 * s + len s) wt) kd wt (40 * s) (40 * s + len s) := by
  have tok := fun i => re_tok hK (s := s) (i := i) hs
  obtain ⟨k1, k2, k3, k4, k5, k6⟩ := hK
  obtain ⟨-, -, s1, s2, s3⟩ := k6 s hs
  refine ⟨by omega, by omega, fun i h1 h2 => ?_, fun i h1 h2 => (te_V_i h1 h2).symm, fun i h1 h2 => (s3 (by omega)).1 i h1 h2⟩
  obtain ⟨t1, t2, t3⟩ := tok i h1 h2
  exact ⟨t1, t2, fun z => ⟨(t3 z).1, (t3 z).2.1⟩⟩
theorem re_F1_s {b L : Nat} (hw : te_Ws (te_R b L kd) (te_R b L wt) (te_R b L te) b L) (hL : L ≤ 320) (h : re_F1 c r d nm val kd wt te A b L) (hr : ∀ m, m < c → r m < 24) (e : ∀ j, 24 * b ≤ j → j < 24 * L → B j = A j) : re_F1 c r d nm val kd wt te B b L := by
  intro t h1 h2
  exact tk_Q_c hw (by omega) h1 h2 (fun j a b' _ m hm => (e _ (by omega) (by have := hr m hm; omega)).symm) (h t h1 h2)
/-- the sets of both sides are the same, and so are their numbers -/
theorem re_same {b L : Nat} (hw : te_Ws (te_R b L kd) (te_R b L wt) (te_R b L te) b L) (hL : L ≤ 320) (hA : tk_Eq c r d nm val (te_R b L kd) (te_R b L wt) (te_R b L te) (te_V b L wt) b L (fun t n => A (t * 24 + n))) (hB : re_F1 c r d nm val kd wt te B b L)
    {t m : Nat} {pos last : Int32} (h1 : b ≤ t) (h2 : t < L) (hm : m < c) :
    (te_R b L kd t < 4 → A (t * 24 + r m) = B (24 * t + r m)) ∧
    tn_Sm (te_R b L kd t) (A (t * 24 + r m)) (tn_nv c r val (te_R b L kd) (te_R b L te) (te_V b L wt) (fun j => A (j * 24 + r m)) pos last t) (B (24 * t + r m)) (tn_nv c r val (te_R b L kd) (te_R b L te) (te_V b L wt) (fun j => B (24 * j + r m)) pos last t) := by
  have u := tk_uq hw (by omega) hA hB
  refine ⟨fun z => u t h2 h1 z m hm, fun z => u t h2 h1 z m hm, fun _ => ?_⟩
  exact tn_cong hw (i0 := t) (tn_nv_eq hw (by omega)) (tn_nv_eq hw (by omega)) (fun j a b' z => u j b' (by omega) z m hm) t h2 h1 (Nat.le_refl _)
end
section
variable {f_nodeCount f_draftLength f_resultLength : Int32} {a_inUse a_parentOf a_rankOf a_nameOf a_valueOf a_order a_along a_draftKind a_draftValue a_draftEnd a_tokenKind a_tokenValue a_tokenEnd a_slotLength a_setAt a_amount a_reached a_agenda a_isTemplate a_matchSlot a_priorityOf a_outSlot a_onSlot a_waiting a_result : Nat → Int32} {c n : Nat} {r d len : Nat → Nat} {kd wt lt : Nat → Int32}
theorem wx_prep {post : SX → Prop} {s : Nat} (T : td_T c r d) (c0 : 0 < c) (X : re_XT c r d f_nodeCount a_inUse a_parentOf a_rankOf a_order a_along) (hK : re_K n len a_draftKind a_draftValue a_tokenKind a_tokenValue a_tokenEnd a_slotLength kd wt lt) (hs : s < 8)
    (h : ∀ A re am ag, tk_Eq c r d a_nameOf a_valueOf (te_R (40 * s) (40 * s + len s) kd) (te_R (40 * s) (40 * s + len s) wt) (te_R (40 * s) (40 * s + len s) a_tokenEnd) (te_V (40 * s) (40 * s + len s) wt) (40 * s) (40 * s + len s) (fun t n => A (t * 24 + n)) →
      (∀ j, (j < 40 * s * 24 ∨ (40 * s + len s) * 24 ≤ j) → A j = a_setAt j) → post (f_nodeCount, f_draftLength, f_resultLength, a_inUse, a_parentOf, a_rankOf, a_nameOf, a_valueOf, a_order, a_along, a_draftKind, a_draftValue, a_draftEnd, a_tokenKind, a_tokenValue, a_tokenEnd, a_slotLength, A, am, re, ag, a_isTemplate, a_matchSlot, a_priorityOf, a_outSlot, a_onSlot, a_waiting, a_result)) : wpX_prepare post (f_nodeCount, f_draftLength, f_resultLength, a_inUse, a_parentOf, a_rankOf, a_nameOf, a_valueOf, a_order, a_along, a_draftKind, a_draftValue, a_draftEnd, a_tokenKind, a_tokenValue, a_tokenEnd, a_slotLength, a_setAt, a_amount, a_reached, a_agenda, a_isTemplate, a_matchSlot, a_priorityOf, a_outSlot, a_onSlot, a_waiting, a_result) (nI s) :=
  wx_prepare (re_sx hK hs) (hK.2.2.2.2.2 s hs).1 hs T c0 X.1 X.2.2.2.1 X.2.2.2.2 (fun i h1 h2 z => ((re_tok hK hs h1 h2).2.2 z).2.2) h
theorem wx_isFilled {post : Int32 → Prop} {v : Int32} (hK : re_K n len a_draftKind a_draftValue a_tokenKind a_tokenValue a_tokenEnd a_slotLength kd wt lt) (h1 : ∀ s, s < 8 → v = nI s → 0 < len s → post 1) (h0 : ¬ (∃ s, s < 8 ∧ v = nI s ∧ 0 < len s) → post 0) : wpX_isFilled post (f_nodeCount, f_draftLength, f_resultLength, a_inUse, a_parentOf, a_rankOf, a_nameOf, a_valueOf, a_order, a_along, a_draftKind, a_draftValue, a_draftEnd, a_tokenKind, a_tokenValue, a_tokenEnd, a_slotLength, a_setAt, a_amount, a_reached, a_agenda, a_isTemplate, a_matchSlot, a_priorityOf, a_outSlot, a_onSlot, a_waiting, a_result) v := by
  unfold wpX_isFilled
  rcases pk_ix v (n := 8) (by omega) with z | z | ⟨s, hs, rfl⟩
  · exact br_t z (h0 (fun ⟨s, hs, e, _⟩ => nI_pos (n := s) (by omega) (by rw [← e]; exact z)))
  · exact br_f (tz_np z (by omega)) (br_t z (h0 (fun ⟨s, hs, e, _⟩ => nI_ge (a := s) (b := 8) hs (by omega) (by rw [← e]; exact z))))
  · refine br_f (nI_pos (by omega)) (br_f (nI_ge (a := s) (b := 8) hs (by omega)) ⟨vp_in_nI hs (by omega), ?_⟩)
    obtain ⟨q1, q2, q3⟩ := hK.2.2.2.2.2 s hs
    have l40 := q3.1
    rw [nI_clamp (by omega), q1]
    by_cases y : len s = 0
    · refine br_t (by rw [y]; decide) (h0 (fun ⟨s', hs', e, w⟩ => ?_))
      rw [nI_eq (by omega) (by omega)] at e
      subst e
      omega
    · exact br_f (nI_nle (by omega) (by omega)) (h1 s hs rfl (by omega))
theorem wx_gives {post : Int32 → Prop} {v : Int32} (hK : re_K n len a_draftKind a_draftValue a_tokenKind a_tokenValue a_tokenEnd a_slotLength kd wt lt) (h1 : ∀ s, s < 8 → v = nI s → 0 < len s → te_R (40 * s) (40 * s + len s) kd (40 * s) < 4 → post 1)
    (h0 : ¬ (∃ s, s < 8 ∧ v = nI s ∧ 0 < len s ∧ te_R (40 * s) (40 * s + len s) kd (40 * s) < 4) → post 0) : wpX_givesSet post (f_nodeCount, f_draftLength, f_resultLength, a_inUse, a_parentOf, a_rankOf, a_nameOf, a_valueOf, a_order, a_along, a_draftKind, a_draftValue, a_draftEnd, a_tokenKind, a_tokenValue, a_tokenEnd, a_slotLength, a_setAt, a_amount, a_reached, a_agenda, a_isTemplate, a_matchSlot, a_priorityOf, a_outSlot, a_onSlot, a_waiting, a_result) v := by
  unfold wpX_givesSet
  refine wx_isFilled hK (fun s hs es hl => ?_) (fun w => br_t rfl (h0 (fun ⟨s, a, b, g, _⟩ => w ⟨s, a, b, g⟩)))
  subst es
  obtain ⟨t1, t2, -⟩ := re_tok hK hs (i := 40 * s) (Nat.le_refl _) (by omega)
  have e40 : nI s * 40 = nI (40 * s) := by rw [show (40 : Int32) = nI 40 from rfl, pk_mul, Nat.mul_comm]
  refine br_f (by decide) ⟨by rw [e40]; exact vp_in_nI (by omega) (by omega), ?_⟩
  rw [e40, nI_clamp (by omega), (hK.2.2.2.1 (40 * s) (by omega)).1, t1]
  by_cases y : te_R (40 * s) (40 * s + len s) kd (40 * s) < 4
  · exact br_f (nI_nlt (a := 3) (by omega) (by omega)) (h1 s hs rfl hl y)
  · refine br_t (nI_lt (a := 3) (by omega) (by omega)) (h0 (fun ⟨s', hs', e, _, g⟩ => y ?_))
    rw [nI_eq (by omega) (by omega)] at e
    subst e
    exact g
end
section
variable {f_count f_top f_listed f_outputs : Int32} {a_row a_depth a_name a_value a_moved a_kind a_with a_length a_sets a_fresh a_type a_number a_set a_list a_there a_match a_priority a_out a_on a_todo a_within a_output : Nat → Int32} {c n : Nat} {r d len : Nat → Nat} {dk dv tk tv te sl : Nat → Int32}
theorem wy_prep {post : SY → Prop} {s : Nat} (T : td_T c r d) (c0 : 0 < c) (Y : re_YT c r d f_count a_row a_depth) (hK : re_K n len dk dv tk tv te sl a_kind a_with a_length) (hF : re_F c r d len a_name a_value a_kind a_with te a_sets a_fresh) (hs : s < 8)
    (h : ∀ B fr top li ty nb st la, re_F c r d len a_name a_value a_kind a_with te B fr → re_F1 c r d a_name a_value a_kind a_with te B (40 * s) (40 * s + len s) →
      post (f_count, top, li, f_outputs, a_row, a_depth, a_name, a_value, a_moved, a_kind, a_with, a_length, B, fr, ty, nb, st, la, a_there, a_match, a_priority, a_out, a_on, a_todo, a_within, a_output)) : wpY_prepare post (f_count, f_top, f_listed, f_outputs, a_row, a_depth, a_name, a_value, a_moved, a_kind, a_with, a_length, a_sets, a_fresh, a_type, a_number, a_set, a_list, a_there, a_match, a_priority, a_out, a_on, a_todo, a_within, a_output) (nI s) := by
  have es : (nI s).toNatClampNeg = s := nI_clamp (by omega)
  unfold wpY_prepare
  refine ⟨vp_in_nI hs (by omega), ?_⟩
  rw [es]
  by_cases z : a_fresh s = 0
  · obtain ⟨q1, q2, q3⟩ := hK.2.2.2.2.2 s hs
    refine br_t z ⟨vp_in_nI hs (by omega), nm_r (e' := upd a_fresh s 1) (by rw [tz_b1]) ⟨vp_in_nI (by omega) (by omega), nm_r (e' := nI (len s) - 1) (by rw [q2]) (wy_prep26 (re_sy hK hs) T Y c0 (fun i h1 h2 z => ((re_tok hK hs h1 h2).2.2 z).2.2) (fun B top li ty nb st la hB hout => h B _ top li ty nb st la (fun t ht => ?_) hB))⟩⟩
    by_cases y : t = s
    · subst y
      rw [pk_us]
      exact ⟨Or.inr rfl, fun _ => hB⟩
    · rw [pk_un y]
      obtain ⟨f1, f2⟩ := hF t ht
      have l1 := q3.1
      have l2 := (hK.2.2.2.2.2 t ht).2.2.1
      refine ⟨f1, fun w => re_F1_s (re_sy hK ht).2.2.2.2 (by omega) (f2 w) T.2.2.2.1 (fun j a b => hout j (by omega))⟩
  · exact br_f z (h a_sets a_fresh f_top f_listed a_type a_number a_set a_list hF ((hF s hs).2 z))
theorem wy_ask {post : SY → Prop} {s m : Nat} (T : td_T c r d) (Y : re_YT c r d f_count a_row a_depth) (hK : re_K n len dk dv tk tv te sl a_kind a_with a_length) (hF : re_F c r d len a_name a_value a_kind a_with te a_sets a_fresh) (hs : s < 8) (hl : 0 < len s) (hm : m < c)
    (h : ∀ B fr top li ty nb st la, re_F c r d len a_name a_value a_kind a_with te B fr → re_F1 c r d a_name a_value a_kind a_with te B (40 * s) (40 * s + len s) →
      ty_En ty st nb 0 (te_R (40 * s) (40 * s + len s) a_kind (40 * s)) (B (24 * (40 * s) + r m)) (tn_nv c r a_value (te_R (40 * s) (40 * s + len s) a_kind) (te_R (40 * s) (40 * s + len s) te) (te_V (40 * s) (40 * s + len s) a_with) (fun j => B (24 * j + r m)) 1 1 (40 * s)) →
      post (f_count, top, li, f_outputs, a_row, a_depth, a_name, a_value, a_moved, a_kind, a_with, a_length, B, fr, ty, nb, st, la, a_there, a_match, a_priority, a_out, a_on, a_todo, a_within, a_output)) : wpY_ask post (f_count, f_top, f_listed, f_outputs, a_row, a_depth, a_name, a_value, a_moved, a_kind, a_with, a_length, a_sets, a_fresh, a_type, a_number, a_set, a_list, a_there, a_match, a_priority, a_out, a_on, a_todo, a_within, a_output) (nI s) (nI (r m)) := by
  unfold wpY_ask
  exact wy_prep T (by omega) Y hK hF hs (fun B fr top li ty nb st la g1 g2 => wy_work (tt := 0) (re_sy hK hs) T Y rfl (Nat.le_refl _) (by omega) (T.2.2.2.1 m hm) (fun top' ty' st' nb' En => h B fr top' li ty' nb' st' la g1 g2 En))
theorem wy_isExpr {post : Int32 → Prop} {v w : Int32} (T : td_T c r d) (Y : re_YT c r d f_count a_row a_depth) (hK : re_K n len dk dv tk tv te sl a_kind a_with a_length) (h1 : ∀ s m, s < 8 → v = nI s → 0 < len s → m < c → w = nI (r m) → post 1)
    (h0 : ¬ ((∃ s, s < 8 ∧ v = nI s ∧ 0 < len s) ∧ ∃ m, m < c ∧ w = nI (r m)) → post 0) : wpY_isExpression post (f_count, f_top, f_listed, f_outputs, a_row, a_depth, a_name, a_value, a_moved, a_kind, a_with, a_length, a_sets, a_fresh, a_type, a_number, a_set, a_list, a_there, a_match, a_priority, a_out, a_on, a_todo, a_within, a_output) v w := by
  have c24 := T.1
  unfold wpY_isExpression
  refine wy_in0 (n := 7) (by omega) (fun s hs es => br_f (by decide) ⟨by rw [es]; exact vp_in_nI (by omega) (by omega), ?_⟩) (fun hno => br_t rfl (h0 (fun ⟨⟨s, hs, e, _⟩, _⟩ => hno s (by omega) e)))
  subst es
  obtain ⟨q1, q2, q3⟩ := hK.2.2.2.2.2 s (by omega)
  have l40 := q3.1
  rw [nI_clamp (by omega), q2]
  by_cases y : len s = 0
  · refine br_t (by rw [y]; decide) (h0 (fun ⟨⟨s', hs', e, g⟩, _⟩ => ?_))
    rw [nI_eq (by omega) (by omega)] at e
    subst e
    omega
  · refine br_f (nI_nle (by omega) (by omega)) (wy_where T Y (fun p hp => ?_))
    rcases hp with ⟨m, hm, e, ep⟩ | ⟨hn, ep⟩
    · subst ep
      exact br_f (nI_pos (by omega)) (h1 s m (by omega) rfl (by omega) hm e)
    · subst ep
      exact br_t tz_m1lt (h0 (fun ⟨_, m, hm, e⟩ => hn m hm e))
theorem wy_isSet {post : Int32 → Prop} {s : Nat} (hK : re_K n len dk dv tk tv te sl a_kind a_with a_length) (hs : s < 8) (h1 : 0 < len s → te_R (40 * s) (40 * s + len s) a_kind (40 * s) < 4 → post 1)
    (h0 : ¬ (0 < len s ∧ te_R (40 * s) (40 * s + len s) a_kind (40 * s) < 4) → post 0) : wpY_isSet post (f_count, f_top, f_listed, f_outputs, a_row, a_depth, a_name, a_value, a_moved, a_kind, a_with, a_length, a_sets, a_fresh, a_type, a_number, a_set, a_list, a_there, a_match, a_priority, a_out, a_on, a_todo, a_within, a_output) (nI s) := by
  obtain ⟨q1, q2, q3⟩ := hK.2.2.2.2.2 s hs
  have l40 := q3.1
  unfold wpY_isSet
  refine ⟨vp_in_nI (by omega) (by omega), ?_⟩
  rw [nI_clamp (by omega), q2]
  by_cases y : len s = 0
  · exact br_t (by rw [y]; decide) (h0 (fun g => by omega))
  · obtain ⟨t1, t2, -⟩ := re_tok hK hs (i := 40 * s) (Nat.le_refl _) (by omega)
    have e40 : (40 : Int32) * nI s = nI (40 * s) := by rw [show (40 : Int32) = nI 40 from rfl, pk_mul]
    refine br_f (nI_nle (by omega) (by omega)) ⟨by rw [e40]; exact vp_in_nI (by omega) (by omega), ?_⟩
    rw [e40, nI_clamp (by omega), t1]
    by_cases z : te_R (40 * s) (40 * s + len s) a_kind (40 * s) < 4
    · exact br_f (nI_ge (b := 4) z (by omega)) (h1 (by omega) z)
    · exact br_t (nI_le (a := 4) (by omega) (by omega)) (h0 (fun g => z g.2))
end
end
section
/-! size, at, number, holds -/
def tt_am (l : List Nat) (k : Int32) : Int32 := if k < 0 then -1 else tt_at l k.toNatClampNeg
theorem tt_am_n {l : List Nat} {k : Nat} (hk : k < 2 ^ 31) : tt_am l (nI k) = tt_at l k := by
  unfold tt_am
  rw [if_neg (nI_pos hk), nI_clamp hk]
section
variable {f_nodeCount f_draftLength f_resultLength : Int32} {a_inUse a_parentOf a_rankOf a_nameOf a_valueOf a_order a_along a_draftKind a_draftValue a_draftEnd a_tokenKind a_tokenValue a_tokenEnd a_slotLength a_setAt a_amount a_reached a_agenda a_isTemplate a_matchSlot a_priorityOf a_outSlot a_onSlot a_waiting a_result : Nat → Int32} {c : Nat} {r d : Nat → Nat}
theorem wx_member {post : Int32 → Prop} {x k : Int32} (T : td_T c r d) (hnc : f_nodeCount = nI c) (ho : ∀ i, i < c → a_order i = nI (r i)) (h : post (tt_am (tt_l r x c 0) k)) : wpX_memberOf post (f_nodeCount, f_draftLength, f_resultLength, a_inUse, a_parentOf, a_rankOf, a_nameOf, a_valueOf, a_order, a_along, a_draftKind, a_draftValue, a_draftEnd, a_tokenKind, a_tokenValue, a_tokenEnd, a_slotLength, a_setAt, a_amount, a_reached, a_agenda, a_isTemplate, a_matchSlot, a_priorityOf, a_outSlot, a_onSlot, a_waiting, a_result) x k := by
  have c24 := T.1
  subst hnc
  have key : ∀ u i p, i + u = c → p ≤ i → (k < 0 → post (-1)) → (∀ kk, kk < 2 ^ 31 → k = nI kk → p ≤ kk ∧ post (tt_at (tt_l r x u i) (kk - p))) → wX_memberOf_5 post x k (nI c) f_draftLength f_resultLength a_inUse a_parentOf a_rankOf a_nameOf a_valueOf a_order a_along a_draftKind a_draftValue a_draftEnd a_tokenKind a_tokenValue a_tokenEnd a_slotLength a_setAt a_amount a_reached a_agenda a_isTemplate a_matchSlot a_priorityOf a_outSlot a_onSlot a_waiting a_result (u + 1) (nI p) (nI i) := by
    intro u
    induction u with
    | zero =>
      intro i p hi hp g0 g1
      refine br_t (nI_le (by omega) (by omega)) ?_
      by_cases z : k < 0
      · exact g0 z
      · obtain ⟨kk, hkk, e⟩ := nI_of z
        exact (g1 kk hkk e).2
    | succ u iu =>
      intro i p hi hp g0 g1
      have ri := T.2.2.2.1 i (by omega)
      have ei : a_order (nI i).toNatClampNeg = nI (r i) := by rw [nI_clamp (by omega)]; exact ho i (by omega)
      refine br_f (nI_ge (by omega) (by omega)) ⟨vp_in_nI (by omega) (by omega), ?_⟩
      rw [ei]
      by_cases z : bt x (r i) = true
      · refine br_f (fun w => by rw [mk_f (by omega), z] at w; cases w) ?_
        by_cases y : nI p = k
        · refine br_t y ⟨vp_in_nI (by omega) (by omega), ?_⟩
          have g := (g1 p (by omega) y.symm).2
          rw [tt_l_s, if_pos z, Nat.sub_self] at g
          exact g
        · refine br_f y (nm_r (nI_1 p) (nm_r (nI_1 i) (iu (i + 1) (p + 1) (by omega) (by omega) g0 (fun kk hkk e => ?_))))
          obtain ⟨a1, a2⟩ := g1 kk hkk e
          have ne : p ≠ kk := fun w => y (by rw [w, e])
          refine ⟨by omega, ?_⟩
          rw [tt_l_s, if_pos z, show kk - p = kk - (p + 1) + 1 by omega] at a2
          exact a2
      · refine br_t ((mk_f (by omega)).mpr (tz_nb z)) (nm_r (nI_1 i) (iu (i + 1) p (by omega) (by omega) g0 (fun kk hkk e => ?_)))
        obtain ⟨a1, a2⟩ := g1 kk hkk e
        rw [tt_l_s, if_neg z] at a2
        exact ⟨a1, a2⟩
  refine ⟨c + 1, key c 0 0 (by omega) (Nat.le_refl _) (fun z => ?_) (fun kk hkk e => ⟨Nat.zero_le _, ?_⟩)⟩
  · unfold tt_am at h
    rw [if_pos z] at h
    exact h
  · rw [e, tt_am_n hkk] at h
    exact h
end
section
variable {f_count f_top f_listed f_outputs : Int32} {a_row a_depth a_name a_value a_moved a_kind a_with a_length a_sets a_fresh a_type a_number a_set a_list a_there a_match a_priority a_out a_on a_todo a_within a_output : Nat → Int32} {c : Nat} {r d : Nat → Nat}
theorem wy_at31 {post : Int32 → SY → Prop} {k : Int32} (T : td_T c r d) (Y : re_YT c r d f_count a_row a_depth) (h : post (tt_am (tt_l r (a_set 0) c 0) k) (f_count, f_top, f_listed, f_outputs, a_row, a_depth, a_name, a_value, a_moved, a_kind, a_with, a_length, a_sets, a_fresh, a_type, a_number, a_set, a_list, a_there, a_match, a_priority, a_out, a_on, a_todo, a_within, a_output)) : ∃ n, wY_at_31 post f_count f_top f_listed f_outputs a_row a_depth a_name a_value a_moved a_kind a_with a_length a_sets a_fresh a_type a_number a_set a_list a_there a_match a_priority a_out a_on a_todo a_within a_output n k 0 := by
  have c24 := T.1
  by_cases z : k < 0
  · unfold tt_am at h
    rw [if_pos z] at h
    by_cases y : f_count ≤ 0
    · exact ⟨1, br_t y h⟩
    · exact ⟨1, br_f y (br_t z h)⟩
  obtain ⟨kk, hkk, rfl⟩ := nI_of z
  rw [tt_am_n hkk] at h
  have key : ∀ u i kk, i + u = c → kk < 2 ^ 31 → post (tt_at (tt_l r (a_set 0) u i) kk) (f_count, f_top, f_listed, f_outputs, a_row, a_depth, a_name, a_value, a_moved, a_kind, a_with, a_length, a_sets, a_fresh, a_type, a_number, a_set, a_list, a_there, a_match, a_priority, a_out, a_on, a_todo, a_within, a_output) → wY_at_31 post f_count f_top f_listed f_outputs a_row a_depth a_name a_value a_moved a_kind a_with a_length a_sets a_fresh a_type a_number a_set a_list a_there a_match a_priority a_out a_on a_todo a_within a_output (u + 1) (nI kk) (nI i) := by
    intro u
    induction u with
    | zero =>
      intro i kk hi hkk g
      exact br_t (by rw [Y.1]; exact nI_le (by omega) (by omega)) g
    | succ u iu =>
      intro i kk hi hkk g
      have ri := T.2.2.2.1 i (by omega)
      have ei : a_row (nI i).toNatClampNeg = nI (r i) := by rw [nI_clamp (by omega)]; exact Y.2.1 i (by omega)
      refine br_f (by rw [Y.1]; exact nI_ge (by omega) (by omega)) (br_f (nI_pos hkk) ⟨vp_in_nI (by omega) (by omega), ?_⟩)
      rw [ei]
      rw [tt_l_s] at g
      by_cases w : bt (a_set 0) (r i) = true
      · rw [if_pos w] at g
        refine br_f (fun v => by rw [mk_f (by omega), w] at v; cases v) ?_
        cases kk with
        | zero => exact br_t (by decide) ⟨vp_in_nI (by omega) (by omega), g⟩
        | succ kk => exact br_f (nI_ne0 (by omega) hkk) (nm_r (pk_m1 kk) (nm_r (nI_1 i) (iu (i + 1) kk (by omega) (by omega) g)))
      · rw [if_neg w] at g
        exact br_t ((mk_f (by omega)).mpr (tz_nb w)) (nm_r (nI_1 i) (iu (i + 1) kk (by omega) hkk g))
  exact ⟨c + 1, key c 0 kk (by omega) hkk h⟩
end
theorem re_b24 {s m : Nat} {r : Nat → Nat} (hs : s < 8) (hr : r m < 24) : nI s * 40 * 24 + nI (r m) = nI (40 * s * 24 + r m) := by
  rw [show nI s * 40 = nI (40 * s) by rw [show (40 : Int32) = nI 40 from rfl, pk_mul, Nat.mul_comm], te_ix]
theorem re_e40 {s : Nat} : nI s * 40 = nI (40 * s) := by rw [show (40 : Int32) = nI 40 from rfl, pk_mul, Nat.mul_comm]
theorem i_vc_size {k : Nat} {u : SX} {v : SY} (I : i_Rel k u v) (hk : k + 6 ≤ 3072) (v1 : Int32) (v2 : Int32) : wpX_size (fun r u' => wpY_size (fun r' v' => r' = r ∧ i_Rel (k + 6) u' v') v v1 v2) u v1 v2 := by
  obtain ⟨f_nodeCount, f_draftLength, f_resultLength, a_inUse, a_parentOf, a_rankOf, a_nameOf, a_valueOf, a_order, a_along, a_draftKind, a_draftValue, a_draftEnd, a_tokenKind, a_tokenValue, a_tokenEnd, a_slotLength, a_setAt, a_amount, a_reached, a_agenda, a_isTemplate, a_matchSlot, a_priorityOf, a_outSlot, a_onSlot, a_waiting, a_result⟩ := u
  obtain ⟨f_count, f_top, f_listed, f_outputs, a_row, a_depth, a_name, a_value, a_moved, a_kind, a_with, a_length, a_sets, a_fresh, a_type, a_number, a_set, a_list, a_there, a_match, a_priority, a_out, a_on, a_todo, a_within, a_output⟩ := v
  have J := i_up I
  obtain ⟨c, n, mm, r, d, len, T, X, Y, e1, e2, hdl, hK, hF, e3, e4, e5, e6, e7, hP, hm, hrl, hou, e8⟩ := I
  subst e1 e2
  have no : ¬ ((∃ s, s < 8 ∧ v1 = nI s ∧ 0 < len s ∧ te_R (40 * s) (40 * s + len s) a_kind (40 * s) < 4) ∧ ∃ m, m < c ∧ v2 = nI (r m)) → wpY_size (fun r' v' => r' = -1 ∧ i_Rel (k + 6) (f_nodeCount, f_draftLength, f_resultLength, a_inUse, a_parentOf, a_rankOf, a_nameOf, a_valueOf, a_order, a_along, a_draftKind, a_draftValue, a_draftEnd, a_tokenKind, a_tokenValue, a_tokenEnd, a_slotLength, a_setAt, a_amount, a_reached, a_agenda, a_isTemplate, a_matchSlot, a_priorityOf, a_outSlot, a_onSlot, a_waiting, a_result) v') (f_count, f_top, f_listed, f_outputs, a_row, a_depth, a_nameOf, a_valueOf, a_moved, a_kind, a_with, a_length, a_sets, a_fresh, a_type, a_number, a_set, a_list, a_there, a_match, a_priority, a_out, a_on, a_todo, a_within, a_output) v1 v2 := by
    intro w
    unfold wpY_size
    refine wy_isExpr T Y hK (fun s m hs es hl hmc em => br_f (by decide) ?_) (fun _ => br_t rfl ⟨rfl, J⟩)
    subst es
    exact wy_isSet hK hs (fun _ g => absurd ⟨⟨s, hs, rfl, hl, g⟩, m, hmc, em⟩ w) (fun _ => br_t rfl ⟨rfl, J⟩)
  unfold wpX_size
  refine wx_gives hK (fun s hs es hl h4 => br_f (by decide) ?_) (fun w => br_t rfl (no (fun g => w g.1)))
  subst es
  refine wx_isNode T X.2.1 (fun m hmc em => br_f (by decide) ?_) (fun w => br_t rfl (no (fun ⟨_, m, a, b⟩ => w m a b)))
  subst em
  have rm := T.2.2.2.1 m hmc
  refine wx_prep T (by omega) X hK hs (fun A re am ag hA _ => ⟨by rw [re_b24 hs rm]; exact vp_in_nI (by omega) (by omega), wx_count ?_⟩)
  rw [re_b24 hs rm, nI_clamp (by omega)]
  unfold wpY_size
  refine wy_isExpr T Y hK (fun s' m' hs' es hl' hmc' em => br_f (by decide) ?_) (fun w => absurd ⟨⟨s, hs, rfl, hl⟩, m, hmc, rfl⟩ w)
  refine wy_isSet hK hs (fun _ _ => br_f (by decide) (wy_ask T Y hK hF hs hl hmc (fun B fr top li ty nb st la g1 g2 En => ?_))) (fun w => absurd ⟨hl, h4⟩ w)
  have same := (re_same (pos := 1) (last := 1) (re_sy hK hs).2.2.2.2 (re_sy hK hs).1 hA g2 (t := 40 * s) (Nat.le_refl _) (by omega) hmc).1 h4
  have e0 := En.2.1
  rw [if_pos h4, ← same] at e0
  refine wy_counted ⟨by rw [e0], c, n, mm, r, d, len, T, X, Y, rfl, rfl, hdl, hK, g1, e3, e4, e5, e6, e7, hP, hm, hrl, hou, e8⟩
theorem i_vc_at {k : Nat} {u : SX} {v : SY} (I : i_Rel k u v) (hk : k + 6 ≤ 3072) (v1 : Int32) (v2 : Int32) (v3 : Int32) : wpX_at (fun r u' => wpY_at (fun r' v' => r' = r ∧ i_Rel (k + 6) u' v') v v1 v2 v3) u v1 v2 v3 := by
  obtain ⟨f_nodeCount, f_draftLength, f_resultLength, a_inUse, a_parentOf, a_rankOf, a_nameOf, a_valueOf, a_order, a_along, a_draftKind, a_draftValue, a_draftEnd, a_tokenKind, a_tokenValue, a_tokenEnd, a_slotLength, a_setAt, a_amount, a_reached, a_agenda, a_isTemplate, a_matchSlot, a_priorityOf, a_outSlot, a_onSlot, a_waiting, a_result⟩ := u
  obtain ⟨f_count, f_top, f_listed, f_outputs, a_row, a_depth, a_name, a_value, a_moved, a_kind, a_with, a_length, a_sets, a_fresh, a_type, a_number, a_set, a_list, a_there, a_match, a_priority, a_out, a_on, a_todo, a_within, a_output⟩ := v
  have J := i_up I
  obtain ⟨c, n, mm, r, d, len, T, X, Y, e1, e2, hdl, hK, hF, e3, e4, e5, e6, e7, hP, hm, hrl, hou, e8⟩ := I
  subst e1 e2
  have no : ¬ ((∃ s, s < 8 ∧ v1 = nI s ∧ 0 < len s ∧ te_R (40 * s) (40 * s + len s) a_kind (40 * s) < 4) ∧ ∃ m, m < c ∧ v2 = nI (r m)) → wpY_at (fun r' v' => r' = -1 ∧ i_Rel (k + 6) (f_nodeCount, f_draftLength, f_resultLength, a_inUse, a_parentOf, a_rankOf, a_nameOf, a_valueOf, a_order, a_along, a_draftKind, a_draftValue, a_draftEnd, a_tokenKind, a_tokenValue, a_tokenEnd, a_slotLength, a_setAt, a_amount, a_reached, a_agenda, a_isTemplate, a_matchSlot, a_priorityOf, a_outSlot, a_onSlot, a_waiting, a_result) v') (f_count, f_top, f_listed, f_outputs, a_row, a_depth, a_nameOf, a_valueOf, a_moved, a_kind, a_with, a_length, a_sets, a_fresh, a_type, a_number, a_set, a_list, a_there, a_match, a_priority, a_out, a_on, a_todo, a_within, a_output) v1 v2 v3 := by
    intro w
    unfold wpY_at
    refine wy_isExpr T Y hK (fun s m hs es hl hmc em => br_f (by decide) ?_) (fun _ => br_t rfl ⟨rfl, J⟩)
    subst es
    exact wy_isSet hK hs (fun _ g => absurd ⟨⟨s, hs, rfl, hl, g⟩, m, hmc, em⟩ w) (fun _ => br_t rfl ⟨rfl, J⟩)
  unfold wpX_at
  refine wx_gives hK (fun s hs es hl h4 => br_f (by decide) ?_) (fun w => br_t rfl (no (fun g => w g.1)))
  subst es
  refine wx_isNode T X.2.1 (fun m hmc em => br_f (by decide) ?_) (fun w => br_t rfl (no (fun ⟨_, m, a, b⟩ => w m a b)))
  subst em
  have rm := T.2.2.2.1 m hmc
  refine wx_prep T (by omega) X hK hs (fun A re am ag hA _ => ⟨by rw [re_b24 hs rm]; exact vp_in_nI (by omega) (by omega), wx_member T X.1 X.2.2.2.1 ?_⟩)
  rw [re_b24 hs rm, nI_clamp (by omega)]
  have fin : wpY_at (fun r' v' => r' = tt_am (tt_l r (A (40 * s * 24 + r m)) c 0) v3 ∧ i_Rel (k + 6) (f_nodeCount, f_draftLength, f_resultLength, a_inUse, a_parentOf, a_rankOf, a_nameOf, a_valueOf, a_order, a_along, a_draftKind, a_draftValue, a_draftEnd, a_tokenKind, a_tokenValue, a_tokenEnd, a_slotLength, A, am, re, ag, a_isTemplate, a_matchSlot, a_priorityOf, a_outSlot, a_onSlot, a_waiting, a_result) v') (f_count, f_top, f_listed, f_outputs, a_row, a_depth, a_nameOf, a_valueOf, a_moved, a_kind, a_with, a_length, a_sets, a_fresh, a_type, a_number, a_set, a_list, a_there, a_match, a_priority, a_out, a_on, a_todo, a_within, a_output) (nI s) (nI (r m)) v3 := by
    unfold wpY_at
    refine wy_isExpr T Y hK (fun s' m' hs' es hl' hmc' em => br_f (by decide) ?_) (fun w => absurd ⟨⟨s, hs, rfl, hl⟩, m, hmc, rfl⟩ w)
    refine wy_isSet hK hs (fun _ _ => br_f (by decide) (wy_ask T Y hK hF hs hl hmc (fun B fr top li ty nb st la g1 g2 En => ?_))) (fun w => absurd ⟨hl, h4⟩ w)
    have same := (re_same (pos := 1) (last := 1) (re_sy hK hs).2.2.2.2 (re_sy hK hs).1 hA g2 (t := 40 * s) (Nat.le_refl _) (by omega) hmc).1 h4
    have e0 := En.2.1
    rw [if_pos h4, ← same] at e0
    refine wy_at31 T Y ⟨by rw [e0], c, n, mm, r, d, len, T, X, Y, rfl, rfl, hdl, hK, g1, e3, e4, e5, e6, e7, hP, hm, hrl, hou, e8⟩
  by_cases z : tt_am (tt_l r (A (40 * s * 24 + r m)) c 0) v3 = -1
  · refine br_t z ?_
    rw [z] at fin
    exact fin
  · exact br_f z fin
theorem i_vc_number {k : Nat} {u : SX} {v : SY} (I : i_Rel k u v) (hk : k + 6 ≤ 3072) (v1 : Int32) (v2 : Int32) : wpX_number (fun r u' => wpY_number (fun r' v' => r' = r ∧ i_Rel (k + 6) u' v') v v1 v2) u v1 v2 := by
  obtain ⟨f_nodeCount, f_draftLength, f_resultLength, a_inUse, a_parentOf, a_rankOf, a_nameOf, a_valueOf, a_order, a_along, a_draftKind, a_draftValue, a_draftEnd, a_tokenKind, a_tokenValue, a_tokenEnd, a_slotLength, a_setAt, a_amount, a_reached, a_agenda, a_isTemplate, a_matchSlot, a_priorityOf, a_outSlot, a_onSlot, a_waiting, a_result⟩ := u
  obtain ⟨f_count, f_top, f_listed, f_outputs, a_row, a_depth, a_name, a_value, a_moved, a_kind, a_with, a_length, a_sets, a_fresh, a_type, a_number, a_set, a_list, a_there, a_match, a_priority, a_out, a_on, a_todo, a_within, a_output⟩ := v
  have J := i_up I
  obtain ⟨c, n, mm, r, d, len, T, X, Y, e1, e2, hdl, hK, hF, e3, e4, e5, e6, e7, hP, hm, hrl, hou, e8⟩ := I
  subst e1 e2
  have no : ¬ ((∃ s, s < 8 ∧ v1 = nI s ∧ 0 < len s) ∧ ∃ m, m < c ∧ v2 = nI (r m)) → wpY_number (fun r' v' => r' = 0 ∧ i_Rel (k + 6) (f_nodeCount, f_draftLength, f_resultLength, a_inUse, a_parentOf, a_rankOf, a_nameOf, a_valueOf, a_order, a_along, a_draftKind, a_draftValue, a_draftEnd, a_tokenKind, a_tokenValue, a_tokenEnd, a_slotLength, a_setAt, a_amount, a_reached, a_agenda, a_isTemplate, a_matchSlot, a_priorityOf, a_outSlot, a_onSlot, a_waiting, a_result) v') (f_count, f_top, f_listed, f_outputs, a_row, a_depth, a_nameOf, a_valueOf, a_moved, a_kind, a_with, a_length, a_sets, a_fresh, a_type, a_number, a_set, a_list, a_there, a_match, a_priority, a_out, a_on, a_todo, a_within, a_output) v1 v2 := by
    intro w
    unfold wpY_number
    exact wy_isExpr T Y hK (fun s m hs es hl hmc em => absurd ⟨⟨s, hs, es, hl⟩, m, hmc, em⟩ w) (fun _ => br_t rfl ⟨rfl, J⟩)
  unfold wpX_number
  refine wx_isFilled hK (fun s hs es hl => br_f (by decide) ?_) (fun w => br_t rfl (no (fun g => w g.1)))
  subst es
  refine wx_isNode T X.2.1 (fun m hmc em => br_f (by decide) ?_) (fun w => br_t rfl (no (fun ⟨_, m, a, b⟩ => w m a b)))
  subst em
  have rm := T.2.2.2.1 m hmc
  rw [re_e40]
  refine wx_prep T (by omega) X hK hs (fun A re am ag hA _ => wx_work (re_sx hK hs) T X.1 X.2.2.2.1 (Nat.le_refl _) (by omega) rm (fun am2 ag2 ham => ⟨vp_in_nI (by omega) (by omega), ?_⟩))
  rw [nI_clamp (by omega), ham]
  unfold wpY_number
  refine wy_isExpr T Y hK (fun s' m' hs' es hl' hmc' em => br_f (by decide) (wy_ask T Y hK hF hs hl hmc (fun B fr top li ty nb st la g1 g2 En => ?_))) (fun w => absurd ⟨⟨s, hs, rfl, hl⟩, m, hmc, rfl⟩ w)
  have same := (re_same (pos := 1) (last := 1) (re_sy hK hs).2.2.2.2 (re_sy hK hs).1 hA g2 (t := 40 * s) (Nat.le_refl _) (by omega) hmc).2
  refine wy_plain (p := 0) T Y En (by omega) ⟨(tn_pl_c same).symm, c, n, mm, r, d, len, T, X, Y, rfl, rfl, hdl, hK, g1, e3, e4, e5, e6, e7, hP, hm, hrl, hou, e8⟩
theorem i_vc_holds {k : Nat} {u : SX} {v : SY} (I : i_Rel k u v) (hk : k + 6 ≤ 3072) (v1 : Int32) (v2 : Int32) : wpX_holds (fun r u' => wpY_holds (fun r' v' => r' = r ∧ i_Rel (k + 6) u' v') v v1 v2) u v1 v2 := by
  obtain ⟨f_nodeCount, f_draftLength, f_resultLength, a_inUse, a_parentOf, a_rankOf, a_nameOf, a_valueOf, a_order, a_along, a_draftKind, a_draftValue, a_draftEnd, a_tokenKind, a_tokenValue, a_tokenEnd, a_slotLength, a_setAt, a_amount, a_reached, a_agenda, a_isTemplate, a_matchSlot, a_priorityOf, a_outSlot, a_onSlot, a_waiting, a_result⟩ := u
  obtain ⟨f_count, f_top, f_listed, f_outputs, a_row, a_depth, a_name, a_value, a_moved, a_kind, a_with, a_length, a_sets, a_fresh, a_type, a_number, a_set, a_list, a_there, a_match, a_priority, a_out, a_on, a_todo, a_within, a_output⟩ := v
  have J := i_up I
  obtain ⟨c, n, mm, r, d, len, T, X, Y, e1, e2, hdl, hK, hF, e3, e4, e5, e6, e7, hP, hm, hrl, hou, e8⟩ := I
  subst e1 e2
  have no : ¬ ((∃ s, s < 8 ∧ v1 = nI s ∧ 0 < len s) ∧ ∃ m, m < c ∧ v2 = nI (r m)) → wpY_holds (fun r' v' => r' = 0 ∧ i_Rel (k + 6) (f_nodeCount, f_draftLength, f_resultLength, a_inUse, a_parentOf, a_rankOf, a_nameOf, a_valueOf, a_order, a_along, a_draftKind, a_draftValue, a_draftEnd, a_tokenKind, a_tokenValue, a_tokenEnd, a_slotLength, a_setAt, a_amount, a_reached, a_agenda, a_isTemplate, a_matchSlot, a_priorityOf, a_outSlot, a_onSlot, a_waiting, a_result) v') (f_count, f_top, f_listed, f_outputs, a_row, a_depth, a_nameOf, a_valueOf, a_moved, a_kind, a_with, a_length, a_sets, a_fresh, a_type, a_number, a_set, a_list, a_there, a_match, a_priority, a_out, a_on, a_todo, a_within, a_output) v1 v2 := by
    intro w
    unfold wpY_holds
    exact wy_isExpr T Y hK (fun s m hs es hl hmc em => absurd ⟨⟨s, hs, es, hl⟩, m, hmc, em⟩ w) (fun _ => br_t rfl ⟨rfl, J⟩)
  unfold wpX_holds
  refine wx_isFilled hK (fun s hs es hl => br_f (by decide) ?_) (fun w => br_t rfl (no (fun g => w g.1)))
  subst es
  refine wx_isNode T X.2.1 (fun m hmc em => br_f (by decide) ?_) (fun w => br_t rfl (no (fun ⟨_, m, a, b⟩ => w m a b)))
  subst em
  have rm := T.2.2.2.1 m hmc
  rw [re_e40]
  refine wx_prep T (by omega) X hK hs (fun A re am ag hA _ => wx_work (re_sx hK hs) T X.1 X.2.2.2.1 (Nat.le_refl _) (by omega) rm (fun am2 ag2 ham => ?_))
  have yes : ∀ B : Int32, (B = 1 ∧ tn_tr (te_R (40 * s) (40 * s + len s) a_kind (40 * s)) (A (40 * s * 24 + r m)) (am2 (40 * s)) ∨ B = 0 ∧ ¬ tn_tr (te_R (40 * s) (40 * s + len s) a_kind (40 * s)) (A (40 * s * 24 + r m)) (am2 (40 * s))) →
      wpY_holds (fun r' v' => r' = B ∧ i_Rel (k + 6) (f_nodeCount, f_draftLength, f_resultLength, a_inUse, a_parentOf, a_rankOf, a_nameOf, a_valueOf, a_order, a_along, a_draftKind, a_draftValue, a_draftEnd, a_tokenKind, a_tokenValue, a_tokenEnd, a_slotLength, A, am2, re, ag2, a_isTemplate, a_matchSlot, a_priorityOf, a_outSlot, a_onSlot, a_waiting, a_result) v') (f_count, f_top, f_listed, f_outputs, a_row, a_depth, a_nameOf, a_valueOf, a_moved, a_kind, a_with, a_length, a_sets, a_fresh, a_type, a_number, a_set, a_list, a_there, a_match, a_priority, a_out, a_on, a_todo, a_within, a_output) (nI s) (nI (r m)) := by
    intro R hR
    unfold wpY_holds
    refine wy_isExpr T Y hK (fun s' m' hs' es hl' hmc' em => br_f (by decide) (wy_ask T Y hK hF hs hl hmc (fun B fr top li ty nb st la g1 g2 En => ?_))) (fun w => absurd ⟨⟨s, hs, rfl, hl⟩, m, hmc, rfl⟩ w)
    have same := (re_same (pos := 1) (last := 1) (re_sy hK hs).2.2.2.2 (re_sy hK hs).1 hA g2 (t := 40 * s) (Nat.le_refl _) (by omega) hmc).2
    have sm : tn_Sm (te_R (40 * s) (40 * s + len s) a_kind (40 * s)) (A (40 * s * 24 + r m)) (am2 (40 * s)) (A (40 * s * 24 + r m)) (tn_nv c r a_valueOf (te_R (40 * s) (40 * s + len s) a_kind) (te_R (40 * s) (40 * s + len s) a_tokenEnd) (te_V (40 * s) (40 * s + len s) a_with) (fun j => A (j * 24 + r m)) 1 1 (40 * s)) :=
      ⟨fun _ => rfl, fun z => by rw [ham]; unfold tn_pl; rw [if_neg z]⟩
    rw [tn_tr_c sm, tn_tr_c same] at hR
    refine wy_isTrue (p := 0) En (by omega) (fun w => ⟨rfl, ?_, c, n, mm, r, d, len, T, X, Y, rfl, rfl, hdl, hK, g1, e3, e4, e5, e6, e7, hP, hm, hrl, hou, e8⟩) (fun w => ⟨rfl, ?_, c, n, mm, r, d, len, T, X, Y, rfl, rfl, hdl, hK, g1, e3, e4, e5, e6, e7, hP, hm, hrl, hou, e8⟩)
    · rcases hR with ⟨a, b⟩ | ⟨a, b⟩
      · exact a.symm
      · exact absurd w b
    · rcases hR with ⟨a, b⟩ | ⟨a, b⟩
      · exact absurd b w
      · exact a.symm
  exact wx_isTrue (re_sx hK hs) (Nat.le_refl _) (by omega) rm (fun w => ⟨rfl, yes 1 (Or.inl ⟨rfl, w⟩)⟩) (fun w => ⟨rfl, yes 0 (Or.inr ⟨rfl, w⟩)⟩)
end
section
/-! matches -/
def tm_M (c : Nat) (r d len : Nat → Nat) (kd A : Nat → Int32) (s m : Nat) : Prop :=
  0 < len s ∧ te_R (40 * s) (40 * s + len s) kd (40 * s) < 4 ∧ ∃ l, l < c ∧ (td_An d l m ∨ l = m) ∧ bt (A (40 * s * 24 + r l)) (r m) = true
section
variable {f_nodeCount f_draftLength f_resultLength : Int32} {a_inUse a_parentOf a_rankOf a_nameOf a_valueOf a_order a_along a_draftKind a_draftValue a_draftEnd a_tokenKind a_tokenValue a_tokenEnd a_slotLength a_setAt a_amount a_reached a_agenda a_isTemplate a_matchSlot a_priorityOf a_outSlot a_onSlot a_waiting a_result : Nat → Int32} {c n : Nat} {r d len : Nat → Nat} {kd wt lt : Nat → Int32}
theorem wx_isMatched {post : Int32 → Prop} {t s m : Nat} (T : td_T c r d) (X : re_XT c r d f_nodeCount a_inUse a_parentOf a_rankOf a_order a_along) (hK : re_K n len a_draftKind a_draftValue a_tokenKind a_tokenValue a_tokenEnd a_slotLength kd wt lt) (ht : t < 6) (hs : s < 8) (hms : a_matchSlot t = nI s) (hm : m < c)
    (h1 : tm_M c r d len kd a_setAt s m → post 1) (h0 : ¬ tm_M c r d len kd a_setAt s m → post 0) : wpX_isMatched post (f_nodeCount, f_draftLength, f_resultLength, a_inUse, a_parentOf, a_rankOf, a_nameOf, a_valueOf, a_order, a_along, a_draftKind, a_draftValue, a_draftEnd, a_tokenKind, a_tokenValue, a_tokenEnd, a_slotLength, a_setAt, a_amount, a_reached, a_agenda, a_isTemplate, a_matchSlot, a_priorityOf, a_outSlot, a_onSlot, a_waiting, a_result) (nI t) (nI (r m)) := by
  have rm := T.2.2.2.1 m hm
  have et : (nI t).toNatClampNeg = t := nI_clamp (by omega)
  have vt : vp_in (nI t) 6 := vp_in_nI ht (by omega)
  unfold wpX_isMatched
  refine ⟨vt, ?_⟩
  rw [et, hms]
  refine wx_gives hK (fun s' hs' es hl h4 => br_f (by decide) ⟨vt, ?_⟩) (fun w => br_t rfl (h0 (fun g => w ⟨s, hs, rfl, g.1, g.2.1⟩)))
  rw [nI_eq (by omega) (by omega)] at es
  subst es
  have e1 : nI s * 40 * 24 = nI (40 * s * 24) := by rw [re_e40, show (24 : Int32) = nI 24 from rfl, pk_mul]
  have e2 : (240 : Int32) + nI (r m) = nI (10 * 24 + r m) := by rw [show (240 : Int32) = nI (10 * 24) from rfl, nI_add]
  have on : ∀ q, q < 24 → (bt (a_along (10 * 24 + r m)) q = true ↔ ∃ l, l < c ∧ r l = q ∧ (td_An d l m ∨ l = m)) := fun q hq => by
    rw [(X.2.2.2.2 10 (by omega) (r m) rm).2 q hq]
    constructor
    · rintro ⟨a, l, ha, hl', w1, w2, w3⟩
      rw [T.2.2.2.2 a m ha hm w1, td_on10] at w3
      exact ⟨l, hl', w2, w3⟩
    · rintro ⟨l, hl', w2, w3⟩
      exact ⟨m, l, hm, hl', rfl, w2, td_on10.mpr w3⟩
  have key : ∀ k i, i + k = 24 → (∀ g, g < i → ¬ (bt (a_along (10 * 24 + r m)) g = true ∧ bt (a_setAt (40 * s * 24 + g)) (r m) = true)) → wX_isMatched_43 post (nI (r m)) (nI (40 * s * 24)) (a_along (10 * 24 + r m)) f_nodeCount f_draftLength f_resultLength a_inUse a_parentOf a_rankOf a_nameOf a_valueOf a_order a_along a_draftKind a_draftValue a_draftEnd a_tokenKind a_tokenValue a_tokenEnd a_slotLength a_setAt a_amount a_reached a_agenda a_isTemplate a_matchSlot a_priorityOf a_outSlot a_onSlot a_waiting a_result (k + 1) (nI i) := by
    intro k
    induction k with
    | zero =>
      intro i hi hg
      refine br_t (nI_le (a := 24) (b := i) (by omega) (by omega)) (h0 (fun ⟨_, _, l, hl', w1, w2⟩ => ?_))
      have rl := T.2.2.2.1 l hl'
      exact hg (r l) (by omega) ⟨(on _ rl).mpr ⟨l, hl', rfl, w1⟩, w2⟩
    | succ k ih =>
      intro i hi hg
      have nx : ¬ (bt (a_along (10 * 24 + r m)) i = true ∧ bt (a_setAt (40 * s * 24 + i)) (r m) = true) → wX_isMatched_43 post (nI (r m)) (nI (40 * s * 24)) (a_along (10 * 24 + r m)) f_nodeCount f_draftLength f_resultLength a_inUse a_parentOf a_rankOf a_nameOf a_valueOf a_order a_along a_draftKind a_draftValue a_draftEnd a_tokenKind a_tokenValue a_tokenEnd a_slotLength a_setAt a_amount a_reached a_agenda a_isTemplate a_matchSlot a_priorityOf a_outSlot a_onSlot a_waiting a_result (k + 1) (nI (i + 1)) := fun w => ih (i + 1) (by omega) (fun g hg' => by
        by_cases y : g = i
        · subst y; exact w
        · exact hg g (by omega))
      refine br_f (nI_ge (a := i) (b := 24) (by omega) (by omega)) ?_
      by_cases z : bt (a_along (10 * 24 + r m)) i = true
      · refine br_f (fun w => by rw [mk_f (by omega), z] at w; cases w) ⟨by rw [nI_add]; exact vp_in_nI (by omega) (by omega), ?_⟩
        rw [nI_add, nI_clamp (by omega)]
        by_cases y : bt (a_setAt (40 * s * 24 + i)) (r m) = true
        · refine br_f (fun w => by rw [mk_f (by omega), y] at w; cases w) (h1 ?_)
          obtain ⟨l, hl', w2, w3⟩ := (on i (by omega)).mp z
          exact ⟨hl, h4, l, hl', w3, by rw [w2]; exact y⟩
        · exact br_t ((mk_f (by omega)).mpr (tz_nb y)) (nm_r (nI_1 i) (nx (fun w => y w.2)))
      · exact br_t ((mk_f (by omega)).mpr (tz_nb z)) (nm_r (nI_1 i) (nx (fun w => z w.1)))
  refine nm_r e1 ⟨by rw [e2]; exact vp_in_nI (by omega) (by omega), nm_r (e' := a_along (10 * 24 + r m)) (by rw [e2, nI_clamp (by omega)]) ⟨25, key 24 0 rfl (fun g hg => by omega)⟩⟩
end
section
variable {f_count f_top f_listed f_outputs : Int32} {a_row a_depth a_name a_value a_moved a_kind a_with a_length a_sets a_fresh a_type a_number a_set a_list a_there a_match a_priority a_out a_on a_todo a_within a_output : Nat → Int32} {c n : Nat} {r d len : Nat → Nat} {dk dv tk tv te sl A : Nat → Int32}
theorem wy_match {post : Int32 → SY → Prop} {t s m : Nat} (T : td_T c r d) (Y : re_YT c r d f_count a_row a_depth) (hK : re_K n len dk dv tk tv te sl a_kind a_with a_length) (hF : re_F c r d len a_name a_value a_kind a_with te a_sets a_fresh) (ht : t < 6) (hs : s < 8) (hms : a_match t = nI s) (hm : m < c)
    (hA : tk_Eq c r d a_name a_value (te_R (40 * s) (40 * s + len s) a_kind) (te_R (40 * s) (40 * s + len s) a_with) (te_R (40 * s) (40 * s + len s) te) (te_V (40 * s) (40 * s + len s) a_with) (40 * s) (40 * s + len s) (fun t n => A (t * 24 + n)))
    (h1 : a_there t ≠ 0 → tm_M c r d len a_kind A s m → ∀ B fr top li ty nb st la, re_F c r d len a_name a_value a_kind a_with te B fr → post 1 (f_count, top, li, f_outputs, a_row, a_depth, a_name, a_value, a_moved, a_kind, a_with, a_length, B, fr, ty, nb, st, la, a_there, a_match, a_priority, a_out, a_on, a_todo, a_within, a_output))
    (h0 : ¬ (a_there t ≠ 0 ∧ tm_M c r d len a_kind A s m) → ∀ B fr top li ty nb st la, re_F c r d len a_name a_value a_kind a_with te B fr → post 0 (f_count, top, li, f_outputs, a_row, a_depth, a_name, a_value, a_moved, a_kind, a_with, a_length, B, fr, ty, nb, st, la, a_there, a_match, a_priority, a_out, a_on, a_todo, a_within, a_output)) :
    wpY_matches post (f_count, f_top, f_listed, f_outputs, a_row, a_depth, a_name, a_value, a_moved, a_kind, a_with, a_length, a_sets, a_fresh, a_type, a_number, a_set, a_list, a_there, a_match, a_priority, a_out, a_on, a_todo, a_within, a_output) (nI t) (nI (r m)) := by
  have c24 := T.1
  have rm := T.2.2.2.1 m hm
  have et : (nI t).toNatClampNeg = t := nI_clamp (by omega)
  have vt : vp_in (nI t) 6 := vp_in_nI ht (by omega)
  unfold wpY_matches
  refine wy_in0 (n := 5) (by omega) (fun _ _ _ => br_f (by decide) ⟨vt, ?_⟩) (fun w => absurd rfl (w t (by omega)))
  rw [et]
  by_cases z : a_there t = 0
  · exact br_t z (h0 (fun w => w.1 z) a_sets a_fresh f_top f_listed a_type a_number a_set a_list hF)
  refine br_f z (wy_where1 T Y hm (br_f (nI_pos (by omega)) ⟨vt, ?_⟩))
  rw [hms]
  refine wy_isSet hK hs (fun hl h4 => br_f (by decide) ⟨c + 1, ?_⟩) (fun w => br_t rfl (h0 (fun g => w ⟨g.2.1, g.2.2.1⟩) a_sets a_fresh f_top f_listed a_type a_number a_set a_list hF))
  have key : ∀ k i B fr top li ty nb st la, i + k = c → re_F c r d len a_name a_value a_kind a_with te B fr → (∀ l, l < i → ¬ ((td_An d l m ∨ l = m) ∧ bt (A (40 * s * 24 + r l)) (r m) = true)) →
      wY_matches_43 post (nI t) (nI (r m)) (k + 1) (nI i) f_count top li f_outputs a_row a_depth a_name a_value a_moved a_kind a_with a_length B fr ty nb st la a_there a_match a_priority a_out a_on a_todo a_within a_output := by
    intro k
    induction k with
    | zero =>
      intro i B fr top li ty nb st la hi hf hl'
      refine br_t (by rw [Y.1]; exact nI_le (by omega) (by omega)) (h0 (fun ⟨_, _, _, l, w1, w2, w3⟩ => hl' l (by omega) ⟨w2, w3⟩) B fr top li ty nb st la hf)
    | succ k ih =>
      intro i B fr top li ty nb st la hi hf hl'
      have ri := T.2.2.2.1 i (by omega)
      have nx : ∀ B fr top li ty nb st la, re_F c r d len a_name a_value a_kind a_with te B fr → ¬ ((td_An d i m ∨ i = m) ∧ bt (A (40 * s * 24 + r i)) (r m) = true) → wY_matches_43 post (nI t) (nI (r m)) (k + 1) (nI (i + 1)) f_count top li f_outputs a_row a_depth a_name a_value a_moved a_kind a_with a_length B fr ty nb st la a_there a_match a_priority a_out a_on a_todo a_within a_output := fun B fr top li ty nb st la hf w =>
        ih (i + 1) B fr top li ty nb st la (by omega) hf (fun l hl2 => by
          by_cases y : l = i
          · subst y; exact w
          · exact hl' l (by omega))
      have s75 : (td_An d i m ∨ i = m) → wY_matches_75 post (wY_matches_43 post (nI t) (nI (r m)) (k + 1)) (nI t) (nI (r m)) (nI i) (nI (r i)) f_count top li f_outputs a_row a_depth a_name a_value a_moved a_kind a_with a_length B fr ty nb st la a_there a_match a_priority a_out a_on a_todo a_within a_output := by
        intro hin
        unfold wY_matches_75 wY_matches_80
        refine br_f (by decide) ⟨vt, ?_⟩
        rw [et, hms]
        refine wy_ask (m := i) T Y hK hf hs hl (by omega) (fun B2 fr2 top2 li2 ty2 nb2 st2 la2 g1 g2 En => ?_)
        have same := (re_same (pos := 1) (last := 1) (re_sy hK hs).2.2.2.2 (re_sy hK hs).1 hA g2 (t := 40 * s) (Nat.le_refl _) (by omega) (show i < c by omega)).1 h4
        have e0 := En.2.1
        rw [if_pos h4, ← same] at e0
        dsimp only
        rw [e0]
        by_cases y : bt (A (40 * s * 24 + r i)) (r m) = true
        · exact br_t ((mk_t (by omega)).mpr y) (h1 z ⟨hl, h4, i, by omega, hin, y⟩ B2 fr2 top2 li2 ty2 nb2 st2 la2 g1)
        · exact br_f (fun w => y ((mk_t (by omega)).mp w)) (nm_r (nI_1 i) (nx B2 fr2 top2 li2 ty2 nb2 st2 la2 g1 (fun w => y w.2)))
      refine br_f (by rw [Y.1]; exact nI_ge (by omega) (by omega)) ⟨vp_in_nI (by omega) (by omega), nm_r (e' := nI (r i)) (by rw [nI_clamp (by omega)]; exact Y.2.1 i (by omega)) ?_⟩
      by_cases y : i = m
      · exact br_t (by rw [y]) (s75 (Or.inr y))
      · refine br_f (fun w => y ?_) (wy_isBelow T Y (by omega) hm (fun w => br_f (by decide) (s75 (Or.inl w))) (fun w => br_t rfl ?_))
        · rw [nI_eq (by omega) (by omega)] at w
          exact T.2.2.2.2 i m (by omega) hm w
        · unfold wY_matches_80
          exact br_t rfl (nm_r (nI_1 i) (nx B fr top li ty nb st la hf (fun v => v.1.elim w y)))
  exact key c 0 a_sets a_fresh f_top f_listed a_type a_number a_set a_list (by omega) hF (fun l hl' => by omega)
end
theorem i_vc_matches {k : Nat} {u : SX} {v : SY} (I : i_Rel k u v) (hk : k + 6 ≤ 3072) (v1 : Int32) (v2 : Int32) : wpX_matches (fun r u' => wpY_matches (fun r' v' => r' = r ∧ i_Rel (k + 6) u' v') v v1 v2) u v1 v2 := by
  obtain ⟨f_nodeCount, f_draftLength, f_resultLength, a_inUse, a_parentOf, a_rankOf, a_nameOf, a_valueOf, a_order, a_along, a_draftKind, a_draftValue, a_draftEnd, a_tokenKind, a_tokenValue, a_tokenEnd, a_slotLength, a_setAt, a_amount, a_reached, a_agenda, a_isTemplate, a_matchSlot, a_priorityOf, a_outSlot, a_onSlot, a_waiting, a_result⟩ := u
  obtain ⟨f_count, f_top, f_listed, f_outputs, a_row, a_depth, a_name, a_value, a_moved, a_kind, a_with, a_length, a_sets, a_fresh, a_type, a_number, a_set, a_list, a_there, a_match, a_priority, a_out, a_on, a_todo, a_within, a_output⟩ := v
  have J := i_up I
  obtain ⟨c, n, mm, r, d, len, T, X, Y, e1, e2, hdl, hK, hF, e3, e4, e5, e6, e7, hP, hm, hrl, hou, e8⟩ := I
  subst e1 e2 e3 e4
  have c24 := T.1
  unfold wpX_matches
  by_cases z : v1 < 0
  · refine br_t z ?_
    unfold wpY_matches
    exact br_t z (br_t rfl ⟨rfl, J⟩)
  obtain ⟨t, ht', rfl⟩ := nI_of z
  by_cases y : 6 ≤ t
  · refine br_f z (br_t (nI_le (a := 6) y ht') ?_)
    unfold wpY_matches
    exact br_f z (br_t (nI_lt (a := 5) (by omega) ht') (br_t rfl ⟨rfl, J⟩))
  have ht : t < 6 := by omega
  have et : (nI t).toNatClampNeg = t := nI_clamp ht'
  have vt : vp_in (nI t) 6 := vp_in_nI ht (by omega)
  have yin : ∀ {Q : Int32 → Prop}, Q 1 → wpY_in Q (nI t) 0 5 := fun q => wy_in0 (n := 5) (by omega) (fun _ _ _ => q) (fun h => absurd rfl (h t (by omega)))
  obtain ⟨p1, ⟨s, hs, hms⟩, -, -⟩ := hP t ht
  refine br_f z (br_f (nI_ge (b := 6) ht (by omega)) ⟨vt, ?_⟩)
  rw [et]
  by_cases z0 : a_isTemplate t = 0
  · refine br_t z0 ?_
    unfold wpY_matches
    refine yin (br_f (by decide) ⟨vt, ?_⟩)
    rw [et]
    exact br_t z0 ⟨rfl, J⟩
  refine br_f z0 (wx_isNode T X.2.1 (fun m hmc em => br_f (by decide) ⟨vt, ?_⟩) (fun hno => br_t rfl ?_))
  rotate_left
  · unfold wpY_matches
    refine yin (br_f (by decide) ⟨vt, ?_⟩)
    rw [et]
    refine br_f z0 (wy_where T Y (fun w hw => ?_))
    rcases hw with ⟨i, hi, e, -⟩ | ⟨-, rfl⟩
    · exact absurd e (hno i hi)
    · exact br_t tz_m1lt ⟨rfl, J⟩
  subst em
  rw [hms]
  refine wx_prep T (by omega) X hK hs (fun A re am ag hA _ => wx_isMatched T X hK ht hs hms hmc (fun g => ⟨rfl, ?_⟩) (fun g => ⟨rfl, ?_⟩))
  · exact wy_match T Y hK hF ht hs hms hmc hA (fun _ _ B fr top li ty nb st la hf => ⟨rfl, c, n, mm, r, d, len, T, X, Y, rfl, rfl, hdl, hK, hf, rfl, rfl, e5, e6, e7, hP, hm, hrl, hou, e8⟩) (fun w => absurd ⟨z0, g⟩ w)
  · exact wy_match T Y hK hF ht hs hms hmc hA (fun _ w => absurd w g) (fun _ B fr top li ty nb st la hf => ⟨rfl, c, n, mm, r, d, len, T, X, Y, rfl, rfl, hdl, hK, hf, rfl, rfl, e5, e6, e7, hP, hm, hrl, hou, e8⟩)
end
section
/-! templates: which one, what it puts out, whom it goes on to -/
noncomputable def tm_best (M : Nat → Prop) (pr : Nat → Int32) : Nat → Int32
  | 0 => -1
  | t + 1 => @ite Int32 (M t ∧ (tm_best M pr t = -1 ∨ ¬ pr t < pr (tm_best M pr t).toNatClampNeg)) (Classical.propDecidable _) (nI t) (tm_best M pr t)
theorem tm_best_t {M : Nat → Prop} {pr : Nat → Int32} {t : Nat} (h : M t ∧ (tm_best M pr t = -1 ∨ ¬ pr t < pr (tm_best M pr t).toNatClampNeg)) : tm_best M pr (t + 1) = nI t := @if_pos _ (Classical.propDecidable _) h _ _ _
theorem tm_best_f {M : Nat → Prop} {pr : Nat → Int32} {t : Nat} (h : ¬ (M t ∧ (tm_best M pr t = -1 ∨ ¬ pr t < pr (tm_best M pr t).toNatClampNeg))) : tm_best M pr (t + 1) = tm_best M pr t := @if_neg _ (Classical.propDecidable _) h _ _ _
theorem tm_best_or (M : Nat → Prop) (pr : Nat → Int32) : ∀ t, tm_best M pr t = -1 ∨ ∃ j, j < t ∧ tm_best M pr t = nI j
  | 0 => Or.inl rfl
  | t + 1 => by
    rcases Classical.em (M t ∧ (tm_best M pr t = -1 ∨ ¬ pr t < pr (tm_best M pr t).toNatClampNeg)) with h | h
    · exact Or.inr ⟨t, by omega, tm_best_t h⟩
    · rw [tm_best_f h]
      rcases tm_best_or M pr t with w | ⟨j, a, b⟩
      · exact Or.inl w
      · exact Or.inr ⟨j, by omega, b⟩
/-- template t is there and matches the node of place m -/
def tm_Q (c : Nat) (r d len : Nat → Nat) (kd A it ms : Nat → Int32) (m t : Nat) : Prop := it t ≠ 0 ∧ tm_M c r d len kd A (ms t).toNatClampNeg m
/-- all slots are prepared in A -/
def tm_A (c : Nat) (r d len : Nat → Nat) (nm val kd wt te A : Nat → Int32) (z : Nat) : Prop := ∀ s, s < z → tk_Eq c r d nm val (te_R (40 * s) (40 * s + len s) kd) (te_R (40 * s) (40 * s + len s) wt) (te_R (40 * s) (40 * s + len s) te) (te_V (40 * s) (40 * s + len s) wt) (40 * s) (40 * s + len s) (fun t n => A (t * 24 + n))
def tm_Out (c : Nat) (r : Nat → Nat) (len : Nat → Nat) (val kd wt te A : Nat → Int32) (m : Nat) (o : Int32) (ol : Nat) (res : Nat → Int32) (ol' : Nat) (res' : Nat → Int32) : Prop :=
  (∃ s, s < 8 ∧ o = nI s ∧ 0 < len s ∧ ol' = ol + 1 ∧ res' = upd res ol (tn_pl c r val (te_R (40 * s) (40 * s + len s) kd (40 * s)) (A (40 * s * 24 + r m)) (tn_nv c r val (te_R (40 * s) (40 * s + len s) kd) (te_R (40 * s) (40 * s + len s) te) (te_V (40 * s) (40 * s + len s) wt) (fun j => A (j * 24 + r m)) 1 1 (40 * s)))) ∨
  (¬ (∃ s, s < 8 ∧ o = nI s ∧ 0 < len s) ∧ ol' = ol ∧ res' = res)
def tm_On (r len : Nat → Nat) (kd A : Nat → Int32) (m : Nat) (o : Int32) (mask : Int32) : Prop :=
  (∃ s, s < 8 ∧ o = nI s ∧ 0 < len s ∧ te_R (40 * s) (40 * s + len s) kd (40 * s) < 4 ∧ mask = A (40 * s * 24 + r m)) ∨
  (¬ (∃ s, s < 8 ∧ o = nI s ∧ 0 < len s ∧ te_R (40 * s) (40 * s + len s) kd (40 * s) < 4) ∧ mask = 0)
section
variable {f_nodeCount f_draftLength f_resultLength : Int32} {a_inUse a_parentOf a_rankOf a_nameOf a_valueOf a_order a_along a_draftKind a_draftValue a_draftEnd a_tokenKind a_tokenValue a_tokenEnd a_slotLength a_setAt a_amount a_reached a_agenda a_isTemplate a_matchSlot a_priorityOf a_outSlot a_onSlot a_waiting a_result : Nat → Int32} {c n : Nat} {r d len : Nat → Nat} {kd wt lt : Nat → Int32}
theorem wx_tfor {post : Int32 → Prop} {m : Nat} (T : td_T c r d) (X : re_XT c r d f_nodeCount a_inUse a_parentOf a_rankOf a_order a_along) (hK : re_K n len a_draftKind a_draftValue a_tokenKind a_tokenValue a_tokenEnd a_slotLength kd wt lt) (hP : re_P a_isTemplate a_matchSlot a_outSlot a_onSlot) (hm : m < c)
    (h : post (tm_best (tm_Q c r d len kd a_setAt a_isTemplate a_matchSlot m) a_priorityOf 6)) : wpX_templateFor post (f_nodeCount, f_draftLength, f_resultLength, a_inUse, a_parentOf, a_rankOf, a_nameOf, a_valueOf, a_order, a_along, a_draftKind, a_draftValue, a_draftEnd, a_tokenKind, a_tokenValue, a_tokenEnd, a_slotLength, a_setAt, a_amount, a_reached, a_agenda, a_isTemplate, a_matchSlot, a_priorityOf, a_outSlot, a_onSlot, a_waiting, a_result) (nI (r m)) := by
  have key : ∀ k i, i + k = 6 → wX_templateFor_4 post (nI (r m)) f_nodeCount f_draftLength f_resultLength a_inUse a_parentOf a_rankOf a_nameOf a_valueOf a_order a_along a_draftKind a_draftValue a_draftEnd a_tokenKind a_tokenValue a_tokenEnd a_slotLength a_setAt a_amount a_reached a_agenda a_isTemplate a_matchSlot a_priorityOf a_outSlot a_onSlot a_waiting a_result (k + 1) (tm_best (tm_Q c r d len kd a_setAt a_isTemplate a_matchSlot m) a_priorityOf i) (nI i) := by
    intro k
    induction k with
    | zero =>
      intro i hi
      have e : i = 6 := by omega
      subst e
      exact br_t (nI_le (a := 6) (b := 6) (by omega) (by omega)) h
    | succ k ih =>
      intro i hi
      obtain ⟨p1, ⟨s, hs, hms⟩, -, -⟩ := hP i (by omega)
      have ei : (nI i).toNatClampNeg = i := nI_clamp (by omega)
      have vi : vp_in (nI i) 6 := vp_in_nI (by omega) (by omega)
      have es : (a_matchSlot i).toNatClampNeg = s := by rw [hms]; exact nI_clamp (by omega)
      have nx := ih (i + 1) (by omega)
      have nof : ¬ (tm_Q c r d len kd a_setAt a_isTemplate a_matchSlot m i ∧ (tm_best (tm_Q c r d len kd a_setAt a_isTemplate a_matchSlot m) a_priorityOf i = -1 ∨ ¬ a_priorityOf i < a_priorityOf (tm_best (tm_Q c r d len kd a_setAt a_isTemplate a_matchSlot m) a_priorityOf i).toNatClampNeg)) →
          wX_templateFor_43 post (wX_templateFor_4 post (nI (r m)) f_nodeCount f_draftLength f_resultLength a_inUse a_parentOf a_rankOf a_nameOf a_valueOf a_order a_along a_draftKind a_draftValue a_draftEnd a_tokenKind a_tokenValue a_tokenEnd a_slotLength a_setAt a_amount a_reached a_agenda a_isTemplate a_matchSlot a_priorityOf a_outSlot a_onSlot a_waiting a_result (k + 1)) (nI (r m)) (tm_best (tm_Q c r d len kd a_setAt a_isTemplate a_matchSlot m) a_priorityOf i) (nI i) f_nodeCount f_draftLength f_resultLength a_inUse a_parentOf a_rankOf a_nameOf a_valueOf a_order a_along a_draftKind a_draftValue a_draftEnd a_tokenKind a_tokenValue a_tokenEnd a_slotLength a_setAt a_amount a_reached a_agenda a_isTemplate a_matchSlot a_priorityOf a_outSlot a_onSlot a_waiting a_result := fun w => by
        unfold wX_templateFor_43 wX_templateFor_44
        rw [tm_best_f w] at nx
        exact br_t rfl (nm_r (nI_1 i) nx)
      refine br_f (nI_ge (a := i) (b := 6) (by omega) (by omega)) ⟨vi, ?_⟩
      rw [ei]
      by_cases z : a_isTemplate i = 0
      · exact br_t z (nof (fun w => w.1.1 z))
      refine br_f z ?_
      have s39 : (tm_best (tm_Q c r d len kd a_setAt a_isTemplate a_matchSlot m) a_priorityOf i = -1 ∨ ¬ a_priorityOf i < a_priorityOf (tm_best (tm_Q c r d len kd a_setAt a_isTemplate a_matchSlot m) a_priorityOf i).toNatClampNeg) →
          wX_templateFor_39 post (wX_templateFor_4 post (nI (r m)) f_nodeCount f_draftLength f_resultLength a_inUse a_parentOf a_rankOf a_nameOf a_valueOf a_order a_along a_draftKind a_draftValue a_draftEnd a_tokenKind a_tokenValue a_tokenEnd a_slotLength a_setAt a_amount a_reached a_agenda a_isTemplate a_matchSlot a_priorityOf a_outSlot a_onSlot a_waiting a_result (k + 1)) (nI (r m)) (tm_best (tm_Q c r d len kd a_setAt a_isTemplate a_matchSlot m) a_priorityOf i) (nI i) f_nodeCount f_draftLength f_resultLength a_inUse a_parentOf a_rankOf a_nameOf a_valueOf a_order a_along a_draftKind a_draftValue a_draftEnd a_tokenKind a_tokenValue a_tokenEnd a_slotLength a_setAt a_amount a_reached a_agenda a_isTemplate a_matchSlot a_priorityOf a_outSlot a_onSlot a_waiting a_result := fun w => by
        unfold wX_templateFor_39 wX_templateFor_44
        refine br_f (by decide) (wx_isMatched T X hK (by omega) hs hms hm (fun g => br_f (by decide) (nm_r (nI_1 i) ?_)) (fun g => br_t rfl (nm_r (nI_1 i) ?_)))
        · rw [tm_best_t ⟨⟨z, by rw [es]; exact g⟩, w⟩] at nx
          exact nx
        · rw [tm_best_f (fun v => g (by have := v.1.2; rw [es] at this; exact this))] at nx
          exact nx
      rcases tm_best_or (tm_Q c r d len kd a_setAt a_isTemplate a_matchSlot m) a_priorityOf i with w | ⟨j, hj, w⟩
      · exact br_t w (s39 (Or.inl w))
      · refine br_f (by rw [w]; exact tx_m1' (by omega)) ⟨vi, by rw [w]; exact vp_in_nI (by omega) (by omega), ?_⟩
        by_cases y : a_priorityOf i < a_priorityOf (tm_best (tm_Q c r d len kd a_setAt a_isTemplate a_matchSlot m) a_priorityOf i).toNatClampNeg
        · exact br_t y (nof (fun v => v.2.elim (fun q => tx_m1' (n := j) (by omega) (by rw [← w]; exact q)) (fun q => q y)))
        · exact br_f y (s39 (Or.inr y))
  exact ⟨7, key 6 0 rfl⟩
theorem wx_follow {post : Int32 → SX → Prop} {j m ol : Nat} (T : td_T c r d) (X : re_XT c r d f_nodeCount a_inUse a_parentOf a_rankOf a_order a_along) (hK : re_K n len a_draftKind a_draftValue a_tokenKind a_tokenValue a_tokenEnd a_slotLength kd wt lt) (hj : j < 6) (hm : m < c) (hol : f_resultLength = nI ol) (ol100 : ol < 100)
    (h : ∀ mask ol' res' am ag, tm_Out c r len a_valueOf kd wt a_tokenEnd a_setAt m (a_outSlot j) ol a_result ol' res' → tm_On r len kd a_setAt m (a_onSlot j) mask → post mask (f_nodeCount, f_draftLength, nI ol', a_inUse, a_parentOf, a_rankOf, a_nameOf, a_valueOf, a_order, a_along, a_draftKind, a_draftValue, a_draftEnd, a_tokenKind, a_tokenValue, a_tokenEnd, a_slotLength, a_setAt, am, a_reached, ag, a_isTemplate, a_matchSlot, a_priorityOf, a_outSlot, a_onSlot, a_waiting, res')) :
    wpX_follow post (f_nodeCount, f_draftLength, f_resultLength, a_inUse, a_parentOf, a_rankOf, a_nameOf, a_valueOf, a_order, a_along, a_draftKind, a_draftValue, a_draftEnd, a_tokenKind, a_tokenValue, a_tokenEnd, a_slotLength, a_setAt, a_amount, a_reached, a_agenda, a_isTemplate, a_matchSlot, a_priorityOf, a_outSlot, a_onSlot, a_waiting, a_result) (nI j) (nI (r m)) := by
  subst hol
  have ej : (nI j).toNatClampNeg = j := nI_clamp (by omega)
  have vj : vp_in (nI j) 6 := vp_in_nI hj (by omega)
  have rm := T.2.2.2.1 m hm
  have s63 : ∀ ol' res' am ag, tm_Out c r len a_valueOf kd wt a_tokenEnd a_setAt m (a_outSlot j) ol a_result ol' res' → wX_follow_63 post (nI j) (nI (r m)) f_nodeCount f_draftLength (nI ol') a_inUse a_parentOf a_rankOf a_nameOf a_valueOf a_order a_along a_draftKind a_draftValue a_draftEnd a_tokenKind a_tokenValue a_tokenEnd a_slotLength a_setAt am a_reached ag a_isTemplate a_matchSlot a_priorityOf a_outSlot a_onSlot a_waiting res' := by
    intro ol' res' am ag ho
    unfold wX_follow_63
    refine ⟨vj, nm_r (e' := a_onSlot j) (by rw [ej]) (wx_gives hK (fun s hs es hl h4 => br_f (by decide) ?_) (fun w => br_t rfl (h 0 ol' res' am ag ho (Or.inr ⟨w, rfl⟩))))⟩
    rw [es, re_b24 hs rm, nI_clamp (by omega)]
    exact ⟨vp_in_nI (by omega) (by omega), h _ ol' res' am ag ho (Or.inl ⟨s, hs, es, hl, h4, rfl⟩)⟩
  unfold wpX_follow
  refine ⟨vj, nm_r (e' := a_outSlot j) (by rw [ej]) (wx_isFilled hK (fun s hs es hl => br_f (by decide) (br_f (nI_ge (b := 100) ol100 (by omega)) ?_)) (fun w => br_t rfl (s63 ol a_result a_amount a_agenda (Or.inr ⟨w, rfl, rfl⟩))))⟩
  rw [es, re_e40]
  refine wx_work (re_sx hK hs) T X.1 X.2.2.2.1 (Nat.le_refl _) (by omega) rm (fun am ag ham => ⟨vp_in_nI (by omega) (by omega), vp_in_nI ol100 (by omega), nm_r (e' := upd a_result ol (am (40 * s))) (by rw [nI_clamp (by omega), nI_clamp (by omega)]) (nm_r (nI_1 ol) (s63 (ol + 1) _ am ag (Or.inl ⟨s, hs, es, hl, rfl, by rw [ham]⟩)))⟩)
end
section
variable {f_count f_top f_listed f_outputs : Int32} {a_row a_depth a_name a_value a_moved a_kind a_with a_length a_sets a_fresh a_type a_number a_set a_list a_there a_match a_priority a_out a_on a_todo a_within a_output : Nat → Int32} {c n : Nat} {r d len : Nat → Nat} {dk dv tk tv te sl A : Nat → Int32}
theorem wy_best {post : Int32 → SY → Prop} {m : Nat} (T : td_T c r d) (Y : re_YT c r d f_count a_row a_depth) (hK : re_K n len dk dv tk tv te sl a_kind a_with a_length) (hF : re_F c r d len a_name a_value a_kind a_with te a_sets a_fresh) (hP : re_P a_there a_match a_out a_on) (hA : tm_A c r d len a_name a_value a_kind a_with te A 8) (hm : m < c)
    (h : ∀ B fr top li ty nb st la, re_F c r d len a_name a_value a_kind a_with te B fr → post (tm_best (tm_Q c r d len a_kind A a_there a_match m) a_priority 6) (f_count, top, li, f_outputs, a_row, a_depth, a_name, a_value, a_moved, a_kind, a_with, a_length, B, fr, ty, nb, st, la, a_there, a_match, a_priority, a_out, a_on, a_todo, a_within, a_output)) :
    wpY_best post (f_count, f_top, f_listed, f_outputs, a_row, a_depth, a_name, a_value, a_moved, a_kind, a_with, a_length, a_sets, a_fresh, a_type, a_number, a_set, a_list, a_there, a_match, a_priority, a_out, a_on, a_todo, a_within, a_output) (nI (r m)) := by
  have key : ∀ k i B fr top li ty nb st la, i + k = 6 → re_F c r d len a_name a_value a_kind a_with te B fr → wY_best_4 post (nI (r m)) (k + 1) (tm_best (tm_Q c r d len a_kind A a_there a_match m) a_priority i) (nI i) f_count top li f_outputs a_row a_depth a_name a_value a_moved a_kind a_with a_length B fr ty nb st la a_there a_match a_priority a_out a_on a_todo a_within a_output := by
    intro k
    induction k with
    | zero =>
      intro i B fr top li ty nb st la hi hf
      have e : i = 6 := by omega
      subst e
      exact br_t (nI_le (a := 6) (b := 6) (by omega) (by omega)) (h B fr top li ty nb st la hf)
    | succ k ih =>
      intro i B fr top li ty nb st la hi hf
      obtain ⟨p1, ⟨s, hs, hms⟩, -, -⟩ := hP i (by omega)
      have es : (a_match i).toNatClampNeg = s := by rw [hms]; exact nI_clamp (by omega)
      have ei : (nI i).toNatClampNeg = i := nI_clamp (by omega)
      have vi : vp_in (nI i) 6 := vp_in_nI (by omega) (by omega)
      refine br_f (nI_ge (a := i) (b := 6) (by omega) (by omega)) (wy_match T Y hK hf (by omega) hs hms hm (hA s hs) (fun g0 g B2 fr2 top2 li2 ty2 nb2 st2 la2 hf2 => br_f (by decide) ?_) (fun g B2 fr2 top2 li2 ty2 nb2 st2 la2 hf2 => br_t rfl (nm_r (nI_1 i) ?_)))
      · have nx := ih (i + 1) B2 fr2 top2 li2 ty2 nb2 st2 la2 (by omega) hf2
        have q : tm_Q c r d len a_kind A a_there a_match m i := ⟨g0, by rw [es]; exact g⟩
        rcases tm_best_or (tm_Q c r d len a_kind A a_there a_match m) a_priority i with w | ⟨j, hj, w⟩
        · rw [tm_best_t ⟨q, Or.inl w⟩] at nx
          exact br_t (by rw [w]; decide) (nm_r (nI_1 i) nx)
        · refine br_f (by rw [w]; exact nI_pos (by omega)) ⟨vi, by rw [w]; exact vp_in_nI (by omega) (by omega), ?_⟩
          rw [ei]
          by_cases y : a_priority i < a_priority (tm_best (tm_Q c r d len a_kind A a_there a_match m) a_priority i).toNatClampNeg
          · rw [tm_best_f (fun v => v.2.elim (fun u => tx_m1' (n := j) (by omega) (by rw [← w]; exact u)) (fun u => u y))] at nx
            exact br_t y (nm_r (nI_1 i) nx)
          · rw [tm_best_t ⟨q, Or.inr y⟩] at nx
            exact br_f y (nm_r (nI_1 i) nx)
      · have nx := ih (i + 1) B2 fr2 top2 li2 ty2 nb2 st2 la2 (by omega) hf2
        rw [tm_best_f (fun v => g ⟨v.1.1, by have := v.1.2; rw [es] at this; exact this⟩)] at nx
        exact nx
  exact ⟨7, key 6 0 a_sets a_fresh f_top f_listed a_type a_number a_set a_list rfl hF⟩
theorem wy_children {post : Int32 → Prop} {m : Nat} (T : td_T c r d) (Y : re_YT c r d f_count a_row a_depth) (hm : m < c) (h : ∀ x, tk_Mi r (fun i => tk_d (td_Pa d m i)) c x → post x) : wpY_childrenOf post (f_count, f_top, f_listed, f_outputs, a_row, a_depth, a_name, a_value, a_moved, a_kind, a_with, a_length, a_sets, a_fresh, a_type, a_number, a_set, a_list, a_there, a_match, a_priority, a_out, a_on, a_todo, a_within, a_output) (nI (r m)) := by
  have c24 := T.1
  have rm := T.2.2.2.1 m hm
  have key : ∀ k i x, i + k = c → tk_Mi r (fun i => tk_d (td_Pa d m i)) i x → wY_childrenOf_4 post (nI (r m)) f_count f_top f_listed f_outputs a_row a_depth a_name a_value a_moved a_kind a_with a_length a_sets a_fresh a_type a_number a_set a_list a_there a_match a_priority a_out a_on a_todo a_within a_output (k + 1) x (nI i) := by
    intro k
    induction k with
    | zero =>
      intro i x hi hx
      have e : i = c := by omega
      subst e
      exact br_t (by rw [Y.1]; exact nI_le (Nat.le_refl _) (by omega)) (h x hx)
    | succ k ih =>
      intro i x hi hx
      have ri := T.2.2.2.1 i (by omega)
      have ei : a_row (nI i).toNatClampNeg = nI (r i) := by rw [nI_clamp (by omega)]; exact Y.2.1 i (by omega)
      refine br_f (by rw [Y.1]; exact nI_ge (by omega) (by omega)) ⟨vp_in_nI (by omega) (by omega), ?_⟩
      rw [ei]
      refine wy_parentOf T Y (by omega) (fun p hp => ?_) (fun i0 => ?_)
      · have hpi := hp.1
        have rp := T.2.2.2.1 p (by omega)
        by_cases y : p = m
        · subst y
          exact br_t rfl ⟨vp_in_nI (by omega) (by omega), nm_e (nm_r (nI_1 i) (ih (i + 1) _ (by omega) (tk_Mi_t hx ri (tk_d_t.mpr hp))))⟩
        · refine br_f (fun w => y ?_) (nm_r (nI_1 i) (ih (i + 1) _ (by omega) (tk_Mi_f hx (tk_d_f.mpr (fun w => y (td_uq hp w))))))
          rw [nI_eq (by omega) (by omega)] at w
          exact T.2.2.2.2 p m (by omega) hm w
      · refine br_f (tx_m1 (by omega)) (nm_r (nI_1 i) (ih (i + 1) _ (by omega) (tk_Mi_f hx (tk_d_f.mpr (fun w => ?_)))))
        rw [i0] at w
        exact td_p0 w
  exact ⟨c + 1, key c 0 0 (by omega) tk_Mi_0⟩
end
end
section
/-! transform -/
section
variable {f_count f_top f_listed f_outputs : Int32} {a_row a_depth a_name a_value a_moved a_kind a_with a_length a_sets a_fresh a_type a_number a_set a_list a_there a_match a_priority a_out a_on a_todo a_within a_output : Nat → Int32} {c n : Nat} {r d len : Nat → Nat} {dk dv tk tv te sl A : Nat → Int32}
/-- the nodes to be handled within go onto the stack -/
theorem wy_push {post : Int32 → SY → Prop} {J : Int32 → Int32 → Int32 → Int32 → Int32 → Int32 → (Nat → Int32) → (Nat → Int32) → (Nat → Int32) → (Nat → Int32) → (Nat → Int32) → (Nat → Int32) → (Nat → Int32) → (Nat → Int32) → (Nat → Int32) → (Nat → Int32) → (Nat → Int32) → (Nat → Int32) → (Nat → Int32) → (Nat → Int32) → (Nat → Int32) → (Nat → Int32) → (Nat → Int32) → (Nat → Int32) → (Nat → Int32) → (Nat → Int32) → (Nat → Int32) → (Nat → Int32) → Prop} {x3 x7 : Int32} {dp : Nat} {rest : List (Nat × Nat)} (T : td_T c r d) (Y : re_YT c r d f_count a_row a_depth) (hdp : dp < 100) (hrest : rest.length ≤ 1000)
    (h : ∀ todo wi, tt_St todo wi ((tt_l r x7 c 0).map (fun n => (n, dp + 1)) ++ rest) → J (nI ((tt_l r x7 c 0).map (fun n => (n, dp + 1)) ++ rest).length) x3 f_count f_top f_listed f_outputs a_row a_depth a_name a_value a_moved a_kind a_with a_length a_sets a_fresh a_type a_number a_set a_list a_there a_match a_priority a_out a_on todo wi a_output) :
    ∀ i todo wi, i ≤ c → tt_St todo wi ((tt_l r x7 (c - i) i).map (fun n => (n, dp + 1)) ++ rest) → wY_transform_230 post J x3 (nI dp) x7 f_count f_top f_listed f_outputs (i + 1) (nI ((tt_l r x7 (c - i) i).map (fun n => (n, dp + 1)) ++ rest).length) (nI i - 1) a_row a_depth a_name a_value a_moved a_kind a_with a_length a_sets a_fresh a_type a_number a_set a_list a_there a_match a_priority a_out a_on todo wi a_output := by
  have c24 := T.1
  intro i
  induction i with
  | zero =>
    intro todo wi hi hst
    exact br_t (by decide) (h todo wi hst)
  | succ i ih =>
    intro todo wi hi hst
    have ri := T.2.2.2.1 i (by omega)
    have ei : a_row (nI i).toNatClampNeg = nI (r i) := by rw [nI_clamp (by omega)]; exact Y.2.1 i (by omega)
    have st := tt_l_s r x7 (c - (i + 1)) i
    rw [show c - (i + 1) + 1 = c - i by omega] at st
    have ln : ((tt_l r x7 (c - (i + 1)) (i + 1)).map (fun n => (n, dp + 1)) ++ rest).length ≤ 1100 := by
      have := tt_l_len r x7 (c - (i + 1)) (i + 1)
      rw [List.length_append, List.length_map]
      omega
    rw [nI_pred]
    refine br_f (nI_pos (by omega)) ⟨vp_in_nI (by omega) (by omega), ?_⟩
    rw [ei]
    by_cases z : bt x7 (r i) = true
    · rw [if_pos z] at st
      refine br_f (fun w => by rw [mk_f (by omega), z] at w; cases w) ⟨vp_in_nI (by omega) (by omega), vp_in_nI (by omega) (by omega), nm_r (e' := upd todo ((tt_l r x7 (c - (i + 1)) (i + 1)).map (fun n => (n, dp + 1)) ++ rest).length (nI (r i))) (by rw [nI_clamp (by omega)]) (nm_r (nI_1 _) ⟨vp_in_nI (by omega) (by omega), nm_r (e' := upd wi ((tt_l r x7 (c - (i + 1)) (i + 1)).map (fun n => (n, dp + 1)) ++ rest).length (nI (dp + 1))) (by rw [nI_clamp (by omega), nI_1]) (nm_r (tz_m1s _) ?_)⟩)⟩
      have nx := ih (upd todo ((tt_l r x7 (c - (i + 1)) (i + 1)).map (fun n => (n, dp + 1)) ++ rest).length (nI (r i))) (upd wi ((tt_l r x7 (c - (i + 1)) (i + 1)).map (fun n => (n, dp + 1)) ++ rest).length (nI (dp + 1))) (by omega)
      rw [st] at nx
      exact nx (tt_St_push hst)
    · rw [if_neg z] at st
      refine br_t ((mk_f (by omega)).mpr (tz_nb z)) (nm_r (tz_m1s _) ?_)
      have nx := ih todo wi (by omega)
      rw [st] at nx
      exact nx hst
theorem wy_push0 {post : Int32 → SY → Prop} {J : Int32 → Int32 → Int32 → Int32 → Int32 → Int32 → (Nat → Int32) → (Nat → Int32) → (Nat → Int32) → (Nat → Int32) → (Nat → Int32) → (Nat → Int32) → (Nat → Int32) → (Nat → Int32) → (Nat → Int32) → (Nat → Int32) → (Nat → Int32) → (Nat → Int32) → (Nat → Int32) → (Nat → Int32) → (Nat → Int32) → (Nat → Int32) → (Nat → Int32) → (Nat → Int32) → (Nat → Int32) → (Nat → Int32) → (Nat → Int32) → (Nat → Int32) → Prop} {x3 x7 : Int32} {dp : Nat} {rest : List (Nat × Nat)} (T : td_T c r d) (Y : re_YT c r d f_count a_row a_depth) (hdp : dp < 100) (hrest : rest.length ≤ 1000) (hst : tt_St a_todo a_within rest)
    (h : ∀ todo wi, tt_St todo wi ((tt_l r x7 c 0).map (fun n => (n, dp + 1)) ++ rest) → J (nI ((tt_l r x7 c 0).map (fun n => (n, dp + 1)) ++ rest).length) x3 f_count f_top f_listed f_outputs a_row a_depth a_name a_value a_moved a_kind a_with a_length a_sets a_fresh a_type a_number a_set a_list a_there a_match a_priority a_out a_on todo wi a_output) :
    ∀ x8, x8 = f_count - 1 → ∃ n230, wY_transform_230 post J x3 (nI dp) x7 f_count f_top f_listed f_outputs n230 (nI rest.length) x8 a_row a_depth a_name a_value a_moved a_kind a_with a_length a_sets a_fresh a_type a_number a_set a_list a_there a_match a_priority a_out a_on a_todo a_within a_output := by
  intro x8 e8
  have p := wy_push (post := post) T Y hdp hrest h c a_todo a_within (Nat.le_refl _) (by rw [Nat.sub_self]; exact hst)
  rw [Nat.sub_self] at p
  have e9 : x8 = nI c - 1 := by rw [e8, Y.1]
  rw [e9]
  exact ⟨c + 1, p⟩
theorem wy_follow {post : Int32 → SY → Prop} {J : Int32 → Int32 → Int32 → Int32 → Int32 → Int32 → (Nat → Int32) → (Nat → Int32) → (Nat → Int32) → (Nat → Int32) → (Nat → Int32) → (Nat → Int32) → (Nat → Int32) → (Nat → Int32) → (Nat → Int32) → (Nat → Int32) → (Nat → Int32) → (Nat → Int32) → (Nat → Int32) → (Nat → Int32) → (Nat → Int32) → (Nat → Int32) → (Nat → Int32) → (Nat → Int32) → (Nat → Int32) → (Nat → Int32) → (Nat → Int32) → (Nat → Int32) → Prop} {j m dp ol ol' : Nat} {x3 mask : Int32} {res' : Nat → Int32} {rest : List (Nat × Nat)}
    (T : td_T c r d) (Y : re_YT c r d f_count a_row a_depth) (hK : re_K n len dk dv tk tv te sl a_kind a_with a_length) (hF : re_F c r d len a_name a_value a_kind a_with te a_sets a_fresh) (hP : re_P a_there a_match a_out a_on) (hA : tm_A c r d len a_name a_value a_kind a_with te A 8) (hj : j < 6) (hm : m < c) (hol : f_outputs = nI ol) (ol100 : ol < 100)
    (hdp : dp < 100) (hrest : rest.length ≤ 1000) (hst : tt_St a_todo a_within rest)
    (hO : tm_Out c r len a_value a_kind a_with te A m (a_out j) ol a_output ol' res') (hN : tm_On r len a_kind A m (a_on j) mask)
    (h : ∀ B fr top li ty nb st la todo wi, re_F c r d len a_name a_value a_kind a_with te B fr → tt_St todo wi ((tt_l r mask c 0).map (fun n => (n, dp + 1)) ++ rest) → J (nI ((tt_l r mask c 0).map (fun n => (n, dp + 1)) ++ rest).length) x3 f_count top li (nI ol') a_row a_depth a_name a_value a_moved a_kind a_with a_length B fr ty nb st la a_there a_match a_priority a_out a_on todo wi res') :
    wY_transform_106 post J (nI rest.length) x3 (nI (r m)) (nI dp) (nI j) 0 f_count f_top f_listed f_outputs a_row a_depth a_name a_value a_moved a_kind a_with a_length a_sets a_fresh a_type a_number a_set a_list a_there a_match a_priority a_out a_on a_todo a_within a_output := by
  subst hol
  have ej : (nI j).toNatClampNeg = j := nI_clamp (by omega)
  have vj : vp_in (nI j) 6 := vp_in_nI hj (by omega)
  obtain ⟨-, -, po, pn⟩ := hP j hj
  have s172 : ∀ B fr top li ty nb st la, re_F c r d len a_name a_value a_kind a_with te B fr → wY_transform_172 post J (nI rest.length) x3 (nI (r m)) (nI dp) (nI j) 0 f_count top li (nI ol') a_row a_depth a_name a_value a_moved a_kind a_with a_length B fr ty nb st la a_there a_match a_priority a_out a_on a_todo a_within res' := by
    intro B fr top li ty nb st la hf
    unfold wY_transform_172
    refine br_f (nI_pos (by omega)) ⟨vj, ?_⟩
    rw [ej]
    have zero : ¬ (∃ s, s < 8 ∧ a_on j = nI s ∧ 0 < len s ∧ te_R (40 * s) (40 * s + len s) a_kind (40 * s) < 4) → ∀ x8, x8 = f_count - 1 → ∃ n230, wY_transform_230 post J x3 (nI dp) 0 f_count top li (nI ol') n230 (nI rest.length) x8 a_row a_depth a_name a_value a_moved a_kind a_with a_length B fr ty nb st la a_there a_match a_priority a_out a_on a_todo a_within res' := by
      intro w
      rcases hN with ⟨s, a1, a2, a3, a4, a5⟩ | ⟨-, e0⟩
      · exact absurd ⟨s, a1, a2, a3, a4⟩ w
      · subst e0
        exact wy_push0 T Y hdp hrest hst (fun todo wi g => h B fr top li ty nb st la todo wi hf g)
    rcases pn with pn | ⟨s, hs, pn⟩
    · exact br_t (by rw [pn]; decide) (zero (fun ⟨s, hs, e, _⟩ => by rw [pn] at e; exact tx_m1 (by omega) e))
    · refine br_f (by rw [pn]; exact nI_pos (by omega)) ⟨vj, ?_⟩
      rw [pn]
      refine wy_isSet hK hs (fun hl h4 => br_f (by decide) ⟨vj, ?_⟩) (fun w => br_t rfl (zero (fun ⟨s', hs', e, g1, g2⟩ => w ?_)))
      · refine wy_ask T Y hK hf hs hl hm (fun B2 fr2 top2 li2 ty2 nb2 st2 la2 g1 g2 En => ?_)
        have same := (re_same (pos := 1) (last := 1) (re_sy hK hs).2.2.2.2 (re_sy hK hs).1 (hA s hs) g2 (t := 40 * s) (Nat.le_refl _) (by omega) hm).1 h4
        have e0 := En.2.1
        rw [if_pos h4, ← same] at e0
        have em : mask = A (40 * s * 24 + r m) := by
          rcases hN with ⟨s', a1, a2, a3, a4, a5⟩ | ⟨w, -⟩
          · rw [pn, nI_eq (by omega) (by omega)] at a2
            subst a2
            exact a5
          · exact absurd ⟨s, hs, pn, hl, h4⟩ w
        exact nm_r (e' := mask) (by rw [e0, em]) (wy_push0 T Y hdp hrest hst (fun todo wi g => h B2 fr2 top2 li2 ty2 nb2 st2 la2 todo wi g1 g))
      · rw [pn, nI_eq (by omega) (by omega)] at e
        subst e
        exact ⟨g1, g2⟩
  unfold wY_transform_106
  refine br_f (nI_pos (by omega)) ⟨vj, ?_⟩
  rw [ej]
  have skip : ¬ (∃ s, s < 8 ∧ a_out j = nI s ∧ 0 < len s) → wY_transform_172 post J (nI rest.length) x3 (nI (r m)) (nI dp) (nI j) 0 f_count f_top f_listed (nI ol) a_row a_depth a_name a_value a_moved a_kind a_with a_length a_sets a_fresh a_type a_number a_set a_list a_there a_match a_priority a_out a_on a_todo a_within a_output := by
    intro w
    rcases hO with ⟨s, a1, a2, a3, -⟩ | ⟨-, e1, e2⟩
    · exact absurd ⟨s, a1, a2, a3⟩ w
    · subst e1 e2
      exact s172 a_sets a_fresh f_top f_listed a_type a_number a_set a_list hF
  rcases po with po | ⟨s, hs, po⟩
  · exact br_t (by rw [po]; decide) (skip (fun ⟨s, hs, e, _⟩ => by rw [po] at e; exact tx_m1 (by omega) e))
  · obtain ⟨q1, q2, q3⟩ := hK.2.2.2.2.2 s hs
    have l40 := q3.1
    refine br_f (by rw [po]; exact nI_pos (by omega)) ⟨vj, by rw [po]; exact vp_in_nI (by omega) (by omega), ?_⟩
    rw [po, nI_clamp (n := s) (by omega), q2]
    by_cases y : len s = 0
    · refine br_t (by rw [y]; decide) (skip (fun ⟨s', hs', e, g⟩ => ?_))
      rw [po, nI_eq (by omega) (by omega)] at e
      subst e
      omega
    · refine br_f (nI_nle (by omega) (by omega)) ⟨vj, wy_ask T Y hK hF hs (by omega) hm (fun B2 fr2 top2 li2 ty2 nb2 st2 la2 g1 g2 En => nm_r (nI_1 ol) (wy_plain (p := 0) T Y En (by omega) ⟨vp_in_nI ol100 (by omega), ?_⟩))⟩
      have same := (re_same (pos := 1) (last := 1) (re_sy hK hs).2.2.2.2 (re_sy hK hs).1 (hA s hs) g2 (t := 40 * s) (Nat.le_refl _) (by omega) hm).2
      rcases hO with ⟨s', a1, a2, a3, a4, a5⟩ | ⟨w, -⟩
      · rw [po, nI_eq (by omega) (by omega)] at a2
        subst a2
        subst a4
        refine nm_r (e' := res') ?_ (s172 B2 fr2 top2 li2 ty2 nb2 st2 la2 g1)
        rw [nI_clamp (by omega), a5, tn_pl_c same]
      · exact absurd ⟨s, hs, po, by omega⟩ w
end
end
section
/-! transform, both sides step by step -/
section
variable {f_nodeCount f_draftLength f_resultLength : Int32} {a_inUse a_parentOf a_rankOf a_nameOf a_valueOf a_order a_along a_draftKind a_draftValue a_draftEnd a_tokenKind a_tokenValue a_tokenEnd a_slotLength a_setAt a_amount a_reached a_agenda a_isTemplate a_matchSlot a_priorityOf a_outSlot a_onSlot a_waiting a_result : Nat → Int32} {f_count f_top f_listed f_outputs : Int32} {a_row a_depth a_name a_value a_moved a_kind a_with a_length a_sets a_fresh a_type a_number a_set a_list a_there a_match a_priority a_out a_on a_todo a_within a_output : Nat → Int32} {c n : Nat} {r d len : Nat → Nat}
theorem wx_hand {postX : Int32 → SX → Prop} {GY : (Int32 → SY → Prop) → Prop} (T : td_T c r d) (X : re_XT c r d f_nodeCount a_inUse a_parentOf a_rankOf a_order a_along) (Y : re_YT c r d f_count a_row a_depth)
    (hK : re_K n len a_draftKind a_draftValue a_tokenKind a_tokenValue a_tokenEnd a_slotLength a_kind a_with a_length) (hP : re_P a_isTemplate a_matchSlot a_outSlot a_onSlot) (hA : tm_A c r d len a_nameOf a_valueOf a_kind a_with a_tokenEnd a_setAt 8)
    (hdone : ∀ ol res w am ag, ol ≤ 100 → (∀ p : Int32 → SY → Prop, (∀ B fr top li ty nb st la todo wi, re_F c r d len a_nameOf a_valueOf a_kind a_with a_tokenEnd B fr → p (nI ol) (f_count, top, li, nI ol, a_row, a_depth, a_nameOf, a_valueOf, a_moved, a_kind, a_with, a_length, B, fr, ty, nb, st, la, a_isTemplate, a_matchSlot, a_priorityOf, a_outSlot, a_onSlot, todo, wi, res)) → GY p) →
      postX 1 (f_nodeCount, f_draftLength, nI ol, a_inUse, a_parentOf, a_rankOf, a_nameOf, a_valueOf, a_order, a_along, a_draftKind, a_draftValue, a_draftEnd, a_tokenKind, a_tokenValue, a_tokenEnd, a_slotLength, a_setAt, am, a_reached, ag, a_isTemplate, a_matchSlot, a_priorityOf, a_outSlot, a_onSlot, w, res))
    (hstall : ∀ ol res w am ag, (∀ p : Int32 → SY → Prop, (∀ B fr top li ty nb st la todo wi, re_F c r d len a_nameOf a_valueOf a_kind a_with a_tokenEnd B fr → p (-3) (f_count, top, li, 0, a_row, a_depth, a_nameOf, a_valueOf, a_moved, a_kind, a_with, a_length, B, fr, ty, nb, st, la, a_isTemplate, a_matchSlot, a_priorityOf, a_outSlot, a_onSlot, todo, wi, res)) → GY p) →
      postX 0 (f_nodeCount, f_draftLength, nI ol, a_inUse, a_parentOf, a_rankOf, a_nameOf, a_valueOf, a_order, a_along, a_draftKind, a_draftValue, a_draftEnd, a_tokenKind, a_tokenValue, a_tokenEnd, a_slotLength, a_setAt, am, a_reached, ag, a_isTemplate, a_matchSlot, a_priorityOf, a_outSlot, a_onSlot, w, res)) :
    ∀ f turn k begun ol res w am ag, turn + f = 1000 → turn + k = 2 * begun + 1 → k ≤ 13 → begun ≤ 100 → ol ≤ begun →
      (∀ (p : Int32 → SY → Prop) nf, (∀ B fr top li ty nb st la todo wi, re_F c r d len a_nameOf a_valueOf a_kind a_with a_tokenEnd B fr → tt_St todo wi (tt_fl c r w k) →
        wY_transform_36 p nf (nI (tt_fl c r w k).length) (nI begun) f_count top li (nI ol) a_row a_depth a_nameOf a_valueOf a_moved a_kind a_with a_length B fr ty nb st la a_isTemplate a_matchSlot a_priorityOf a_outSlot a_onSlot todo wi res) → GY p) →
      wX_handleAll_16 postX (f + 1) (nI k - 1) (nI begun) (nI turn) f_nodeCount f_draftLength (nI ol) a_inUse a_parentOf a_rankOf a_nameOf a_valueOf a_order a_along a_draftKind a_draftValue a_draftEnd a_tokenKind a_tokenValue a_tokenEnd a_slotLength a_setAt am a_reached ag a_isTemplate a_matchSlot a_priorityOf a_outSlot a_onSlot w res := by
  have c24 := T.1
  intro f
  induction f with
  | zero => intro turn k begun ol res w am ag h1 h2 h3 h4; omega
  | succ f ih =>
    intro turn k begun ol res w am ag h1 h2 h3 h4 h5 HY
    refine br_f (nI_ge (b := 1000) (by omega) (by omega)) ?_
    cases k with
    | zero =>
      refine br_t (by decide) (hdone ol res w am ag (by omega) (fun p hp => HY p 1 (fun B fr top li ty nb st la todo wi hf _ => br_t (show nI 0 ≤ (0 : Int32) by decide) (hp B fr top li ty nb st la todo wi hf))))
    | succ k =>
      rw [nI_pred]
      have ek : (nI k).toNatClampNeg = k := nI_clamp (by omega)
      have vk : vp_in (nI k) 13 := vp_in_nI (by omega) (by omega)
      refine br_f (nI_pos (by omega)) ⟨vk, ?_⟩
      rw [ek]
      refine wx_member T X.1 X.2.2.2.1 ?_
      rw [show tt_am (tt_l r (w k) c 0) 0 = tt_at (tt_l r (w k) c 0) 0 from tt_am_n (k := 0) (by omega)]
      have fs := tt_fl_s c r w k
      cases hl : tt_l r (w k) c 0 with
      | nil =>
        rw [hl] at fs
        have fs' : tt_fl c r w (k + 1) = tt_fl c r w k := fs
        rw [fs'] at HY
        exact br_t rfl (nm_r (tz_m1s _) (nm_r (nI_1 turn) (ih (turn + 1) k begun ol res w am ag (by omega) (by omega) (by omega) h4 h5 HY)))
      | cons q tl =>
        obtain ⟨m, -, hm', eq, -⟩ := tt_l_in (r := r) (x := w k) (q := q) (k := c) (i := 0) (by rw [hl]; exact List.mem_cons_self)
        have hm : m < c := by omega
        subst eq
        have rm := T.2.2.2.1 m hm
        rw [show tt_at (r m :: tl) 0 = nI (r m) from rfl]
        rw [hl] at fs
        have fs' : tt_fl c r w (k + 1) = (r m, k) :: (tl.map (fun n => (n, k)) ++ tt_fl c r w k) := fs
        have lf := tt_fl_len (c := c) (r := r) (w := w) (k + 1)
        have lf2 : c * (k + 1) ≤ 24 * 13 := Nat.mul_le_mul c24 (by omega)
        rw [fs', List.length_cons] at lf
        rw [fs'] at HY
        generalize hrest : tl.map (fun n => (n, k)) ++ tt_fl c r w k = rest at HY lf
        rw [List.length_cons] at HY
        -- the reference up to its two limits
        have ystep : ∀ (p : Int32 → SY → Prop) nf, (∀ B fr top li ty nb st la todo wi, re_F c r d len a_nameOf a_valueOf a_kind a_with a_tokenEnd B fr → tt_St todo wi rest →
            ((100 < nI (begun + 1) → (p (-3) (f_count, top, li, 0, a_row, a_depth, a_nameOf, a_valueOf, a_moved, a_kind, a_with, a_length, B, fr, ty, nb, st, la, a_isTemplate, a_matchSlot, a_priorityOf, a_outSlot, a_onSlot, todo, wi, res))) ∧ (¬ 100 < nI (begun + 1) → (((nI k ≤ 11 → (wpY_best (fun r_43 u => match u with | (f_count, f_top, f_listed, f_outputs, a_row, a_depth, a_name, a_value, a_moved, a_kind, a_with, a_length, a_sets, a_fresh, a_type, a_number, a_set, a_list, a_there, a_match, a_priority, a_out, a_on, a_todo, a_within, a_output) => (((0 ≤ r_43 → (wY_transform_106 p (wY_transform_36 p nf) (nI rest.length) (nI (begun + 1)) (nI (r m)) (nI k) r_43 0 f_count f_top f_listed f_outputs a_row a_depth a_name a_value a_moved a_kind a_with a_length a_sets a_fresh a_type a_number a_set a_list a_there a_match a_priority a_out a_on a_todo a_within a_output)) ∧ (¬ 0 ≤ r_43 → (wpY_childrenOf (fun r_211 => (wY_transform_106 p (wY_transform_36 p nf) (nI rest.length) (nI (begun + 1)) (nI (r m)) (nI k) r_43 r_211 f_count f_top f_listed f_outputs a_row a_depth a_name a_value a_moved a_kind a_with a_length a_sets a_fresh a_type a_number a_set a_list a_there a_match a_priority a_out a_on a_todo a_within a_output)) (f_count, f_top, f_listed, f_outputs, a_row, a_depth, a_name, a_value, a_moved, a_kind, a_with, a_length, a_sets, a_fresh, a_type, a_number, a_set, a_list, a_there, a_match, a_priority, a_out, a_on, a_todo, a_within, a_output) (nI (r m))))))) (f_count, top, li, nI ol, a_row, a_depth, a_nameOf, a_valueOf, a_moved, a_kind, a_with, a_length, B, fr, ty, nb, st, la, a_isTemplate, a_matchSlot, a_priorityOf, a_outSlot, a_onSlot, todo, wi, res) (nI (r m)))) ∧ (¬ nI k ≤ 11 → (p (-3) (f_count, top, li, 0, a_row, a_depth, a_nameOf, a_valueOf, a_moved, a_kind, a_with, a_length, B, fr, ty, nb, st, la, a_isTemplate, a_matchSlot, a_priorityOf, a_outSlot, a_onSlot, todo, wi, res)))))))) → GY p := by
          intro p nf H
          refine HY p (nf + 1) (fun B fr top li ty nb st la todo wi hf hst => ?_)
          obtain ⟨s1, s2, s3⟩ := hst
          refine br_f (nI_nle (by omega) (by omega)) (nm_r (pk_m1 rest.length) ⟨vp_in_nI (by omega) (by omega), nm_r (e' := nI (r m)) (by rw [nI_clamp (by omega)]; exact s1) ⟨vp_in_nI (by omega) (by omega), nm_r (e' := nI k) (by rw [nI_clamp (by omega)]; exact s2) (nm_r (nI_1 begun) (H B fr top li ty nb st la todo wi hf s3))⟩⟩)
        refine br_f (show ¬ nI (r m) = -1 from tx_m1' (by omega)) (nm_r (nI_1 begun) ?_)
        by_cases b100 : begun = 100
        · have lt : (100 : Int32) < nI (begun + 1) := nI_lt (a := 100) (by omega) (by omega)
          exact br_t lt (hstall ol res w am ag (fun p hp => ystep p 0 (fun B fr top li ty nb st la todo wi hf _ => br_t lt (hp B fr top li ty nb st la todo wi hf))))
        have nlt : ¬ (100 : Int32) < nI (begun + 1) := nI_nlt (a := 100) (b := begun + 1) (by omega) (by omega)
        refine br_f nlt ?_
        by_cases k12 : k < 12
        rotate_left
        · exact br_f (nI_nlt (b := 12) (by omega) (by omega)) (hstall ol res w am ag (fun p hp => ystep p 0 (fun B fr top li ty nb st la todo wi hf _ => br_f nlt (br_f (nI_ge (a := 11) (by omega) (by omega)) (hp B fr top li ty nb st la todo wi hf)))))
        have k11 : nI k ≤ (11 : Int32) := nI_le (b := 11) (by omega) (by omega)
        have hd := tt_l_hd (x := w k) (x' := w k &&& (((1 : Int32) <<< (nI (r m) &&& 31)) ^^^ (-1))) (fun i hi => mk_clr (w k) (by omega) (by omega)) (k := c) (i := 0) (fun j _ hj => T.2.2.2.1 j (by omega)) (fun a b _ ha _ hb e => T.2.2.2.2 a b (by omega) (by omega) e) hl
        have fl2 : ∀ mask : Int32, tt_fl c r (upd (upd w k (w k &&& (((1 : Int32) <<< (nI (r m) &&& 31)) ^^^ (-1)))) (k + 1) mask) (k + 1 + 1) = (tt_l r mask c 0).map (fun n => (n, k + 1)) ++ rest := fun mask => by
          rw [tt_fl_s, pk_us, tt_fl_s, pk_un (show k ≠ k + 1 by omega), pk_us, hd, tt_fl_up (by omega), tt_fl_up (by omega), hrest]
        refine br_t (nI_lt (b := 12) k12 (by omega)) ⟨vk, vk, nm_r (e' := upd w k (w k &&& (((1 : Int32) <<< (nI (r m) &&& 31)) ^^^ (-1)))) rfl (nm_r (nI_1 k) ?_)⟩
        have nxt : ∀ mask ol' res' am ag, ol' ≤ begun + 1 → (∀ (p : Int32 → SY → Prop) nf, (∀ B fr top li ty nb st la todo wi, re_F c r d len a_nameOf a_valueOf a_kind a_with a_tokenEnd B fr → tt_St todo wi ((tt_l r mask c 0).map (fun n => (n, k + 1)) ++ rest) →
            wY_transform_36 p nf (nI ((tt_l r mask c 0).map (fun n => (n, k + 1)) ++ rest).length) (nI (begun + 1)) f_count top li (nI ol') a_row a_depth a_nameOf a_valueOf a_moved a_kind a_with a_length B fr ty nb st la a_isTemplate a_matchSlot a_priorityOf a_outSlot a_onSlot todo wi res') → GY p) →
            wX_handleAll_16 postX (f + 1) (nI (k + 1)) (nI (begun + 1)) (nI (turn + 1)) f_nodeCount f_draftLength (nI ol') a_inUse a_parentOf a_rankOf a_nameOf a_valueOf a_order a_along a_draftKind a_draftValue a_draftEnd a_tokenKind a_tokenValue a_tokenEnd a_slotLength a_setAt am a_reached ag a_isTemplate a_matchSlot a_priorityOf a_outSlot a_onSlot (upd (upd w k (w k &&& (((1 : Int32) <<< (nI (r m) &&& 31)) ^^^ (-1)))) (k + 1) mask) res' := by
          intro mask ol' res' am ag ho H
          have i1 := ih (turn + 1) (k + 1 + 1) (begun + 1) ol' res' (upd (upd w k (w k &&& (((1 : Int32) <<< (nI (r m) &&& 31)) ^^^ (-1)))) (k + 1) mask) am ag (by omega) (by omega) (by omega) (by omega) ho (by rw [fl2]; exact H)
          rw [nI_pred] at i1
          exact i1
        have vk1 : vp_in (nI (k + 1)) 13 := vp_in_nI (by omega) (by omega)
        have ek1 : (nI (k + 1)).toNatClampNeg = k + 1 := nI_clamp (by omega)
        refine wx_tfor T X hK hP hm ?_
        rcases tm_best_or (tm_Q c r d len a_kind a_setAt a_isTemplate a_matchSlot m) a_priorityOf 6 with tb | ⟨j, hj, tb⟩
        · have e24 : (24 : Int32) + nI (r m) = nI (1 * 24 + r m) := by rw [show (24 : Int32) = nI (1 * 24) from rfl, nI_add]
          refine br_t tb ⟨by rw [e24]; exact vp_in_nI (by omega) (by omega), vk1, nm_r (e' := upd (upd w k (w k &&& (((1 : Int32) <<< (nI (r m) &&& 31)) ^^^ (-1)))) (k + 1) (a_along (1 * 24 + r m))) (by rw [ek1, e24, nI_clamp (by omega)]) (nm_r (nI_1 turn) (nxt _ ol res am ag (by omega) (fun p nf H => ystep p nf (fun B fr top li ty nb st la todo wi hf hst => br_f nlt (br_t k11 ?_)))))⟩
          refine wy_best T Y hK hf hP hA hm (fun B2 fr2 top2 li2 ty2 nb2 st2 la2 hf2 => ?_)
          rw [tb]
          refine br_f tz_n0m1 (wy_children T Y hm (fun x hx => ?_))
          have ch : tk_Mi r (fun i => tk_d (td_Pa d m i)) c (a_along (1 * 24 + r m)) := by
            refine ⟨(X.2.2.2.2 1 (by omega) (r m) rm).1, fun q hq => ?_⟩
            rw [(X.2.2.2.2 1 (by omega) (r m) rm).2 q hq]
            constructor
            · rintro ⟨a, l, ha, hl', w1, w2, w3⟩
              rw [T.2.2.2.2 a m ha hm w1, td_on1] at w3
              exact ⟨l, hl', w2, tk_d_t.mpr w3⟩
            · rintro ⟨l, hl', w2, w3⟩
              exact ⟨m, l, hm, hl', rfl, w2, td_on1.mpr (tk_d_t.mp w3)⟩
          have ex := tk_Mi_u hx ch
          subst ex
          unfold wY_transform_106
          refine br_t tz_m1lt ?_
          unfold wY_transform_172
          exact br_t tz_m1lt (wy_push0 T Y (by omega) (by omega) hst (fun todo wi g => H B2 fr2 top2 li2 ty2 nb2 st2 la2 todo wi hf2 g))
        · refine br_f (by rw [tb]; exact tx_m1' (by omega)) ?_
          rw [tb]
          refine wx_follow T X hK hj hm rfl (by omega) (fun mask ol' res' am2 ag2 hO hN => ⟨vk1, nm_r (e' := upd (upd w k (w k &&& (((1 : Int32) <<< (nI (r m) &&& 31)) ^^^ (-1)))) (k + 1) mask) (by rw [ek1]) (nm_r (nI_1 turn) (nxt mask ol' res' am2 ag2 ?_ (fun p nf H => ystep p nf (fun B fr top li ty nb st la todo wi hf hst => br_f nlt (br_t k11 ?_)))))⟩)
          · rcases hO with ⟨s, a1, a2, a3, a4, a5⟩ | ⟨a1, a2, a3⟩
            · omega
            · omega
          · refine wy_best T Y hK hf hP hA hm (fun B2 fr2 top2 li2 ty2 nb2 st2 la2 hf2 => ?_)
            rw [tb]
            exact br_t (nI_pos' (by omega)) (wy_follow T Y hK hf2 hP hA hj hm rfl (by omega) (by omega) (by omega) hst hO hN (fun B3 fr3 top3 li3 ty3 nb3 st3 la3 todo3 wi3 hf3 g => H B3 fr3 top3 li3 ty3 nb3 st3 la3 todo3 wi3 hf3 g))
end
end
section
/-! transform, owed -/
section
variable {f_nodeCount f_draftLength f_resultLength : Int32} {a_inUse a_parentOf a_rankOf a_nameOf a_valueOf a_order a_along a_draftKind a_draftValue a_draftEnd a_tokenKind a_tokenValue a_tokenEnd a_slotLength a_setAt a_amount a_reached a_agenda a_isTemplate a_matchSlot a_priorityOf a_outSlot a_onSlot a_waiting a_result : Nat → Int32} {c n : Nat} {r d len : Nat → Nat} {kd wt lt : Nat → Int32}
theorem wx_prepAll {post : Int32 → SX → Prop} {x1 : Int32} (T : td_T c r d) (c0 : 0 < c) (X : re_XT c r d f_nodeCount a_inUse a_parentOf a_rankOf a_order a_along) (hK : re_K n len a_draftKind a_draftValue a_tokenKind a_tokenValue a_tokenEnd a_slotLength kd wt lt)
    (h : ∀ A re am ag, tm_A c r d len a_nameOf a_valueOf kd wt a_tokenEnd A 8 → wpX_handleAll (fun r_32 u => match u with | (f_nodeCount, f_draftLength, f_resultLength, a_inUse, a_parentOf, a_rankOf, a_nameOf, a_valueOf, a_order, a_along, a_draftKind, a_draftValue, a_draftEnd, a_tokenKind, a_tokenValue, a_tokenEnd, a_slotLength, a_setAt, a_amount, a_reached, a_agenda, a_isTemplate, a_matchSlot, a_priorityOf, a_outSlot, a_onSlot, a_waiting, a_result) => (((r_32 = 0 → (post (-3) (f_nodeCount, f_draftLength, 0, a_inUse, a_parentOf, a_rankOf, a_nameOf, a_valueOf, a_order, a_along, a_draftKind, a_draftValue, a_draftEnd, a_tokenKind, a_tokenValue, a_tokenEnd, a_slotLength, a_setAt, a_amount, a_reached, a_agenda, a_isTemplate, a_matchSlot, a_priorityOf, a_outSlot, a_onSlot, a_waiting, a_result))) ∧ (¬ r_32 = 0 → (post f_resultLength (f_nodeCount, f_draftLength, f_resultLength, a_inUse, a_parentOf, a_rankOf, a_nameOf, a_valueOf, a_order, a_along, a_draftKind, a_draftValue, a_draftEnd, a_tokenKind, a_tokenValue, a_tokenEnd, a_slotLength, a_setAt, a_amount, a_reached, a_agenda, a_isTemplate, a_matchSlot, a_priorityOf, a_outSlot, a_onSlot, a_waiting, a_result)))))) (f_nodeCount, f_draftLength, 0, a_inUse, a_parentOf, a_rankOf, a_nameOf, a_valueOf, a_order, a_along, a_draftKind, a_draftValue, a_draftEnd, a_tokenKind, a_tokenValue, a_tokenEnd, a_slotLength, A, am, re, ag, a_isTemplate, a_matchSlot, a_priorityOf, a_outSlot, a_onSlot, a_waiting, a_result) x1) :
    ∃ n12, wX_transform_12 post x1 n12 0 f_nodeCount f_draftLength f_resultLength a_inUse a_parentOf a_rankOf a_nameOf a_valueOf a_order a_along a_draftKind a_draftValue a_draftEnd a_tokenKind a_tokenValue a_tokenEnd a_slotLength a_setAt a_amount a_reached a_agenda a_isTemplate a_matchSlot a_priorityOf a_outSlot a_onSlot a_waiting a_result := by
  have key : ∀ k i A re am ag, i + k = 8 → tm_A c r d len a_nameOf a_valueOf kd wt a_tokenEnd A i → wX_transform_12 post x1 (k + 1) (nI i) f_nodeCount f_draftLength f_resultLength a_inUse a_parentOf a_rankOf a_nameOf a_valueOf a_order a_along a_draftKind a_draftValue a_draftEnd a_tokenKind a_tokenValue a_tokenEnd a_slotLength A am re ag a_isTemplate a_matchSlot a_priorityOf a_outSlot a_onSlot a_waiting a_result := by
    intro k
    induction k with
    | zero =>
      intro i A re am ag hi hA
      have e : i = 8 := by omega
      subst e
      exact br_t (nI_le (a := 8) (b := 8) (by omega) (by omega)) (h A re am ag hA)
    | succ k ih =>
      intro i A re am ag hi hA
      refine br_f (nI_ge (a := i) (b := 8) (by omega) (by omega)) (wx_prep T c0 X hK (by omega) (fun A2 re2 am2 ag2 g1 g2 => nm_r (nI_1 i) (ih (i + 1) A2 re2 am2 ag2 (by omega) (fun s hs => ?_))))
      by_cases z : s = i
      · subst z; exact g1
      · have l1 := (hK.2.2.2.2.2 s (by omega)).2.2.1
        have sx := re_sx hK (s := s) (by omega)
        intro t h1 h2
        refine tk_Q_c sx.2.2.2.2 (by have := sx.1; omega) h1 h2 (fun j a b _ m hm => ?_) (hA s (by omega) t h1 h2)
        have rm := T.2.2.2.1 m hm
        exact (g2 (j * 24 + r m) (Or.inl (by omega))).symm
  exact ⟨9, key 8 0 a_setAt a_reached a_amount a_agenda rfl (fun s hs => by omega)⟩
end
theorem i_vc_transform {k : Nat} {u : SX} {v : SY} (I : i_Rel k u v) (hk : k + 6 ≤ 3072) (v1 : Int32) : wpX_transform (fun r u' => wpY_transform (fun r' v' => r' = r ∧ i_Rel (k + 6) u' v') v v1) u v1 := by
  obtain ⟨f_nodeCount, f_draftLength, f_resultLength, a_inUse, a_parentOf, a_rankOf, a_nameOf, a_valueOf, a_order, a_along, a_draftKind, a_draftValue, a_draftEnd, a_tokenKind, a_tokenValue, a_tokenEnd, a_slotLength, a_setAt, a_amount, a_reached, a_agenda, a_isTemplate, a_matchSlot, a_priorityOf, a_outSlot, a_onSlot, a_waiting, a_result⟩ := u
  obtain ⟨f_count, f_top, f_listed, f_outputs, a_row, a_depth, a_name, a_value, a_moved, a_kind, a_with, a_length, a_sets, a_fresh, a_type, a_number, a_set, a_list, a_there, a_match, a_priority, a_out, a_on, a_todo, a_within, a_output⟩ := v
  have J := i_up I
  obtain ⟨c, n, mm, r, d, len, T, X, Y, e1, e2, hdl, hK, hF, e3, e4, e5, e6, e7, hP, hm, hrl, hou, e8⟩ := I
  subst e1 e2 e3 e4 e5 e6 e7 e8
  have c24 := T.1
  unfold wpX_transform
  refine wx_isNode T X.2.1 (fun m hmc em => br_f (by decide) ?_) (fun hno => br_t rfl ?_)
  rotate_left
  · unfold wpY_transform
    refine wy_where T Y (fun w hw => ?_)
    rcases hw with ⟨i, hi, e, -⟩ | ⟨-, rfl⟩
    · exact absurd e (hno i hi)
    · exact br_f tz_n0m1 ⟨rfl, J⟩
  subst em
  have rm := T.2.2.2.1 m hmc
  refine wx_prepAll T (by omega) X hK (fun A re am ag hA => ?_)
  unfold wpX_handleAll
  refine nm_e ⟨1001, ?_⟩
  have one : tt_fl c r (upd a_waiting 0 ((1 : Int32) <<< (nI (r m) &&& 31))) 1 = [(r m, 0)] := by
    have l1 : ∀ k i, i + k = c → i ≤ m → tt_l r ((1 : Int32) <<< (nI (r m) &&& 31)) k i = [r m] := by
      have l0 : ∀ k i, i + k = c → m < i → tt_l r ((1 : Int32) <<< (nI (r m) &&& 31)) k i = [] := by
        intro k
        induction k with
        | zero => intro i _ _; rfl
        | succ k ih =>
          intro i hi hmi
          rw [tt_l_s, if_neg, ih (i + 1) (by omega) (by omega)]
          rw [mk_sh _ (by omega), decide_eq_true_iff]
          intro e
          have := T.2.2.2.2 i m (by omega) hmc e
          omega
      intro k
      induction k with
      | zero => intro i hi hmi; omega
      | succ k ih =>
        intro i hi hmi
        rw [tt_l_s]
        by_cases z : i = m
        · subst z
          rw [if_pos (by rw [mk_sh _ (by omega)]; simp), l0 k (i + 1) (by omega) (by omega)]
        · rw [if_neg, ih (i + 1) (by omega) (by omega)]
          rw [mk_sh _ (by omega), decide_eq_true_iff]
          exact fun e => z (T.2.2.2.2 i m (by omega) hmc e)
    rw [tt_fl_s, pk_us, l1 c 0 (by omega) (by omega)]
    rfl
  refine wx_hand (a_moved := a_moved) (GY := fun p => wpY_transform p (f_count, f_top, f_listed, f_outputs, a_row, a_depth, a_nameOf, a_valueOf, a_moved, a_kind, a_with, a_length, a_sets, a_fresh, a_type, a_number, a_set, a_list, a_isTemplate, a_matchSlot, a_priorityOf, a_outSlot, a_onSlot, a_todo, a_within, a_result) (nI (r m))) T X Y hK hP hA (fun ol res w am2 ag2 h100 HG => ?_) (fun ol res w am2 ag2 HG => ?_) 1000 0 1 0 0 a_result (upd a_waiting 0 ((1 : Int32) <<< (nI (r m) &&& 31))) am ag (by omega) (by omega) (by omega) (by omega) (by omega) (fun p nf H => ?_)
  · exact br_f (by decide) (HG _ (fun B fr top li ty nb st la todo wi hf => ⟨rfl, c, n, ol, r, d, len, T, X, Y, rfl, rfl, hdl, hK, hf, rfl, rfl, rfl, rfl, rfl, hP, h100, rfl, rfl, rfl⟩))
  · exact br_t rfl (HG _ (fun B fr top li ty nb st la todo wi hf => ⟨rfl, c, n, 0, r, d, len, T, X, Y, rfl, rfl, hdl, hK, hf, rfl, rfl, rfl, rfl, rfl, hP, by omega, nI_0.symm, nI_0.symm, rfl⟩))
  · unfold wpY_transform
    refine wy_where1 T Y hmc (br_t (nI_pos' (by omega)) (nm_e (nm_r (e' := nI 1) rfl (nm_e ⟨nf, ?_⟩))))
    have h := H a_sets a_fresh f_top f_listed a_type a_number a_set a_list (upd a_todo 0 (nI (r m))) (upd a_within 0 0) hF (by rw [one]; exact ⟨pk_us, by rw [show ([] : List (Nat × Nat)).length = 0 from rfl, pk_us]; exact nI_0.symm, trivial⟩)
    rw [one] at h
    exact h
end
