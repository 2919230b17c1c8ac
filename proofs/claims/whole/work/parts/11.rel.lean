/-! the relation of the two states, field by field -/
def te_N (a : Nat → Int32) : Nat → Nat := fun i => (a i).toNatClampNeg
theorem te_N_n {a : Nat → Int32} {i n : Nat} (h : a i = nI n) (hn : n < 2 ^ 31) : te_N a i = n := by unfold te_N; rw [h]; exact nI_clamp hn
def re_Tok (kd wt : Nat → Int32) (i : Nat) : Prop := ∃ k, k < 18 ∧ kd i = nI k ∧ (k = 2 → ∃ w, w < 384 ∧ wt i = nI w ∧ w % 16 ≤ 10 ∧ w / 16 % 8 ≤ 6)
def re_Slot (kd wt en : Nat → Int32) (s n : Nat) : Prop :=
  n ≤ 40 ∧ (∀ i, i < n → re_Tok kd wt (40 * s + i) ∧ en (40 * s + i) = nI (te_N en (40 * s + i))) ∧
  (0 < n → te_Ws (te_N kd) (te_N wt) (te_N en) (40 * s) (40 * s + n) ∧ te_N en (40 * s) = 40 * s + n)
/-- the tree, as the component keeps it -/
def re_XT (c : Nat) (r d : Nat → Nat) (nc : Int32) (u pa rk od al : Nat → Int32) : Prop :=
  nc = nI c ∧ tx_U c r u ∧ tx_PR c r d pa rk ∧ (∀ i, i < c → od i = nI (r i)) ∧ tx_Rep al (tx_R0 r d c)
/-- the tree, as the reference keeps it -/
def re_YT (c : Nat) (r d : Nat → Nat) (n : Int32) (row dep : Nat → Int32) : Prop :=
  n = nI c ∧ (∀ i, i < c → row i = nI (r i)) ∧ (∀ i, i < c → dep (r i) = nI (d i))
/-- tokens: the draft of n, the slots of len s -/
def re_K (n : Nat) (len : Nat → Nat) (dk dv tk tv te sl kd wt lt : Nat → Int32) : Prop :=
  n ≤ 40 ∧ lt 8 = nI n ∧ (∀ i, i < 40 → dk i = kd (320 + i) ∧ dv i = wt (320 + i)) ∧ (∀ i, i < 320 → tk i = kd i ∧ tv i = wt i) ∧
  (∀ i, i < n → re_Tok kd wt (320 + i)) ∧ (∀ s, s < 8 → sl s = nI (len s) ∧ lt s = nI (len s) ∧ re_Slot kd wt te s (len s))
/-- the sets that the reference holds for fresh are those of the tree -/
def re_F (c : Nat) (r d : Nat → Nat) (len : Nat → Nat) (nm val kd wt te sets fr : Nat → Int32) : Prop :=
  ∀ s, s < 8 → (fr s = 0 ∨ fr s = 1) ∧ (fr s ≠ 0 → tk_Eq c r d nm val (te_N kd) (te_N wt) (te_N te) wt (40 * s) (40 * s + len s) (fun t n => sets (24 * t + n)))
def re_sl (x : Int32) : Prop := x = -1 ∨ ∃ s, s < 8 ∧ x = nI s
def re_P (it ms os ns : Nat → Int32) : Prop := ∀ t, t < 6 → (it t = 0 ∨ it t = 1) ∧ (∃ s, s < 8 ∧ ms t = nI s) ∧ re_sl (os t) ∧ re_sl (ns t)
