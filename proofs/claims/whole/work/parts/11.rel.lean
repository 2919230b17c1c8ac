/-! the relation of the two states, field by field; a slot's tokens are read within the slot alone -/
def te_R (b L : Nat) (a : Nat → Int32) : Nat → Nat := fun i => if b ≤ i ∧ i < L then (a i).toNatClampNeg else 0
def te_V (b L : Nat) (a : Nat → Int32) : Nat → Int32 := fun i => if b ≤ i ∧ i < L then a i else 0
theorem te_R_n {b L : Nat} {a : Nat → Int32} {i n : Nat} (h1 : b ≤ i) (h2 : i < L) (h : a i = nI n) (hn : n < 2 ^ 31) : te_R b L a i = n := by
  unfold te_R; rw [if_pos ⟨h1, h2⟩, h]; exact nI_clamp hn
theorem te_V_i {b L : Nat} {a : Nat → Int32} {i : Nat} (h1 : b ≤ i) (h2 : i < L) : te_V b L a i = a i := if_pos ⟨h1, h2⟩
theorem te_R_c {b L : Nat} {a a' : Nat → Int32} (h : ∀ i, b ≤ i → i < L → a' i = a i) : te_R b L a' = te_R b L a := by
  funext i
  unfold te_R
  by_cases z : b ≤ i ∧ i < L
  · rw [if_pos z, if_pos z, h i z.1 z.2]
  · rw [if_neg z, if_neg z]
theorem te_V_c {b L : Nat} {a a' : Nat → Int32} (h : ∀ i, b ≤ i → i < L → a' i = a i) : te_V b L a' = te_V b L a := by
  funext i
  unfold te_V
  by_cases z : b ≤ i ∧ i < L
  · rw [if_pos z, if_pos z, h i z.1 z.2]
  · rw [if_neg z, if_neg z]
def tq_G (v : Int32) : Prop := ∃ w, w < 384 ∧ v = nI w ∧ w % 16 ≤ 10 ∧ w / 16 % 8 ≤ 6
def re_Tok (kd wt : Nat → Int32) (i : Nat) : Prop := ∃ k, k < 18 ∧ kd i = nI k ∧ (k = 2 → tq_G (wt i))
def re_Slot (kd wt en : Nat → Int32) (b n : Nat) : Prop :=
  n ≤ 40 ∧ (∀ i, b ≤ i → i < b + n → re_Tok kd wt i ∧ en i = nI (te_R b (b + n) en i)) ∧
  (0 < n → te_Ws (te_R b (b + n) kd) (te_R b (b + n) wt) (te_R b (b + n) en) b (b + n) ∧ te_R b (b + n) en b = b + n)
theorem re_Slot_c {kd wt en kd' wt' en' : Nat → Int32} {b n : Nat} (h : re_Slot kd wt en b n) (e : ∀ i, b ≤ i → i < b + n → kd' i = kd i ∧ wt' i = wt i ∧ en' i = en i) : re_Slot kd' wt' en' b n := by
  obtain ⟨h1, h2, h3⟩ := h
  have a1 := te_R_c (fun i x y => (e i x y).1)
  have a2 := te_R_c (fun i x y => (e i x y).2.1)
  have a3 := te_R_c (fun i x y => (e i x y).2.2)
  refine ⟨h1, fun i x y => ?_, fun z => ?_⟩
  · obtain ⟨⟨k, g1, g2, g3⟩, g4⟩ := h2 i x y
    obtain ⟨p1, p2, p3⟩ := e i x y
    refine ⟨⟨k, g1, by rw [p1]; exact g2, fun w => by rw [p2]; exact g3 w⟩, ?_⟩
    rw [a3, p3]; exact g4
  · rw [a1, a2, a3]; exact h3 z
/-- the tree, as the component keeps it -/
def re_XT (c : Nat) (r d : Nat → Nat) (nc : Int32) (u pa rk od al : Nat → Int32) : Prop :=
  nc = nI c ∧ tx_U c r u ∧ tx_PR c r d pa rk ∧ (∀ i, i < c → od i = nI (r i)) ∧ tx_Rep al (tx_R0 r d c)
/-- the tree, as the reference keeps it -/
def re_YT (c : Nat) (r d : Nat → Nat) (n : Int32) (row dep : Nat → Int32) : Prop :=
  n = nI c ∧ (∀ i, i < c → row i = nI (r i)) ∧ (∀ i, i < c → dep (r i) = nI (d i))
/-- tokens: the draft of n, the slots of len s -/
def re_K (n : Nat) (len : Nat → Nat) (dk dv tk tv te sl kd wt lt : Nat → Int32) : Prop :=
  n ≤ 40 ∧ lt 8 = nI n ∧ (∀ i, i < 40 → dk i = kd (320 + i) ∧ dv i = wt (320 + i)) ∧ (∀ i, i < 320 → tk i = kd i ∧ tv i = wt i) ∧
  (∀ i, i < n → re_Tok kd wt (320 + i)) ∧ (∀ s, s < 8 → sl s = nI (len s) ∧ lt s = nI (len s) ∧ re_Slot kd wt te (40 * s) (len s))
/-- the sets that the reference holds for fresh are those of the tree -/
def re_F1 (c : Nat) (r d : Nat → Nat) (nm val kd wt te sets : Nat → Int32) (b L : Nat) : Prop :=
  tk_Eq c r d nm val (te_R b L kd) (te_R b L wt) (te_R b L te) (te_V b L wt) b L (fun t n => sets (24 * t + n))
def re_F (c : Nat) (r d : Nat → Nat) (len : Nat → Nat) (nm val kd wt te sets fr : Nat → Int32) : Prop :=
  ∀ s, s < 8 → (fr s = 0 ∨ fr s = 1) ∧ (fr s ≠ 0 → re_F1 c r d nm val kd wt te sets (40 * s) (40 * s + len s))
theorem re_F1_c {c : Nat} {r d : Nat → Nat} {nm val kd wt te kd' wt' te' sets : Nat → Int32} {b L : Nat} (h : re_F1 c r d nm val kd wt te sets b L) (e : ∀ i, b ≤ i → i < L → kd' i = kd i ∧ wt' i = wt i ∧ te' i = te i) :
    re_F1 c r d nm val kd' wt' te' sets b L := by
  unfold re_F1
  rw [te_R_c (fun i x y => (e i x y).1), te_R_c (fun i x y => (e i x y).2.1), te_R_c (fun i x y => (e i x y).2.2), te_V_c (fun i x y => (e i x y).2.1)]
  exact h
def re_sl (x : Int32) : Prop := x = -1 ∨ ∃ s, s < 8 ∧ x = nI s
def re_P (it ms os ns : Nat → Int32) : Prop := ∀ t, t < 6 → (it t = 0 ∨ it t = 1) ∧ (∃ s, s < 8 ∧ ms t = nI s) ∧ re_sl (os t) ∧ re_sl (ns t)
