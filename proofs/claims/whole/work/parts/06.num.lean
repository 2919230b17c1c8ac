/-! what tokens give as numbers at a node, a place and a length -/
def tn_first (r : Nat → Nat) (val : Nat → Int32) (x : Int32) : Nat → Nat → Int32
  | 0, _ => 0
  | k + 1, i => if bt x (r i) = true then val (r i) else tn_first r val x k (i + 1)
theorem tn_first_s (r : Nat → Nat) (val : Nat → Int32) (x : Int32) (k i : Nat) : tn_first r val x (k + 1) i = if bt x (r i) = true then val (r i) else tn_first r val x k (i + 1) := rfl
noncomputable def tn_b (P : Prop) : Int32 := @ite Int32 P (Classical.propDecidable P) 1 0
theorem tn_b_t {P : Prop} (h : P) : tn_b P = 1 := by unfold tn_b; rw [if_pos h]
theorem tn_b_f {P : Prop} (h : ¬ P) : tn_b P = 0 := by unfold tn_b; rw [if_neg h]
theorem tn_b_01 (P : Prop) : tn_b P = 0 ∨ tn_b P = 1 := by
  rcases Classical.em P with h | h
  · exact Or.inr (tn_b_t h)
  · exact Or.inl (tn_b_f h)
theorem tn_b_c {P Q : Prop} (h : P ↔ Q) : tn_b P = tn_b Q := by rw [propext h]
def tn_in (k : Nat) (x : Int32) (m : Nat) : Prop := if k < 4 then bt x m = true else m = 0
def tn_at (k : Nat) (val : Nat → Int32) (n : Int32) (m : Nat) : Int32 := if k < 4 then val m else n
def tn_Cm (kd : Nat) (val : Nat → Int32) (ka : Nat) (xa na : Int32) (kb : Nat) (xb nb : Int32) : Prop :=
  ∃ m n, m < 24 ∧ n < 24 ∧ tn_in ka xa m ∧ tn_in kb xb n ∧ (if kd = 13 then tn_at ka val na m < tn_at kb val nb n else tn_at ka val na m = tn_at kb val nb n)
def tn_pl (c : Nat) (r : Nat → Nat) (val : Nat → Int32) (k : Nat) (x n : Int32) : Int32 := if k < 4 then tn_first r val x c 0 else n
def tn_tr (k : Nat) (x n : Int32) : Prop := if k < 4 then x ≠ 0 else n ≠ 0
def tn_hold (k : Nat) (x n pos : Int32) : Prop := if k < 4 then x ≠ 0 else if k < 13 then n = pos else n ≠ 0
def tn_r1 (c : Nat) (r : Nat → Nat) (val : Nat → Int32) (pos last : Int32) (k : Nat) (v xa : Int32) : Int32 :=
  if k = 4 then v else if k = 5 then pos else if k = 6 then last else if k = 7 then nI (tc_n (bt xa) 24) else if k = 8 then tc_sum val (bt xa) 24 else tn_first r val xa c 0
noncomputable def tn_r2 (c : Nat) (r : Nat → Nat) (val : Nat → Int32) (k ka : Nat) (xa na : Int32) (kb : Nat) (xb nb : Int32) : Int32 :=
  if k = 10 then tn_pl c r val ka xa na + tn_pl c r val kb xb nb
  else if k = 11 then tn_pl c r val ka xa na - tn_pl c r val kb xb nb
  else if k = 12 then tn_pl c r val ka xa na * tn_pl c r val kb xb nb
  else if k < 15 then tn_b (tn_Cm k val ka xa na kb xb nb)
  else if k = 15 then tn_b (tn_tr ka xa na ∧ tn_tr kb xb nb)
  else tn_b (tn_tr ka xa na ∨ tn_tr kb xb nb)
noncomputable def tn_res (c : Nat) (r : Nat → Nat) (val : Nat → Int32) (pos last : Int32) (k : Nat) (v : Int32) (ka : Nat) (xa na : Int32) (kb : Nat) (xb nb : Int32) : Int32 :=
  if k < 4 then 0 else if k < 10 then tn_r1 c r val pos last k v xa else if k < 17 then tn_r2 c r val k ka xa na kb xb nb else tn_b (¬ tn_tr ka xa na)
theorem tn_fx (N : Nat) (F : (Nat → Int32) → Nat → Int32) : ∃ f : Nat → Int32, ∀ a, f a = F (fun b => if N - b < N - a then f b else 0) a := by
  refine ⟨(measure (fun b : Nat => N - b)).wf.fix (fun a g => F (fun b => if h : N - b < N - a then g b h else 0) a), fun a => ?_⟩
  rw [WellFounded.fix_eq]
  apply congrArg (fun z => F z a)
  funext b
  by_cases h : N - b < N - a <;> simp [h]
def tn_Eq (c : Nat) (r : Nat → Nat) (val : Nat → Int32) (K E : Nat → Nat) (V : Nat → Int32) (σ : Nat → Int32) (pos last : Int32) (b L : Nat) (η : Nat → Int32) : Prop :=
  ∀ i, b ≤ i → i < L → η i = tn_res c r val pos last (K i) (V i) (K (i + 1)) (σ (i + 1)) (η (i + 1)) (K (E (i + 1))) (σ (E (i + 1))) (η (E (i + 1)))
noncomputable def tn_nv (c : Nat) (r : Nat → Nat) (val : Nat → Int32) (K E : Nat → Nat) (V : Nat → Int32) (σ : Nat → Int32) (pos last : Int32) : Nat → Int32 :=
  Classical.choose (tn_fx 400 (fun η i => tn_res c r val pos last (K i) (V i) (K (i + 1)) (σ (i + 1)) (η (i + 1)) (K (E (i + 1))) (σ (E (i + 1))) (η (E (i + 1)))))
theorem tn_res_nb {c : Nat} {r : Nat → Nat} {val : Nat → Int32} {pos last : Int32} {k : Nat} {v : Int32} {ka : Nat} {xa na : Int32} {kb kb' : Nat} {xb nb xb' nb' : Int32} (h : k < 10 ∨ 17 ≤ k) :
    tn_res c r val pos last k v ka xa na kb xb nb = tn_res c r val pos last k v ka xa na kb' xb' nb' := by
  unfold tn_res
  rcases h with h | h
  · rw [if_pos h, if_pos h]
  · rw [if_neg (show ¬ k < 10 by omega), if_neg (show ¬ k < 10 by omega), if_neg (show ¬ k < 17 by omega), if_neg (show ¬ k < 17 by omega)]
theorem te_o2 {k w : Nat} (h : 10 ≤ k) (h2 : k < 17) : te_o k w = 2 := by
  unfold te_o
  rw [if_neg (by omega), if_neg (by omega), if_neg (by omega), if_neg (by omega), if_pos h2]
theorem tn_nv_eq {c : Nat} {r : Nat → Nat} {val : Nat → Int32} {K W E : Nat → Nat} {V σ : Nat → Int32} {pos last : Int32} {b L : Nat} (h : te_Ws K W E b L) (hL : L ≤ 400) :
    tn_Eq c r val K E V σ pos last b L (tn_nv c r val K E V σ pos last) := by
  intro i hb hi
  have e := Classical.choose_spec (tn_fx 400 (fun η i => tn_res c r val pos last (K i) (V i) (K (i + 1)) (σ (i + 1)) (η (i + 1)) (K (E (i + 1))) (σ (E (i + 1))) (η (E (i + 1))))) i
  have e' : tn_nv c r val K E V σ pos last i = tn_res c r val pos last (K i) (V i) (K (i + 1)) (σ (i + 1)) (if 400 - (i + 1) < 400 - i then tn_nv c r val K E V σ pos last (i + 1) else 0) (K (E (i + 1))) (σ (E (i + 1))) (if 400 - E (i + 1) < 400 - i then tn_nv c r val K E V σ pos last (E (i + 1)) else 0) := e
  rw [e', if_pos (by omega)]
  by_cases z : 10 ≤ K i ∧ K i < 17
  · have o2 := te_o2 (w := W i) z.1 z.2
    have x := te_op h hb hi (t := 0) (by omega)
    have x2 := te_E_gt h (i := i + 1) (by omega) x.2.1
    rw [if_pos (by omega)]
  · exact tn_res_nb (by omega)
/-- a token's set counts if it gives one, its number if not -/
def tn_Sm (k : Nat) (x n x' n' : Int32) : Prop := (k < 4 → x = x') ∧ (¬ k < 4 → n = n')
theorem tn_pl_c {c : Nat} {r : Nat → Nat} {val : Nat → Int32} {k : Nat} {x n x' n' : Int32} (h : tn_Sm k x n x' n') : tn_pl c r val k x n = tn_pl c r val k x' n' := by
  unfold tn_pl
  by_cases z : k < 4
  · rw [if_pos z, if_pos z, h.1 z]
  · rw [if_neg z, if_neg z, h.2 z]
theorem tn_tr_c {k : Nat} {x n x' n' : Int32} (h : tn_Sm k x n x' n') : tn_tr k x n = tn_tr k x' n' := by
  unfold tn_tr
  by_cases z : k < 4
  · rw [if_pos z, if_pos z, h.1 z]
  · rw [if_neg z, if_neg z, h.2 z]
theorem tn_hold_c {k : Nat} {x n x' n' pos : Int32} (h : tn_Sm k x n x' n') : tn_hold k x n pos = tn_hold k x' n' pos := by
  unfold tn_hold
  by_cases z : k < 4
  · rw [if_pos z, if_pos z, h.1 z]
  · rw [if_neg z, if_neg z, h.2 z]
theorem tn_in_c {k : Nat} {x n x' n' : Int32} (h : tn_Sm k x n x' n') (m : Nat) : tn_in k x m = tn_in k x' m := by
  unfold tn_in
  by_cases z : k < 4
  · rw [if_pos z, if_pos z, h.1 z]
  · rw [if_neg z, if_neg z]
theorem tn_at_c {val : Nat → Int32} {k : Nat} {x n x' n' : Int32} (h : tn_Sm k x n x' n') (m : Nat) : tn_at k val n m = tn_at k val n' m := by
  unfold tn_at
  by_cases z : k < 4
  · rw [if_pos z, if_pos z]
  · rw [if_neg z, if_neg z, h.2 z]
theorem tn_Cm_c {kd : Nat} {val : Nat → Int32} {ka : Nat} {xa na xa' na' : Int32} {kb : Nat} {xb nb xb' nb' : Int32} (ha : tn_Sm ka xa na xa' na') (hb : tn_Sm kb xb nb xb' nb') : tn_Cm kd val ka xa na kb xb nb = tn_Cm kd val ka xa' na' kb xb' nb' := by
  unfold tn_Cm
  simp only [tn_in_c ha, tn_in_c hb, tn_at_c ha, tn_at_c hb]
theorem tn_r2_c {c : Nat} {r : Nat → Nat} {val : Nat → Int32} {k ka : Nat} {xa na xa' na' : Int32} {kb : Nat} {xb nb xb' nb' : Int32} (ha : tn_Sm ka xa na xa' na') (hb : tn_Sm kb xb nb xb' nb') : tn_r2 c r val k ka xa na kb xb nb = tn_r2 c r val k ka xa' na' kb xb' nb' := by
  unfold tn_r2
  rw [tn_pl_c ha, tn_pl_c hb, tn_tr_c ha, tn_tr_c hb, tn_Cm_c ha hb]
theorem te_ty_0 {k : Nat} : te_ty k ≤ 0 ↔ k < 4 := by
  unfold te_ty
  by_cases h : k < 4
  · rw [if_pos h]; omega
  · rw [if_neg h]
    by_cases h2 : k < 13
    · rw [if_pos h2]; omega
    · rw [if_neg h2]; omega
theorem te_o1 {k w : Nat} (h : 7 ≤ k) (h2 : k < 10) : te_o k w = 1 := by
  unfold te_o
  rw [if_neg (by omega), if_neg (by omega), if_neg (by omega), if_pos h2]
theorem te_lo0 {k t : Nat} (h : 3 ≤ k) (h2 : k < 10) : te_lo k t = 0 := by
  unfold te_lo
  rw [if_neg (by omega), if_pos h2]
theorem te_o17 {k w : Nat} (h : 17 ≤ k) : te_o k w = 1 := by
  unfold te_o
  rw [if_neg (by omega), if_neg (by omega), if_neg (by omega), if_neg (by omega), if_neg (by omega)]
/-- COUNT, SUM and VALUE stand before a set -/
theorem te_set1 {K W E : Nat → Nat} {b L i : Nat} (h : te_Ws K W E b L) (hb : b ≤ i) (hi : i < L) (h7 : 7 ≤ K i) (h10 : K i < 10) : i + 1 < L ∧ K (i + 1) < 4 := by
  have x := te_op h hb hi (t := 0) (by rw [te_o1 h7 h10]; omega)
  rw [te_lo0 (by omega) h10] at x
  exact ⟨x.2.1, te_ty_0.mp x.2.2⟩
theorem te_two {K W E : Nat → Nat} {b L i : Nat} (h : te_Ws K W E b L) (hb : b ≤ i) (hi : i < L) (h2 : te_o (K i) (W i) = 2) : i + 1 < L ∧ i + 1 < E (i + 1) ∧ E (i + 1) < L ∧ E i = E (E (i + 1)) := by
  have x := te_op h hb hi (t := 0) (by omega)
  have y := te_op h hb hi (t := 1) (by omega)
  have z := (h i hb hi).1
  rw [h2] at z
  exact ⟨x.2.1, te_E_gt h (by omega) x.2.1, y.2.1, z⟩
theorem te_one {K W E : Nat → Nat} {b L i : Nat} (h : te_Ws K W E b L) (hb : b ≤ i) (hi : i < L) (h2 : te_o (K i) (W i) = 1) : i + 1 < L ∧ E i = E (i + 1) := by
  have x := te_op h hb hi (t := 0) (by omega)
  have z := (h i hb hi).1
  rw [h2] at z
  exact ⟨x.2.1, z⟩
/-- two tables of sets that agree from i0 on give the same numbers from there on -/
theorem tn_cong {c : Nat} {r : Nat → Nat} {val : Nat → Int32} {K W E : Nat → Nat} {V σ σ' η η' : Nat → Int32} {pos last : Int32} {b L i0 : Nat} (h : te_Ws K W E b L)
    (hη : tn_Eq c r val K E V σ pos last b L η) (hη' : tn_Eq c r val K E V σ' pos last b L η') (hσ : ∀ j, i0 ≤ j → j < L → K j < 4 → σ j = σ' j) :
    ∀ i, i < L → b ≤ i → i0 ≤ i → η i = η' i := by
  refine te_down L ?_
  intro i hi ih hb h0
  rw [hη i hb hi, hη' i hb hi]
  unfold tn_res
  by_cases z4 : K i < 4
  · rw [if_pos z4, if_pos z4]
  rw [if_neg z4, if_neg z4]
  by_cases z10 : K i < 10
  · rw [if_pos z10, if_pos z10]
    unfold tn_r1
    by_cases y4 : K i = 4
    · rw [if_pos y4, if_pos y4]
    by_cases y5 : K i = 5
    · rw [if_neg y4, if_neg y4, if_pos y5, if_pos y5]
    by_cases y6 : K i = 6
    · rw [if_neg y4, if_neg y4, if_neg y5, if_neg y5, if_pos y6, if_pos y6]
    have s := te_set1 h hb hi (by omega) z10
    rw [hσ (i + 1) (by omega) s.1 s.2]
  rw [if_neg z10, if_neg z10]
  by_cases z17 : K i < 17
  · rw [if_pos z17, if_pos z17]
    have s := te_two h hb hi (te_o2 (by omega) z17)
    exact tn_r2_c ⟨hσ _ (by omega) s.1, fun _ => ih _ (by omega) s.1 (by omega) (by omega)⟩ ⟨hσ _ (by omega) s.2.2.1, fun _ => ih _ (by omega) s.2.2.1 (by omega) (by omega)⟩
  · rw [if_neg z17, if_neg z17]
    have s := te_one h hb hi (te_o17 (by omega))
    rw [tn_tr_c ⟨hσ _ (by omega) s.1, fun _ => ih _ (by omega) s.1 (by omega) (by omega)⟩]
theorem tn_01 {c : Nat} {r : Nat → Nat} {val : Nat → Int32} {pos last : Int32} {k : Nat} {v : Int32} {ka : Nat} {xa na : Int32} {kb : Nat} {xb nb : Int32} (h : 13 ≤ k) :
    tn_res c r val pos last k v ka xa na kb xb nb = 0 ∨ tn_res c r val pos last k v ka xa na kb xb nb = 1 := by
  unfold tn_res
  rw [if_neg (by omega), if_neg (by omega)]
  by_cases z : k < 17
  · rw [if_pos z]
    unfold tn_r2
    rw [if_neg (by omega), if_neg (by omega), if_neg (by omega)]
    by_cases y : k < 15
    · rw [if_pos y]; exact tn_b_01 _
    · rw [if_neg y]
      by_cases w : k = 15
      · rw [if_pos w]; exact tn_b_01 _
      · rw [if_neg w]; exact tn_b_01 _
  · rw [if_neg z]; exact tn_b_01 _
