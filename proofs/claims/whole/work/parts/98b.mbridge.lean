/-! ===== the model's bridges ===== -/
def rchM (s : Nat) (M : mM) : Prop := ∀ k, k < 16 → M 176 k = if s.testBit k = true then 1 else 0
def BrF (M N : mM) : Prop := ∀ b, b ≠ 176 → N b = M b
theorem spr1_tb (a b s k : Nat) : (spr1 (some (a, b)) s).testBit k = (s.testBit k || (decide (k = a ∨ k = b) && (s.testBit a || s.testBit b))) := by
  have h : spr1 (some (a, b)) s = if s &&& (2 ^ a ||| 2 ^ b) = 0 then s else s ||| (2 ^ a ||| 2 ^ b) := rfl
  rw [h]
  have hand : ∀ i, (s &&& (2 ^ a ||| 2 ^ b)).testBit i = (s.testBit i && (decide (a = i) || decide (b = i))) := fun i => by
    rw [Nat.testBit_and, Nat.testBit_or, Nat.testBit_two_pow, Nat.testBit_two_pow]
  by_cases z : s &&& (2 ^ a ||| 2 ^ b) = 0
  · rw [if_pos z]
    have ha := hand a
    have hb := hand b
    rw [z, Nat.zero_testBit, decide_eq_true (rfl : a = a), Bool.true_or, Bool.and_true] at ha
    rw [z, Nat.zero_testBit, decide_eq_true (rfl : b = b), Bool.or_true, Bool.and_true] at hb
    rw [← ha, ← hb]
    simp
  · rw [if_neg z, Nat.testBit_or, Nat.testBit_or, Nat.testBit_two_pow, Nat.testBit_two_pow]
    have hv : (s.testBit a || s.testBit b) = true := by
      cases h1 : s.testBit a with
      | true => rfl
      | false =>
        cases h2 : s.testBit b with
        | true => rfl
        | false =>
          refine absurd (Nat.eq_of_testBit_eq fun i => ?_) z
          rw [hand, Nat.zero_testBit]
          by_cases q1 : a = i
          · rw [← q1, h1, Bool.false_and]
          · by_cases q2 : b = i
            · rw [← q2, h2, Bool.false_and]
            · rw [decide_eq_false q1, decide_eq_false q2, Bool.or_false, Bool.and_false]
    rw [hv, Bool.and_true]
    congr 1
    by_cases q1 : a = k
    · rw [decide_eq_true q1, decide_eq_true (Or.inl q1.symm : k = a ∨ k = b), Bool.true_or]
    · by_cases q2 : b = k
      · rw [decide_eq_true q2, decide_eq_true (Or.inr q2.symm : k = a ∨ k = b), Bool.or_true]
      · rw [decide_eq_false q1, decide_eq_false q2, decide_eq_false (fun z => z.elim (fun w => q1 w.symm) (fun w => q2 w.symm)), Bool.or_false]
theorem rchM_put {a b s : Nat} {N : mM} {v : Int} (ha : a < 16) (hb : b < 16) (h : rchM s N) (hv : v = if (s.testBit a || s.testBit b) = true then 1 else 0) : rchM (spr1 (some (a, b)) s) (upI (upI N 176 a v) 176 b v) := by
  intro k hk
  rw [spr1_tb]
  have hN := h k hk
  by_cases q2 : k = b
  · rw [q2, upI_same, hv, decide_eq_true (Or.inr rfl : b = a ∨ b = b), Bool.true_and]
    cases s.testBit a <;> cases s.testBit b <;> rfl
  · rw [show upI (upI N 176 a v) 176 b v 176 k = upI N 176 a v 176 k from if_neg (fun z => q2 z.2)]
    by_cases q1 : k = a
    · rw [q1, upI_same, hv, decide_eq_true (Or.inl rfl : a = a ∨ a = b), Bool.true_and]
      cases s.testBit a <;> cases s.testBit b <;> rfl
    · rw [show upI N 176 a v 176 k = N 176 k from if_neg (fun z => q1 z.2), hN, decide_eq_false (fun z => z.elim q1 q2), Bool.false_and, Bool.or_false]
def mBrK (K : List (Option (Nat × Nat))) (j : Nat) : Bool := match (K[j]?).getD none with
  | none => false
  | some ab => !(sprI K j (2 ^ ab.1) 16).testBit ab.2
theorem endK_some {e : Nat → Int} {a b : Nat} (h4 : e 4 = (a : Int)) (h5 : e 5 = (b : Int)) : endK e = some (a, b) := by
  unfold endK
  rw [if_neg (by omega), h4, h5]
  rfl
