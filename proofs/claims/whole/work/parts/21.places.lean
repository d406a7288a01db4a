/-! ===== the JDK's methods, and Places ===== -/
theorem e_min (a b : Int) (M : mM) (ha : i32 a) (hb : i32 b) : E 1 46 [vI a, vI b] M (some (vI (min a b))) M := by
  refine e_in (ls := [vI a, vI b]) mq_46 (ml_46 rfl) rfl fun D hD => ?_
  refine w_iload rfl rfl (w_iload rfl rfl ?_)
  refine w_icmp_gt rfl (by first | assumption | exact i32_0 | (unfold i32 at *; omega)) (by first | assumption | exact i32_0 | (unfold i32 at *; omega)) rfl (fun c2 => ?_) (fun c2 => ?_)
  · skip
    refine w_iload rfl rfl ?_
    exact w_ireturn rfl ⟨by refine congrArg (fun z => some (vI z)) ?_; omega, by rfl⟩
  · skip
    refine w_iload rfl rfl (w_goto rfl rfl ?_)
    exact w_ireturn rfl ⟨by refine congrArg (fun z => some (vI z)) ?_; omega, by rfl⟩
theorem e_max (a b : Int) (M : mM) (ha : i32 a) (hb : i32 b) : E 1 9 [vI a, vI b] M (some (vI (max a b))) M := by
  refine e_in (ls := [vI a, vI b]) mq_9 (ml_9 rfl) rfl fun D hD => ?_
  refine w_iload rfl rfl (w_iload rfl rfl ?_)
  refine w_icmp_lt rfl (by first | assumption | exact i32_0 | (unfold i32 at *; omega)) (by first | assumption | exact i32_0 | (unfold i32 at *; omega)) rfl (fun c2 => ?_) (fun c2 => ?_)
  · skip
    refine w_iload rfl rfl ?_
    exact w_ireturn rfl ⟨by refine congrArg (fun z => some (vI z)) ?_; omega, by rfl⟩
  · skip
    refine w_iload rfl rfl (w_goto rfl rfl ?_)
    exact w_ireturn rfl ⟨by refine congrArg (fun z => some (vI z)) ?_; omega, by rfl⟩
theorem e_abs (a : Int) (M : mM) (ha : i32 a) : E 1 79 [vI a] M (some (vI (a.natAbs : Int))) M := by
  refine e_in (ls := [vI a]) mq_79 (ml_79 rfl) rfl fun D hD => ?_
  refine w_iload rfl rfl ?_
  refine w_if_ge rfl (by first | assumption | exact i32_0 | (unfold i32 at *; omega)) rfl (fun c1 => ?_) (fun c1 => ?_)
  · skip
    refine w_iload rfl rfl ?_
    exact w_ireturn rfl ⟨by refine congrArg (fun z => some (vI z)) ?_; omega, by rfl⟩
  · skip
    refine w_iload rfl rfl (w_ineg rfl (w_goto rfl rfl ?_))
    exact w_ireturn rfl ⟨by refine congrArg (fun z => some (vI z)) ?_; omega, by rfl⟩
theorem e_compare (a b : Int) (M : mM) (ha : i64 a) (hb : i64 b) : E 1 76 [vL a, vL b] M (some (vI (if a < b then -1 else if b < a then 1 else 0))) M := by
  refine e_in (ls := [vL a, vN, vL b, vN]) mq_76 (ml_76 rfl) rfl fun D hD => ?_
  refine w_lload rfl rfl (w_lload rfl rfl ?_)
  refine w_lcmp rfl (by first | assumption | exact i64_0 | (unfold i64 at *; omega)) (by first | assumption | exact i64_0 | (unfold i64 at *; omega)) (fun c2 => ?_) (fun c2 => ?_) (fun c2 => ?_)
  · skip
    refine w_if_ge rfl (by first | assumption | exact i32_0 | (unfold i32 at *; omega)) rfl (fun c3 => ?_) (fun c3 => ?_)
    · skip
      refine w_lload rfl rfl (w_lload rfl rfl ?_)
      refine w_lcmp rfl (by first | assumption | exact i64_0 | (unfold i64 at *; omega)) (by first | assumption | exact i64_0 | (unfold i64 at *; omega)) (fun c12 => ?_) (fun c12 => ?_) (fun c12 => ?_)
      · skip
        refine w_if_ne rfl (by first | assumption | exact i32_0 | (unfold i32 at *; omega)) rfl (fun c13 => ?_) (fun c13 => ?_)
        · skip
          refine w_iconst rfl ?_
          exact w_ireturn rfl ⟨by refine congrArg (fun z => some (vI z)) ?_; split <;> first | rfl | omega | (split <;> omega), by rfl⟩
        · skip
          refine w_iconst rfl (w_goto rfl rfl ?_)
          exact w_ireturn rfl ⟨by refine congrArg (fun z => some (vI z)) ?_; split <;> first | rfl | omega | (split <;> omega), by rfl⟩
      · skip
        refine w_if_ne rfl (by first | assumption | exact i32_0 | (unfold i32 at *; omega)) rfl (fun c13 => ?_) (fun c13 => ?_)
        · skip
          refine w_iconst rfl ?_
          exact w_ireturn rfl ⟨by refine congrArg (fun z => some (vI z)) ?_; split <;> first | rfl | omega | (split <;> omega), by rfl⟩
        · skip
          refine w_iconst rfl (w_goto rfl rfl ?_)
          exact w_ireturn rfl ⟨by refine congrArg (fun z => some (vI z)) ?_; split <;> first | rfl | omega | (split <;> omega), by rfl⟩
      · skip
        refine w_if_ne rfl (by first | assumption | exact i32_0 | (unfold i32 at *; omega)) rfl (fun c13 => ?_) (fun c13 => ?_)
        · skip
          refine w_iconst rfl ?_
          exact w_ireturn rfl ⟨by refine congrArg (fun z => some (vI z)) ?_; split <;> first | rfl | omega | (split <;> omega), by rfl⟩
        · skip
          refine w_iconst rfl (w_goto rfl rfl ?_)
          exact w_ireturn rfl ⟨by refine congrArg (fun z => some (vI z)) ?_; split <;> first | rfl | omega | (split <;> omega), by rfl⟩
    · skip
      refine w_iconst rfl (w_goto rfl rfl ?_)
      exact w_ireturn rfl ⟨by refine congrArg (fun z => some (vI z)) ?_; split <;> first | rfl | omega | (split <;> omega), by rfl⟩
  · skip
    refine w_if_ge rfl (by first | assumption | exact i32_0 | (unfold i32 at *; omega)) rfl (fun c3 => ?_) (fun c3 => ?_)
    · skip
      refine w_lload rfl rfl (w_lload rfl rfl ?_)
      refine w_lcmp rfl (by first | assumption | exact i64_0 | (unfold i64 at *; omega)) (by first | assumption | exact i64_0 | (unfold i64 at *; omega)) (fun c12 => ?_) (fun c12 => ?_) (fun c12 => ?_)
      · skip
        refine w_if_ne rfl (by first | assumption | exact i32_0 | (unfold i32 at *; omega)) rfl (fun c13 => ?_) (fun c13 => ?_)
        · skip
          refine w_iconst rfl ?_
          exact w_ireturn rfl ⟨by refine congrArg (fun z => some (vI z)) ?_; split <;> first | rfl | omega | (split <;> omega), by rfl⟩
        · skip
          refine w_iconst rfl (w_goto rfl rfl ?_)
          exact w_ireturn rfl ⟨by refine congrArg (fun z => some (vI z)) ?_; split <;> first | rfl | omega | (split <;> omega), by rfl⟩
      · skip
        refine w_if_ne rfl (by first | assumption | exact i32_0 | (unfold i32 at *; omega)) rfl (fun c13 => ?_) (fun c13 => ?_)
        · skip
          refine w_iconst rfl ?_
          exact w_ireturn rfl ⟨by refine congrArg (fun z => some (vI z)) ?_; split <;> first | rfl | omega | (split <;> omega), by rfl⟩
        · skip
          refine w_iconst rfl (w_goto rfl rfl ?_)
          exact w_ireturn rfl ⟨by refine congrArg (fun z => some (vI z)) ?_; split <;> first | rfl | omega | (split <;> omega), by rfl⟩
      · skip
        refine w_if_ne rfl (by first | assumption | exact i32_0 | (unfold i32 at *; omega)) rfl (fun c13 => ?_) (fun c13 => ?_)
        · skip
          refine w_iconst rfl ?_
          exact w_ireturn rfl ⟨by refine congrArg (fun z => some (vI z)) ?_; split <;> first | rfl | omega | (split <;> omega), by rfl⟩
        · skip
          refine w_iconst rfl (w_goto rfl rfl ?_)
          exact w_ireturn rfl ⟨by refine congrArg (fun z => some (vI z)) ?_; split <;> first | rfl | omega | (split <;> omega), by rfl⟩
    · skip
      refine w_iconst rfl (w_goto rfl rfl ?_)
      exact w_ireturn rfl ⟨by refine congrArg (fun z => some (vI z)) ?_; split <;> first | rfl | omega | (split <;> omega), by rfl⟩
  · skip
    refine w_if_ge rfl (by first | assumption | exact i32_0 | (unfold i32 at *; omega)) rfl (fun c3 => ?_) (fun c3 => ?_)
    · skip
      refine w_lload rfl rfl (w_lload rfl rfl ?_)
      refine w_lcmp rfl (by first | assumption | exact i64_0 | (unfold i64 at *; omega)) (by first | assumption | exact i64_0 | (unfold i64 at *; omega)) (fun c12 => ?_) (fun c12 => ?_) (fun c12 => ?_)
      · skip
        refine w_if_ne rfl (by first | assumption | exact i32_0 | (unfold i32 at *; omega)) rfl (fun c13 => ?_) (fun c13 => ?_)
        · skip
          refine w_iconst rfl ?_
          exact w_ireturn rfl ⟨by refine congrArg (fun z => some (vI z)) ?_; split <;> first | rfl | omega | (split <;> omega), by rfl⟩
        · skip
          refine w_iconst rfl (w_goto rfl rfl ?_)
          exact w_ireturn rfl ⟨by refine congrArg (fun z => some (vI z)) ?_; split <;> first | rfl | omega | (split <;> omega), by rfl⟩
      · skip
        refine w_if_ne rfl (by first | assumption | exact i32_0 | (unfold i32 at *; omega)) rfl (fun c13 => ?_) (fun c13 => ?_)
        · skip
          refine w_iconst rfl ?_
          exact w_ireturn rfl ⟨by refine congrArg (fun z => some (vI z)) ?_; split <;> first | rfl | omega | (split <;> omega), by rfl⟩
        · skip
          refine w_iconst rfl (w_goto rfl rfl ?_)
          exact w_ireturn rfl ⟨by refine congrArg (fun z => some (vI z)) ?_; split <;> first | rfl | omega | (split <;> omega), by rfl⟩
      · skip
        refine w_if_ne rfl (by first | assumption | exact i32_0 | (unfold i32 at *; omega)) rfl (fun c13 => ?_) (fun c13 => ?_)
        · skip
          refine w_iconst rfl ?_
          exact w_ireturn rfl ⟨by refine congrArg (fun z => some (vI z)) ?_; split <;> first | rfl | omega | (split <;> omega), by rfl⟩
        · skip
          refine w_iconst rfl (w_goto rfl rfl ?_)
          exact w_ireturn rfl ⟨by refine congrArg (fun z => some (vI z)) ?_; split <;> first | rfl | omega | (split <;> omega), by rfl⟩
    · skip
      refine w_iconst rfl (w_goto rfl rfl ?_)
      exact w_ireturn rfl ⟨by refine congrArg (fun z => some (vI z)) ?_; split <;> first | rfl | omega | (split <;> omega), by rfl⟩
/-- a place's i and j -/
def pi (p : Nat) : Int := ((p / 5 : Nat) : Int)
def pj (p : Nat) : Int := ((p % 5 : Nat) : Int)
def isPl (i j : Int) : Prop := 0 ≤ i ∧ 0 ≤ j ∧ i ≤ 4 ∧ j ≤ 4 - i
theorem e_isPlace (i j : Int) (M : mM) (hi : i32 i) (hj : i32 j) : E 1 38 [vI i, vI j] M (some (vI (if 0 ≤ i ∧ 0 ≤ j ∧ i ≤ 4 ∧ j ≤ 4 - i then 1 else 0))) M := by
  refine e_in (ls := [vI i, vI j]) mq_38 (ml_38 rfl) rfl fun D hD => ?_
  refine w_iload rfl rfl ?_
  refine w_if_lt rfl (by first | assumption | exact i32_0 | (unfold i32 at *; omega)) rfl (fun c1 => ?_) (fun c1 => ?_)
  · skip
    refine w_iconst rfl ?_
    exact w_zreturn rfl (by first | exact Or.inl rfl | exact Or.inr rfl | omega | assumption) ⟨by refine congrArg (fun z => some (vI z)) ?_; split <;> omega, by rfl⟩
  · skip
    refine w_iload rfl rfl ?_
    refine w_if_lt rfl (by first | assumption | exact i32_0 | (unfold i32 at *; omega)) rfl (fun c5 => ?_) (fun c5 => ?_)
    · skip
      refine w_iconst rfl ?_
      exact w_zreturn rfl (by first | exact Or.inl rfl | exact Or.inr rfl | omega | assumption) ⟨by refine congrArg (fun z => some (vI z)) ?_; split <;> omega, by rfl⟩
    · skip
      refine w_iload rfl rfl (w_iconst rfl ?_)
      refine w_icmp_gt rfl (by first | assumption | exact i32_0 | (unfold i32 at *; omega)) (by first | assumption | exact i32_0 | (unfold i32 at *; omega)) rfl (fun c10 => ?_) (fun c10 => ?_)
      · skip
        refine w_iconst rfl ?_
        exact w_zreturn rfl (by first | exact Or.inl rfl | exact Or.inr rfl | omega | assumption) ⟨by refine congrArg (fun z => some (vI z)) ?_; split <;> omega, by rfl⟩
      · skip
        refine w_iload rfl rfl (w_iconst rfl (w_iload rfl rfl (w_isub rfl ?_)))
        refine w_icmp_gt rfl (by first | assumption | exact i32_0 | (unfold i32 at *; omega)) (by first | assumption | exact i32_0 | (unfold i32 at *; omega)) rfl (fun c17 => ?_) (fun c17 => ?_)
        · skip
          refine w_iconst rfl ?_
          exact w_zreturn rfl (by first | exact Or.inl rfl | exact Or.inr rfl | omega | assumption) ⟨by refine congrArg (fun z => some (vI z)) ?_; split <;> omega, by rfl⟩
        · skip
          refine w_iconst rfl (w_goto rfl rfl ?_)
          exact w_zreturn rfl (by first | exact Or.inl rfl | exact Or.inr rfl | omega | assumption) ⟨by refine congrArg (fun z => some (vI z)) ?_; split <;> omega, by rfl⟩
theorem e_holds0 {s p : Nat} (M : mM) (hs : s < 2 ^ 31) (hp : p < 32) (hb : s.testBit p = false) : E 1 88 [vI s, vI p] M (some (vI 0)) M := by
  refine e_in (ls := [vI s, vI p]) mq_88 (ml_88 rfl) rfl fun D hD => ?_
  refine w_iload rfl rfl (w_iload rfl rfl (w_ishr rfl rfl (w_iconst rfl (w_iand rfl (show _ = (0 : Int) from by rw [bitI_holds hs hp, hb]; rfl) (w_iconst rfl ?_)))))
  refine w_icmp_ne rfl (by first | assumption | exact i32_0 | (unfold i32 at *; omega)) (by first | assumption | exact i32_0 | (unfold i32 at *; omega)) rfl (fun c6 => ?_) (fun c6 => ?_)
  · skip
    refine w_iconst rfl ?_
    exact w_zreturn rfl (by first | exact Or.inl rfl | exact Or.inr rfl | omega | assumption) ⟨by first | rfl | omega, by rfl⟩
  · skip
    refine w_iconst rfl (w_goto rfl rfl ?_)
    exact w_zreturn rfl (by first | exact Or.inl rfl | exact Or.inr rfl | omega | assumption) ⟨by first | rfl | omega, by rfl⟩
theorem e_holds1 {s p : Nat} (M : mM) (hs : s < 2 ^ 31) (hp : p < 32) (hb : s.testBit p = true) : E 1 88 [vI s, vI p] M (some (vI 1)) M := by
  refine e_in (ls := [vI s, vI p]) mq_88 (ml_88 rfl) rfl fun D hD => ?_
  refine w_iload rfl rfl (w_iload rfl rfl (w_ishr rfl rfl (w_iconst rfl (w_iand rfl (show _ = (1 : Int) from by rw [bitI_holds hs hp, hb]; rfl) (w_iconst rfl ?_)))))
  refine w_icmp_ne rfl (by first | assumption | exact i32_0 | (unfold i32 at *; omega)) (by first | assumption | exact i32_0 | (unfold i32 at *; omega)) rfl (fun c6 => ?_) (fun c6 => ?_)
  · skip
    refine w_iconst rfl ?_
    exact w_zreturn rfl (by first | exact Or.inl rfl | exact Or.inr rfl | omega | assumption) ⟨by first | rfl | omega, by rfl⟩
  · skip
    refine w_iconst rfl (w_goto rfl rfl ?_)
    exact w_zreturn rfl (by first | exact Or.inl rfl | exact Or.inr rfl | omega | assumption) ⟨by first | rfl | omega, by rfl⟩
def turn (a b k : Nat) : Int := (pi b - pi a) * (pj k - pj a) - (pj b - pj a) * (pi k - pi a)
theorem e_turn (a b k : Nat) (M : mM) (ha : a < 100) (hb : b < 100) (hk : k < 100) : E 1 72 [vI a, vI b, vI k] M (some (vI (turn a b k))) M := by
  refine e_in (ls := [vI a, vI b, vI k, vN, vN]) mq_72 (ml_72 rfl) rfl fun D hD => ?_
  refine w_iload rfl rfl (w_iconst rfl (w_idiv rfl (by first | assumption | exact i32_0 | (unfold i32 at *; omega)) (by first | assumption | exact i32_0 | (unfold i32 at *; omega)) (by first | decide | omega | assumption) (w_iload rfl rfl (w_iconst rfl (w_idiv rfl (by first | assumption | exact i32_0 | (unfold i32 at *; omega)) (by first | assumption | exact i32_0 | (unfold i32 at *; omega)) (by first | decide | omega | assumption) (w_isub rfl (w_istore rfl rfl rfl ?_)))))))
  refine w_iload rfl rfl (w_iconst rfl (w_irem rfl (by first | assumption | exact i32_0 | (unfold i32 at *; omega)) (by first | assumption | exact i32_0 | (unfold i32 at *; omega)) (by first | decide | omega | assumption) (w_iload rfl rfl (w_iconst rfl (w_irem rfl (by first | assumption | exact i32_0 | (unfold i32 at *; omega)) (by first | assumption | exact i32_0 | (unfold i32 at *; omega)) (by first | decide | omega | assumption) (w_isub rfl (w_istore rfl rfl rfl ?_)))))))
  refine w_iload rfl rfl (w_iload rfl rfl (w_iconst rfl (w_irem rfl (by first | assumption | exact i32_0 | (unfold i32 at *; omega)) (by first | assumption | exact i32_0 | (unfold i32 at *; omega)) (by first | decide | omega | assumption) (w_iload rfl rfl (w_iconst rfl (w_irem rfl (by first | assumption | exact i32_0 | (unfold i32 at *; omega)) (by first | assumption | exact i32_0 | (unfold i32 at *; omega)) (by first | decide | omega | assumption) (w_isub rfl ?_)))))))
  refine w_imul rfl (w_iload rfl rfl (w_iload rfl rfl (w_iconst rfl (w_idiv rfl (by first | assumption | exact i32_0 | (unfold i32 at *; omega)) (by first | assumption | exact i32_0 | (unfold i32 at *; omega)) (by first | decide | omega | assumption) (w_iload rfl rfl (w_iconst rfl (w_idiv rfl (by first | assumption | exact i32_0 | (unfold i32 at *; omega)) (by first | assumption | exact i32_0 | (unfold i32 at *; omega)) (by first | decide | omega | assumption) ?_)))))))
  refine w_isub rfl (w_imul rfl (w_isub rfl ?_))
  exact w_ireturn rfl ⟨by rfl, by rfl⟩
/-- the range of what turn tells of places -/
theorem turn_le : ∀ a, a < 25 → ∀ b, b < 25 → ∀ k, k < 25 → -64 ≤ turn a b k ∧ turn a b k ≤ 64 := by decide +kernel
/-- a whole side of a set's hull runs from a to b -/
def hsOK (s a b k : Nat) : Bool := !s.testBit k || (decide (0 < turn a b k) || (decide (turn a b k = 0) && (decide (min a b ≤ k) && decide (k ≤ max a b))))
def hsUp (s a b : Nat) : Nat → Bool
  | 0 => true
  | n + 1 => hsUp s a b n && hsOK s a b n
def hside (s a b : Nat) : Bool := !decide (a = b) && (s.testBit a && (s.testBit b && hsUp s a b 21))
theorem hsUp_no {s a b k : Nat} (h : hsOK s a b k = false) : ∀ n, k < n → hsUp s a b n = false
  | 0, hk => by omega
  | n + 1, hk => by
    unfold hsUp
    by_cases q : k = n
    · subst q; rw [h, Bool.and_false]
    · rw [hsUp_no h n (by omega), Bool.false_and]
theorem e_hside (s a b : Nat) (M : mM) (hs : s < 2 ^ 31) (ha : a < 25) (hb : b < 25) : E 2 87 [vI s, vI a, vI b] M (some (vI (if hside s a b = true then 1 else 0))) M := by
  refine e_in (ls := [vI s, vI a, vI b, vN, vN]) mq_87 (ml_87 rfl) rfl fun D hD => ?_
  have loop : ∀ (n k : Nat) (v4 : mV), 21 - k = n → k ≤ 21 → hsUp s a b k = true → a ≠ b → s.testBit a = true → s.testBit b = true → Wp mc_87 D 25 [vI s, vI a, vI b, vI k, v4] [] M (fun r1 M2 => r1 = some (vI (if hside s a b = true then 1 else 0)) ∧ M2 = M) := by
    intro n
    induction n with
    | zero =>
      intro k v4 hn hk hup h1 h2 h3
      obtain rfl : k = 21 := by omega
      refine w_iload rfl rfl (w_iconst rfl ?_)
      refine w_icmp_ge rfl (by first | assumption | exact i32_0 | (unfold i32 at *; omega)) (by first | assumption | exact i32_0 | (unfold i32 at *; omega)) rfl (fun c28 => ?_) (fun c28 => ?_)
      · skip
        refine w_iconst rfl ?_
        exact w_zreturn rfl (by first | exact Or.inl rfl | exact Or.inr rfl | omega | assumption) ⟨by first | (exfalso; omega) | simp [hside, h1, h2, h3, hup], by rfl⟩
      · skip
        exfalso; omega
    | succ n ih =>
      intro k v4 hn hk hup h1 h2 h3
      have hk2 : k < 21 := by omega
      have ht := turn_le a ha b hb k (by omega)
      have hmn := e_min a b M (by unfold i32; omega) (by unfold i32; omega)
      have hmx := e_max a b M (by unfold i32; omega) (by unfold i32; omega)
      have hno : hsOK s a b k = false → hside s a b = false := fun h => by unfold hside; rw [hsUp_no h 21 hk2]; simp
      have hyes : hsOK s a b k = true → ∀ v4, Wp mc_87 D 25 [vI s, vI a, vI b, vI ((k : Int) + 1), v4] [] M (fun r1 M2 => r1 = some (vI (if hside s a b = true then 1 else 0)) ∧ M2 = M) := fun h v4 => ih (k + 1) v4 (by omega) (by omega) (by unfold hsUp; rw [hup, h]; rfl) h1 h2 h3
      cases hb2 : s.testBit k
      · skip
        refine w_iload rfl rfl (w_iconst rfl ?_)
        refine w_icmp_ge rfl (by first | assumption | exact i32_0 | (unfold i32 at *; omega)) (by first | assumption | exact i32_0 | (unfold i32 at *; omega)) rfl (fun c28 => ?_) (fun c28 => ?_)
        · skip
          refine w_iconst rfl ?_
          exact w_zreturn rfl (by first | exact Or.inl rfl | exact Or.inr rfl | omega | assumption) ⟨by exfalso; omega, by rfl⟩
        · skip
          refine w_iload rfl rfl (w_iload rfl rfl ?_)
          refine w_call (Or.inl rfl) (e_holds0 M hs (by omega) hb2) (by omega) nof_88 rfl rfl rfl rfl trivial rfl ?_
          refine w_if_eq rfl (by first | assumption | exact i32_0 | (unfold i32 at *; omega)) rfl (fun _ => ?_) (fun c => absurd c (by decide))
          refine w_iinc rfl rfl rfl (w_goto rfl rfl ?_)
          exact hyes (by simp [hsOK, hb2]) _
      · skip
        refine w_iload rfl rfl (w_iconst rfl ?_)
        refine w_icmp_ge rfl (by first | assumption | exact i32_0 | (unfold i32 at *; omega)) (by first | assumption | exact i32_0 | (unfold i32 at *; omega)) rfl (fun c28 => ?_) (fun c28 => ?_)
        · skip
          exfalso; omega
        · skip
          refine w_iload rfl rfl (w_iload rfl rfl ?_)
          refine w_call (Or.inl rfl) (e_holds1 M hs (by omega) hb2) (by omega) nof_88 rfl rfl rfl rfl trivial rfl ?_
          refine w_if_eq rfl (by first | assumption | exact i32_0 | (unfold i32 at *; omega)) rfl (fun c => absurd c (by decide)) (fun _ => ?_)
          refine w_iload rfl rfl (w_iload rfl rfl (w_iload rfl rfl ?_))
          refine w_call (Or.inl rfl) (e_turn a b k M (by omega) (by omega) (by omega)) (by omega) nof_72 rfl rfl rfl rfl trivial rfl ?_
          refine w_istore rfl rfl rfl (w_iload rfl rfl ?_)
          refine w_if_lt rfl (by first | assumption | exact i32_0 | (unfold i32 at *; omega)) rfl (fun c49 => ?_) (fun c49 => ?_)
          · skip
            refine w_iconst rfl ?_
            exact w_zreturn rfl (by first | exact Or.inl rfl | exact Or.inr rfl | omega | assumption) ⟨by rw [hno (by simp [hsOK, hb2]; omega)]; rfl, by rfl⟩
          · skip
            refine w_iload rfl rfl ?_
            refine w_if_ne rfl (by first | assumption | exact i32_0 | (unfold i32 at *; omega)) rfl (fun c54 => ?_) (fun c54 => ?_)
            · skip
              refine w_iinc rfl rfl rfl (w_goto rfl rfl ?_)
              exact hyes (by simp [hsOK, hb2]; omega) _
            · skip
              refine w_iload rfl rfl (w_iload rfl rfl (w_iload rfl rfl ?_))
              refine w_call (Or.inl rfl) (hmn) (by omega) nof_46 rfl rfl rfl rfl trivial rfl ?_
              refine w_icmp_lt rfl (by first | assumption | exact i32_0 | (unfold i32 at *; omega)) (by first | assumption | exact i32_0 | (unfold i32 at *; omega)) rfl (fun c63 => ?_) (fun c63 => ?_)
              · skip
                refine w_iconst rfl ?_
                exact w_zreturn rfl (by first | exact Or.inl rfl | exact Or.inr rfl | omega | assumption) ⟨by rw [hno (by simp [hsOK, hb2]; omega)]; rfl, by rfl⟩
              · skip
                refine w_iload rfl rfl (w_iload rfl rfl (w_iload rfl rfl ?_))
                refine w_call (Or.inl rfl) (hmx) (by omega) nof_9 rfl rfl rfl rfl trivial rfl ?_
                refine w_icmp_le rfl (by first | assumption | exact i32_0 | (unfold i32 at *; omega)) (by first | assumption | exact i32_0 | (unfold i32 at *; omega)) rfl (fun c72 => ?_) (fun c72 => ?_)
                · skip
                  refine w_iinc rfl rfl rfl (w_goto rfl rfl ?_)
                  exact hyes (by simp [hsOK, hb2]; omega) _
                · skip
                  refine w_iconst rfl ?_
                  exact w_zreturn rfl (by first | exact Or.inl rfl | exact Or.inr rfl | omega | assumption) ⟨by rw [hno (by simp [hsOK, hb2]; omega)]; rfl, by rfl⟩
  by_cases h1 : a = b
  · have hf : hside s a b = false := by simp [hside, h1]
    refine w_iload rfl rfl (w_iload rfl rfl ?_)
    refine w_icmp_eq rfl (by first | assumption | exact i32_0 | (unfold i32 at *; omega)) (by first | assumption | exact i32_0 | (unfold i32 at *; omega)) rfl (fun c2 => ?_) (fun c2 => ?_)
    · skip
      refine w_iconst rfl ?_
      exact w_zreturn rfl (by first | exact Or.inl rfl | exact Or.inr rfl | omega | assumption) ⟨by rw [hf]; rfl, by rfl⟩
    · skip
      exfalso; omega
  · cases h2 : s.testBit a
    · have hf : hside s a b = false := by simp [hside, h2]
      refine w_iload rfl rfl (w_iload rfl rfl ?_)
      refine w_icmp_eq rfl (by first | assumption | exact i32_0 | (unfold i32 at *; omega)) (by first | assumption | exact i32_0 | (unfold i32 at *; omega)) rfl (fun c2 => ?_) (fun c2 => ?_)
      · skip
        refine w_iconst rfl ?_
        exact w_zreturn rfl (by first | exact Or.inl rfl | exact Or.inr rfl | omega | assumption) ⟨by rw [hf]; rfl, by rfl⟩
      · skip
        refine w_iload rfl rfl (w_iload rfl rfl ?_)
        refine w_call (Or.inl rfl) (e_holds0 M hs (by omega) h2) (by omega) nof_88 rfl rfl rfl rfl trivial rfl ?_
        refine w_if_eq rfl (by first | assumption | exact i32_0 | (unfold i32 at *; omega)) rfl (fun _ => ?_) (fun c => absurd c (by decide))
        refine w_iconst rfl ?_
        exact w_zreturn rfl (by first | exact Or.inl rfl | exact Or.inr rfl | omega | assumption) ⟨by rw [hf]; rfl, by rfl⟩
    · cases h3 : s.testBit b
      · have hf : hside s a b = false := by simp [hside, h3]
        refine w_iload rfl rfl (w_iload rfl rfl ?_)
        refine w_icmp_eq rfl (by first | assumption | exact i32_0 | (unfold i32 at *; omega)) (by first | assumption | exact i32_0 | (unfold i32 at *; omega)) rfl (fun c2 => ?_) (fun c2 => ?_)
        · skip
          refine w_iconst rfl ?_
          exact w_zreturn rfl (by first | exact Or.inl rfl | exact Or.inr rfl | omega | assumption) ⟨by first | (exfalso; omega) | (rw [hf]; rfl), by rfl⟩
        · skip
          refine w_iload rfl rfl (w_iload rfl rfl ?_)
          refine w_call (Or.inl rfl) (e_holds1 M hs (by omega) h2) (by omega) nof_88 rfl rfl rfl rfl trivial rfl ?_
          refine w_if_eq rfl (by first | assumption | exact i32_0 | (unfold i32 at *; omega)) rfl (fun c => absurd c (by decide)) (fun _ => ?_)
          refine w_iload rfl rfl (w_iload rfl rfl ?_)
          refine w_call (Or.inl rfl) (e_holds0 M hs (by omega) h3) (by omega) nof_88 rfl rfl rfl rfl trivial rfl ?_
          refine w_if_ne rfl (by first | assumption | exact i32_0 | (unfold i32 at *; omega)) rfl (fun c => absurd c (by decide)) (fun _ => ?_)
          refine w_iconst rfl ?_
          exact w_zreturn rfl (by first | exact Or.inl rfl | exact Or.inr rfl | omega | assumption) ⟨by first | (exfalso; omega) | (rw [hf]; rfl), by rfl⟩
      · skip
        refine w_iload rfl rfl (w_iload rfl rfl ?_)
        refine w_icmp_eq rfl (by first | assumption | exact i32_0 | (unfold i32 at *; omega)) (by first | assumption | exact i32_0 | (unfold i32 at *; omega)) rfl (fun c2 => ?_) (fun c2 => ?_)
        · skip
          refine w_iconst rfl ?_
          exact w_zreturn rfl (by first | exact Or.inl rfl | exact Or.inr rfl | omega | assumption) ⟨by exfalso; omega, by rfl⟩
        · skip
          refine w_iload rfl rfl (w_iload rfl rfl ?_)
          refine w_call (Or.inl rfl) (e_holds1 M hs (by omega) h2) (by omega) nof_88 rfl rfl rfl rfl trivial rfl ?_
          refine w_if_eq rfl (by first | assumption | exact i32_0 | (unfold i32 at *; omega)) rfl (fun c => absurd c (by decide)) (fun _ => ?_)
          refine w_iload rfl rfl (w_iload rfl rfl ?_)
          refine w_call (Or.inl rfl) (e_holds1 M hs (by omega) h3) (by omega) nof_88 rfl rfl rfl rfl trivial rfl ?_
          refine w_if_ne rfl (by first | assumption | exact i32_0 | (unfold i32 at *; omega)) rfl (fun _ => ?_) (fun c => absurd c (by decide))
          refine w_iconst rfl (w_istore rfl rfl rfl ?_)
          exact loop 21 0 _ rfl (by omega) rfl h1 h2 h3
