/-! ===== the sides of a cell placed ===== -/
def frE (p q c u v : Int) : Nat → Int := fun t => if t = 0 then p else if t = 1 then q else if t = 2 then c else if t = 3 then -1000000 else if t = 4 then u else v
def insE (R : List (Nat → Int)) (p q c u v : Int) : List (Nat → Int) := R.take (posE p q R) ++ frE p q c u v :: R.drop (posE p q R)
def sdPut (R : List (Nat → Int)) (p q c u v : Int) : List (Nat → Int) := match R[posE p q R]? with
  | some e => if e 0 = p ∧ e 1 = q then R.set (posE p q R) (sR e 3 c) else insE R p q c u v
  | none => insE R p q c u v
def plC (A : Int × Int) : Int := 5 * A.1 + A.2
def sdG (A B : Int × Int) : Int := (Nat.gcd (B.1 - A.1).natAbs (B.2 - A.2).natAbs : Nat)
def sdStep (c : Int) (A B : Int × Int) (R : List (Nat → Int)) : List (Nat → Int) := sdPut R (if plC A < plC B then plC A else plC B) (if plC A < plC B then plC B else plC A) c ((A.2 - B.2).tdiv (sdG A B)) ((B.1 - A.1).tdiv (sdG A B))
theorem insE_len (R : List (Nat → Int)) (p q c u v : Int) : (insE R p q c u v).length = R.length + 1 := by
  have := posE_le p q R
  unfold insE
  rw [List.length_append, List.length_take, List.length_cons, List.length_drop]
  omega
theorem sdPut_len (R : List (Nat → Int)) (p q c u v : Int) : R.length ≤ (sdPut R p q c u v).length := by
  unfold sdPut
  split
  · split
    · rw [List.length_set]; exact Nat.le_refl _
    · rw [insE_len]; omega
  · rw [insE_len]; omega
theorem mE_set {a i : Nat} {L : List (Nat → Int)} {M1 M2 : mM} {e : Nat → Int} (h : mE a L M1) (hi : i < L.length) (he : rwOK e) (q0 : M2 172 a = M1 172 a) (q1 : ∀ t, t < 6 → M2 (166 + t) (40 * a + i) = e t) (q2 : ∀ t j, t < 6 → j ≠ 40 * a + i → M2 (166 + t) j = M1 (166 + t) j) : mE a (L.set i e) M2 := by
  obtain ⟨h1, h2, h3, h4⟩ := h
  refine ⟨by rw [q0, List.length_set]; exact h1, by rw [List.length_set]; exact h2, fun x hx => ?_, fun k x hk t ht => ?_⟩
  · rcases List.mem_or_eq_of_mem_set hx with z | z
    · exact h3 x z
    · rw [z]; exact he
  · by_cases z : k = i
    · subst z
      rw [List.getElem?_set_self hi] at hk
      have hk : e = x := by simpa using hk
      rw [← hk]
      exact q1 t ht
    · rw [List.getElem?_set_ne (fun y => z y.symm)] at hk
      rw [q2 t _ ht (by omega)]
      exact h4 k x hk t ht
theorem set_ins (R : List (Nat → Int)) (i : Nat) (x y : Nat → Int) (h : i ≤ R.length) : (R.take i ++ x :: R.drop i).set i y = R.take i ++ y :: R.drop i := by
  have hl : (R.take i).length = i := by rw [List.length_take]; omega
  rw [List.set_append_right _ _ (by omega), hl, Nat.sub_self]
  rfl
theorem isdQ_ne {Q : List (Int × Int)} {i j : Nat} (h : isdQ Q i j = true) : ¬ ((ptQ Q i).1 = (ptQ Q j).1 ∧ (ptQ Q i).2 = (ptQ Q j).2) := by
  rintro ⟨q1, q2⟩
  have hab : ∀ n, abQ Q i j n = false := by
    intro n
    induction n with
    | zero => rfl
    | succ n ih =>
      unfold abQ
      rw [ih, Bool.false_or]
      refine decide_eq_false ?_
      unfold crQ
      rw [q1, q2, Int.sub_self, Int.sub_self, Int.zero_mul, Int.zero_mul]
      decide
  unfold isdQ at h
  rw [hab, Bool.and_false] at h
  cases h
def sdJ (Q : List (Int × Int)) (c : Int) (i : Nat) (R : List (Nat → Int)) : Nat → List (Nat → Int)
  | 0 => R
  | j + 1 => if isdQ Q i j = true then sdStep c (ptQ Q i) (ptQ Q j) (sdJ Q c i R j) else sdJ Q c i R j
def sdI (Q : List (Int × Int)) (c : Int) (R : List (Nat → Int)) : Nat → List (Nat → Int)
  | 0 => R
  | i + 1 => sdJ Q c i (sdI Q c R i) Q.length
theorem sdJ_len (Q : List (Int × Int)) (c : Int) (i : Nat) (R : List (Nat → Int)) : ∀ n m, n ≤ m → (sdJ Q c i R n).length ≤ (sdJ Q c i R m).length
  | n, 0, h => by obtain rfl : n = 0 := by omega
                  exact Nat.le_refl _
  | n, m + 1, h => by
    by_cases q : n = m + 1
    · rw [q]; exact Nat.le_refl _
    · refine Nat.le_trans (sdJ_len Q c i R n m (by omega)) ?_
      have e : sdJ Q c i R (m + 1) = if isdQ Q i m = true then sdStep c (ptQ Q i) (ptQ Q m) (sdJ Q c i R m) else sdJ Q c i R m := rfl
      rw [e]
      split
      · exact sdPut_len _ _ _ _ _ _
      · exact Nat.le_refl _
theorem sdI_len (Q : List (Int × Int)) (c : Int) (R : List (Nat → Int)) : ∀ n m, n ≤ m → (sdI Q c R n).length ≤ (sdI Q c R m).length
  | n, 0, h => by obtain rfl : n = 0 := by omega
                  exact Nat.le_refl _
  | n, m + 1, h => by
    by_cases q : n = m + 1
    · rw [q]; exact Nat.le_refl _
    · exact Nat.le_trans (sdI_len Q c R n m (by omega)) (sdJ_len Q c m _ 0 Q.length (Nat.zero_le _))
/-- rows with their start known -/
def stK (R : List (Nat → Int)) : Prop := ∀ e ∈ R, e 2 ≠ -1000000
theorem sdPut_stK {R : List (Nat → Int)} {p q c u v : Int} (h : stK R) (hc : c ≠ -1000000) : stK (sdPut R p q c u v) := by
  have hins : stK (insE R p q c u v) := by
    intro e he
    unfold insE at he
    rcases List.mem_append.mp he with z | z
    · exact h e (List.mem_of_mem_take z)
    · rcases List.mem_cons.mp z with z | z
      · rw [z]; exact hc
      · exact h e (List.mem_of_mem_drop z)
  unfold sdPut
  split
  · next e0 he0 =>
    split
    · intro e he
      rcases List.mem_or_eq_of_mem_set he with z | z
      · exact h e z
      · rw [z]; exact h e0 (List.mem_of_getElem? he0)
    · exact hins
  · exact hins
theorem sdJ_stK {Q : List (Int × Int)} {c : Int} {i : Nat} {R : List (Nat → Int)} (h : stK R) (hc : c ≠ -1000000) : ∀ n, stK (sdJ Q c i R n)
  | 0 => h
  | n + 1 => by
    unfold sdJ
    split
    · exact sdPut_stK (sdJ_stK h hc n) hc
    · exact sdJ_stK h hc n
theorem sdI_stK {Q : List (Int × Int)} {c : Int} {R : List (Nat → Int)} (h : stK R) (hc : c ≠ -1000000) : ∀ n, stK (sdI Q c R n)
  | 0 => h
  | n + 1 => sdJ_stK (sdI_stK h hc n) hc Q.length
theorem gcd_le8 {x y : Int} (hx : -8 ≤ x ∧ x ≤ 8) (hy : -8 ≤ y ∧ y ≤ 8) (hn : ¬ (x = 0 ∧ y = 0)) : 0 < (Nat.gcd x.natAbs y.natAbs : Nat) ∧ (Nat.gcd x.natAbs y.natAbs : Nat) ≤ 8 := by
  have hp : 0 < Nat.gcd x.natAbs y.natAbs := by
    by_cases q : x = 0
    · exact Nat.gcd_pos_of_pos_right _ (by omega)
    · exact Nat.gcd_pos_of_pos_left _ (by omega)
  refine ⟨hp, ?_⟩
  by_cases q : x = 0
  · have := Nat.le_of_dvd (by omega) (Nat.gcd_dvd_right x.natAbs y.natAbs)
    omega
  · have := Nat.le_of_dvd (by omega) (Nat.gcd_dvd_left x.natAbs y.natAbs)
    omega
theorem tdiv_le8 {x : Int} {g : Nat} (hx : -8 ≤ x ∧ x ≤ 8) : -8 ≤ x.tdiv (g : Int) ∧ x.tdiv (g : Int) ≤ 8 := by
  have h1 : (x.tdiv (g : Int)).natAbs ≤ x.natAbs := by
    rw [Int.natAbs_tdiv]; exact Nat.div_le_self _ _
  omega
