/-! ===== the model's area and mixed area ===== -/
def arS (s : Nat) : Int := arQ (qsF s 25)
theorem m_area {s : Nat} {M : mM} (hs : s < 2 ^ 25) : EQ 6 207 [vR 155, vI s] M (fun z N => z = some (vI (arS s)) ∧ MlF M N) := by
  refine q_in (ls := [vR 155, vI s]) mq_207 (ml_207 rfl) rfl fun D hD => ?_
  have hls := m_lists (M := M) hs
  refine w_aload rfl rfl (w_iload rfl rfl ?_)
  refine w_callQ (Or.inr rfl) (hls) (by omega) nof_198 rfl rfl rfl rfl (by first | rfl | (show cKB[_]? = _; assumption)) (fun r2 M2 hq2 => ?_)
  obtain ⟨rfl, w1, w2⟩ := hq2
  have har := m_areaOfList w1
  refine w_aload rfl rfl ?_
  refine w_call (Or.inr rfl) ((har)) (by omega) nof_206 rfl rfl rfl rfl (by first | rfl | (show cKB[_]? = _; assumption)) rfl ?_
  exact w_ireturn rfl ⟨by first | rfl | (congr 2; omega), by exact w2⟩
theorem arT_le {Q : List (Int × Int)} (h : ∀ p ∈ Q, (0 ≤ p.1 ∧ p.1 ≤ 8) ∧ (0 ≤ p.2 ∧ p.2 ≤ 8)) (i j : Nat) : -128 ≤ arT Q i j ∧ arT Q i j ≤ 128 := by
  have hp : ∀ k, (0 ≤ (ptQ Q k).1 ∧ (ptQ Q k).1 ≤ 8) ∧ (0 ≤ (ptQ Q k).2 ∧ (ptQ Q k).2 ≤ 8) := by
    intro k
    unfold ptQ
    cases e : Q[k]? with
    | none => exact ⟨by decide, by decide⟩
    | some p => exact h p (List.mem_of_getElem? e)
  have hi := hp i
  have hj := hp j
  have h0 := hp 0
  unfold arT
  split
  · have m1 := mul_le (d := (ptQ Q i).1 - (ptQ Q 0).1) (c := (ptQ Q j).2 - (ptQ Q 0).2) (A := 8) (B := 8) (by omega) (by omega)
    have m2 := mul_le (d := (ptQ Q i).2 - (ptQ Q 0).2) (c := (ptQ Q j).1 - (ptQ Q 0).1) (A := 8) (B := 8) (by omega) (by omega)
    omega
  · omega
theorem arJ_le {Q : List (Int × Int)} (h : ∀ p ∈ Q, (0 ≤ p.1 ∧ p.1 ≤ 8) ∧ (0 ≤ p.2 ∧ p.2 ≤ 8)) (i : Nat) (s : Int) : ∀ n : Nat, s - 128 * (n : Int) ≤ arJ Q i s n ∧ arJ Q i s n ≤ s + 128 * (n : Int)
  | 0 => by unfold arJ; omega
  | n + 1 => by
    have := arJ_le h i s n
    have := arT_le h i n
    unfold arJ
    omega
theorem arI_le {Q : List (Int × Int)} (h : ∀ p ∈ Q, (0 ≤ p.1 ∧ p.1 ≤ 8) ∧ (0 ≤ p.2 ∧ p.2 ≤ 8)) (hl : Q.length ≤ 64) : ∀ n : Nat, -(8192 * (n : Int)) ≤ arI Q n ∧ arI Q n ≤ 8192 * (n : Int)
  | 0 => by unfold arI; omega
  | n + 1 => by
    have := arI_le h hl n
    have := arJ_le h n (arI Q n) Q.length
    unfold arI
    omega
theorem arQ_le {Q : List (Int × Int)} (h : ∀ p ∈ Q, (0 ≤ p.1 ∧ p.1 ≤ 8) ∧ (0 ≤ p.2 ∧ p.2 ≤ 8)) (hl : Q.length ≤ 64) : -1000000 ≤ arQ Q ∧ arQ Q ≤ 1000000 := by
  have := arI_le h hl Q.length
  unfold arQ
  omega
theorem qsF_le (s : Nat) : ∀ n, n ≤ 25 → ∀ p ∈ qsF s n, (0 ≤ p.1 ∧ p.1 ≤ 8) ∧ (0 ≤ p.2 ∧ p.2 ≤ 8)
  | 0, _ => by intro p hp; cases hp
  | n + 1, hn => by
    intro p hp
    have ih := qsF_le s n (by omega)
    unfold qsF at hp
    split at hp
    · rcases List.mem_append.mp hp with z | z
      · exact ih p z
      · have z : p = (pi n, pj n) := by simpa using z
        have b1 := pi_le (p := n) (by omega)
        have b2 := pj_le n
        rw [z]
        show (0 ≤ pi n ∧ pi n ≤ 8) ∧ (0 ≤ pj n ∧ pj n ≤ 8)
        omega
    · exact ih p hp
theorem arS_le (s : Nat) : -1000000 ≤ arS s ∧ arS s ≤ 1000000 := arQ_le (qsF_le s 25 (by decide)) (by have := qsF_len s 25; omega)
/-! the sums of two sets -/
def smK (i j : Nat) : Nat := 9 * (i / 5 + j / 5) + (i % 5 + j % 5)
def smG (s o k : Nat) : Bool := (List.range 25).any fun i => (List.range 25).any fun j => s.testBit i && (o.testBit j && decide (smK i j = k))
theorem smG_iff {s o k : Nat} : smG s o k = true ↔ ∃ i, i < 25 ∧ ∃ j, j < 25 ∧ s.testBit i = true ∧ o.testBit j = true ∧ smK i j = k := by
  unfold smG
  simp only [List.any_eq_true, List.mem_range, Bool.and_eq_true, decide_eq_true_eq]
def smF (s o : Nat) : Nat → List (Int × Int)
  | 0 => []
  | n + 1 => if smG s o n = true then smF s o n ++ [(((n / 9 : Nat) : Int), ((n % 9 : Nat) : Int))] else smF s o n
def plS (s : Nat) : Prop := ∀ p, s.testBit p = true → p < 25 ∧ p / 5 + p % 5 ≤ 4
def smC : Nat → Nat
  | 0 => 0
  | n + 1 => if n / 9 + n % 9 ≤ 8 then smC n + 1 else smC n
theorem smF_len {s o : Nat} (hs : plS s) (ho : plS o) : ∀ n, (smF s o n).length ≤ smC n
  | 0 => Nat.le_refl _
  | n + 1 => by
    have ih := smF_len hs ho n
    unfold smF smC
    split
    · next h =>
      obtain ⟨i, hi, j, hj, h1, h2, h3⟩ := smG_iff.mp h
      have q1 := hs i h1
      have q2 := ho j h2
      unfold smK at h3
      rw [if_pos (by omega), List.length_append]
      show _ + 1 ≤ _
      omega
    · split <;> omega
theorem smC_81 : smC 81 = 45 := by decide
theorem smC_mono : ∀ n m, n ≤ m → smC n ≤ smC m
  | n, 0, h => by obtain rfl : n = 0 := by omega
                  exact Nat.le_refl _
  | n, m + 1, h => by
    by_cases q : n = m + 1
    · rw [q]; exact Nat.le_refl _
    · have := smC_mono n m (by omega)
      have e : smC (m + 1) = if m / 9 + m % 9 ≤ 8 then smC m + 1 else smC m := rfl
      rw [e]
      split <;> omega
def mxM (s o : Nat) : Int := (arQ (smF s o 81) - arS s - arS o).tdiv 2
/-- cells of the grid already written -/
def gDn (s o i j k : Nat) : Prop := ∃ a b, (a < i ∨ (a = i ∧ b < j)) ∧ a < 25 ∧ b < 25 ∧ s.testBit a = true ∧ o.testBit b = true ∧ smK a b = k
def gOk (s o i j : Nat) (M : mM) : Prop := ∀ k, k < 81 → (M 161 k = 1 ∧ gDn s o i j k) ∨ (M 161 k = 0 ∧ ¬ gDn s o i j k)
def MmF (M N : mM) : Prop := (∀ b, b ≠ 155 → b ≠ 159 → b ≠ 160 → b ≠ 161 → N b = M b) ∧ ∀ j, j ≠ 19 → N 155 j = M 155 j
theorem MmF_tr {M N O : mM} (h : MmF M N) (h2 : MmF N O) : MmF M O := ⟨fun b q1 q2 q3 q4 => (h2.1 b q1 q2 q3 q4).trans (h.1 b q1 q2 q3 q4), fun j hj => (h2.2 j hj).trans (h.2 j hj)⟩
theorem MmF_of {M N : mM} (h : MlF M N) : MmF M N := ⟨fun b q1 q2 q3 _ => h.1 b q1 q2 q3, h.2⟩
theorem MmF_rfl (M : mM) : MmF M M := MmF_of (MlF_rfl M)
theorem MmF_up (M : mM) (k : Nat) (v : Int) : MmF M (upI M 161 k v) := ⟨fun b _ _ _ q => upI_ne _ _ _ _ q, fun j hj => by rw [upI_ne _ _ _ _ (by decide)]⟩
theorem gDn_fst {s o i k : Nat} : gDn s o i 25 k ↔ gDn s o (i + 1) 0 k := by
  constructor
  · rintro ⟨a, b, h, h2, h3, h4⟩
    exact ⟨a, b, by omega, h2, h3, h4⟩
  · rintro ⟨a, b, h, h2, h3, h4⟩
    exact ⟨a, b, by omega, h2, h3, h4⟩
theorem gDn_no {s o i j k : Nat} (h : ¬ (s.testBit i = true ∧ o.testBit j = true)) : gDn s o i (j + 1) k ↔ gDn s o i j k := by
  constructor
  · rintro ⟨a, b, h1, h2, h3, h4, h5, h6⟩
    refine ⟨a, b, ?_, h2, h3, h4, h5, h6⟩
    rcases h1 with q | ⟨q1, q2⟩
    · exact Or.inl q
    · by_cases e : b = j
      · rw [q1] at h4; rw [e] at h5; exact absurd ⟨h4, h5⟩ h
      · exact Or.inr ⟨q1, by omega⟩
  · rintro ⟨a, b, h1, h2⟩
    exact ⟨a, b, by omega, h2⟩
theorem gDn_yes {s o i j k : Nat} (hi : i < 25) (hj : j < 25) (h1 : s.testBit i = true) (h2 : o.testBit j = true) : gDn s o i (j + 1) k ↔ gDn s o i j k ∨ smK i j = k := by
  constructor
  · rintro ⟨a, b, q1, q2, q3, q4, q5, q6⟩
    by_cases e : a = i ∧ b = j
    · rw [e.1, e.2] at q6; exact Or.inr q6
    · exact Or.inl ⟨a, b, by omega, q2, q3, q4, q5, q6⟩
  · rintro (⟨a, b, q1, q2⟩ | q)
    · exact ⟨a, b, by omega, q2⟩
    · exact ⟨i, j, by omega, hi, hj, h1, h2, q⟩
theorem gOk_yes {s o i j : Nat} {M : mM} (hi : i < 25) (hj : j < 25) (h1 : s.testBit i = true) (h2 : o.testBit j = true) (h : gOk s o i j M) : gOk s o i (j + 1) (upI M 161 (smK i j) 1) := by
  intro k hk
  rw [gDn_yes hi hj h1 h2]
  by_cases e : k = smK i j
  · exact Or.inl ⟨by rw [e]; exact upI_same _ _ _ _, Or.inr e.symm⟩
  · rw [show upI M 161 (smK i j) 1 161 k = M 161 k from if_neg (fun q => e q.2)]
    rcases h k hk with ⟨q1, q2⟩ | ⟨q1, q2⟩
    · exact Or.inl ⟨q1, Or.inl q2⟩
    · exact Or.inr ⟨q1, fun q => q.elim q2 (fun q => e q.symm)⟩
theorem gOk_no {s o i j : Nat} {M : mM} (hn : ¬ (s.testBit i = true ∧ o.testBit j = true)) (h : gOk s o i j M) : gOk s o i (j + 1) M := by
  intro k hk
  rw [gDn_no hn]
  exact h k hk
theorem gOk_end {s o : Nat} {M : mM} (h : gOk s o 25 0 M) : ∀ k, k < 81 → M 161 k = if smG s o k = true then 1 else 0 := by
  intro k hk
  have hd : gDn s o 25 0 k ↔ smG s o k = true := by
    rw [smG_iff]
    constructor
    · rintro ⟨a, b, -, h2, h3, h4, h5, h6⟩
      exact ⟨a, h2, b, h3, h4, h5, h6⟩
    · rintro ⟨a, h2, b, h3, h4, h5, h6⟩
      exact ⟨a, b, Or.inl h2, h2, h3, h4, h5, h6⟩
  rcases h k hk with ⟨q1, q2⟩ | ⟨q1, q2⟩
  · rw [if_pos (hd.mp q2)]; exact q1
  · rw [if_neg (fun z => q2 (hd.mpr z))]; exact q1
