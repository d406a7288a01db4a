/-! ===== the model's meetings ===== -/
def lqB (P : Int × Int) : Prop := (-20000000000 ≤ P.1 ∧ P.1 ≤ 20000000000) ∧ (-20000000000 ≤ P.2 ∧ P.2 ≤ 20000000000)
def mMt (L : List (Int × Int)) (M : mM) : Prop := M 155 35 = (L.length : Int) ∧ L.length ≤ 16 ∧ (∀ P ∈ L, lqB P) ∧ ∀ (k : Nat) (P : Int × Int), L[k]? = some P → M 173 k = P.1 ∧ M 174 k = P.2
def MzF (M N : mM) : Prop := (∀ b, b ≠ 155 → b ≠ 159 → b ≠ 160 → b ≠ 161 → b ≠ 173 → b ≠ 174 → N b = M b) ∧ ∀ j, j ≠ 19 → j ≠ 35 → N 155 j = M 155 j
theorem MzF_tr {M N O : mM} (h : MzF M N) (h2 : MzF N O) : MzF M O := ⟨fun b q1 q2 q3 q4 q5 q6 => (h2.1 b q1 q2 q3 q4 q5 q6).trans (h.1 b q1 q2 q3 q4 q5 q6), fun j q1 q2 => (h2.2 j q1 q2).trans (h.2 j q1 q2)⟩
theorem MzF_m {M N : mM} (h : MmF M N) : MzF M N := ⟨fun b q1 q2 q3 q4 _ _ => h.1 b q1 q2 q3 q4, fun j q1 _ => h.2 j q1⟩
theorem MzF_rfl (M : mM) : MzF M M := MzF_m (MmF_rfl M)
theorem mMt_m {L : List (Int × Int)} {M N : mM} (h : mMt L M) (hF : MmF M N) : mMt L N := ⟨by rw [hF.2 35 (by decide)]; exact h.1, h.2.1, h.2.2.1, fun k P hk => by rw [hF.1 173 (by decide) (by decide) (by decide) (by decide), hF.1 174 (by decide) (by decide) (by decide) (by decide)]; exact h.2.2.2 k P hk⟩
abbrev ahP (x y : Int) (P : Int × Int) : Prop := P.1 < x ∨ (P.1 = x ∧ P.2 < y)
theorem ahP_iff (x y : Int) (P : Int × Int) : ahP x y P ↔ (P.1 < x ∨ (P.1 = x ∧ P.2 < y)) := Iff.rfl
def posP (x y : Int) : List (Int × Int) → Nat
  | [] => 0
  | P :: L => if ahP x y P then posP x y L + 1 else 0
theorem posP_le (x y : Int) : ∀ L, posP x y L ≤ L.length
  | [] => Nat.le_refl _
  | P :: L => by
    have := posP_le x y L
    unfold posP
    rw [List.length_cons]
    split <;> omega
theorem posP_at {x y : Int} : ∀ (L : List (Int × Int)) (n : Nat), (∀ k, k < n → ∃ P, L[k]? = some P ∧ ahP x y P) → (∀ P, L[n]? = some P → ¬ ahP x y P) → posP x y L = n
  | [], n, h, _ => by
    cases n with
    | zero => rfl
    | succ n => obtain ⟨P, hP, -⟩ := h 0 (by omega)
                cases hP
  | P :: L, 0, _, h2 => by
    have := h2 P rfl
    unfold posP
    rw [if_neg this]
  | P :: L, n + 1, h, h2 => by
    obtain ⟨P2, q1, q2⟩ := h 0 (by omega)
    have q1 : P = P2 := by simpa using q1
    rw [← q1] at q2
    unfold posP
    rw [if_pos q2, posP_at L n (fun k hk => by
      obtain ⟨P3, z1, z2⟩ := h (k + 1) (by omega)
      exact ⟨P3, by simpa using z1, z2⟩) (fun P3 h3 => h2 P3 (by simpa using h3))]
def twoB (s : Nat) : Bool := !decide (s &&& (s - 1) = 0)
def mtOK (f g : Cv) (x y : Int) : Bool := twoB (ledW f x y) && (twoB (ledW g x y) && !decide (mxM (ledW f x y) (ledW g x y) = 0))
def mtPut (f g : Cv) (x y : Int) (L : List (Int × Int)) : List (Int × Int) := if L[posP x y L]? = some (x, y) ∨ L.length = 16 ∨ mtOK f g x y = false then L else L.take (posP x y L) ++ (x, y) :: L.drop (posP x y L)
/-- the arrays while room is made -/
def MtG (L : List (Int × Int)) (k : Nat) (N : mM) : Prop := N 155 35 = (L.length : Int) ∧ (∀ j P, L[j]? = some P → j < k → N 173 j = P.1 ∧ N 174 j = P.2) ∧ ∀ j P, L[j]? = some P → k ≤ j → N 173 (j + 1) = P.1 ∧ N 174 (j + 1) = P.2
def ptUp (N : mM) (j : Nat) (P : Int × Int) : mM := upI (upI N 173 j P.1) 174 j P.2
theorem ptUp_at (N : mM) (j : Nat) (P : Int × Int) : ptUp N j P 173 j = P.1 ∧ ptUp N j P 174 j = P.2 := by
  unfold ptUp
  exact ⟨by rw [upI_ne _ _ _ _ (by decide)]; exact upI_same _ _ _ _, upI_same _ _ _ _⟩
theorem ptUp_ne (N : mM) (j : Nat) (P : Int × Int) {b k : Nat} (h : k ≠ j ∨ b < 173 ∨ 174 < b) : ptUp N j P b k = N b k := by
  unfold ptUp upI
  rw [if_neg (by omega), if_neg (by omega)]
theorem ptUp_fr (N : mM) (j : Nat) (P : Int × Int) : MzF N (ptUp N j P) := by
  refine ⟨fun b _ _ _ _ q5 q6 => ?_, fun k _ _ => ptUp_ne N j P (by omega)⟩
  unfold ptUp
  rw [upI_ne _ _ _ _ q6, upI_ne _ _ _ _ q5]
theorem mMt_ins {L : List (Int × Int)} {n : Nat} {M N : mM} {P : Int × Int} (h : mMt L M) (hl : L.length < 16) (hn : n ≤ L.length) (hG : MtG L n N) (hP : lqB P) : mMt (L.take n ++ P :: L.drop n) (upI (ptUp N n P) 155 35 ((L.length : Int) + 1)) := by
  obtain ⟨h1, h2, h3, h4⟩ := h
  have hlen : (L.take n ++ P :: L.drop n).length = L.length + 1 := by
    rw [List.length_append, List.length_take, List.length_cons, List.length_drop]; omega
  refine ⟨by rw [upI_same, hlen]; rfl, by rw [hlen]; omega, fun x hx => ?_, fun k x hk => ?_⟩
  · rcases List.mem_append.mp hx with z | z
    · exact h3 x (List.mem_of_mem_take z)
    · rcases List.mem_cons.mp z with z | z
      · rw [z]; exact hP
      · exact h3 x (List.mem_of_mem_drop z)
  · rw [upI_ne _ _ _ _ (by decide), upI_ne _ _ _ _ (by decide)]
    rcases Nat.lt_trichotomy k n with q | q | q
    · rw [List.getElem?_append_left (by rw [List.length_take]; omega), List.getElem?_take, if_pos q] at hk
      rw [ptUp_ne _ _ _ (by omega), ptUp_ne _ _ _ (by omega)]
      exact hG.2.1 k x hk q
    · subst q
      have hx : x = P := by
        rw [List.getElem?_append_right (by rw [List.length_take]; omega), List.length_take, show k - min k L.length = 0 by omega] at hk
        simpa using hk.symm
      rw [hx]
      exact ptUp_at N k P
    · have hx : L[k - 1]? = some x := by
        rw [List.getElem?_append_right (by rw [List.length_take]; omega), List.length_take, show k - min n L.length = (k - 1 - n) + 1 by omega, List.getElem?_cons_succ, List.getElem?_drop] at hk
        rw [show k - 1 = n + (k - 1 - n) by omega]
        exact hk
      rw [ptUp_ne _ _ _ (by omega), ptUp_ne _ _ _ (by omega), show k = (k - 1) + 1 by omega]
      exact hG.2.2 (k - 1) x hx (by omega)
theorem lead_plS {f : Cv} (hf : Cok 999 f) (x y d : Int) : plS (leadF f x y d) := by
  intro p hp
  obtain ⟨h1, c, h2, -⟩ := lead_tb.mp hp
  have := hf p c h2
  omega
theorem mxM_le (s o : Nat) (hs : plS s) (ho : plS o) : -3000000 ≤ mxM s o ∧ mxM s o ≤ 3000000 := by
  have b1 := arS_le s
  have b2 := arS_le o
  have hl : (smF s o 81).length ≤ 64 := by
    have := smF_len hs ho 81
    rw [smC_81] at this
    omega
  have hq : ∀ n, n ≤ 81 → ∀ p ∈ smF s o n, (0 ≤ p.1 ∧ p.1 ≤ 8) ∧ (0 ≤ p.2 ∧ p.2 ≤ 8) := by
    intro n
    induction n with
    | zero => intro _ p hp; cases hp
    | succ n ih =>
      intro hn p hp
      unfold smF at hp
      split at hp
      · rcases List.mem_append.mp hp with z | z
        · exact ih (by omega) p z
        · have z : p = (((n / 9 : Nat) : Int), ((n % 9 : Nat) : Int)) := by simpa using z
          rw [z]
          show (0 ≤ ((n / 9 : Nat) : Int) ∧ ((n / 9 : Nat) : Int) ≤ 8) ∧ (0 ≤ ((n % 9 : Nat) : Int) ∧ ((n % 9 : Nat) : Int) ≤ 8)
          omega
      · exact ih (by omega) p hp
  have b3 := arQ_le (hq 81 (by decide)) hl
  have e : mxM s o = (arQ (smF s o 81) - arS s - arS o).tdiv 2 := rfl
  rw [e]
  have h1 : ((arQ (smF s o 81) - arS s - arS o).tdiv 2).natAbs ≤ (arQ (smF s o 81) - arS s - arS o).natAbs := by
    rw [Int.natAbs_tdiv]; exact Nat.div_le_self _ _
  omega
