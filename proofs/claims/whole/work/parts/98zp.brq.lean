/-! ===== bridges: rounds enough ===== -/
theorem stable {T : Nat → Nat} {S : Nat → Nat} {a n : Nat} (hS : ∀ m, S (m + 1) = T (S m)) (hmono : ∀ m k, (S m).testBit k = true → (S (m + 1)).testBit k = true) (hn : ∀ m k, (S m).testBit k = true → k < n) (ha : (S 0).testBit a = true) : ∀ m, n ≤ m → S m = S n := by
  have hmn : ∀ d m k, (S m).testBit k = true → (S (m + d)).testBit k = true := by
    intro d
    induction d with
    | zero => exact fun m k h => h
    | succ d ih => exact fun m k h => hmono _ k (ih m k h)
  have hex : ∃ m0, m0 ≤ n ∧ S (m0 + 1) = S m0 := by
    by_cases h : ∃ m0, m0 ≤ n ∧ S (m0 + 1) = S m0
    · exact h
    · exfalso
      have hne : ∀ m, m ≤ n → ∃ k, (S (m + 1)).testBit k = true ∧ (S m).testBit k = false := by
        intro m hm
        by_cases z : ∃ k, (S (m + 1)).testBit k = true ∧ (S m).testBit k = false
        · exact z
        · exfalso
          apply h
          refine ⟨m, hm, Nat.eq_of_testBit_eq fun k => ?_⟩
          cases e1 : (S (m + 1)).testBit k with
          | true =>
            cases e2 : (S m).testBit k with
            | true => rfl
            | false => exact absurd ⟨k, e1, e2⟩ z
          | false =>
            cases e2 : (S m).testBit k with
            | true => rw [hmono m k e2] at e1; cases e1
            | false => rfl
      have hp := pigeon (fun (m : Nat) k => (S (m + 1)).testBit k = true ∧ (S m).testBit k = false) n (List.range (n + 1)) (fun m hm => by
        obtain ⟨k, k1, k2⟩ := hne m (by have := List.mem_range.mp hm; omega)
        exact ⟨k, hn _ k k1, k1, k2⟩) (by
        refine List.Pairwise.imp ?_ (List.pairwise_lt_range)
        rintro x y hxy k ⟨x1, x2⟩ ⟨y1, y2⟩
        have := hmn (y - (x + 1)) (x + 1) k x1
        rw [show x + 1 + (y - (x + 1)) = y by omega] at this
        rw [this] at y2
        cases y2)
      rw [List.length_range] at hp
      omega
  obtain ⟨m0, m1, m2⟩ := hex
  have hst : ∀ d, S (m0 + d) = S m0 := by
    intro d
    induction d with
    | zero => rfl
    | succ d ih =>
      rw [← Nat.add_assoc, hS, ih, ← hS, m2]
  intro m hm
  have e1 := hst (m - m0)
  have e2 := hst (n - m0)
  rw [show m0 + (m - m0) = m by omega] at e1
  rw [show m0 + (n - m0) = n by omega] at e2
  rw [e1, e2]
def KOn (n : Nat) (K : List (Option (Nat × Nat))) : Prop := ∀ o ∈ K, ∀ ab, o = some ab → ab.1 < n ∧ ab.2 < n
theorem KOn_get {n : Nat} {K : List (Option (Nat × Nat))} (h : KOn n K) (k : Nat) : ∀ ab, (K[k]?).getD none = some ab → ab.1 < n ∧ ab.2 < n := by
  intro ab e
  cases q : K[k]? with
  | none => rw [q] at e; cases e
  | some o => rw [q] at e; exact h o (List.mem_of_getElem? q) ab e
theorem spr1_up {o : Option (Nat × Nat)} {n s k : Nat} (h : ∀ ab, o = some ab → ab.1 < n ∧ ab.2 < n) (hs : ∀ k, s.testBit k = true → k < n) : (s.testBit k = true → (spr1 o s).testBit k = true) ∧ ((spr1 o s).testBit k = true → k < n) := by
  cases o with
  | none => exact ⟨fun z => z, fun z => hs k z⟩
  | some ab =>
    obtain ⟨a, b⟩ := ab
    have hab := h (a, b) rfl
    have ha : a < n := hab.1
    have hb : b < n := hab.2
    rw [spr1_tb]
    refine ⟨fun z => by rw [z, Bool.true_or], fun z => ?_⟩
    rw [Bool.or_eq_true, Bool.and_eq_true, decide_eq_true_eq] at z
    rcases z with z | ⟨z, -⟩
    · exact hs k z
    · omega
theorem sprK_up {K : List (Option (Nat × Nat))} {n j s : Nat} (h : KOn n K) (hs : ∀ k, s.testBit k = true → k < n) : ∀ m, (∀ k, s.testBit k = true → (sprK K j s m).testBit k = true) ∧ ∀ k, (sprK K j s m).testBit k = true → k < n
  | 0 => ⟨fun k z => z, hs⟩
  | m + 1 => by
    obtain ⟨h1, h2⟩ := sprK_up (j := j) h hs m
    unfold sprK
    split
    · exact ⟨h1, h2⟩
    · exact ⟨fun k z => (spr1_up (KOn_get h m) h2).1 (h1 k z), fun k z => (spr1_up (KOn_get h m) h2).2 z⟩
theorem sprI_up {K : List (Option (Nat × Nat))} {n j s : Nat} (h : KOn n K) (hs : ∀ k, s.testBit k = true → k < n) : ∀ m k, (sprI K j s m).testBit k = true → k < n
  | 0, k, z => hs k z
  | m + 1, k, z => (sprK_up (j := j) h (fun k z => sprI_up h hs m k z) K.length).2 k z
theorem pow_tb (a k : Nat) : (2 ^ a).testBit k = true ↔ k = a := by
  rw [Nat.testBit_two_pow, decide_eq_true_eq]
  exact ⟨Eq.symm, Eq.symm⟩
theorem sprI_eq {K : List (Option (Nat × Nat))} {n j a : Nat} (h : KOn n K) (ha : a < n) (hn : n ≤ 16) : sprI K j (2 ^ a) 16 = sprI K j (2 ^ a) n := by
  have hs : ∀ k, (2 ^ a).testBit k = true → k < n := fun k z => by rw [(pow_tb a k).mp z]; exact ha
  exact stable (T := fun x => sprK K j x K.length) (S := fun m => sprI K j (2 ^ a) m) (a := a) (fun _ => rfl) (fun m k z => (sprK_up (j := j) h (fun k z => sprI_up h hs m k z) K.length).1 k z) (fun m k z => sprI_up h hs m k z) ((pow_tb a a).mpr rfl) 16 hn
theorem brK_eq {K : List (Option (Nat × Nat))} {n j : Nat} (h : KOn n K) (hn : n ≤ 16) : brK K n j = mBrK K j := by
  unfold brK mBrK
  cases e : (K[j]?).getD none with
  | none => rfl
  | some ab =>
    dsimp only
    rw [sprI_eq h (KOn_get h j ab e).1 hn]
theorem corn_16 {f : Cv} {B : Int} (hf : Cok B f) : (cornF f).length ≤ 16 := Goo_len hf (cornA_good hf (N := 21) 21).1
theorem KF_ok {f : Cv} (hf : Cok 999 f) : KOn (cornF f).length (KF f) := by
  intro o ho ab e
  unfold KF at ho
  obtain ⟨r, hr, rfl⟩ := List.mem_map.mp ho
  unfold endK at e
  split at e
  · cases e
  · next q =>
    have := (rowsF0_ok hf (corn_16 hf) (geo f hf) r hr).2.2 q
    cases e
    show (r 4).toNat < _ ∧ (r 5).toNat < _
    omega
theorem brq : BRQ := by
  intro f hf k e he
  have hm : (rowsF f).map endK = KF f := by
    unfold rowsF
    rw [rowsBr_map]
    rfl
  rw [hm, ← brK_eq (KF_ok hf) (corn_16 hf)]
  unfold rowsF at he
  rw [rowsBr_get] at he
  cases h0 : (rowsF0 f)[k]? with
  | none => rw [h0] at he; cases he
  | some r =>
    rw [h0] at he
    have he := Option.some.inj he
    dsimp only at he
    rw [if_pos (List.getElem?_eq_some_iff.mp h0).1] at he
    rw [← he]
    rfl
