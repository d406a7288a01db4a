/-! ===== shortest ways: rounds enough ===== -/
def lbA (X : Lab) (k : Nat) : Int × Int := (X.1 k, X.2 k)
def leL (p q : Int × Int) : Prop := q.1 < 0 ∨ (0 ≤ p.1 ∧ (p.1 < q.1 ∨ (p.1 = q.1 ∧ p.2 ≤ q.2)))
def nrm (X : Lab) : Prop := ∀ k, (X.1 k = -1 ∧ X.2 k = 0) ∨ (0 ≤ X.1 k ∧ 0 ≤ X.2 k)
theorem leL_tr {p q r : Int × Int} (h1 : leL p q) (h2 : leL q r) : leL p r := by unfold leL at *; omega
theorem leL_rfl {X : Lab} (h : nrm X) (k : Nat) : leL (lbA X k) (lbA X k) := by
  have := h k
  unfold leL lbA
  dsimp only
  omega
theorem leL_anti {X Y : Lab} {k : Nat} (hX : nrm X) (hY : nrm Y) (h1 : leL (lbA X k) (lbA Y k)) (h2 : leL (lbA Y k) (lbA X k)) : lbA X k = lbA Y k := by
  have := hX k
  have := hY k
  unfold leL lbA at *
  dsimp only at *
  exact Prod.ext (show X.1 k = Y.1 k by omega) (show X.2 k = Y.2 k by omega)
def rcn (a b : Nat) (l : Int) (X : Lab) : Prop := 0 ≤ X.1 a ∧ (X.1 b < 0 ∨ X.1 a + l < X.1 b ∨ (X.1 a + l = X.1 b ∧ X.2 a + 1 < X.2 b))
theorem rlx_yes {a b : Nat} {l : Int} {X : Lab} (h : rcn a b l X) : (∀ k, k ≠ b → lbA (rlx a b l X) k = lbA X k) ∧ lbA (rlx a b l X) b = (X.1 a + l, X.2 a + 1) := by
  have e : rlx a b l X = (sR X.1 b (X.1 a + l), sR X.2 b (X.2 a + 1)) := if_pos h
  rw [e]
  refine ⟨fun k hk => ?_, ?_⟩
  · show (sR X.1 b (X.1 a + l) k, sR X.2 b (X.2 a + 1) k) = (X.1 k, X.2 k)
    unfold sR
    rw [if_neg hk, if_neg hk]
  · show (sR X.1 b (X.1 a + l) b, sR X.2 b (X.2 a + 1) b) = _
    unfold sR
    rw [if_pos rfl, if_pos rfl]
theorem rlx_no {a b : Nat} {l : Int} {X : Lab} (h : ¬ rcn a b l X) : rlx a b l X = X := if_neg h
theorem rlx_le {a b : Nat} {l : Int} {X : Lab} (hX : nrm X) (hl : 1 ≤ l) (k : Nat) : leL (lbA (rlx a b l X) k) (lbA X k) ∧ nrm (rlx a b l X) := by
  by_cases h : rcn a b l X
  · obtain ⟨h1, h2⟩ := rlx_yes h
    have ha := hX a
    constructor
    · by_cases e : k = b
      · subst e
        rw [h2]
        unfold rcn at h
        unfold leL lbA
        dsimp only
        omega
      · rw [h1 k e]
        exact leL_rfl hX k
    · intro j
      by_cases e : j = b
      · subst e
        have e1 := congrArg Prod.fst h2
        have e2 := congrArg Prod.snd h2
        have e1 : (rlx a j l X).1 j = X.1 a + l := e1
        have e2 : (rlx a j l X).2 j = X.2 a + 1 := e2
        rw [e1, e2]
        unfold rcn at h
        omega
      · have e1 := congrArg Prod.fst (h1 j e)
        have e2 := congrArg Prod.snd (h1 j e)
        have e1 : (rlx a b l X).1 j = X.1 j := e1
        have e2 : (rlx a b l X).2 j = X.2 j := e2
        rw [e1, e2]
        exact hX j
  · rw [rlx_no h]
    exact ⟨leL_rfl hX k, hX⟩
def wOK (n : Nat) (L : Int) (W : List (Option (Nat × Nat × Int))) : Prop := ∀ t, some t ∈ W → (t.1 < n ∧ t.2.1 < n) ∧ 1 ≤ t.2.2 ∧ t.2.2 ≤ L
def wEd (W : List (Option (Nat × Nat × Int))) (a b : Nat) (l : Int) : Prop := some (a, b, l) ∈ W ∨ some (b, a, l) ∈ W
theorem wEd_ok {n : Nat} {L : Int} {W : List (Option (Nat × Nat × Int))} (h : wOK n L W) {a b : Nat} {l : Int} (he : wEd W a b l) : (a < n ∧ b < n) ∧ 1 ≤ l ∧ l ≤ L := by
  rcases he with he | he
  · exact h _ he
  · have := h _ he
    exact ⟨⟨this.1.2, this.1.1⟩, this.2⟩
theorem W_get {W : List (Option (Nat × Nat × Int))} {i : Nat} {t : Nat × Nat × Int} (h : (W[i]?).getD none = some t) : some t ∈ W := by
  cases e : W[i]? with
  | none => rw [e] at h; cases h
  | some o =>
    rw [e] at h
    have h : o = some t := h
    rw [h] at e
    exact List.mem_of_getElem? e
/-- what single steps keep, a round keeps -/
theorem rlxE_ind {W : List (Option (Nat × Nat × Int))} {Φ : Lab → Prop} (hstep : ∀ a b l X, wEd W a b l → Φ X → Φ (rlx a b l X)) {i : Nat} {X : Lab} (h : Φ X) : Φ (rlxE ((W[i]?).getD none) X) := by
  cases e : (W[i]?).getD none with
  | none => exact h
  | some t =>
    have hm := W_get e
    exact hstep _ _ _ _ (Or.inr hm) (hstep _ _ _ _ (Or.inl hm) h)
theorem rlxK_ind {W : List (Option (Nat × Nat × Int))} {Φ : Lab → Prop} (hstep : ∀ a b l X, wEd W a b l → Φ X → Φ (rlx a b l X)) {X : Lab} (h : Φ X) : ∀ i, Φ (rlxK W X i)
  | 0 => h
  | i + 1 => rlxE_ind hstep (rlxK_ind hstep h i)
theorem rlxI_ind {W : List (Option (Nat × Nat × Int))} {Φ : Lab → Prop} (hstep : ∀ a b l X, wEd W a b l → Φ X → Φ (rlx a b l X)) {X : Lab} (h : Φ X) : ∀ m, Φ (rlxI W X m)
  | 0 => h
  | m + 1 => rlxK_ind hstep (rlxI_ind hstep h m) _
/-- what holds on the way -/
def wInv (W : List (Option (Nat × Nat × Int))) (n src : Nat) (X : Lab) : Prop := nrm X ∧ lbA X src = (0, 0) ∧ (∀ k, n ≤ k → lbA X k = (-1, 0)) ∧ ∀ b, b ≠ src → 0 ≤ X.1 b → ∃ a l, wEd W a b l ∧ 0 ≤ X.1 a ∧ (X.1 a + l < X.1 b ∨ (X.1 a + l = X.1 b ∧ X.2 a + 1 ≤ X.2 b))
theorem wInv_step {W : List (Option (Nat × Nat × Int))} {n src : Nat} {L : Int} (hW : wOK n L W) {a b : Nat} {l : Int} {X : Lab} (he : wEd W a b l) (h : wInv W n src X) : wInv W n src (rlx a b l X) := by
  obtain ⟨h1, h2, h3, h4⟩ := h
  have hok := wEd_ok hW he
  by_cases hc : rcn a b l X
  · obtain ⟨r1, r2⟩ := rlx_yes hc
    have s1 : X.1 src = 0 := congrArg Prod.fst h2
    have s2 : X.2 src = 0 := congrArg Prod.snd h2
    have hbs : src ≠ b := by
      rintro rfl
      unfold rcn at hc
      have := h1 a
      omega
    have hab : a ≠ b := by
      rintro rfl
      unfold rcn at hc
      omega
    refine ⟨(rlx_le h1 hok.2.1 0).2, (r1 src hbs).trans h2, fun k hk => (r1 k (by omega)).trans (h3 k hk), fun d hd h0 => ?_⟩
    have val : ∀ k, k ≠ b → (rlx a b l X).1 k = X.1 k ∧ (rlx a b l X).2 k = X.2 k := fun k hk => ⟨congrArg Prod.fst (r1 k hk), congrArg Prod.snd (r1 k hk)⟩
    have vb : (rlx a b l X).1 b = X.1 a + l ∧ (rlx a b l X).2 b = X.2 a + 1 := ⟨congrArg Prod.fst r2, congrArg Prod.snd r2⟩
    by_cases e : d = b
    · subst e
      refine ⟨a, l, he, ?_, ?_⟩
      · rw [(val a hab).1]
        exact hc.1
      · rw [(val a hab).1, (val a hab).2, vb.1, vb.2]
        omega
    · rw [(val d e).1] at h0
      obtain ⟨c, l2, c1, c2, c3⟩ := h4 d hd h0
      refine ⟨c, l2, c1, ?_⟩
      rw [(val d e).1, (val d e).2]
      by_cases ec : c = b
      · subst ec
        rw [vb.1, vb.2]
        unfold rcn at hc
        omega
      · rw [(val c ec).1, (val c ec).2]
        exact ⟨c2, c3⟩
  · rw [rlx_no hc]
    exact ⟨h1, h2, h3, h4⟩
theorem wInv_0 {W : List (Option (Nat × Nat × Int))} {n src : Nat} (hs : src < n) : wInv W n src (lab0 src) := by
  refine ⟨fun k => ?_, ?_, fun k hk => ?_, fun b hb h0 => ?_⟩
  · show ((if k = src then (0 : Int) else -1) = -1 ∧ (0 : Int) = 0) ∨ (0 ≤ (if k = src then (0 : Int) else -1) ∧ (0 : Int) ≤ 0)
    split <;> omega
  · show ((if src = src then (0 : Int) else -1), (0 : Int)) = (0, 0)
    rw [if_pos rfl]
  · show ((if k = src then (0 : Int) else -1), (0 : Int)) = (-1, 0)
    rw [if_neg (by omega)]
  · have h0 : 0 ≤ (if b = src then (0 : Int) else -1) := h0
    rw [if_neg hb] at h0
    omega
theorem rlxK_le {W : List (Option (Nat × Nat × Int))} {n : Nat} {L : Int} (hW : wOK n L W) {X : Lab} (hX : nrm X) (k : Nat) : ∀ i, (leL (lbA (rlxK W X i) k) (lbA X k) ∧ nrm (rlxK W X i)) ∧ leL (lbA (rlxK W X (i + 1)) k) (lbA (rlxK W X i) k) := by
  have nK : ∀ i, nrm (rlxK W X i) := rlxK_ind (Φ := nrm) (fun a b l Y he hY => (rlx_le hY (wEd_ok hW he).2.1 0).2) hX
  have one : ∀ i, leL (lbA (rlxK W X (i + 1)) k) (lbA (rlxK W X i) k) := by
    intro i
    show leL (lbA (rlxE ((W[i]?).getD none) (rlxK W X i)) k) _
    exact (rlxE_ind (W := W) (Φ := fun Y => leL (lbA Y k) (lbA (rlxK W X i) k) ∧ nrm Y) (fun a b l Y he hY => ⟨leL_tr (rlx_le hY.2 (wEd_ok hW he).2.1 k).1 hY.1, (rlx_le hY.2 (wEd_ok hW he).2.1 k).2⟩) ⟨leL_rfl (nK i) k, nK i⟩).1
  have all : ∀ i, leL (lbA (rlxK W X i) k) (lbA X k) := by
    intro i
    induction i with
    | zero => exact leL_rfl hX k
    | succ i ih => exact leL_tr (one i) ih
  exact fun i => ⟨⟨all i, nK i⟩, one i⟩
theorem rlxK_le2 {W : List (Option (Nat × Nat × Int))} {n : Nat} {L : Int} (hW : wOK n L W) {X : Lab} (hX : nrm X) (k : Nat) (i : Nat) : ∀ d, leL (lbA (rlxK W X (i + d)) k) (lbA (rlxK W X i) k)
  | 0 => leL_rfl (rlxK_le hW hX k i).1.2 k
  | d + 1 => leL_tr (rlxK_le hW hX k (i + d)).2 (rlxK_le2 hW hX k i d)
/-- after a round an edge has been used -/
theorem round_edge {W : List (Option (Nat × Nat × Int))} {n : Nat} {L : Int} (hW : wOK n L W) {X : Lab} (hX : nrm X) {a b : Nat} {l : Int} (he : wEd W a b l) : ∃ Y : Lab, nrm Y ∧ (leL (lbA Y a) (lbA X a) ∧ leL (lbA (rlxK W X W.length) a) (lbA Y a)) ∧ (0 ≤ Y.1 a → leL (lbA (rlxK W X W.length) b) (Y.1 a + l, Y.2 a + 1)) := by
  have key : ∀ (Y : Lab), nrm Y → 0 ≤ Y.1 a → leL (lbA (rlx a b l Y) b) (Y.1 a + l, Y.2 a + 1) := by
    intro Y hY h0
    have hl := (wEd_ok hW he).2.1
    by_cases hc : rcn a b l Y
    · rw [(rlx_yes hc).2]
      have := hY a
      unfold leL
      dsimp only
      omega
    · rw [rlx_no hc]
      have := hY a
      have := hY b
      unfold rcn at hc
      unfold leL lbA
      dsimp only
      omega
  have hl := (wEd_ok hW he).2.1
  rcases he with hm | hm
  · obtain ⟨i, hi⟩ := List.getElem?_of_mem hm
    have hlen := (List.getElem?_eq_some_iff.mp hi).1
    have hK := (rlxK_le hW hX a i).1
    have e : rlxK W X (i + 1) = rlx b a l (rlx a b l (rlxK W X i)) := by
      show rlxE ((W[i]?).getD none) (rlxK W X i) = _
      rw [hi]
      rfl
    have up : ∀ k, leL (lbA (rlxK W X W.length) k) (lbA (rlxK W X (i + 1)) k) := by
      intro k
      have := rlxK_le2 hW hX k (i + 1) (W.length - (i + 1))
      rw [show i + 1 + (W.length - (i + 1)) = W.length by omega] at this
      exact this
    have n1 := (rlx_le (a := a) (b := b) hK.2 hl a).2
    refine ⟨rlxK W X i, hK.2, ⟨hK.1, leL_tr (up a) (rlxK_le hW hX a i).2⟩, fun h0 => ?_⟩
    have h1 := key _ hK.2 h0
    have h2 := up b
    rw [e] at h2
    exact leL_tr h2 (leL_tr (rlx_le n1 hl b).1 h1)
  · obtain ⟨i, hi⟩ := List.getElem?_of_mem hm
    have hlen := (List.getElem?_eq_some_iff.mp hi).1
    have hK := (rlxK_le hW hX a i).1
    have e : rlxK W X (i + 1) = rlx a b l (rlx b a l (rlxK W X i)) := by
      show rlxE ((W[i]?).getD none) (rlxK W X i) = _
      rw [hi]
      rfl
    have up : ∀ k, leL (lbA (rlxK W X W.length) k) (lbA (rlxK W X (i + 1)) k) := by
      intro k
      have := rlxK_le2 hW hX k (i + 1) (W.length - (i + 1))
      rw [show i + 1 + (W.length - (i + 1)) = W.length by omega] at this
      exact this
    have n1 := rlx_le (a := b) (b := a) hK.2 hl a
    have n2 := rlx_le (a := a) (b := b) n1.2 hl a
    refine ⟨rlx b a l (rlxK W X i), n1.2, ⟨leL_tr n1.1 hK.1, ?_⟩, fun h0 => ?_⟩
    · have h2 := up a
      rw [e] at h2
      exact leL_tr h2 n2.1
    · have h1 := key _ n1.2 h0
      have h2 := up b
      rw [e] at h2
      exact leL_tr h2 h1
theorem const_nat {u : Nat → Int} (h0 : ∀ m, 0 ≤ u m) (hd : ∀ m, u (m + 1) ≤ u m) : ∃ M, ∀ m, M ≤ m → u m = u M := by
  have key : ∀ (z : Nat) (k : Nat), u k = (z : Int) → ∃ M, ∀ m, M ≤ m → u m = u M := by
    intro z
    induction z using Nat.strongRecOn with
    | ind z ih =>
      intro k hk
      have mono : ∀ d, u (k + d) ≤ u k := by
        intro d
        induction d with
        | zero => exact Int.le_refl _
        | succ d ihd => exact Int.le_trans (hd (k + d)) ihd
      by_cases e : ∃ m, k ≤ m ∧ u m < u k
      · obtain ⟨m, m1, m2⟩ := e
        have := h0 m
        exact ih (u m).toNat (by omega) m (by omega)
      · refine ⟨k, fun m hm => ?_⟩
        have := mono (m - k)
        rw [show k + (m - k) = m by omega] at this
        by_cases y : u m < u k
        · exact absurd ⟨m, hm, y⟩ e
        · omega
  exact key (u 0).toNat 0 (by have := h0 0; omega)
