/-! ===== lists of points as figures ===== -/
theorem ptQ_get {Q : List (Int × Int)} {k : Nat} (hk : k < Q.length) : ptQ Q k = Q[k] := by
  unfold ptQ
  rw [List.getElem?_eq_getElem hk]
  rfl
theorem ptQ_mem {Q : List (Int × Int)} {k : Nat} (hk : k < Q.length) : ptQ Q k ∈ Q := by
  rw [ptQ_get hk]
  exact List.getElem_mem hk
theorem ptQ_of {Q : List (Int × Int)} {x : Int × Int} (h : x ∈ Q) : ∃ k, k < Q.length ∧ ptQ Q k = x := by
  obtain ⟨k, hk, e⟩ := List.mem_iff_getElem.mp h
  exact ⟨k, hk, (ptQ_get hk).trans e⟩
theorem ptQ_inj {Q : List (Int × Int)} (hn : Q.Nodup) {a b : Nat} (ha : a < Q.length) (hb : b < Q.length) (h : ptQ Q a = ptQ Q b) : a = b := by
  rw [ptQ_get ha, ptQ_get hb] at h
  have hp := List.pairwise_iff_getElem.mp hn
  rcases Nat.lt_trichotomy a b with z | z | z
  · exact absurd h (hp a b ha hb z)
  · exact z
  · exact absurd h.symm (hp b a hb ha z)
theorem figL {Q : List (Int × Int)} {h : Nat → Int} (hn : Q.Nodup) (ub : ∀ i, ∀ x ∈ Q, nd i x ≤ h i) (cm : ∀ i, i < 37 → ∃ x ∈ Q, nd i x = h i ∧ nd (i + 1) x = h (i + 1)) (dir : ∀ x ∈ Q, ∀ y ∈ Q, x ≠ y → (∀ z ∈ Q, 0 ≤ cr3 x y z) → ∃ i m, i < 36 ∧ drP x y i m) : Fig Q.length (fun _ => true) (ptQ Q) h := by
  refine ⟨fun a b ha hb _ _ e => ptQ_inj hn ha hb e, fun i _ a ha _ => ub i _ (ptQ_mem ha), fun i hi => ?_, fun a b s => ?_⟩
  · obtain ⟨x, x1, x2, x3⟩ := cm i hi
    obtain ⟨k, k1, k2⟩ := ptQ_of x1
    exact ⟨k, k1, rfl, by rw [k2]; exact x2, by rw [k2]; exact x3⟩
  · obtain ⟨h1, ⟨ha, -⟩, ⟨hb, -⟩, h4⟩ := s
    refine dir _ (ptQ_mem ha) _ (ptQ_mem hb) h1 fun z hz => ?_
    obtain ⟨k, k1, k2⟩ := ptQ_of hz
    rw [← k2]
    rcases h4 k k1 rfl with y | y <;> omega
theorem okB (c d : Int) : (decide (0 ≤ c) && !(decide (c = 0) && decide (0 < d))) = true ↔ (0 < c ∨ (c = 0 ∧ d ≤ 0)) := by
  rw [Bool.and_eq_true, decide_eq_true_eq, Bool.not_eq_true', ← Bool.not_eq_true, Bool.and_eq_true, decide_eq_true_eq, decide_eq_true_eq]
  omega
theorem okQ_iff {Q : List (Int × Int)} {a b : Nat} : ∀ n, okQ Q a b n = true ↔ a ≠ b ∧ ∀ k, k < n → 0 < cr3 (ptQ Q a) (ptQ Q b) (ptQ Q k) ∨ (cr3 (ptQ Q a) (ptQ Q b) (ptQ Q k) = 0 ∧ dt3 (ptQ Q a) (ptQ Q b) (ptQ Q k) ≤ 0)
  | 0 => by
    unfold okQ
    rw [Bool.not_eq_true', decide_eq_false_iff_not]
    exact ⟨fun h => ⟨h, fun k hk => absurd hk (Nat.not_lt_zero k)⟩, fun h => h.1⟩
  | n + 1 => by
    have ih := okQ_iff (Q := Q) (a := a) (b := b) n
    have e0 : okQ Q a b (n + 1) = (okQ Q a b n && (decide (0 ≤ cr3 (ptQ Q a) (ptQ Q b) (ptQ Q n)) && !(decide (cr3 (ptQ Q a) (ptQ Q b) (ptQ Q n) = 0) && decide (0 < dt3 (ptQ Q a) (ptQ Q b) (ptQ Q n))))) := rfl
    rw [e0, Bool.and_eq_true, ih, okB]
    constructor
    · rintro ⟨⟨h1, h2⟩, h3⟩
      refine ⟨h1, fun k hk => ?_⟩
      by_cases e : k = n
      · subst e; exact h3
      · exact h2 k (by omega)
    · rintro ⟨h1, h2⟩
      exact ⟨⟨h1, fun k hk => h2 k (by omega)⟩, h2 n (by omega)⟩
theorem abQ_iff {Q : List (Int × Int)} {a b : Nat} : ∀ n, abQ Q a b n = true ↔ ∃ k, k < n ∧ 0 < cr3 (ptQ Q a) (ptQ Q b) (ptQ Q k)
  | 0 => ⟨fun h => absurd h (by unfold abQ; decide), fun ⟨k, hk, _⟩ => absurd hk (Nat.not_lt_zero k)⟩
  | n + 1 => by
    have ih := abQ_iff (Q := Q) (a := a) (b := b) n
    have e1 : crQ Q a b n = cr3 (ptQ Q a) (ptQ Q b) (ptQ Q n) := rfl
    unfold abQ
    rw [Bool.or_eq_true, ih, e1, decide_eq_true_eq]
    constructor
    · rintro (⟨k, k1, k2⟩ | h)
      · exact ⟨k, by omega, k2⟩
      · exact ⟨n, by omega, h⟩
    · rintro ⟨k, k1, k2⟩
      by_cases e : k = n
      · subst e; exact Or.inr k2
      · exact Or.inl ⟨k, by omega, k2⟩
theorem okQ_G {Q : List (Int × Int)} (hn : Q.Nodup) {a b : Nat} (ha : a < Q.length) (hb : b < Q.length) : okQ Q a b Q.length = true ↔ SdG Q.length (fun _ => true) (ptQ Q) a b := by
  rw [okQ_iff]
  constructor
  · rintro ⟨h1, h2⟩
    exact ⟨fun e => h1 (ptQ_inj hn ha hb e), ⟨ha, rfl⟩, ⟨hb, rfl⟩, fun k hk _ => h2 k hk⟩
  · rintro ⟨h1, -, -, h4⟩
    exact ⟨fun e => h1 (by rw [e]), fun k hk => h4 k hk rfl⟩
theorem arJ_sm (Q : List (Int × Int)) (i : Nat) (s : Int) : ∀ n, arJ Q i s n = s + sm (fun j => arT Q i j) n
  | 0 => by rw [arJ, sm, Int.add_zero]
  | n + 1 => by rw [arJ, sm, arJ_sm Q i s n, Int.add_assoc]
theorem arI_sm (Q : List (Int × Int)) : ∀ n, arI Q n = sm (fun i => sm (fun j => arT Q i j) Q.length) n
  | 0 => rfl
  | n + 1 => by rw [arI, sm, arJ_sm, arI_sm Q n]
theorem Bf_sub (g h k : Nat → Int) : Bf g (fun i => h i - k i) = Bf g h - Bf g k := by
  unfold Bf
  rw [← sm_sub]
  refine sm_congr 36 fun j _ => ?_
  grind
theorem area_Bf {Q : List (Int × Int)} {h : Nat → Int} (hn : Q.Nodup) (F : Fig Q.length (fun _ => true) (ptQ Q) h) (h0 : h 36 = h 0) (h1 : h 37 = h 1) (hl : 0 < Q.length) : arQ Q = Bf h h := by
  have e : Bf h h = Bf h (fun i => h i - nd i (ptQ Q 0)) := by
    rw [Bf_sub, Bf_lin (ptQ Q 0) h0 h1]
    omega
  rw [e, ← fan_sum F (sd := fun a b => okQ Q a b Q.length) (fun a b ha hb => okQ_G hn ha hb) (W := fun a b => cr3 (ptQ Q a) (ptQ Q b) (ptQ Q 0)) (r := fun i => h i - nd i (ptQ Q 0)) (fun a b i m s hi hd => by
    show cr3 (ptQ Q a) (ptQ Q b) (ptQ Q 0) = m * (h (i + 1) - nd (i + 1) (ptQ Q 0))
    rw [nd_cr i hd, (sd_S1 F s hi hd).1.1])]
  unfold arQ
  rw [arI_sm]
  refine sm_congr _ fun a ha => sm_congr _ fun b hb => ?_
  unfold arT isdQ
  have hc : ((ptQ Q a).1 - (ptQ Q 0).1) * ((ptQ Q b).2 - (ptQ Q 0).2) - ((ptQ Q a).2 - (ptQ Q 0).2) * ((ptQ Q b).1 - (ptQ Q 0).1) = cr3 (ptQ Q a) (ptQ Q b) (ptQ Q 0) := by
    unfold cr3
    grind
  rw [hc]
  cases e1 : okQ Q a b Q.length with
  | false => rfl
  | true =>
    rw [Bool.true_and]
    cases e2 : abQ Q a b Q.length with
    | true => rfl
    | false =>
      have s := (okQ_iff _).mp e1
      have hz : ¬ 0 < cr3 (ptQ Q a) (ptQ Q b) (ptQ Q 0) := fun z => by
        rw [(abQ_iff _).mpr ⟨0, hl, z⟩] at e2
        cases e2
      have := s.2 0 hl
      rw [if_neg (by decide), if_pos rfl]
      omega
