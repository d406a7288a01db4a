/-! ===== where the line of two terms ends ===== -/
theorem hsUp_of {s a b : Nat} : ∀ n, hsUp s a b n = true ↔ ∀ k, k < n → hsOK s a b k = true
  | 0 => ⟨fun _ k hk => absurd hk (Nat.not_lt_zero k), fun _ => rfl⟩
  | n + 1 => by
    unfold hsUp
    rw [Bool.and_eq_true, hsUp_of n]
    constructor
    · rintro ⟨h1, h2⟩ k hk
      by_cases e : k = n
      · subst e; first | exact h2 | exact h1
      · first | exact h1 k (by omega) | exact h2 k (by omega)
    · intro h
      first | exact ⟨fun k hk => h k (by omega), h n (by omega)⟩ | exact ⟨h n (by omega), fun k hk => h k (by omega)⟩
theorem hside_of {s a b : Nat} : hside s a b = true ↔ a ≠ b ∧ s.testBit a = true ∧ s.testBit b = true ∧ ∀ k, k < 21 → s.testBit k = true → 0 < turn a b k ∨ (turn a b k = 0 ∧ min a b ≤ k ∧ k ≤ max a b) := by
  unfold hside
  rw [Bool.and_eq_true, Bool.and_eq_true, Bool.and_eq_true, hsUp_of]
  simp only [Bool.not_eq_true', decide_eq_false_iff_not]
  constructor
  · rintro ⟨h1, h2, h3, h4⟩
    refine ⟨h1, h2, h3, fun k hk ht => ?_⟩
    have := h4 k hk
    unfold hsOK at this
    rw [ht] at this
    simpa using this
  · rintro ⟨h1, h2, h3, h4⟩
    refine ⟨h1, h2, h3, fun k hk => ?_⟩
    unfold hsOK
    cases ht : s.testBit k with
    | false => rfl
    | true =>
      have := h4 k hk ht
      simpa using this
theorem argmin {P : Nat → Prop} {g x : Nat → Int} (hx : ∀ k, P k → 0 < x k) : ∀ n, (∃ k, k < n ∧ P k) → ∃ k, k < n ∧ P k ∧ ∀ j, j < n → P j → g k * x j ≤ g j * x k
  | 0, ⟨k, hk, _⟩ => absurd hk (Nat.not_lt_zero k)
  | n + 1, h => by
    by_cases e : ∃ k, k < n ∧ P k
    · obtain ⟨m, m1, m2, m3⟩ := argmin (g := g) hx n e
      by_cases pn : P n
      · by_cases q : g m * x n ≤ g n * x m
        · refine ⟨m, by omega, m2, fun j hj pj => ?_⟩
          by_cases ej : j = n
          · subst ej; exact q
          · exact m3 j (by omega) pj
        · refine ⟨n, by omega, pn, fun j hj pj => ?_⟩
          by_cases ej : j = n
          · subst ej; exact Int.le_refl _
          · have h1 := m3 j (by omega) pj
            have xm := hx m m2
            have xn := hx n pn
            have xj := hx j pj
            refine Int.le_of_mul_le_mul_right ?_ xm
            have h2 : g n * x m ≤ g m * x n := by omega
            have h3 := Int.mul_le_mul_of_nonneg_right h2 (Int.le_of_lt xj)
            have h4 := Int.mul_le_mul_of_nonneg_right h1 (Int.le_of_lt xn)
            have e1 : g n * x j * x m = g n * x m * x j := by grind
            have e2 : g m * x n * x j = g m * x j * x n := by grind
            have e3 : g j * x m * x n = g j * x n * x m := by grind
            omega
      · refine ⟨m, by omega, m2, fun j hj pj => ?_⟩
        by_cases ej : j = n
        · subst ej; exact absurd pj pn
        · exact m3 j (by omega) pj
    · obtain ⟨k, k1, k2⟩ := h
      have ek : k = n := by
        by_cases z : k = n
        · exact z
        · exact absurd ⟨k, by omega, k2⟩ e
      subst ek
      refine ⟨k, by omega, k2, fun j hj pj => ?_⟩
      by_cases ej : j = k
      · subst ej; exact Int.le_refl _
      · exact absurd ⟨j, by omega, pj⟩ e
theorem vl_diff (f : Cv) (j p : Nat) (X Y X2 Y2 : Int) : (vl f j X2 Y2 - vl f p X2 Y2) - (vl f j X Y - vl f p X Y) = (pi j - pi p) * (X2 - X) + (pj j - pj p) * (Y2 - Y) := by
  unfold vl
  grind
theorem par_eq {e1 e2 a1 a2 b1 b2 x y : Int} (h : e1 * x + e2 * y = 0) : (a1 * x + a2 * y) * (e1 * b2 - e2 * b1) = (b1 * x + b2 * y) * (e1 * a2 - e2 * a1) := by
  have : (a1 * x + a2 * y) * (e1 * b2 - e2 * b1) - (b1 * x + b2 * y) * (e1 * a2 - e2 * a1) = (e1 * x + e2 * y) * (a1 * b2 - a2 * b1) := by grind
  rw [h, Int.zero_mul] at this
  omega
theorem side_up {f : Cv} {B X Y : Int} {p q : Nat} (hf : Cok B f) (hpq : p ≠ q) (hp : LdP f X Y p) (hq : LdP f X Y q) (hcol : ∀ j, LdP f X Y j → turn p q j = 0 ∧ min p q ≤ j ∧ j ≤ max p q) (hex : ∃ k, hasF f k = true ∧ 0 < turn p q k) : ∃ X2 Y2, isCo f X2 Y2 ∧ hside (ledW f X2 Y2) p q = true := by
  have hlt : ∀ k, hasF f k = true → k < 21 := fun k hk => (hf k _ (hasF_cv hk)).1
  obtain ⟨k0, k01, k02⟩ := hex
  obtain ⟨k, k1, ⟨k2, k3⟩, k4⟩ := argmin (P := fun k => hasF f k = true ∧ 0 < turn p q k) (g := fun k => vl f k X Y - vl f p X Y) (x := fun k => turn p q k) (fun k h => h.2) 21 ⟨k0, hlt k0 k01, k01, k02⟩
  have h0 : turn p q k ≠ 0 := by omega
  have ht := turn_L hf hp.1 hq.1 k2
  have ce := cr_eq (f := f) ht h0
  generalize crX f p q k = X2 at *
  generalize crY f p q k = Y2 at *
  have hpq0 := LdP_eq hp hq
  have hD : (pi q - pi p) * (X2 - X) + (pj q - pj p) * (Y2 - Y) = 0 := by
    rw [← vl_diff f q p X Y X2 Y2]
    omega
  have hk := vl_diff f k p X Y X2 Y2
  have key : ∀ j, (vl f j X2 Y2 - vl f p X2 Y2) * turn p q k = (vl f j X Y - vl f p X Y) * turn p q k - (vl f k X Y - vl f p X Y) * turn p q j := by
    intro j
    have hj := vl_diff f j p X Y X2 Y2
    have hp2 := par_eq (a1 := pi j - pi p) (a2 := pj j - pj p) (b1 := pi k - pi p) (b2 := pj k - pj p) hD
    have e1 : turn p q k = (pi q - pi p) * (pj k - pj p) - (pj q - pj p) * (pi k - pi p) := rfl
    have e2 : turn p q j = (pi q - pi p) * (pj j - pj p) - (pj q - pj p) * (pi j - pi p) := rfl
    rw [← e1, ← e2, ← hj, ← hk] at hp2
    rw [← ce.2] at hp2
    generalize vl f j X2 Y2 = a at *
    generalize vl f p X2 Y2 = b at *
    generalize vl f j X Y = c at *
    generalize vl f p X Y = d at *
    generalize vl f k X Y = e at *
    generalize turn p q k = t at *
    generalize turn p q j = t2 at *
    clear hj hk hD ce k4
    grind
  have hge : ∀ j, hasF f j = true → vl f p X2 Y2 ≤ vl f j X2 Y2 := by
    intro j hj
    have kj := key j
    have gj := hp.2 j hj
    have gk := hp.2 k k2
    have hnn : (vl f k X Y - vl f p X Y) * turn p q j ≤ (vl f j X Y - vl f p X Y) * turn p q k := by
      by_cases z : 0 < turn p q j
      · exact k4 j (hlt j hj) ⟨hj, z⟩
      · have h1 : (vl f k X Y - vl f p X Y) * turn p q j ≤ 0 := i_np (by omega) (by omega)
        have h2 : 0 ≤ (vl f j X Y - vl f p X Y) * turn p q k := Int.mul_nonneg (by omega) (by omega)
        omega
    have h3 : 0 * turn p q k ≤ (vl f j X2 Y2 - vl f p X2 Y2) * turn p q k := by
      rw [kj, Int.zero_mul]; omega
    have := Int.le_of_mul_le_mul_right h3 k3
    omega
  have lp : LdP f X2 Y2 p := ⟨hp.1, hge⟩
  have lq : LdP f X2 Y2 q := ⟨hq.1, fun j hj => by rw [← ce.1]; exact hge j hj⟩
  have lk : LdP f X2 Y2 k := ⟨k2, fun j hj => by rw [← ce.2]; exact hge j hj⟩
  refine ⟨X2, Y2, ⟨p, q, k, h0, lp, lq, lk⟩, hside_of.mpr ⟨hpq, (led_iff hf).mpr lp, (led_iff hf).mpr lq, fun j hj21 hj => ?_⟩⟩
  have lj := (led_iff hf).mp hj
  have kj := key j
  rw [LdP_eq lj lp, Int.sub_self, Int.zero_mul] at kj
  have gj := hp.2 j lj.1
  have gk := hp.2 k k2
  have gk2 : vl f k X Y ≠ vl f p X Y := by
    intro z
    have : LdP f X Y k := ⟨k2, fun i hi => by rw [z]; exact hp.2 i hi⟩
    exact h0 (hcol k this).1
  rcases Int.lt_trichotomy (turn p q j) 0 with z | z | z
  · exfalso
    have h1 : 0 ≤ (vl f j X Y - vl f p X Y) * turn p q k := Int.mul_nonneg (by omega) (by omega)
    have h2 : (vl f k X Y - vl f p X Y) * turn p q j < 0 := i_pn (by omega) z
    omega
  · rw [z, Int.mul_zero, Int.sub_zero] at kj
    have h1 := (Int.mul_eq_zero.mp kj.symm).resolve_right h0
    have : LdP f X Y j := ⟨lj.1, fun i hi => by
      have := hp.2 i hi
      omega⟩
    exact Or.inr ⟨z, (hcol j this).2⟩
  · exact Or.inl z
theorem turn_rev (p q k : Nat) : turn q p k = -turn p q k := by unfold turn; grind
/-- a side of what leads somewhere is a side of a vertex, or all terms are on its line -/
theorem side_corner {f : Cv} {B X Y : Int} {p q : Nat} (hf : Cok B f) (h : hside (ledW f X Y) p q = true) : (∃ X2 Y2, isCo f X2 Y2 ∧ (hside (ledW f X2 Y2) p q = true ∨ hside (ledW f X2 Y2) q p = true)) ∨ ((∀ k, hasF f k = true → turn p q k = 0) ∧ ¬ isCo f X Y) := by
  by_cases hc : isCo f X Y
  · exact Or.inl ⟨X, Y, hc, Or.inl h⟩
  obtain ⟨h1, h2, h3, h4⟩ := hside_of.mp h
  have lp := (led_iff hf).mp h2
  have lq := (led_iff hf).mp h3
  have hcol : ∀ j, LdP f X Y j → turn p q j = 0 ∧ min p q ≤ j ∧ j ≤ max p q := by
    intro j hj
    have hj21 := (hf j _ (hasF_cv hj.1)).1
    have hz : turn p q j = 0 := by
      by_cases z : turn p q j = 0
      · exact z
      · exact absurd ⟨p, q, j, z, lp, lq, hj⟩ hc
    rcases h4 j hj21 ((led_iff hf).mpr hj) with y | y
    · omega
    · exact y
  by_cases hup : ∃ k, hasF f k = true ∧ 0 < turn p q k
  · obtain ⟨X2, Y2, a, b⟩ := side_up hf h1 lp lq hcol hup
    exact Or.inl ⟨X2, Y2, a, Or.inl b⟩
  by_cases hdn : ∃ k, hasF f k = true ∧ 0 < turn q p k
  · obtain ⟨X2, Y2, a, b⟩ := side_up hf (Ne.symm h1) lq lp (fun j hj => by
      have := hcol j hj
      have e := turn_rev p q j
      omega) hdn
    exact Or.inl ⟨X2, Y2, a, Or.inr b⟩
  · refine Or.inr ⟨fun k hk => ?_, hc⟩
    have e := turn_rev p q k
    rcases Int.lt_trichotomy (turn p q k) 0 with z | z | z
    · exact absurd ⟨k, hk, by omega⟩ hdn
    · exact z
    · exact absurd ⟨k, hk, z⟩ hup
