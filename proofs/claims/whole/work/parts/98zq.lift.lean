/-! ===== how high a term may stand, both ways ===== -/
theorem hiD_iff {f : Cv} {k a b : Nat} {ca cb acc c : Int} : ∀ n, c ≤ hiD f k a b ca cb acc n ↔ c ≤ acc ∧ ∀ d, b < d → d < b + 1 + n → hasF f d = true → d ≠ k → c ≤ triF k a b d ca cb (cv f d)
  | 0 => ⟨fun h => ⟨h, fun d h1 h2 => by omega⟩, fun h => h.1⟩
  | n + 1 => by
    have ih := hiD_iff (f := f) (k := k) (a := a) (b := b) (ca := ca) (cb := cb) (acc := acc) (c := c) n
    unfold hiD
    cases e : f (b + 1 + n) with
    | none =>
      dsimp only
      rw [ih]
      refine ⟨fun ⟨h1, h2⟩ => ⟨h1, fun d d1 d2 d3 d4 => ?_⟩, fun ⟨h1, h2⟩ => ⟨h1, fun d d1 d2 => h2 d d1 (by omega)⟩⟩
      by_cases z : d = b + 1 + n
      · rw [z] at d3
        unfold hasF at d3
        rw [e] at d3
        cases d3
      · exact h2 d d1 (by omega) d3 d4
    | some ce =>
      obtain ⟨e1, e2⟩ := hasF_of e
      dsimp only
      by_cases y : b + 1 + n = k
      · rw [if_pos y, ih]
        refine ⟨fun ⟨h1, h2⟩ => ⟨h1, fun d d1 d2 d3 d4 => ?_⟩, fun ⟨h1, h2⟩ => ⟨h1, fun d d1 d2 => h2 d d1 (by omega)⟩⟩
        exact h2 d d1 (by omega) d3 d4
      · rw [if_neg y]
        have hmin : c ≤ min (hiD f k a b ca cb acc n) (triF k a b (b + 1 + n) ca cb ce) ↔ c ≤ hiD f k a b ca cb acc n ∧ c ≤ triF k a b (b + 1 + n) ca cb ce := by omega
        rw [hmin, ih]
        constructor
        · rintro ⟨⟨h1, h2⟩, h3⟩
          refine ⟨h1, fun d d1 d2 d3 d4 => ?_⟩
          by_cases z : d = b + 1 + n
          · rw [z, e2]; exact h3
          · exact h2 d d1 (by omega) d3 d4
        · rintro ⟨h1, h2⟩
          refine ⟨⟨h1, fun d d1 d2 => h2 d d1 (by omega)⟩, ?_⟩
          have := h2 (b + 1 + n) (by omega) (by omega) e1 y
          rw [e2] at this
          exact this
def cB (f : Cv) (k : Nat) (c : Int) (a b : Nat) : Prop := c ≤ segF k a b (cv f a) (cv f b) ∧ ∀ d, b < d → d < 21 → hasF f d = true → d ≠ k → c ≤ triF k a b d (cv f a) (cv f b) (cv f d)
theorem hiB_iff {f : Cv} {k a : Nat} {acc c : Int} : ∀ n, a + n ≤ 20 → (c ≤ hiB f k a (cv f a) acc n ↔ c ≤ acc ∧ ∀ b, a < b → b < a + 1 + n → hasF f b = true → b ≠ k → cB f k c a b)
  | 0, _ => ⟨fun h => ⟨h, fun d h1 h2 => by omega⟩, fun h => h.1⟩
  | n + 1, hn => by
    have ih := hiB_iff (f := f) (k := k) (a := a) (acc := acc) (c := c) n (by omega)
    unfold hiB
    cases e : f (a + 1 + n) with
    | none =>
      dsimp only
      rw [ih]
      refine ⟨fun ⟨h1, h2⟩ => ⟨h1, fun d d1 d2 d3 d4 => ?_⟩, fun ⟨h1, h2⟩ => ⟨h1, fun d d1 d2 => h2 d d1 (by omega)⟩⟩
      by_cases z : d = a + 1 + n
      · rw [z] at d3
        unfold hasF at d3
        rw [e] at d3
        cases d3
      · exact h2 d d1 (by omega) d3 d4
    | some cb =>
      obtain ⟨e1, e2⟩ := hasF_of e
      dsimp only
      by_cases y : a + 1 + n = k
      · rw [if_pos y, ih]
        refine ⟨fun ⟨h1, h2⟩ => ⟨h1, fun d d1 d2 d3 d4 => ?_⟩, fun ⟨h1, h2⟩ => ⟨h1, fun d d1 d2 => h2 d d1 (by omega)⟩⟩
        exact h2 d d1 (by omega) d3 d4
      · rw [if_neg y, hiD_iff]
        have hmin : c ≤ min (hiB f k a (cv f a) acc n) (segF k a (a + 1 + n) (cv f a) cb) ↔ c ≤ hiB f k a (cv f a) acc n ∧ c ≤ segF k a (a + 1 + n) (cv f a) cb := by omega
        rw [hmin, ih]
        have h21 : ∀ d, d < a + 1 + n + 1 + (20 - (a + 1 + n)) ↔ d < 21 := fun d => by omega
        constructor
        · rintro ⟨⟨⟨h1, h2⟩, h3⟩, h4⟩
          refine ⟨h1, fun b b1 b2 b3 b4 => ?_⟩
          by_cases z : b = a + 1 + n
          · subst z
            unfold cB
            rw [e2]
            exact ⟨h3, fun d d1 d2 => h4 d d1 ((h21 d).mpr d2)⟩
          · exact h2 b b1 (by omega) b3 b4
        · rintro ⟨h1, h2⟩
          have := h2 (a + 1 + n) (by omega) (by omega) e1 y
          unfold cB at this
          rw [e2] at this
          exact ⟨⟨⟨h1, fun b b1 b2 => h2 b b1 (by omega)⟩, this.1⟩, fun d d1 d2 => this.2 d d1 ((h21 d).mp d2)⟩
theorem hiA_iff {f : Cv} {k : Nat} {c : Int} : ∀ n, n ≤ 21 → (c ≤ hiA f k n ↔ c ≤ 999 ∧ ∀ a b, a < n → a < b → b < 21 → hasF f a = true → hasF f b = true → a ≠ k → b ≠ k → cB f k c a b)
  | 0, _ => ⟨fun h => ⟨h, fun a b h1 => absurd h1 (Nat.not_lt_zero a)⟩, fun h => h.1⟩
  | n + 1, hn => by
    have ih := hiA_iff (f := f) (k := k) (c := c) n (by omega)
    unfold hiA
    cases e : f n with
    | none =>
      dsimp only
      rw [ih]
      refine ⟨fun ⟨h1, h2⟩ => ⟨h1, fun a b a1 a2 a3 a4 a5 a6 a7 => ?_⟩, fun ⟨h1, h2⟩ => ⟨h1, fun a b a1 => h2 a b (by omega)⟩⟩
      by_cases z : a = n
      · rw [z] at a4
        unfold hasF at a4
        rw [e] at a4
        cases a4
      · exact h2 a b (by omega) a2 a3 a4 a5 a6 a7
    | some ca =>
      obtain ⟨e1, e2⟩ := hasF_of e
      dsimp only
      by_cases y : n = k
      · rw [if_pos y, ih]
        refine ⟨fun ⟨h1, h2⟩ => ⟨h1, fun a b a1 a2 a3 a4 a5 a6 a7 => ?_⟩, fun ⟨h1, h2⟩ => ⟨h1, fun a b a1 => h2 a b (by omega)⟩⟩
        exact h2 a b (by omega) a2 a3 a4 a5 a6 a7
      · rw [if_neg y, ← e2, hiB_iff _ (by omega), ih]
        constructor
        · rintro ⟨⟨h1, h2⟩, h3⟩
          refine ⟨h1, fun a b a1 a2 a3 a4 a5 a6 a7 => ?_⟩
          by_cases z : a = n
          · subst z
            exact h3 b a2 (by omega) a5 a7
          · exact h2 a b (by omega) a2 a3 a4 a5 a6 a7
        · rintro ⟨h1, h2⟩
          exact ⟨⟨h1, fun a b a1 => h2 a b (by omega)⟩, fun b b1 b2 b3 b4 => h2 n b (by omega) b1 (by omega) e1 b3 y b4⟩
def segB (k a b : Nat) : Bool := decide ((a < k ∧ k < b ∧ turn a b k = 0) ↔ (turn k a b = 0 ∧ dotP k a b < 0)) && (!decide (turn k a b = 0 ∧ dotP k a b < 0) || (decide (((b : Int) - (k : Int)) * (lnG k a : Int) = ((k : Int) - (a : Int)) * (lnG k b : Int)) && (decide ((720720 : Int).tdiv ((lnG k a : Int) + (lnG k b : Int)) * ((lnG k a : Int) + (lnG k b : Int)) = 720720) && decide (0 < (lnG k a : Int) + (lnG k b : Int)))))
theorem segL : (placesL.all fun k => placesL.all fun a => placesL.all fun b => (!decide (a < b) || (decide (a = k) || decide (b = k))) || segB k a b) = true := by decide +kernel
theorem seg_of {k a b : Nat} (hk : k ∈ placesL) (ha : a ∈ placesL) (hb : b ∈ placesL) (ab : a < b) (ak : a ≠ k) (bk : b ≠ k) : ((a < k ∧ k < b ∧ turn a b k = 0) ↔ sgC k a b) ∧ (sgC k a b → ((b : Int) - (k : Int)) * (lnG k a : Int) = ((k : Int) - (a : Int)) * (lnG k b : Int) ∧ (720720 : Int).tdiv ((lnG k a : Int) + (lnG k b : Int)) * ((lnG k a : Int) + (lnG k b : Int)) = 720720 ∧ 0 < (lnG k a : Int) + (lnG k b : Int)) := by
  have h := List.all_eq_true.mp (List.all_eq_true.mp (List.all_eq_true.mp segL k hk) a ha) b hb
  rw [decide_eq_true ab, decide_eq_false ak, decide_eq_false bk, Bool.not_true, Bool.or_false, Bool.or_false, Bool.false_or] at h
  unfold segB at h
  rw [Bool.and_eq_true, decide_eq_true_eq] at h
  refine ⟨h.1, fun z => ?_⟩
  have h2 := h.2
  rw [decide_eq_true (show turn k a b = 0 ∧ dotP k a b < 0 from z), Bool.not_true, Bool.false_or, Bool.and_eq_true, Bool.and_eq_true, decide_eq_true_eq, decide_eq_true_eq, decide_eq_true_eq] at h2
  exact h2
theorem lt_scale {x y w : Int} (hw : 0 < w) : w * x < w * y ↔ x < y := by
  constructor
  · intro h
    rcases Int.lt_or_le x y with z | z
    · exact z
    · have := Int.mul_le_mul_of_nonneg_left z (Int.le_of_lt hw)
      omega
  · exact fun h => Int.mul_lt_mul_of_pos_left h hw
theorem le_div {c x y : Int} (hy : 0 < y) : c ≤ (x - 1) / y ↔ c * y < x := by
  rw [Int.le_ediv_iff_mul_le hy]
  omega
theorem seg_eq {f : Cv} {k a b : Nat} {c : Int} (hk : k ∈ placesL) (ha : a ∈ placesL) (hb : b ∈ placesL) (ab : a < b) (ak : a ≠ k) (bk : b ≠ k) (hc : c ≤ 999) : c ≤ segF k a b (cv f a) (cv f b) ↔ (sgC k a b → c * 720720 < sgV f k a b) := by
  obtain ⟨h1, h2⟩ := seg_of hk ha hb ab ak bk
  unfold segF
  by_cases z : sgC k a b
  · have q := h1.mpr z
    obtain ⟨g1, g2, g3⟩ := h2 z
    rw [if_pos (by first | exact q | exact ⟨q.1, q.2.1, q.2.2⟩)]
    rw [le_div (by omega)]
    have hiff : c * ((b : Int) - (a : Int)) < cv f a * ((b : Int) - (k : Int)) + cv f b * ((k : Int) - (a : Int)) ↔ c * 720720 < sgV f k a b := by
      unfold sgV
      generalize (lnG k a : Int) = u at *
      generalize (lnG k b : Int) = v at *
      have hw : 0 < (720720 : Int).tdiv (u + v) := by
        rcases Int.lt_or_le 0 ((720720 : Int).tdiv (u + v)) with y | y
        · exact y
        · have := i_pn0 y (Int.le_of_lt g3)
          omega
      generalize (720720 : Int).tdiv (u + v) = w at *
      have hba : 0 < (b : Int) - (a : Int) := by omega
      have hxy : (b : Int) - (a : Int) = ((b : Int) - (k : Int)) + ((k : Int) - (a : Int)) := by omega
      generalize (b : Int) - (k : Int) = x at *
      generalize (k : Int) - (a : Int) = y at *
      rw [hxy] at hba ⊢
      rw [← lt_scale (w := u + v) g3]
      have e1 : (u + v) * (c * (x + y)) = (x + y) * (c * (u + v)) := by grind
      have e2 : (u + v) * (cv f a * x + cv f b * y) = (x + y) * (cv f a * v + cv f b * u) := by grind
      rw [e1, e2, lt_scale hba, ← lt_scale hw]
      have e3 : w * (c * (u + v)) = c * (w * (u + v)) := by grind
      rw [e3, g2]
    rw [hiff]
    exact ⟨fun y _ => y, fun y => y z⟩
  · rw [if_neg (fun w => z (h1.mp w))]
    exact ⟨fun _ w => absurd w z, fun _ => hc⟩
theorem tr_all (a b d k : Nat) : trA k a b d = turn a b d ∧ turn a k d = turn k d a ∧ turn a b k = turn k a b := by
  unfold trA turn
  refine ⟨by grind, by grind, by grind⟩
def triB (k p q r : Nat) : Bool := !(decide (trA k p q r ≠ 0 ∧ ((0 ≤ turn k q r ∧ 0 ≤ turn k r p ∧ 0 ≤ turn k p q) ∨ (turn k q r ≤ 0 ∧ turn k r p ≤ 0 ∧ turn k p q ≤ 0)))) || ((!decide (turn k p q = 0) || (decide (turn k p q = 0 ∧ dotP k p q < 0) && (decide ((720720 : Int).tdiv (trA k p q r) * turn k q r = (720720 : Int).tdiv ((lnG k p : Int) + (lnG k q : Int)) * (lnG k q : Int)) && decide ((720720 : Int).tdiv (trA k p q r) * turn k r p = (720720 : Int).tdiv ((lnG k p : Int) + (lnG k q : Int)) * (lnG k p : Int))))) && ((!decide (turn k q r = 0) || (decide (turn k q r = 0 ∧ dotP k q r < 0) && (decide ((720720 : Int).tdiv (trA k p q r) * turn k r p = (720720 : Int).tdiv ((lnG k q : Int) + (lnG k r : Int)) * (lnG k r : Int)) && decide ((720720 : Int).tdiv (trA k p q r) * turn k p q = (720720 : Int).tdiv ((lnG k q : Int) + (lnG k r : Int)) * (lnG k q : Int))))) && (!decide (turn k r p = 0) || (decide (turn k p r = 0 ∧ dotP k p r < 0) && (decide ((720720 : Int).tdiv (trA k p q r) * turn k q r = (720720 : Int).tdiv ((lnG k p : Int) + (lnG k r : Int)) * (lnG k r : Int)) && decide ((720720 : Int).tdiv (trA k p q r) * turn k p q = (720720 : Int).tdiv ((lnG k p : Int) + (lnG k r : Int)) * (lnG k p : Int)))))))
theorem triL : (placesL.all fun k => placesL.all fun p => decide (p = k) || placesL.all fun q => (!decide (p < q) || decide (q = k)) || placesL.all fun r => (!decide (q < r) || decide (r = k)) || triB k p q r) = true := by decide +kernel
theorem tri_of {k p q r : Nat} (hk : k ∈ placesL) (hp : p ∈ placesL) (hq : q ∈ placesL) (hr : r ∈ placesL) (pq : p < q) (qr : q < r) (pk : p ≠ k) (qk : q ≠ k) (rk : r ≠ k) (h : trC k p q r) : (turn k p q = 0 → sgC k p q ∧ (720720 : Int).tdiv (trA k p q r) * turn k q r = (720720 : Int).tdiv ((lnG k p : Int) + (lnG k q : Int)) * (lnG k q : Int) ∧ (720720 : Int).tdiv (trA k p q r) * turn k r p = (720720 : Int).tdiv ((lnG k p : Int) + (lnG k q : Int)) * (lnG k p : Int)) ∧ (turn k q r = 0 → sgC k q r ∧ (720720 : Int).tdiv (trA k p q r) * turn k r p = (720720 : Int).tdiv ((lnG k q : Int) + (lnG k r : Int)) * (lnG k r : Int) ∧ (720720 : Int).tdiv (trA k p q r) * turn k p q = (720720 : Int).tdiv ((lnG k q : Int) + (lnG k r : Int)) * (lnG k q : Int)) ∧ (turn k r p = 0 → sgC k p r ∧ (720720 : Int).tdiv (trA k p q r) * turn k q r = (720720 : Int).tdiv ((lnG k p : Int) + (lnG k r : Int)) * (lnG k r : Int) ∧ (720720 : Int).tdiv (trA k p q r) * turn k p q = (720720 : Int).tdiv ((lnG k p : Int) + (lnG k r : Int)) * (lnG k p : Int)) := by
  have h1 := List.all_eq_true.mp (List.all_eq_true.mp triL k hk) p hp
  rw [decide_eq_false pk, Bool.false_or] at h1
  have h2 := List.all_eq_true.mp h1 q hq
  rw [decide_eq_true pq, decide_eq_false qk, Bool.not_true, Bool.or_false, Bool.false_or] at h2
  have h3 := List.all_eq_true.mp h2 r hr
  rw [decide_eq_true qr, decide_eq_false rk, Bool.not_true, Bool.or_false, Bool.false_or] at h3
  unfold triB at h3
  rw [decide_eq_true (show trA k p q r ≠ 0 ∧ ((0 ≤ turn k q r ∧ 0 ≤ turn k r p ∧ 0 ≤ turn k p q) ∨ (turn k q r ≤ 0 ∧ turn k r p ≤ 0 ∧ turn k p q ≤ 0)) from h), Bool.not_true, Bool.false_or, Bool.and_eq_true, Bool.and_eq_true] at h3
  obtain ⟨a, b, c⟩ := h3
  refine ⟨fun z => ?_, fun z => ?_, fun z => ?_⟩
  · rw [decide_eq_true z, Bool.not_true, Bool.false_or, Bool.and_eq_true, Bool.and_eq_true, decide_eq_true_eq, decide_eq_true_eq, decide_eq_true_eq] at a
    exact a
  · rw [decide_eq_true z, Bool.not_true, Bool.false_or, Bool.and_eq_true, Bool.and_eq_true, decide_eq_true_eq, decide_eq_true_eq, decide_eq_true_eq] at b
    exact b
  · rw [decide_eq_true z, Bool.not_true, Bool.false_or, Bool.and_eq_true, Bool.and_eq_true, decide_eq_true_eq, decide_eq_true_eq, decide_eq_true_eq] at c
    exact c
/-- a triangle with the place on its edge adds nothing to that edge -/
theorem trV_edge {f : Cv} {k p q r : Nat} (h : trC k p q r) (hp : k ∈ placesL ∧ p ∈ placesL ∧ q ∈ placesL ∧ r ∈ placesL) (pq : p < q) (qr : q < r) (pk : p ≠ k) (qk : q ≠ k) (rk : r ≠ k) (h0 : turn k p q = 0 ∨ turn k q r = 0 ∨ turn k r p = 0) : (sgC k p q ∧ trV f k p q r = sgV f k p q) ∨ (sgC k q r ∧ trV f k p q r = sgV f k q r) ∨ (sgC k p r ∧ trV f k p q r = sgV f k p r) := by
  obtain ⟨a, b, c⟩ := tri_of hp.1 hp.2.1 hp.2.2.1 hp.2.2.2 pq qr pk qk rk h
  have hv : trV f k p q r = cv f p * ((720720 : Int).tdiv (trA k p q r) * turn k q r) + cv f q * ((720720 : Int).tdiv (trA k p q r) * turn k r p) + cv f r * ((720720 : Int).tdiv (trA k p q r) * turn k p q) := by
    unfold trV
    grind
  rcases h0 with z | z | z
  · obtain ⟨s, e1, e2⟩ := a z
    refine Or.inl ⟨s, ?_⟩
    rw [hv, e1, e2, z]
    unfold sgV
    grind
  · obtain ⟨s, e1, e2⟩ := b z
    refine Or.inr (Or.inl ⟨s, ?_⟩)
    rw [hv, e1, e2, z]
    unfold sgV
    grind
  · obtain ⟨s, e1, e2⟩ := c z
    refine Or.inr (Or.inr ⟨s, ?_⟩)
    rw [hv, e1, e2, z]
    unfold sgV
    grind
/-- with the place inside both sides say the same -/
theorem tri_eq {f : Cv} {k a b d : Nat} {c : Int} (hp : k ∈ placesL ∧ a ∈ placesL ∧ b ∈ placesL ∧ d ∈ placesL) (hc : c ≤ 999) : c ≤ triF k a b d (cv f a) (cv f b) (cv f d) ↔ (trC k a b d → turn k a b ≠ 0 → turn k b d ≠ 0 → turn k d a ≠ 0 → c * 720720 < trV f k a b d) := by
  obtain ⟨t1, t2, t3⟩ := tr_all a b d k
  have hT := turn_16L a hp.2.1 b hp.2.2.1 d hp.2.2.2
  have htv : trV f k a b d = (720720 : Int).tdiv (trA k a b d) * (cv f a * turn k b d + cv f b * turn k d a + cv f d * turn k a b) := rfl
  have hte : trC k a b d ↔ trA k a b d ≠ 0 ∧ ((0 ≤ turn k b d ∧ 0 ≤ turn k d a ∧ 0 ≤ turn k a b) ∨ (turn k b d ≤ 0 ∧ turn k d a ≤ 0 ∧ turn k a b ≤ 0)) := Iff.rfl
  have hsum : trA k a b d = turn k b d + turn k d a + turn k a b := rfl
  unfold triF
  dsimp only
  rw [t2, t3, hte, htv, t1]
  rw [t1] at hsum
  clear hte htv t1 t2 t3
  generalize turn a b d = T at *
  generalize turn k b d = x at *
  generalize turn k d a = y at *
  generalize turn k a b = z at *
  generalize cv f a = ca at *
  generalize cv f b = cb at *
  generalize cv f d = cd at *
  by_cases h0 : T = 0
  · rw [if_pos (Or.inl h0)]
    exact ⟨fun _ w => absurd h0 w.1, fun _ => hc⟩
  have hw := turnW hT h0
  generalize (720720 : Int).tdiv T = w at *
  by_cases hn : T < 0
  · rw [if_pos hn]
    have hwn : w < 0 := by
      rcases Int.lt_or_le w 0 with v | v
      · exact v
      · have := i_np v (Int.le_of_lt hn)
        omega
    by_cases hin : x < 0 ∧ y < 0 ∧ z < 0
    · rw [if_neg (by omega), le_div (by omega)]
      have e : c * (-1 * T) < ca * (-1 * x) + cb * (-1 * y) + cd * (-1 * z) ↔ c * 720720 < w * (ca * x + cb * y + cd * z) := by
        rw [← lt_scale (w := -w) (by omega)]
        have e1 : -w * (c * (-1 * T)) = c * (w * T) := by grind
        have e2 : -w * (ca * (-1 * x) + cb * (-1 * y) + cd * (-1 * z)) = w * (ca * x + cb * y + cd * z) := by grind
        rw [e1, e2, hw]
      rw [e]
      exact ⟨fun v _ _ _ _ => v, fun v => v ⟨h0, Or.inr ⟨by omega, by omega, by omega⟩⟩ (by omega) (by omega) (by omega)⟩
    · rw [if_pos (by omega)]
      exact ⟨fun _ v n1 n2 n3 => by omega, fun _ => hc⟩
  · rw [if_neg hn]
    have hwp : 0 < w := by
      rcases Int.lt_or_le 0 w with v | v
      · exact v
      · have := i_pn0 v (show 0 ≤ T by omega)
        omega
    by_cases hin : 0 < x ∧ 0 < y ∧ 0 < z
    · rw [if_neg (by omega), le_div (by omega)]
      have e : c * (1 * T) < ca * (1 * x) + cb * (1 * y) + cd * (1 * z) ↔ c * 720720 < w * (ca * x + cb * y + cd * z) := by
        rw [← lt_scale (w := w) hwp]
        have e1 : w * (c * (1 * T)) = c * (w * T) := by grind
        have e2 : w * (ca * (1 * x) + cb * (1 * y) + cd * (1 * z)) = w * (ca * x + cb * y + cd * z) := by grind
        rw [e1, e2, hw]
      rw [e]
      exact ⟨fun v _ _ _ _ => v, fun v => v ⟨h0, Or.inl ⟨by omega, by omega, by omega⟩⟩ (by omega) (by omega) (by omega)⟩
    · rw [if_pos (by omega)]
      exact ⟨fun _ v n1 n2 n3 => by omega, fun _ => hc⟩
def lfB (f : Cv) (k : Nat) (c : Int) (p q : Nat) : Prop := (sgC k p q → c * 720720 < sgV f k p q) ∧ ∀ r, q < r → r < 25 → hasF f r = true → r ≠ k → trC k p q r → c * 720720 < trV f k p q r
theorem lfq {f : Cv} {k : Nat} (hf : Cok 999 f) (hk : k ∈ placesL) (c : Int) : c ≤ hiA f k 21 ↔ c ≤ 999 ∧ ∀ p q, p < q → q < 25 → hasF f p = true → hasF f q = true → p ≠ k → q ≠ k → lfB f k c p q := by
  have hlt : ∀ k, hasF f k = true → k < 21 := fun k hk => (hf k _ (hasF_cv hk)).1
  rw [hiA_iff 21 (Nat.le_refl _)]
  constructor
  · rintro ⟨h1, h2⟩
    have hseg : ∀ p q, p < q → hasF f p = true → hasF f q = true → p ≠ k → q ≠ k → sgC k p q → c * 720720 < sgV f k p q := by
      intro p q pq hp hq pk qk
      have := (h2 p q (hlt p hp) pq (hlt q hq) hp hq pk qk).1
      exact (seg_eq hk (hasF_pl hf hp) (hasF_pl hf hq) pq pk qk h1).mp this
    refine ⟨h1, fun p q pq q25 hp hq pk qk => ⟨hseg p q pq hp hq pk qk, fun r qr r25 hr rk ht => ?_⟩⟩
    have hpl := And.intro hk (And.intro (hasF_pl hf hp) (And.intro (hasF_pl hf hq) (hasF_pl hf hr)))
    by_cases h0 : turn k p q = 0 ∨ turn k q r = 0 ∨ turn k r p = 0
    · rcases trV_edge (f := f) ht hpl pq qr pk qk rk h0 with ⟨s, e⟩ | ⟨s, e⟩ | ⟨s, e⟩
      · rw [e]; exact hseg p q pq hp hq pk qk s
      · rw [e]; exact hseg q r qr hq hr qk rk s
      · rw [e]; exact hseg p r (by omega) hp hr pk rk s
    · have := (h2 p q (hlt p hp) pq (hlt q hq) hp hq pk qk).2 r qr (hlt r hr) hr rk
      exact (tri_eq hpl h1).mp this ht (fun z => h0 (Or.inl z)) (fun z => h0 (Or.inr (Or.inl z))) (fun z => h0 (Or.inr (Or.inr z)))
  · rintro ⟨h1, h2⟩
    refine ⟨h1, fun a b a21 ab b21 ha hb ak bk => ⟨?_, fun d bd d21 hd dk => ?_⟩⟩
    · exact (seg_eq hk (hasF_pl hf ha) (hasF_pl hf hb) ab ak bk h1).mpr (h2 a b ab (by omega) ha hb ak bk).1
    · have hpl := And.intro hk (And.intro (hasF_pl hf ha) (And.intro (hasF_pl hf hb) (hasF_pl hf hd)))
      exact (tri_eq hpl h1).mpr (fun ht _ _ _ => (h2 a b ab (by omega) ha hb ak bk).2 d bd (by omega) hd dk ht)
