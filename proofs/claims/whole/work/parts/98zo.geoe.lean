/-! ===== curves without vertices, and both sides' edges ===== -/
def linB (p q r : Nat) : Bool := decide (turn p q r ≠ 0) || (decide (pi r - pi p = tAt (luA p q) (lvA p q) p r * luA p q) && (decide (pj r - pj p = tAt (luA p q) (lvA p q) p r * lvA p q) && (decide (tAt (luA p q) (lvA p q) p q = (lnG p q : Int)) && (decide (pi q - pi p = (lnG p q : Int) * luA p q) && (decide (pj q - pj p = (lnG p q : Int) * lvA p q) && (decide ((0 ≤ tAt (luA p q) (lvA p q) p r ∧ tAt (luA p q) (lvA p q) p r ≤ tAt (luA p q) (lvA p q) p q) ↔ (p ≤ r ∧ r ≤ q)) && decide (1 ≤ lnG p q)))))))
theorem linL : (placesL.all fun p => placesL.all fun q => !decide (p < q) || placesL.all fun r => linB p q r) = true := by decide +kernel
theorem lin_of {p q r : Nat} (hp : p ∈ placesL) (hq : q ∈ placesL) (hr : r ∈ placesL) (h : p < q) (h0 : turn p q r = 0) : (pi r - pi p = tAt (luA p q) (lvA p q) p r * luA p q ∧ pj r - pj p = tAt (luA p q) (lvA p q) p r * lvA p q) ∧ (tAt (luA p q) (lvA p q) p q = (lnG p q : Int) ∧ pi q - pi p = (lnG p q : Int) * luA p q ∧ pj q - pj p = (lnG p q : Int) * lvA p q) ∧ ((0 ≤ tAt (luA p q) (lvA p q) p r ∧ tAt (luA p q) (lvA p q) p r ≤ tAt (luA p q) (lvA p q) p q) ↔ (p ≤ r ∧ r ≤ q)) ∧ 1 ≤ lnG p q := by
  have h1 := List.all_eq_true.mp (List.all_eq_true.mp linL p hp) q hq
  rw [decide_eq_true h, Bool.not_true, Bool.false_or] at h1
  have h2 := List.all_eq_true.mp h1 r hr
  unfold linB at h2
  rw [decide_eq_false (fun z => z h0), Bool.false_or] at h2
  simp only [Bool.and_eq_true, decide_eq_true_eq] at h2
  obtain ⟨a1, a2, a3, a4, a5, a6, a7⟩ := h2
  exact ⟨⟨a1, a2⟩, ⟨a3, a4, a5⟩, a6, a7⟩
theorem arL_iff {f : Cv} {p q : Nat} {u v : Int} : ∀ n, arL f p q u v n = true ↔ ∀ r, r < n → lnOK f p q u v r = true
  | 0 => ⟨fun _ r hr => absurd hr (Nat.not_lt_zero r), fun _ => rfl⟩
  | n + 1 => by
    unfold arL
    rw [Bool.and_eq_true, arL_iff n]
    constructor
    · rintro ⟨h1, h2⟩ r hr
      by_cases e : r = n
      · subst e; exact h2
      · exact h1 r (by omega)
    · intro h
      exact ⟨fun r hr => h r (by omega), h n (by omega)⟩
theorem lnOK_iff {f : Cv} {p q k : Nat} {u v : Int} : lnOK f p q u v k = true ↔ (hasF f k = true → k ≠ p → k ≠ q → (0 ≤ tAt u v p k ∧ tAt u v p k ≤ tAt u v p q → 0 ≤ lnV f p q u v k) ∧ (¬ (0 ≤ tAt u v p k ∧ tAt u v p k ≤ tAt u v p q) → 0 < lnV f p q u v k)) := by
  unfold lnOK
  cases hk : hasF f k with
  | false => exact ⟨fun _ z => absurd z (by decide), fun _ => rfl⟩
  | true =>
    rw [Bool.not_true, Bool.false_or]
    by_cases e1 : k = p
    · rw [decide_eq_true e1, Bool.true_or]
      exact ⟨fun _ _ z => absurd e1 z, fun _ => rfl⟩
    · rw [decide_eq_false e1, Bool.false_or]
      by_cases e2 : k = q
      · rw [decide_eq_true e2, Bool.true_or]
        exact ⟨fun _ _ _ z => absurd e2 z, fun _ => rfl⟩
      · rw [decide_eq_false e2, Bool.false_or]
        by_cases c : 0 ≤ tAt u v p k ∧ tAt u v p k ≤ tAt u v p q
        · rw [if_pos c, decide_eq_true_eq]
          exact ⟨fun z _ _ _ => ⟨fun _ => z, fun w => absurd c w⟩, fun z => (z rfl e1 e2).1 c⟩
        · rw [if_neg c, decide_eq_true_eq]
          exact ⟨fun z _ _ _ => ⟨fun w => absurd w c, fun _ => z⟩, fun z => (z rfl e1 e2).2 c⟩
theorem line_key {G u v t cp cq cr ip jp ir jr iq jq : Int} (e1 : ir - ip = t * u) (e2 : jr - jp = t * v) (e3 : iq - ip = G * u) (e4 : jq - jp = G * v) : (((iq - ip) * (iq - ip) + (jq - jp) * (jq - jp)) * cr + ir * (-(cq - cp) * (iq - ip)) + jr * (-(cq - cp) * (jq - jp))) - (((iq - ip) * (iq - ip) + (jq - jp) * (jq - jp)) * cp + ip * (-(cq - cp) * (iq - ip)) + jp * (-(cq - cp) * (jq - jp))) = (G * (u * u + v * v)) * (cr * G - cp * (G - t) - cq * t) := by
  have h1 : (((iq - ip) * (iq - ip) + (jq - jp) * (jq - jp)) * cr + ir * (-(cq - cp) * (iq - ip)) + jr * (-(cq - cp) * (jq - jp))) - (((iq - ip) * (iq - ip) + (jq - jp) * (jq - jp)) * cp + ip * (-(cq - cp) * (iq - ip)) + jp * (-(cq - cp) * (jq - jp))) = ((iq - ip) * (iq - ip) + (jq - jp) * (jq - jp)) * (cr - cp) - (cq - cp) * ((ir - ip) * (iq - ip) + (jr - jp) * (jq - jp)) := by grind
  rw [h1, e1, e2, e3, e4]
  grind
theorem line_iff {f : Cv} {p q : Nat} (hf : Cok 999 f) (hflat : ∀ r, hasF f r = true → turn p q r = 0) (hp : hasF f p = true) (hq : hasF f q = true) (h : p < q) : arL f p q (luA p q) (lvA p q) 25 = true ↔ wholeL f p q = true := by
  have pp := hasF_pl hf hp
  have pq := hasF_pl hf hq
  have hlt : ∀ k, hasF f k = true → k < 21 := fun k hk => (hf k _ (hasF_cv hk)).1
  have base := (lin_of pp pq pq h (hflat q hq))
  have hg : 1 ≤ (lnG p q : Int) := by have := base.2.2.2; omega
  have hnz := pl_ne (show p ≠ q by omega)
  have hK : 0 < (lnG p q : Int) * (luA p q * luA p q + lvA p q * lvA p q) := by
    refine Int.mul_pos (by omega) ?_
    have s : ∀ a : Int, 0 ≤ a * a ∧ (a * a = 0 → a = 0) := by
      intro a
      refine ⟨?_, fun z => (Int.mul_eq_zero.mp z).elim id id⟩
      rcases Int.lt_or_le a 0 with z | z
      · exact Int.le_of_lt (i_nn z z)
      · exact Int.mul_nonneg z z
    have s1 := s (luA p q)
    have s2 := s (lvA p q)
    by_cases z1 : luA p q * luA p q = 0
    · by_cases z2 : lvA p q * lvA p q = 0
      · have y1 := s1.2 z1
        have y2 := s2.2 z2
        rw [y1, y2, Int.mul_zero] at base
        exact absurd base.2.1.2 (fun w => hnz w)
      · omega
    · omega
  -- what a term tells at the point, against the first
  have hv : ∀ r, hasF f r = true → vd f r (-(cv f q - cv f p) * (pi q - pi p)) (-(cv f q - cv f p) * (pj q - pj p)) ((pi q - pi p) * (pi q - pi p) + (pj q - pj p) * (pj q - pj p)) - vd f p (-(cv f q - cv f p) * (pi q - pi p)) (-(cv f q - cv f p) * (pj q - pj p)) ((pi q - pi p) * (pi q - pi p) + (pj q - pj p) * (pj q - pj p)) = ((lnG p q : Int) * (luA p q * luA p q + lvA p q * lvA p q)) * lnV f p q (luA p q) (lvA p q) r := by
    intro r hr
    have l := lin_of pp pq (hasF_pl hf hr) h (hflat r hr)
    have := line_key (cp := cv f p) (cq := cv f q) (cr := cv f r) l.1.1 l.1.2 l.2.1.2.1 l.2.1.2.2
    unfold lnV
    rw [l.2.1.1]
    exact this
  have hsgn : ∀ r, hasF f r = true → (vd f p (-(cv f q - cv f p) * (pi q - pi p)) (-(cv f q - cv f p) * (pj q - pj p)) ((pi q - pi p) * (pi q - pi p) + (pj q - pj p) * (pj q - pj p)) ≤ vd f r (-(cv f q - cv f p) * (pi q - pi p)) (-(cv f q - cv f p) * (pj q - pj p)) ((pi q - pi p) * (pi q - pi p) + (pj q - pj p) * (pj q - pj p)) ↔ 0 ≤ lnV f p q (luA p q) (lvA p q) r) ∧ (vd f r (-(cv f q - cv f p) * (pi q - pi p)) (-(cv f q - cv f p) * (pj q - pj p)) ((pi q - pi p) * (pi q - pi p) + (pj q - pj p) * (pj q - pj p)) = vd f p (-(cv f q - cv f p) * (pi q - pi p)) (-(cv f q - cv f p) * (pj q - pj p)) ((pi q - pi p) * (pi q - pi p) + (pj q - pj p) * (pj q - pj p)) ↔ lnV f p q (luA p q) (lvA p q) r = 0) := by
    intro r hr
    have e := hv r hr
    generalize (lnG p q : Int) * (luA p q * luA p q + lvA p q * lvA p q) = K at *
    generalize lnV f p q (luA p q) (lvA p q) r = V at *
    refine ⟨⟨fun z => ?_, fun z => ?_⟩, ⟨fun z => ?_, fun z => ?_⟩⟩
    · rcases Int.lt_or_le V 0 with y | y
      · have := i_pn hK y
        omega
      · exact y
    · have := Int.mul_nonneg (Int.le_of_lt hK) z
      omega
    · have : K * V = 0 := by omega
      exact (Int.mul_eq_zero.mp this).resolve_left (by omega)
    · rw [z, Int.mul_zero] at e
      omega
  have hVq : lnV f p q (luA p q) (lvA p q) q = 0 := by
    unfold lnV
    rw [base.2.1.1]
    grind
  clear hv
  unfold wholeL
  rw [hside_of, arL_iff]
  generalize -(cv f q - cv f p) * (pi q - pi p) = x at *
  generalize -(cv f q - cv f p) * (pj q - pj p) = y at *
  generalize (pi q - pi p) * (pi q - pi p) + (pj q - pj p) * (pj q - pj p) = d at *
  constructor
  · intro ha
    have hall : ∀ r, hasF f r = true → 0 ≤ lnV f p q (luA p q) (lvA p q) r := by
      intro r hr
      by_cases e1 : r = p
      · subst e1
        exact (hsgn r hr).1.mp (Int.le_refl _)
      · by_cases e2 : r = q
        · subst e2
          omega
        · have := lnOK_iff.mp (ha r (by have := hlt r hr; omega)) hr e1 e2
          by_cases c : 0 ≤ tAt (luA p q) (lvA p q) p r ∧ tAt (luA p q) (lvA p q) p r ≤ tAt (luA p q) (lvA p q) p q
          · exact this.1 c
          · have := this.2 c
            omega
    have lp : LdD f x y d p := ⟨hp, fun j hj => (hsgn j hj).1.mpr (hall j hj)⟩
    have lq : LdD f x y d q := ⟨hq, fun j hj => by rw [(hsgn q hq).2.mpr hVq]; exact lp.2 j hj⟩
    refine ⟨by omega, (lead_iff hf).mpr lp, (lead_iff hf).mpr lq, fun k hk tk => ?_⟩
    have lk := (lead_iff hf).mp tk
    refine Or.inr ⟨hflat k lk.1, ?_⟩
    have hz : lnV f p q (luA p q) (lvA p q) k = 0 := by
      refine (hsgn k lk.1).2.mp ?_
      have := lk.2 p hp
      have := lp.2 k lk.1
      omega
    by_cases e1 : k = p
    · omega
    · by_cases e2 : k = q
      · omega
      · have := (lnOK_iff.mp (ha k (by omega)) lk.1 e1 e2).2
        have l := (lin_of pp pq (hasF_pl hf lk.1) h (hflat k lk.1)).2.2.1
        by_cases c : 0 ≤ tAt (luA p q) (lvA p q) p k ∧ tAt (luA p q) (lvA p q) p k ≤ tAt (luA p q) (lvA p q) p q
        · have := l.mp c
          omega
        · have := this c
          omega
  · rintro ⟨-, h2, h3, h4⟩ r hr
    have lp := (lead_iff hf).mp h2
    refine lnOK_iff.mpr fun hr2 e1 e2 => ?_
    have hge := (hsgn r hr2).1.mp (lp.2 r hr2)
    refine ⟨fun _ => hge, fun c => ?_⟩
    by_cases z : lnV f p q (luA p q) (lvA p q) r = 0
    · exfalso
      have e := (hsgn r hr2).2.mpr z
      have lr : LdD f x y d r := ⟨hr2, fun j hj => by rw [e]; exact lp.2 j hj⟩
      have l := (lin_of pp pq (hasF_pl hf hr2) h (hflat r hr2)).2.2.1
      have ht := hflat r hr2
      rcases h4 r (hlt r hr2) ((lead_iff hf).mpr lr) with w | w
      · omega
      · exact c (l.mpr (by omega))
    · omega
theorem linUV : ∀ a ∈ ints9, ∀ b ∈ ints9, (a = 0 ∧ b = 0) ∨ ((if lFl (a.tdiv (Nat.gcd a.natAbs b.natAbs : Nat)) (b.tdiv (Nat.gcd a.natAbs b.natAbs : Nat)) = true then -(b.tdiv (Nat.gcd a.natAbs b.natAbs : Nat)) else b.tdiv (Nat.gcd a.natAbs b.natAbs : Nat)) = lineU a b ∧ (if lFl (a.tdiv (Nat.gcd a.natAbs b.natAbs : Nat)) (b.tdiv (Nat.gcd a.natAbs b.natAbs : Nat)) = true then a.tdiv (Nat.gcd a.natAbs b.natAbs : Nat) else -(a.tdiv (Nat.gcd a.natAbs b.natAbs : Nat))) = lineV a b) := by decide +kernel
def lcB (f : Cv) (k : Nat × Nat) : Bool := hasF f k.1 && (hasF f k.2 && arL f k.1 k.2 (luA k.1 k.2) (lvA k.1 k.2) 25)
def lrw (k : Nat × Nat) : Nat → Int := frE k.1 k.2 (-1000000) (if lFl (luA k.1 k.2) (lvA k.1 k.2) = true then -(lvA k.1 k.2) else lvA k.1 k.2) (if lFl (luA k.1 k.2) (lvA k.1 k.2) = true then luA k.1 k.2 else -(luA k.1 k.2))
def psi (f : Cv) (p n : Nat) (k : Nat × Nat) : Option (Nat → Int) := if (k.1 < p ∨ (k.1 = p ∧ k.2 < n)) ∧ lcB f k = true then some (lrw k) else none
theorem kyd_psi (f : Cv) (p n : Nat) : kyd (psi f p n) := by
  intro k e h
  unfold psi at h
  split at h
  · cases h
    exact ⟨rfl, rfl⟩
  · cases h
theorem lnB_as {f : Cv} (hf : Cok 999 f) (p : Nat) : ∀ n, lnB f p (asL (psi f p 0)) n = asL (psi f p n)
  | 0 => rfl
  | n + 1 => by
    have ih := lnB_as hf p n
    have e : lnB f p (asL (psi f p 0)) (n + 1) = if p < n ∧ hasF f p = true ∧ hasF f n = true ∧ arL f p n (luA p n) (lvA p n) 25 = true then lnStep p n (lnB f p (asL (psi f p 0)) n) else lnB f p (asL (psi f p 0)) n := rfl
    rw [e, ih]
    by_cases c : p < n ∧ hasF f p = true ∧ hasF f n = true ∧ arL f p n (luA p n) (lvA p n) 25 = true
    · rw [if_pos c]
      have hn21 := (hf n _ (hasF_cv c.2.2.1)).1
      have hx : (p, n) ∈ prs := prs_in (by omega) hn21 c.1
      have hlc : lcB f (p, n) = true := by
        unfold lcB
        rw [c.2.1, c.2.2.1, c.2.2.2]
        rfl
      have hno : psi f p n (p, n) = none := by
        unfold psi
        rw [if_neg]
        rintro ⟨z, -⟩
        have z : p < p ∨ (p = p ∧ n < n) := z
        omega
      have hput := lnPut_as hx (kyd_psi f p n) (if lFl (luA p n) (lvA p n) = true then -(lvA p n) else lvA p n) (if lFl (luA p n) (lvA p n) = true then luA p n else -(luA p n))
      rw [hno] at hput
      refine Eq.trans hput (fm_congr prs fun k hk => ?_)
      unfold psi
      by_cases z : k = (p, n)
      · subst z
        refine Eq.trans (if_pos rfl) (Eq.trans ?_ (if_pos ⟨Or.inr ⟨rfl, Nat.lt_succ_self n⟩, hlc⟩).symm)
        rfl
      · rw [if_neg z]
        have hiff : ((k.1 < p ∨ (k.1 = p ∧ k.2 < n)) ∧ lcB f k = true) ↔ ((k.1 < p ∨ (k.1 = p ∧ k.2 < n + 1)) ∧ lcB f k = true) := by
          constructor
          · rintro ⟨a, b⟩
            exact ⟨by omega, b⟩
          · rintro ⟨a, b⟩
            refine ⟨?_, b⟩
            rcases a with a | ⟨a1, a2⟩
            · exact Or.inl a
            · by_cases y : k.2 = n
              · exact absurd (Prod.ext a1 y) z
              · exact Or.inr ⟨a1, by omega⟩
        simp only [hiff]
    · rw [if_neg c]
      refine fm_congr prs fun k hk => ?_
      have hlt := prs_of k hk
      unfold psi
      have hiff : ((k.1 < p ∨ (k.1 = p ∧ k.2 < n)) ∧ lcB f k = true) ↔ ((k.1 < p ∨ (k.1 = p ∧ k.2 < n + 1)) ∧ lcB f k = true) := by
        constructor
        · rintro ⟨a, b⟩
          exact ⟨by omega, b⟩
        · rintro ⟨a, b⟩
          refine ⟨?_, b⟩
          rcases a with a | ⟨a1, a2⟩
          · exact Or.inl a
          · by_cases y : k.2 = n
            · exfalso
              unfold lcB at b
              rw [Bool.and_eq_true, Bool.and_eq_true, a1, y] at b
              exact c ⟨by omega, b.1, b.2.1, b.2.2⟩
            · exact Or.inr ⟨a1, by omega⟩
      simp only [hiff]
theorem lnA_as {f : Cv} (hf : Cok 999 f) : ∀ n, lnA f n = asL (psi f n 0)
  | 0 => by
    refine ((fm_congr prs fun k hk => ?_).trans (fm_none prs)).symm
    unfold psi
    rw [if_neg]
    rintro ⟨z, -⟩
    omega
  | n + 1 => by
    have e : lnA f (n + 1) = lnB f n (lnA f n) 25 := rfl
    rw [e, lnA_as hf n, lnB_as hf n 25]
    refine fm_congr prs fun k hk => ?_
    have hlt := prs_of k hk
    unfold psi
    have hiff : ((k.1 < n ∨ (k.1 = n ∧ k.2 < 25)) ∧ lcB f k = true) ↔ ((k.1 < n + 1 ∨ (k.1 = n + 1 ∧ k.2 < 0)) ∧ lcB f k = true) := by
      constructor
      · rintro ⟨a, b⟩
        exact ⟨by omega, b⟩
      · rintro ⟨a, b⟩
        exact ⟨by omega, b⟩
    simp only [hiff]
theorem flat_all {f : Cv} (hf : Cok 999 f) (hC : (cornF f).length = 0) {p q r : Nat} (hp : hasF f p = true) (hq : hasF f q = true) (hr : hasF f r = true) : turn p q r = 0 := by
  by_cases z : turn p q r = 0
  · exact z
  · exact absurd hC (off_corn hf hp hq hr z)
theorem cnd_line {f : Cv} (hf : Cok 999 f) (hC : (cornF f).length = 0) {k : Nat × Nat} (hk : k ∈ prs) : cnd f (cornF f) k = lcB f k := by
  have hlt := prs_of k hk
  unfold cnd lcB
  cases hp : hasF f k.1 with
  | false => rfl
  | true =>
    cases hq : hasF f k.2 with
    | false => rfl
    | true =>
      rw [Bool.true_and, Bool.true_and, Bool.true_and, Bool.true_and]
      have hi := line_iff hf (fun r hr => flat_all hf hC hp hq hr) hp hq hlt.1
      have e : isE f (cornF f) k.1 k.2 = wholeL f k.1 k.2 := by
        unfold isE
        rw [hC, decide_eq_true rfl, Bool.true_and]
        have : rowN f (cornF f) k.1 k.2 0 4 = -1000000 := rfl
        rw [decide_eq_true this, Bool.not_true, Bool.false_or]
      rw [e]
      exact Bool.eq_iff_iff.mpr hi.symm
theorem mEf_map {f : Cv} (hf : Cok 999 f) : mEf f = (prs.filter (cnd f (cornF f))).map (fun k => m6 (rowN f (cornF f) k.1 k.2 (cornF f).length)) := by
  by_cases hC : (cornF f).length = 0
  · have e : mEf f = lnA f 25 := by
      unfold mEf
      rw [hC, if_pos rfl]
      rfl
    rw [e, lnA_as hf 25]
    refine fm_filter prs fun k hk => ?_
    have hlt := prs_of k hk
    rw [cnd_line hf hC hk]
    unfold psi
    by_cases c : lcB f k = true
    · rw [if_pos c, if_pos ⟨Or.inl (by omega), c⟩]
      unfold lcB at c
      rw [Bool.and_eq_true, Bool.and_eq_true] at c
      have fp := (hf k.1 _ (hasF_cv c.1))
      have fq := (hf k.2 _ (hasF_cv c.2.1))
      have dif := pl_diff fp.2.1 fq.2.1
      have hl := (linUV _ (mem9 dif.1) _ (mem9 dif.2.1)).resolve_left (pl_ne (show k.1 ≠ k.2 by omega))
      have huv : (if lFl (luA k.1 k.2) (lvA k.1 k.2) = true then -(lvA k.1 k.2) else lvA k.1 k.2) = lineU (pi k.2 - pi k.1) (pj k.2 - pj k.1) ∧ (if lFl (luA k.1 k.2) (lvA k.1 k.2) = true then luA k.1 k.2 else -(luA k.1 k.2)) = lineV (pi k.2 - pi k.1) (pj k.2 - pj k.1) := hl
      rw [hC]
      refine congrArg some ?_
      unfold lrw
      rw [huv.1, huv.2]
      rfl
    · rw [if_neg c, if_neg (fun z => c z.2)]
  · have e : mEf f = mcE (cornF f) [] (cornF f).length := by
      unfold mEf
      rw [if_neg hC]
    rw [e, mcE_as hf _ (Nat.le_refl _)]
    refine fm_filter prs fun k hk => ?_
    unfold rphi
    by_cases c : rowN f (cornF f) k.1 k.2 (cornF f).length 4 = -1000000
    · rw [if_pos c, if_neg (fun z => (cnd_corn hf hC k).mp z c)]
    · rw [if_neg c, if_pos ((cnd_corn hf hC k).mpr c)]
theorem lines_30 {f : Cv} (hf : Cok 999 f) (hC : (cornF f).length = 0) : (prs.filter (cnd f (cornF f))).length ≤ 30 := by
  have hmem : ∀ k ∈ prs.filter (cnd f (cornF f)), hasF f k.1 = true ∧ hasF f k.2 = true := by
    intro k hk
    have := (List.mem_filter.mp hk).2
    unfold cnd at this
    rw [Bool.and_eq_true, Bool.and_eq_true] at this
    exact ⟨this.1, this.2.1⟩
  cases hL : prs.filter (cnd f (cornF f)) with
  | nil => exact Nat.zero_le _
  | cons k0 l =>
    have hk0 := hmem k0 (by rw [hL]; exact List.mem_cons_self)
    have h0 := prs_of k0 ((List.mem_filter.mp (show k0 ∈ prs.filter (cnd f (cornF f)) by rw [hL]; exact List.mem_cons_self)).1)
    -- a number that tells the terms apart
    have hc : ∃ c : Nat → Nat, (∀ a, hasF f a = true → c a < 5) ∧ ∀ a b, hasF f a = true → hasF f b = true → c a = c b → a = b := by
      have fl : ∀ a, hasF f a = true → turn k0.1 k0.2 a = 0 := fun a ha => flat_all hf hC hk0.1 hk0.2 ha
      have hn := pl_ne (show k0.1 ≠ k0.2 by omega)
      by_cases z : pi k0.2 - pi k0.1 = 0
      · refine ⟨fun a => a % 5, fun a _ => Nat.mod_lt _ (by decide), fun a b ha hb e => ?_⟩
        have e : a % 5 = b % 5 := e
        have f1 := fl a ha
        have f2 := fl b hb
        unfold turn at f1 f2
        rw [z, Int.zero_mul] at f1 f2
        have g1 := (Int.mul_eq_zero.mp (show (pj k0.2 - pj k0.1) * (pi a - pi k0.1) = 0 by omega)).resolve_left (fun w => hn ⟨z, w⟩)
        have g2 := (Int.mul_eq_zero.mp (show (pj k0.2 - pj k0.1) * (pi b - pi k0.1) = 0 by omega)).resolve_left (fun w => hn ⟨z, w⟩)
        have g3 : pi a = pi b := by omega
        unfold pi at g3
        omega
      · refine ⟨fun a => a / 5, fun a ha => by have := (hf a _ (hasF_cv ha)).1; show a / 5 < 5; omega, fun a b ha hb e => ?_⟩
        have e : a / 5 = b / 5 := e
        have f1 := fl a ha
        have f2 := fl b hb
        have ep : pi a = pi b := by unfold pi; rw [e]
        unfold turn at f1 f2
        rw [ep] at f1
        have g : (pi k0.2 - pi k0.1) * (pj a - pj b) = 0 := by grind
        have g3 := (Int.mul_eq_zero.mp g).resolve_left z
        have g4 : pj a = pj b := by omega
        unfold pj at g4
        omega
    obtain ⟨c, c1, c2⟩ := hc
    rw [← hL]
    refine Nat.le_trans (pigeon (fun (k : Nat × Nat) i => (hasF f k.1 = true ∧ hasF f k.2 = true) ∧ i = 5 * c k.1 + c k.2) 25 _ (fun k hk => ?_) ?_) (by decide)
    · have h1 := hmem k hk
      have := c1 k.1 h1.1
      have := c1 k.2 h1.2
      exact ⟨5 * c k.1 + c k.2, by omega, h1, rfl⟩
    · refine List.Pairwise.imp ?_ (filter_pair _)
      rintro a b hne i ⟨a1, a2⟩ ⟨b1, b2⟩
      have l1 := c1 a.2 a1.2
      have l2 := c1 b.2 b1.2
      exact hne (Prod.ext (c2 _ _ a1.1 b1.1 (by omega)) (c2 _ _ a1.2 b1.2 (by omega)))
theorem all_30 {f : Cv} (hf : Cok 999 f) : (prs.filter (cnd f (cornF f))).length ≤ 30 := by
  by_cases hC : (cornF f).length = 0
  · exact lines_30 hf hC
  · exact edges_30 hf hC
theorem edL_is {f : Cv} (hf : Cok 999 f) : edL f = prs.filter (cnd f (cornF f)) := edL_eq (all_30 hf)
theorem rowE_f (f : Cv) (C : List Pt) (p q : Nat) : ∀ t, t ≠ 8 → t ≠ 9 → rowE f C p q t = rowN f C p q C.length t := by
  intro t h8 h9
  unfold rowE
  split
  · rfl
  · show sR (sR (rowN f C p q C.length) 8 _) 9 _ t = _
    unfold sR
    rw [if_neg h9, if_neg h8]
theorem geoe : GEOE := by
  intro f hf
  have hm := mEf_map hf
  have hl := edL_is hf
  have h30 := all_30 hf
  refine ⟨⟨?_, ?_, ?_⟩, ?_⟩
  · rw [hm, List.length_map, rowsF_len, hl]
  · rw [rowsF_len, hl]
    exact h30
  · intro k e d he hd
    rw [hm, List.getElem?_map, ← hl] at he
    unfold rowsF at hd
    rw [rowsBr_get] at hd
    unfold rowsF0 at hd
    rw [List.getElem?_map, show (elA f (cornF f) 21)[k]? = (edL f)[k]? from rfl] at hd
    cases hk : (edL f)[k]? with
    | none => rw [hk] at he; cases he
    | some pq =>
      rw [hk] at he hd
      have he : m6 (rowN f (cornF f) pq.1 pq.2 (cornF f).length) = e := Option.some.inj he
      have hd := Option.some.inj hd
      have hdt : ∀ t, t ≠ 8 → t ≠ 9 → t ≠ 10 → d t = rowN f (cornF f) pq.1 pq.2 (cornF f).length t := by
        intro t h8 h9 h10
        rw [← hd]
        dsimp only
        split
        · show sR _ 10 _ t = _
          unfold sR
          rw [if_neg h10]
          exact rowE_f f _ _ _ t h8 h9
        · exact rowE_f f _ _ _ t h8 h9
      rw [← he, hdt 0 (by decide) (by decide) (by decide), hdt 1 (by decide) (by decide) (by decide), hdt 4 (by decide) (by decide) (by decide), hdt 5 (by decide) (by decide) (by decide), hdt 6 (by decide) (by decide) (by decide), hdt 7 (by decide) (by decide) (by decide)]
      exact ⟨⟨rfl, rfl⟩, ⟨rfl, rfl⟩, rfl, rfl⟩
  · intro e he
    rw [hm] at he
    obtain ⟨k, k1, k2⟩ := List.mem_map.mp he
    have hc := (List.mem_filter.mp k1).2
    unfold cnd at hc
    rw [Bool.and_eq_true, Bool.and_eq_true] at hc
    have hJ := (rowN_J f (cornF f) k.1 k.2 (cornF f).length).1
    exact ⟨k.1, k.2, by rw [← k2]; exact hJ.1, by rw [← k2]; exact hJ.2, hc.1, hc.2.1⟩
