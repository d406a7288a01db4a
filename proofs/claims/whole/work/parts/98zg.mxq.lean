/-! ===== both ways to the mixed area agree ===== -/
theorem qsF_mem {s : Nat} {x : Int × Int} : ∀ n, x ∈ qsF s n ↔ ∃ k, k < n ∧ s.testBit k = true ∧ x = ptP k
  | 0 => ⟨fun h => (by cases h), fun ⟨k, hk, _⟩ => absurd hk (Nat.not_lt_zero k)⟩
  | n + 1 => by
    have ih := qsF_mem (s := s) (x := x) n
    unfold qsF
    by_cases t : s.testBit n = true
    · rw [if_pos t, List.mem_append, ih, List.mem_singleton]
      constructor
      · rintro (⟨k, k1, k2, k3⟩ | h)
        · exact ⟨k, by omega, k2, k3⟩
        · exact ⟨n, by omega, t, h⟩
      · rintro ⟨k, k1, k2, k3⟩
        by_cases e : k = n
        · subst e; exact Or.inr k3
        · exact Or.inl ⟨k, by omega, k2, k3⟩
    · rw [if_neg t, ih]
      constructor
      · rintro ⟨k, k1, k2, k3⟩
        exact ⟨k, by omega, k2, k3⟩
      · rintro ⟨k, k1, k2, k3⟩
        by_cases e : k = n
        · subst e; exact absurd k2 t
        · exact ⟨k, by omega, k2, k3⟩
theorem snoc_nodup {A : Type} {L : List A} {x : A} (h : L.Nodup) (hx : x ∉ L) : (L ++ [x]).Nodup := by
  refine List.pairwise_append.mpr ⟨h, List.pairwise_singleton _ _, fun a ha b hb e => ?_⟩
  rw [List.mem_singleton] at hb
  rw [hb] at e
  rw [e] at ha
  exact hx ha
theorem qsF_nodup (s : Nat) : ∀ n, (qsF s n).Nodup
  | 0 => List.nodup_nil
  | n + 1 => by
    unfold qsF
    by_cases t : s.testBit n = true
    · rw [if_pos t]
      refine snoc_nodup (qsF_nodup s n) fun h => ?_
      obtain ⟨k, k1, -, k3⟩ := (qsF_mem n).mp h
      have := ptP_inj k3
      omega
    · rw [if_neg t]
      exact qsF_nodup s n
theorem qsF_in {s : Nat} (hs : plS s) {x : Int × Int} : x ∈ qsF s 25 ↔ ∃ k, s.testBit k = true ∧ x = ptP k := by
  rw [qsF_mem]
  constructor
  · rintro ⟨k, -, k2, k3⟩; exact ⟨k, k2, k3⟩
  · rintro ⟨k, k2, k3⟩; exact ⟨k, (hs k k2).1, k2, k3⟩
theorem figQ {s : Nat} (hs : plS s) (h0 : 0 < s) : Fig (qsF s 25).length (fun _ => true) (ptQ (qsF s 25)) (hS s) := by
  refine figL (qsF_nodup s 25) (fun i x hx => ?_) (fun i hi => ?_) (fun x hx y hy hne _ => ?_)
  · obtain ⟨k, k1, rfl⟩ := (qsF_in hs).mp hx
    exact hS_ub hs h0 i k k1
  · obtain ⟨v, -, v2, v3, v4⟩ := hS_cm hs h0 hi
    exact ⟨_, (qsF_in hs).mpr ⟨v, v2, rfl⟩, v3, v4⟩
  · obtain ⟨k, k1, rfl⟩ := (qsF_in hs).mp hx
    obtain ⟨j, j1, rfl⟩ := (qsF_in hs).mp hy
    exact pl_dir (hs k k1).2 (hs j j1).2 hne
theorem mem_len {A : Type} {L : List A} {x : A} (h : x ∈ L) : 0 < L.length := List.length_pos_of_mem h
theorem arS_Bf {s : Nat} (hs : plS s) (h0 : 0 < s) : arS s = Bf (hS s) (hS s) := by
  obtain ⟨k, -, hk⟩ := plS_bit hs h0
  exact area_Bf (qsF_nodup s 25) (figQ hs h0) (hS_per s).1 (hS_per s).2 (mem_len ((qsF_in hs).mpr ⟨k, hk, rfl⟩))
theorem smF_mem {s o : Nat} {x : Int × Int} : ∀ n, x ∈ smF s o n ↔ ∃ k, k < n ∧ smG s o k = true ∧ x = (((k / 9 : Nat) : Int), ((k % 9 : Nat) : Int))
  | 0 => ⟨fun h => (by cases h), fun ⟨k, hk, _⟩ => absurd hk (Nat.not_lt_zero k)⟩
  | n + 1 => by
    have ih := smF_mem (s := s) (o := o) (x := x) n
    unfold smF
    by_cases t : smG s o n = true
    · rw [if_pos t, List.mem_append, ih, List.mem_singleton]
      constructor
      · rintro (⟨k, k1, k2, k3⟩ | h)
        · exact ⟨k, by omega, k2, k3⟩
        · exact ⟨n, by omega, t, h⟩
      · rintro ⟨k, k1, k2, k3⟩
        by_cases e : k = n
        · subst e; exact Or.inr k3
        · exact Or.inl ⟨k, by omega, k2, k3⟩
    · rw [if_neg t, ih]
      constructor
      · rintro ⟨k, k1, k2, k3⟩
        exact ⟨k, by omega, k2, k3⟩
      · rintro ⟨k, k1, k2, k3⟩
        by_cases e : k = n
        · subst e; exact absurd k2 t
        · exact ⟨k, by omega, k2, k3⟩
theorem smF_nodup (s o : Nat) : ∀ n, (smF s o n).Nodup
  | 0 => List.nodup_nil
  | n + 1 => by
    unfold smF
    by_cases t : smG s o n = true
    · rw [if_pos t]
      refine snoc_nodup (smF_nodup s o n) fun h => ?_
      obtain ⟨k, k1, -, k3⟩ := (smF_mem n).mp h
      have e1 := congrArg Prod.fst k3
      have e2 := congrArg Prod.snd k3
      have e1 : ((n / 9 : Nat) : Int) = ((k / 9 : Nat) : Int) := e1
      have e2 : ((n % 9 : Nat) : Int) = ((k % 9 : Nat) : Int) := e2
      omega
    · rw [if_neg t]
      exact smF_nodup s o n
theorem smF_in {s o : Nat} (hs : plS s) (ho : plS o) {x : Int × Int} : x ∈ smF s o 81 ↔ ∃ p q, s.testBit p = true ∧ o.testBit q = true ∧ x = (pi p + pi q, pj p + pj q) := by
  rw [smF_mem]
  constructor
  · rintro ⟨k, -, k2, k3⟩
    obtain ⟨p, -, q, -, p1, q1, e⟩ := smG_iff.mp k2
    have h1 := hs p p1
    have h2 := ho q q1
    refine ⟨p, q, p1, q1, ?_⟩
    unfold smK at e
    rw [k3]
    unfold pi pj
    refine Prod.ext ?_ ?_
    · show ((k / 9 : Nat) : Int) = ((p / 5 : Nat) : Int) + ((q / 5 : Nat) : Int)
      omega
    · show ((k % 9 : Nat) : Int) = ((p % 5 : Nat) : Int) + ((q % 5 : Nat) : Int)
      omega
  · rintro ⟨p, q, p1, q1, e⟩
    have h1 := hs p p1
    have h2 := ho q q1
    refine ⟨smK p q, ?_, smG_iff.mpr ⟨p, h1.1, q, h2.1, p1, q1, rfl⟩, ?_⟩
    · unfold smK
      omega
    · rw [e]
      unfold pi pj smK
      refine Prod.ext ?_ ?_
      · show ((p / 5 : Nat) : Int) + ((q / 5 : Nat) : Int) = (((9 * (p / 5 + q / 5) + (p % 5 + q % 5)) / 9 : Nat) : Int)
        omega
      · show ((p % 5 : Nat) : Int) + ((q % 5 : Nat) : Int) = (((9 * (p / 5 + q / 5) + (p % 5 + q % 5)) % 9 : Nat) : Int)
        omega
theorem nd_plus (i p q : Nat) : nd i (pi p + pi q, pj p + pj q) = nd i (ptP p) + nd i (ptP q) := by
  unfold nd ptP
  grind
/-- a vector along a direction -/
theorem dir_of {i : Nat} (hi : i < 36) {a b : Int} (h0 : ¬ (a = 0 ∧ b = 0)) (hp : (dd (i + 1)).2 * a - (dd (i + 1)).1 * b = 0) : ∃ j m, j < 36 ∧ 1 ≤ m ∧ a = m * (dd (j + 1)).1 ∧ b = m * (dd (j + 1)).2 := by
  have l := nd_line hi (x := (0, 0)) (z := (a, b)) (by unfold nd; grind)
  have l1 : a - 0 = (nd (i + 2) (a, b) - nd (i + 2) (0, 0)) * (dd (i + 1)).1 := l.1
  have l2 : b - 0 = (nd (i + 2) (a, b) - nd (i + 2) (0, 0)) * (dd (i + 1)).2 := l.2.1
  generalize nd (i + 2) (a, b) - nd (i + 2) (0, 0) = t at *
  rcases Int.lt_trichotomy t 0 with z | z | z
  · obtain ⟨j, hj, e⟩ := fan7 i hi
    have e1 := congrArg Prod.fst e
    have e2 := congrArg Prod.snd e
    have e1 : (dd (j + 1)).1 = -(dd (i + 1)).1 := e1
    have e2 : (dd (j + 1)).2 = -(dd (i + 1)).2 := e2
    refine ⟨j, -t, List.mem_range.mp hj, by omega, ?_, ?_⟩
    · rw [e1, Int.neg_mul, Int.mul_neg, Int.neg_neg]; omega
    · rw [e2, Int.neg_mul, Int.mul_neg, Int.neg_neg]; omega
  · rw [z, Int.zero_mul] at l1 l2
    exact absurd ⟨by omega, by omega⟩ h0
  · exact ⟨i, t, hi, by omega, by omega, by omega⟩
theorem figS {s o : Nat} (hs : plS s) (h0 : 0 < s) (ho : plS o) (o0 : 0 < o) : Fig (smF s o 81).length (fun _ => true) (ptQ (smF s o 81)) (fun i => hS s i + hS o i) := by
  refine figL (smF_nodup s o 81) (fun i x hx => ?_) (fun i hi => ?_) (fun x hx y hy hne hz => ?_)
  · obtain ⟨p, q, p1, q1, rfl⟩ := (smF_in hs ho).mp hx
    rw [nd_plus]
    have := hS_ub hs h0 i p p1
    have := hS_ub ho o0 i q q1
    omega
  · obtain ⟨v, -, v2, v3, v4⟩ := hS_cm hs h0 hi
    obtain ⟨w, -, w2, w3, w4⟩ := hS_cm ho o0 hi
    exact ⟨_, (smF_in hs ho).mpr ⟨v, w, v2, w2, rfl⟩, by rw [nd_plus, v3, w3], by rw [nd_plus, v4, w4]⟩
  · obtain ⟨p, q, p1, q1, rfl⟩ := (smF_in hs ho).mp hx
    obtain ⟨p2, q2, p3, q3, rfl⟩ := (smF_in hs ho).mp hy
    have z1 := hz _ ((smF_in hs ho).mpr ⟨p2, q, p3, q1, rfl⟩)
    have z2 := hz _ ((smF_in hs ho).mpr ⟨p, q2, p1, q3, rfl⟩)
    unfold cr3 at z1 z2
    dsimp only at z1 z2
    have d1 := pl_diff (hs p p1).2 (hs p2 p3).2
    have d2 := pl_diff (ho q q1).2 (ho q2 q3).2
    have n0 : ¬ (pi p2 + pi q2 - (pi p + pi q) = 0 ∧ pj p2 + pj q2 - (pj p + pj q) = 0) := fun e => hne (Prod.ext (by omega) (by omega))
    have hf1 := fan5L _ (mem9 d1.1) _ (mem9 d1.2.1) d1.2.2
    have hf2 := fan5L _ (mem9 d2.1) _ (mem9 d2.2.1) d2.2.2
    unfold drP
    dsimp only
    generalize pi p = a1 at *
    generalize pj p = a2 at *
    generalize pi q = b1 at *
    generalize pj q = b2 at *
    generalize pi p2 = c1 at *
    generalize pj p2 = c2 at *
    generalize pi q2 = e1 at *
    generalize pj q2 = e2 at *
    have s1 : (c1 + e1 - (a1 + b1)) * (c2 + b2 - (a2 + b2)) - (c2 + e2 - (a2 + b2)) * (c1 + b1 - (a1 + b1)) = (c1 - a1 + (e1 - b1)) * (c2 - a2) - (c2 - a2 + (e2 - b2)) * (c1 - a1) := by grind
    have s2 : (c1 + e1 - (a1 + b1)) * (a2 + e2 - (a2 + b2)) - (c2 + e2 - (a2 + b2)) * (a1 + e1 - (a1 + b1)) = (c1 - a1 + (e1 - b1)) * (e2 - b2) - (c2 - a2 + (e2 - b2)) * (e1 - b1) := by grind
    rw [s1] at z1
    rw [s2] at z2
    have n0 : ¬ (c1 - a1 + (e1 - b1) = 0 ∧ c2 - a2 + (e2 - b2) = 0) := fun z => n0 ⟨by omega, by omega⟩
    have g1 : c1 + e1 - (a1 + b1) = c1 - a1 + (e1 - b1) := by omega
    have g2 : c2 + e2 - (a2 + b2) = c2 - a2 + (e2 - b2) := by omega
    rw [g1, g2]
    clear hz hne hx hy g1 g2 s1 s2 d1 d2
    generalize c1 - a1 = u1 at *
    generalize c2 - a2 = u2 at *
    generalize e1 - b1 = v1 at *
    generalize e2 - b2 = v2 at *
    have s3 : (u1 + v1) * u2 - (u2 + v2) * u1 + ((u1 + v1) * v2 - (u2 + v2) * v1) = 0 := by grind
    have y1 : (u1 + v1) * u2 - (u2 + v2) * u1 = 0 := by omega
    have y2 : (u1 + v1) * v2 - (u2 + v2) * v1 = 0 := by omega
    rcases hf1 with z | ⟨i, hi, m, hm, m1, m2⟩
    · rcases hf2 with y | ⟨i, hi, m, hm, m1, m2⟩
      · exact absurd ⟨by omega, by omega⟩ n0
      · have hi := List.mem_range.mp hi
        simp only [List.mem_cons, List.not_mem_nil, or_false] at hm
        rw [m1, m2] at y2
        have : m * ((dd (i + 1)).2 * (u1 + v1) - (dd (i + 1)).1 * (u2 + v2)) = 0 := by
          rw [← m1, ← m2] at y2
          have : m * ((dd (i + 1)).2 * (u1 + v1) - (dd (i + 1)).1 * (u2 + v2)) = (u1 + v1) * (m * (dd (i + 1)).2) - (u2 + v2) * (m * (dd (i + 1)).1) := by grind
          rw [this, ← m1, ← m2]
          exact y2
        have := (Int.mul_eq_zero.mp this).resolve_left (by omega)
        obtain ⟨j, n, j1, j2, j3, j4⟩ := dir_of hi n0 this
        exact ⟨j, n, j1, j2, j3, j4⟩
    · have hi := List.mem_range.mp hi
      simp only [List.mem_cons, List.not_mem_nil, or_false] at hm
      have : m * ((dd (i + 1)).2 * (u1 + v1) - (dd (i + 1)).1 * (u2 + v2)) = 0 := by
        have : m * ((dd (i + 1)).2 * (u1 + v1) - (dd (i + 1)).1 * (u2 + v2)) = (u1 + v1) * (m * (dd (i + 1)).2) - (u2 + v2) * (m * (dd (i + 1)).1) := by grind
        rw [this, ← m1, ← m2]
        exact y1
      have := (Int.mul_eq_zero.mp this).resolve_left (by omega)
      obtain ⟨j, n, j1, j2, j3, j4⟩ := dir_of hi n0 this
      exact ⟨j, n, j1, j2, j3, j4⟩
theorem sm_Bf {s o : Nat} (hs : plS s) (h0 : 0 < s) (ho : plS o) (o0 : 0 < o) : arQ (smF s o 81) = Bf (fun i => hS s i + hS o i) (fun i => hS s i + hS o i) := by
  obtain ⟨k, -, hk⟩ := plS_bit hs h0
  obtain ⟨j, -, hj⟩ := plS_bit ho o0
  refine area_Bf (smF_nodup s o 81) (figS hs h0 ho o0) ?_ ?_ (mem_len ((smF_in hs ho).mpr ⟨k, j, hk, hj, rfl⟩))
  · rw [(hS_per s).1, (hS_per o).1]
  · rw [(hS_per s).2, (hS_per o).2]
theorem mxq : MXQ := by
  intro s o hs ho h0 o0
  have ps := hS_per s
  have po := hS_per o
  unfold mxM
  rw [sm_Bf hs h0 ho o0, arS_Bf hs h0, arS_Bf ho o0, mixed_Bf hs h0 ho o0, Bf_add]
  have e1 : ∀ g : Nat → Int, g 36 = g 0 → g 37 = g 1 → Bf g (fun i => hS s i + hS o i) = Bf g (hS s) + Bf g (hS o) := by
    intro g g0 g1
    rw [Bf_sym g0 g1 (by rw [ps.1, po.1]) (by rw [ps.2, po.2]), Bf_add, Bf_sym ps.1 ps.2 g0 g1, Bf_sym po.1 po.2 g0 g1]
  rw [e1 _ ps.1 ps.2, e1 _ po.1 po.2, Bf_sym po.1 po.2 ps.1 ps.2]
  generalize Bf (hS s) (hS s) = x
  generalize Bf (hS o) (hS o) = y
  generalize Bf (hS s) (hS o) = z
  rw [show x + z + (z + y) - x - y = 2 * z by omega]
  exact Int.mul_tdiv_cancel_left z (by decide)
theorem arq : ARQ := by
  intro s hs
  rcases Nat.eq_zero_or_pos s with z | h0
  · subst z
    rw [mixed_0l]
    decide
  · rw [arS_Bf hs h0, mixed_Bf hs h0 hs h0]
