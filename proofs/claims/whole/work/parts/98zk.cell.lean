/-! ===== what a cell does to the rows ===== -/
def kyO (a b : Nat) : Nat × Nat := if a < b then (a, b) else (b, a)
def evU (a b : Nat) : Int := (pj a - pj b).tdiv (lnG a b : Int)
def evV (a b : Nat) : Int := (pi b - pi a).tdiv (lnG a b : Int)
def updE (o : Option (Nat → Int)) (a b : Nat) (c : Int) : Nat → Int := match o with
  | some e => sR e 3 c
  | none => frE (kyO a b).1 (kyO a b).2 c (evU a b) (evV a b)
theorem kyO_in {a b : Nat} (ha : a < 21) (hb : b < 21) (h : a ≠ b) : kyO a b ∈ prs := by
  unfold kyO
  split
  · exact prs_in ha hb (by omega)
  · exact prs_in hb ha (by omega)
theorem plC_ptP (a : Nat) : plC (ptP a) = (a : Int) := by
  show 5 * pi a + pj a = (a : Int)
  unfold pi pj
  omega
theorem kyd_upd {φ : Nat × Nat → Option (Nat → Int)} (hk : kyd φ) (a b : Nat) (c : Int) : updE (φ (kyO a b)) a b c 0 = ((kyO a b).1 : Int) ∧ updE (φ (kyO a b)) a b c 1 = ((kyO a b).2 : Int) := by
  unfold updE
  cases e : φ (kyO a b) with
  | none => exact ⟨rfl, rfl⟩
  | some d => exact hk _ d e
theorem sdStep_at {φ : Nat × Nat → Option (Nat → Int)} {a b : Nat} (hk : kyd φ) (ha : a < 21) (hb : b < 21) (h : a ≠ b) (c : Int) : sdStep c (ptP a) (ptP b) (asL φ) = asL (fun k => if k = kyO a b then some (updE (φ (kyO a b)) a b c) else φ k) := by
  have e1 : (if plC (ptP a) < plC (ptP b) then plC (ptP a) else plC (ptP b)) = ((kyO a b).1 : Int) := by
    rw [plC_ptP, plC_ptP]
    unfold kyO
    by_cases z : a < b
    · rw [if_pos z, if_pos (by omega)]
    · rw [if_neg z, if_neg (by omega)]
  have e2 : (if plC (ptP a) < plC (ptP b) then plC (ptP b) else plC (ptP a)) = ((kyO a b).2 : Int) := by
    rw [plC_ptP, plC_ptP]
    unfold kyO
    by_cases z : a < b
    · rw [if_pos z, if_pos (by omega)]
    · rw [if_neg z, if_neg (by omega)]
  unfold sdStep
  rw [e1, e2]
  rw [sdPut_as (kyO_in ha hb h) hk]
  unfold updE
  rfl
/-- the list's sides are the set's sides -/
theorem isd_iff {s a b i j : Nat} (hs : plS s) (hoff : ∀ a b, a ≠ b → ∃ k, s.testBit k = true ∧ turn a b k ≠ 0) (hi : i < (qsF s 25).length) (hj : j < (qsF s 25).length) (pa : ptQ (qsF s 25) i = ptP a) (pb : ptQ (qsF s 25) j = ptP b) (ta : s.testBit a = true) (tb : s.testBit b = true) : isdQ (qsF s 25) i j = true ↔ hside s a b = true := by
  have hall : (∀ k, k < (qsF s 25).length → 0 < cr3 (ptQ (qsF s 25) i) (ptQ (qsF s 25) j) (ptQ (qsF s 25) k) ∨ (cr3 (ptQ (qsF s 25) i) (ptQ (qsF s 25) j) (ptQ (qsF s 25) k) = 0 ∧ dt3 (ptQ (qsF s 25) i) (ptQ (qsF s 25) j) (ptQ (qsF s 25) k) ≤ 0)) ↔ ∀ k, k < 21 → s.testBit k = true → 0 < cr3 (ptP a) (ptP b) (ptP k) ∨ (cr3 (ptP a) (ptP b) (ptP k) = 0 ∧ dt3 (ptP a) (ptP b) (ptP k) ≤ 0) := by
    rw [pa, pb]
    constructor
    · intro h k hk tk
      obtain ⟨m, m1, m2⟩ := ptQ_of ((qsF_in hs).mpr ⟨k, tk, rfl⟩)
      have := h m m1
      rw [m2] at this
      exact this
    · intro h m hm
      obtain ⟨k, k1, k2⟩ := (qsF_in hs).mp (ptQ_mem hm)
      rw [k2]
      exact h k (by have := hs k k1; omega) k1
  have ha21 : a < 21 := by have := hs a ta; omega
  have hb21 : b < 21 := by have := hs b tb; omega
  have hok : okQ (qsF s 25) i j (qsF s 25).length = true ↔ hside s a b = true := by
    rw [okQ_iff, hall, hside_G hs ha21 hb21]
    constructor
    · rintro ⟨h1, h2⟩
      refine ⟨fun e => h1 (ptQ_inj (qsF_nodup s 25) hi hj (by rw [pa, pb, e])), ⟨ha21, ta⟩, ⟨hb21, tb⟩, h2⟩
    · rintro ⟨h1, -, -, h4⟩
      refine ⟨fun e => h1 ?_, h4⟩
      rw [e, pb] at pa
      exact pa.symm
  unfold isdQ
  rw [Bool.and_eq_true, hok]
  constructor
  · exact fun h => h.1
  · intro h
    refine ⟨h, (abQ_iff _).mpr ?_⟩
    obtain ⟨h1, -, -, h4⟩ := hside_of.mp h
    obtain ⟨k, k1, k2⟩ := hoff a b h1
    obtain ⟨m, m1, m2⟩ := ptQ_of ((qsF_in hs).mpr ⟨k, k1, rfl⟩)
    refine ⟨m, m1, ?_⟩
    rw [pa, pb, m2]
    show 0 < turn a b k
    rcases h4 k (by have := hs k k1; omega) k1 with z | z
    · exact z
    · exact absurd z.1 k2
theorem hside_one {s a b : Nat} (hs : plS s) (hoff : ∀ a b, a ≠ b → ∃ k, s.testBit k = true ∧ turn a b k ≠ 0) (h1 : hside s a b = true) (h2 : hside s b a = true) : False := by
  obtain ⟨n1, -, -, g1⟩ := hside_of.mp h1
  obtain ⟨-, -, -, g2⟩ := hside_of.mp h2
  obtain ⟨k, k1, k2⟩ := hoff a b n1
  have hk : k < 21 := by have := hs k k1; omega
  have e := turn_rev a b k
  have := g1 k hk k1
  have := g2 k hk k1
  omega
def prcd (s i j a b : Nat) : Prop := ∃ i2 j2, (i2 < i ∨ (i2 = i ∧ j2 < j)) ∧ i2 < (qsF s 25).length ∧ j2 < (qsF s 25).length ∧ ptQ (qsF s 25) i2 = ptP a ∧ ptQ (qsF s 25) j2 = ptP b
def cInv (s : Nat) (φ0 : Nat × Nat → Option (Nat → Int)) (c : Int) (i j : Nat) (R : List (Nat → Int)) : Prop := ∃ φ, R = asL φ ∧ kyd φ ∧ (∀ a b, hside s a b = true → prcd s i j a b → φ (kyO a b) = some (updE (φ0 (kyO a b)) a b c)) ∧ ∀ k, (∀ a b, hside s a b = true → prcd s i j a b → kyO a b ≠ k) → φ k = φ0 k
theorem kyO_eq {a b c d : Nat} (h : kyO a b = kyO c d) : (a = c ∧ b = d) ∨ (a = d ∧ b = c) := by
  unfold kyO at h
  split at h <;> split at h <;> (have h1 := congrArg Prod.fst h; have h2 := congrArg Prod.snd h; simp only at h1 h2; omega)
theorem cInv_step {s : Nat} {φ0 : Nat × Nat → Option (Nat → Int)} {c : Int} {i j : Nat} {R : List (Nat → Int)} (hs : plS s) (hoff : ∀ a b, a ≠ b → ∃ k, s.testBit k = true ∧ turn a b k ≠ 0) (hi : i < (qsF s 25).length) (hj : j < (qsF s 25).length) (h : cInv s φ0 c i j R) : cInv s φ0 c i (j + 1) (if isdQ (qsF s 25) i j = true then sdStep c (ptQ (qsF s 25) i) (ptQ (qsF s 25) j) R else R) := by
  obtain ⟨φ, h1, h2, h3, h4⟩ := h
  obtain ⟨a, ta, pa⟩ := (qsF_in hs).mp (ptQ_mem hi)
  obtain ⟨b, tb, pb⟩ := (qsF_in hs).mp (ptQ_mem hj)
  have hiff := isd_iff hs hoff hi hj pa pb ta tb
  have hstep : ∀ a2 b2, prcd s i (j + 1) a2 b2 → prcd s i j a2 b2 ∨ (a2 = a ∧ b2 = b) := by
    rintro a2 b2 ⟨i2, j2, z1, z2, z3, z4, z5⟩
    by_cases e : i2 = i ∧ j2 = j
    · obtain ⟨rfl, rfl⟩ := e
      exact Or.inr ⟨ptP_inj (z4.symm.trans pa), ptP_inj (z5.symm.trans pb)⟩
    · exact Or.inl ⟨i2, j2, by omega, z2, z3, z4, z5⟩
  have hold : ∀ a2 b2, prcd s i j a2 b2 → prcd s i (j + 1) a2 b2 := by
    rintro a2 b2 ⟨i2, j2, z1, z2⟩
    exact ⟨i2, j2, by omega, z2⟩
  have hnew : ¬ prcd s i j a b := by
    rintro ⟨i2, j2, z1, z2, z3, z4, z5⟩
    have e1 := ptQ_inj (qsF_nodup s 25) z2 hi (z4.trans pa.symm)
    have e2 := ptQ_inj (qsF_nodup s 25) z3 hj (z5.trans pb.symm)
    omega
  by_cases hd : isdQ (qsF s 25) i j = true
  · rw [if_pos hd]
    have hside := hiff.mp hd
    have hab := (hside_of.mp hside).1
    have ha21 : a < 21 := by have := hs a ta; omega
    have hb21 : b < 21 := by have := hs b tb; omega
    have hφ : φ (kyO a b) = φ0 (kyO a b) := by
      refine h4 _ fun a2 b2 g1 g2 e => ?_
      rcases kyO_eq e with ⟨rfl, rfl⟩ | ⟨rfl, rfl⟩
      · exact hnew g2
      · exact hside_one hs hoff g1 hside
    refine ⟨_, by rw [h1, pa, pb]; exact sdStep_at h2 ha21 hb21 hab c, kyd_put h2 (kyd_upd h2 a b c), ?_, ?_⟩
    · intro a2 b2 g1 g2
      by_cases e : kyO a2 b2 = kyO a b
      · rcases kyO_eq e with ⟨rfl, rfl⟩ | ⟨rfl, rfl⟩
        · show (if kyO a2 b2 = kyO a2 b2 then _ else _) = _
          rw [if_pos rfl, hφ]
        · exact absurd hside (fun z => hside_one hs hoff z g1)
      · show (if kyO a2 b2 = kyO a b then _ else _) = _
        rw [if_neg e]
        rcases hstep a2 b2 g2 with z | ⟨rfl, rfl⟩
        · exact h3 a2 b2 g1 z
        · exact absurd rfl e
    · intro k hk
      have hne : k ≠ kyO a b := fun e => hk a b hside ⟨i, j, Or.inr ⟨rfl, by omega⟩, hi, hj, pa, pb⟩ e.symm
      show (if k = kyO a b then _ else _) = _
      rw [if_neg hne]
      exact h4 k fun a2 b2 g1 g2 => hk a2 b2 g1 (hold a2 b2 g2)
  · rw [if_neg hd]
    refine ⟨φ, h1, h2, ?_, ?_⟩
    · intro a2 b2 g1 g2
      rcases hstep a2 b2 g2 with z | ⟨rfl, rfl⟩
      · exact h3 a2 b2 g1 z
      · exact absurd (hiff.mpr g1) hd
    · intro k hk
      exact h4 k fun a2 b2 g1 g2 => hk a2 b2 g1 (hold a2 b2 g2)
theorem cInv_J {s : Nat} {φ0 : Nat × Nat → Option (Nat → Int)} {c : Int} {i : Nat} {R : List (Nat → Int)} (hs : plS s) (hoff : ∀ a b, a ≠ b → ∃ k, s.testBit k = true ∧ turn a b k ≠ 0) (hi : i < (qsF s 25).length) (h : cInv s φ0 c i 0 R) : ∀ j, j ≤ (qsF s 25).length → cInv s φ0 c i j (sdJ (qsF s 25) c i R j)
  | 0, _ => h
  | j + 1, hj => by
    have := cInv_step hs hoff hi (show j < (qsF s 25).length by omega) (cInv_J hs hoff hi h j (by omega))
    exact this
theorem cInv_I {s : Nat} {φ0 : Nat × Nat → Option (Nat → Int)} {c : Int} (hs : plS s) (hoff : ∀ a b, a ≠ b → ∃ k, s.testBit k = true ∧ turn a b k ≠ 0) (hk : kyd φ0) : ∀ i, i ≤ (qsF s 25).length → cInv s φ0 c i 0 (sdI (qsF s 25) c (asL φ0) i)
  | 0, _ => by
    have hn : ∀ a b, ¬ prcd s 0 0 a b := by
      rintro a b ⟨i2, j2, z1, -⟩
      omega
    exact ⟨φ0, rfl, hk, fun a b _ z => absurd z (hn a b), fun k _ => rfl⟩
  | i + 1, hi => by
    have h1 := cInv_I (c := c) hs hoff hk i (by omega)
    have h2 := cInv_J hs hoff (show i < (qsF s 25).length by omega) h1 _ (Nat.le_refl _)
    have e : sdI (qsF s 25) c (asL φ0) (i + 1) = sdJ (qsF s 25) c i (sdI (qsF s 25) c (asL φ0) i) (qsF s 25).length := rfl
    rw [e]
    obtain ⟨φ, g1, g2, g3, g4⟩ := h2
    have hpr : ∀ a b, prcd s (i + 1) 0 a b ↔ prcd s i (qsF s 25).length a b := by
      intro a b
      constructor
      · rintro ⟨i2, j2, z1, z2, z3, z4⟩
        exact ⟨i2, j2, by omega, z2, z3, z4⟩
      · rintro ⟨i2, j2, z1, z2, z3, z4⟩
        exact ⟨i2, j2, by omega, z2, z3, z4⟩
    exact ⟨φ, g1, g2, fun a b z1 z2 => g3 a b z1 ((hpr a b).mp z2), fun k z => g4 k fun a b z1 z2 => z a b z1 ((hpr a b).mpr z2)⟩
/-- a whole cell -/
theorem cell_rows {s : Nat} {φ0 : Nat × Nat → Option (Nat → Int)} (c : Int) (hs : plS s) (hoff : ∀ a b, a ≠ b → ∃ k, s.testBit k = true ∧ turn a b k ≠ 0) (hk : kyd φ0) : sdI (qsF s 25) c (asL φ0) (qsF s 25).length = asL (fun k => if hside s k.1 k.2 = true then some (updE (φ0 k) k.1 k.2 c) else if hside s k.2 k.1 = true then some (updE (φ0 k) k.2 k.1 c) else φ0 k) := by
  obtain ⟨φ, h1, h2, h3, h4⟩ := cInv_I (c := c) hs hoff hk _ (Nat.le_refl _)
  rw [h1]
  have hall : ∀ a b, hside s a b = true → prcd s (qsF s 25).length 0 a b := by
    intro a b h
    obtain ⟨⟨a1, a2⟩, b1, b2⟩ := hside_lt hs h
    obtain ⟨i, i1, i2⟩ := ptQ_of ((qsF_in hs).mpr ⟨a, a2, rfl⟩)
    obtain ⟨j, j1, j2⟩ := ptQ_of ((qsF_in hs).mpr ⟨b, b2, rfl⟩)
    exact ⟨i, j, Or.inl i1, i1, j1, i2, j2⟩
  refine fm_congr prs fun k hkp => ?_
  have hlt := prs_of k hkp
  have e1 : kyO k.1 k.2 = k := by unfold kyO; rw [if_pos hlt.1]
  have e2 : kyO k.2 k.1 = k := by unfold kyO; rw [if_neg (by omega)]
  by_cases a : hside s k.1 k.2 = true
  · rw [if_pos a]
    have := h3 k.1 k.2 a (hall _ _ a)
    rw [e1] at this
    exact this
  · rw [if_neg a]
    by_cases b : hside s k.2 k.1 = true
    · rw [if_pos b]
      have := h3 k.2 k.1 b (hall _ _ b)
      rw [e2] at this
      exact this
    · rw [if_neg b]
      refine h4 k fun x y g1 _ e => ?_
      have : kyO x y = kyO k.1 k.2 := by rw [e, e1]
      rcases kyO_eq this with ⟨rfl, rfl⟩ | ⟨rfl, rfl⟩
      · exact a g1
      · exact b g1
