/-! ===== the class's edges in their order ===== -/
def cnd (f : Cv) (C : List Pt) (k : Nat × Nat) : Bool := hasF f k.1 && (hasF f k.2 && isE f C k.1 k.2)
def stpF (f : Cv) (C : List Pt) (L : List (Nat × Nat)) (k : Nat × Nat) : List (Nat × Nat) := if cnd f C k = true ∧ L.length < 30 then L ++ [k] else L
def rwP (p n : Nat) : List (Nat × Nat) := ((List.range n).filter fun q => decide (p < q)).map fun q => (p, q)
theorem rwP_succ (p n : Nat) : rwP p (n + 1) = rwP p n ++ (if p < n then [(p, n)] else []) := by
  unfold rwP
  rw [List.range_succ, List.filter_append, List.map_append]
  by_cases h : p < n
  · rw [if_pos h]
    simp [h]
  · rw [if_neg h]
    simp [h]
theorem elB_fold (f : Cv) (C : List Pt) (p : Nat) (L : List (Nat × Nat)) : ∀ n, elB f C p L n = (rwP p n).foldl (stpF f C) L
  | 0 => rfl
  | n + 1 => by
    rw [rwP_succ, List.foldl_append, ← elB_fold f C p L n]
    have e : elB f C p L (n + 1) = if p < n ∧ hasF f p = true ∧ hasF f n = true ∧ (elB f C p L n).length < 30 ∧ isE f C p n = true then elB f C p L n ++ [(p, n)] else elB f C p L n := rfl
    rw [e]
    generalize elB f C p L n = K
    by_cases h : p < n
    · rw [if_pos h]
      show _ = stpF f C K (p, n)
      unfold stpF cnd
      dsimp only
      by_cases h2 : (hasF f p && (hasF f n && isE f C p n)) = true ∧ K.length < 30
      · rw [if_pos h2]
        rw [Bool.and_eq_true, Bool.and_eq_true] at h2
        rw [if_pos ⟨h, h2.1.1, h2.1.2.1, h2.2, h2.1.2.2⟩]
      · rw [if_neg h2, if_neg]
        rintro ⟨-, z1, z2, z3, z4⟩
        exact h2 ⟨by rw [z1, z2, z4]; rfl, z3⟩
    · rw [if_neg h, if_neg (fun z => h z.1)]
      rfl
theorem elA_fold (f : Cv) (C : List Pt) : ∀ n, elA f C n = ((List.range n).flatMap fun p => rwP p 21).foldl (stpF f C) []
  | 0 => rfl
  | n + 1 => by
    rw [List.range_succ, List.flatMap_append, List.foldl_append, ← elA_fold f C n]
    have e : elA f C (n + 1) = elB f C n (elA f C n) 21 := rfl
    rw [e, elB_fold]
    simp
theorem fold_cap (f : Cv) (C : List Pt) : ∀ (l L0 : List (Nat × Nat)), L0.length ≤ 30 → l.foldl (stpF f C) L0 = (L0 ++ l.filter (cnd f C)).take 30
  | [], L0, h => by
    show L0 = (L0 ++ []).take 30
    rw [List.append_nil, List.take_of_length_le h]
  | k :: l, L0, h => by
    show l.foldl (stpF f C) (stpF f C L0 k) = _
    have e : stpF f C L0 k = if cnd f C k = true ∧ L0.length < 30 then L0 ++ [k] else L0 := rfl
    rw [e]
    by_cases c : cnd f C k = true
    · rw [List.filter_cons_of_pos c]
      by_cases hl : L0.length < 30
      · rw [if_pos ⟨c, hl⟩]
        have := fold_cap f C l (L0 ++ [k]) (by rw [List.length_append]; show L0.length + 1 ≤ 30; omega)
        rw [List.append_assoc] at this
        exact this
      · rw [if_neg (fun z => hl z.2), fold_cap f C l L0 h]
        have hl : L0.length = 30 := by omega
        rw [← hl, take_mid, take_mid]
    · rw [List.filter_cons_of_neg c, if_neg (fun z => c z.1)]
      exact fold_cap f C l L0 h
theorem edL_eq {f : Cv} (h : (prs.filter (cnd f (cornF f))).length ≤ 30) : edL f = prs.filter (cnd f (cornF f)) := by
  unfold edL
  rw [elA_fold]
  have e : ((List.range 21).flatMap fun p => rwP p 21) = prs := rfl
  rw [e, fold_cap _ _ _ _ (Nat.zero_le _)]
  show (prs.filter (cnd f (cornF f))).take 30 = _
  rw [List.take_of_length_le h]
theorem fm_filter {φ : Nat × Nat → Option (Nat → Int)} {c : Nat × Nat → Bool} {g : Nat × Nat → Nat → Int} : ∀ (l : List (Nat × Nat)), (∀ k ∈ l, φ k = if c k = true then some (g k) else none) → l.filterMap φ = (l.filter c).map g
  | [], _ => rfl
  | k :: l, h => by
    have ih := fm_filter l (fun x hx => h x (List.mem_cons_of_mem _ hx))
    rw [List.filterMap_cons, h k List.mem_cons_self]
    by_cases z : c k = true
    · rw [if_pos z, List.filter_cons_of_pos z, List.map_cons, ih]
    · rw [if_neg z, List.filter_cons_of_neg z, ih]
/-- a row with an end has its terms -/
theorem rowN_end4 {f : Cv} {p q : Nat} (hf : Cok 999 f) (h : rowN f (cornF f) p q (cornF f).length 4 ≠ -1000000) : ∃ X Y, isCo f X Y ∧ (hside (ledW f X Y) p q = true ∨ hside (ledW f X Y) q p = true) := by
  obtain ⟨-, hJ⟩ := rowN_J f (cornF f) p q (cornF f).length
  rcases hJ with ⟨z, -⟩ | ⟨k0, b, k1, -, hsd, -⟩
  · exact absurd z h
  · have hget : (cornF f)[k0]? = some ((cornF f)[k0]'k1) := List.getElem?_eq_getElem k1
    obtain ⟨hco, hce⟩ := corn_at hf hget
    rw [hce] at hsd
    rcases sdE_some hsd with ⟨-, z⟩ | ⟨-, z⟩
    · exact ⟨_, _, hco, Or.inl z⟩
    · exact ⟨_, _, hco, Or.inr z⟩
/-- and a side of a vertex is such a row -/
theorem rowN_no4 {f : Cv} {C : List Pt} {p q : Nat} : ∀ n, rowN f C p q n 4 = -1000000 → ∀ k, k < n → sdE (cellAt C k) p q = none
  | 0, _, k, hk => absurd hk (Nat.not_lt_zero k)
  | n + 1, h, k, hk => by
    have hr : rowN f C p q (n + 1) = match sdE (cellAt C n) p q with
      | some b => enR (rowN f C p q n) n b
      | none => rowN f C p q n := rfl
    rw [hr] at h
    cases hsd : sdE (cellAt C n) p q with
    | none =>
      rw [hsd] at h
      by_cases e : k = n
      · rw [e]; exact hsd
      · exact rowN_no4 n h k (by omega)
    | some b =>
      rw [hsd] at h
      exfalso
      have h : enR (rowN f C p q n) n b 4 = -1000000 := h
      unfold enR at h
      split at h
      · split at h
        · have h : (n : Int) = -1000000 := h
          omega
        · have h : (n : Int) = -1000000 := h
          omega
      · next z => exact z h
theorem side_row {f : Cv} {X Y : Int} {p q : Nat} (hf : Cok 999 f) (hc : isCo f X Y) (h : hside (ledW f X Y) p q = true ∨ hside (ledW f X Y) q p = true) : rowN f (cornF f) p q (cornF f).length 4 ≠ -1000000 := by
  intro z
  obtain ⟨R, r1, r2, r3⟩ := (corn_iff hf).mp hc
  obtain ⟨k, hk⟩ := List.getElem?_of_mem r1
  have hkl := (List.getElem?_eq_some_iff.mp hk).1
  have := rowN_no4 _ z k hkl
  rw [(corn_at hf hk).2, r2, r3] at this
  unfold sdE at this
  rcases h with h | h
  · rw [if_pos h] at this
    cases this
  · by_cases y : hside (ledW f X Y) p q = true
    · rw [if_pos y] at this
      cases this
    · rw [if_neg y, if_pos h] at this
      cases this
theorem side_has {f : Cv} {X Y : Int} {p q : Nat} (hf : Cok 999 f) (h : hside (ledW f X Y) p q = true ∨ hside (ledW f X Y) q p = true) : (LdP f X Y p ∧ LdP f X Y q) := by
  rcases h with h | h
  · obtain ⟨-, h2, h3, -⟩ := hside_of.mp h
    exact ⟨(led_iff hf).mp h2, (led_iff hf).mp h3⟩
  · obtain ⟨-, h2, h3, -⟩ := hside_of.mp h
    exact ⟨(led_iff hf).mp h3, (led_iff hf).mp h2⟩
theorem cnd_corn {f : Cv} (hf : Cok 999 f) (hC : (cornF f).length ≠ 0) (k : Nat × Nat) : cnd f (cornF f) k = true ↔ rowN f (cornF f) k.1 k.2 (cornF f).length 4 ≠ -1000000 := by
  unfold cnd isE
  rw [decide_eq_false hC, Bool.false_and, Bool.or_false, Bool.and_eq_true, Bool.and_eq_true, Bool.not_eq_true', decide_eq_false_iff_not]
  constructor
  · exact fun z => z.2.2
  · intro z
    obtain ⟨X, Y, h1, h2⟩ := rowN_end4 hf z
    have := side_has hf h2
    exact ⟨this.1.1, this.2.1, z⟩
/-! ===== half points: at most thirty edges ===== -/
def hp30 : List (Int × Int) := (List.range 81).filterMap fun k => if k / 9 + k % 9 ≤ 8 ∧ ¬ (k / 9 % 2 = 0 ∧ k % 9 % 2 = 0) then some (((k / 9 : Nat) : Int), ((k % 9 : Nat) : Int)) else none
def hfp (p q : Nat) : Int × Int := (2 * pi p + (pi q - pi p).tdiv (lnG p q : Int), 2 * pj p + (pj q - pj p).tdiv (lnG p q : Int))
theorem hp30L : (placesL.all fun p => placesL.all fun q => decide (p = q) || (List.range 30).any fun i => decide ((hp30[i]?).getD (0, 0) = hfp p q)) = true := by decide +kernel
theorem hfpW : ∀ p ∈ placesL, ∀ q ∈ placesL, p = q ∨ ((12 : Int).tdiv (lnG p q : Int) * (lnG p q : Int) = 12 ∧ (lnG p q : Int) * (pi q - pi p).tdiv (lnG p q : Int) = pi q - pi p ∧ (lnG p q : Int) * (pj q - pj p).tdiv (lnG p q : Int) = pj q - pj p ∧ (1 ≤ (lnG p q : Int) ∧ (lnG p q : Int) ≤ 4)) := by decide +kernel
def hfR (p q : Nat) : List (Nat × Int) := [(p, 24 - (12 : Int).tdiv (lnG p q : Int)), (q, (12 : Int).tdiv (lnG p q : Int))]
theorem hfR_sum {p q : Nat} (hp : p ∈ placesL) (hq : q ∈ placesL) (h : p ≠ q) : (rW (hfR p q) = 24 ∧ rX (hfR p q) = 12 * (hfp p q).1 ∧ rY (hfR p q) = 12 * (hfp p q).2) ∧ 0 < (12 : Int).tdiv (lnG p q : Int) ∧ (12 : Int).tdiv (lnG p q : Int) < 24 := by
  obtain ⟨h1, h2, h3, h4, h5⟩ := (hfpW p hp q hq).resolve_left h
  unfold hfR hfp
  simp only [rW, rX, rY]
  generalize (pi q - pi p).tdiv (lnG p q : Int) = x at *
  generalize (pj q - pj p).tdiv (lnG p q : Int) = y at *
  generalize (12 : Int).tdiv (lnG p q : Int) = w at *
  generalize (lnG p q : Int) = g at *
  have hw : 0 < w := by
    rcases Int.lt_or_le 0 w with z | z
    · exact z
    · have := i_pn0 z (show 0 ≤ g by omega)
      omega
  have hw2 : w < 24 := by
    rcases Int.lt_or_le w 24 with z | z
    · exact z
    · have := Int.mul_le_mul_of_nonneg_right z (show 0 ≤ g by omega)
      omega
  have ex : w * (pi q - pi p) = 12 * x := by
    rw [← h2, ← Int.mul_assoc, h1]
  have ey : w * (pj q - pj p) = 12 * y := by
    rw [← h3, ← Int.mul_assoc, h1]
  refine ⟨⟨by omega, ?_, ?_⟩, hw, hw2⟩
  · grind
  · grind
theorem edge_inj {f : Cv} {X Y X2 Y2 : Int} {p q p2 q2 : Nat} (hf : Cok 999 f) (h : hside (ledW f X Y) p q = true ∨ hside (ledW f X Y) q p = true) (h2 : hside (ledW f X2 Y2) p2 q2 = true ∨ hside (ledW f X2 Y2) q2 p2 = true) (pq : p < q) (pq2 : p2 < q2) (he : hfp p q = hfp p2 q2) : p ≤ p2 ∧ q2 ≤ q := by
  obtain ⟨l1, l2⟩ := side_has hf h
  obtain ⟨m1, m2⟩ := side_has hf h2
  have pl1 := hasF_pl hf l1.1
  have pl2 := hasF_pl hf l2.1
  have pl3 := hasF_pl hf m1.1
  have pl4 := hasF_pl hf m2.1
  obtain ⟨⟨s1, s2, s3⟩, s4, s5⟩ := hfR_sum pl1 pl2 (show p ≠ q by omega)
  obtain ⟨⟨t1, t2, t3⟩, t4, t5⟩ := hfR_sum pl3 pl4 (show p2 ≠ q2 by omega)
  have hr := (rep_opt (f := f) (g := f) (X := X) (Y := Y) (X2 := X2) (Y2 := Y2) (F := vl f p X Y) (G := vl f p X Y) (F2 := vl f p2 X2 Y2) (G2 := vl f p2 X2 Y2) (u := hfR p q) (u2 := hfR p2 q2) (v := []) (v2 := []) (fun k hk => l1.2 k hk) (fun k hk => l1.2 k hk) (fun k hk => m1.2 k hk) (fun k hk => m1.2 k hk) (fun a ha => by
    unfold hfR at ha
    simp only [List.mem_cons, List.not_mem_nil, or_false] at ha
    rcases ha with rfl | rfl
    · exact ⟨by show 0 < 24 - (12 : Int).tdiv (lnG p q : Int); omega, l1.1, rfl⟩
    · exact ⟨s4, l2.1, (LdP_eq l1 l2).symm⟩) (fun a ha => by cases ha) (fun a ha => by
    unfold hfR at ha
    simp only [List.mem_cons, List.not_mem_nil, or_false] at ha
    rcases ha with rfl | rfl
    · exact ⟨by show 0 < 24 - (12 : Int).tdiv (lnG p2 q2 : Int); omega, m1.1, rfl⟩
    · exact ⟨t4, m2.1, (LdP_eq m1 m2).symm⟩) (fun a ha => by cases ha) (s1.trans t1.symm) rfl (by rw [s2, t2, he]) (by rw [s3, t3, he])).1
  have e1 : vl f p2 X Y = vl f p X Y := hr (p2, _) List.mem_cons_self
  have e2 : vl f q2 X Y = vl f p X Y := hr (q2, _) (List.mem_cons_of_mem _ List.mem_cons_self)
  have n1 : LdP f X Y p2 := ⟨m1.1, fun j hj => by rw [e1]; exact l1.2 j hj⟩
  have n2 : LdP f X Y q2 := ⟨m2.1, fun j hj => by rw [e2]; exact l1.2 j hj⟩
  have b1 := (led_iff hf).mpr n1
  have b2 := (led_iff hf).mpr n2
  have c1 := (hf p2 _ (hasF_cv m1.1)).1
  have c2 := (hf q2 _ (hasF_cv m2.1)).1
  -- the two lie on the line
  have hlin : (24 - (12 : Int).tdiv (lnG p2 q2 : Int)) * turn p q p2 + (12 : Int).tdiv (lnG p2 q2 : Int) * turn p q q2 = 0 := by
    have x1 : rX (hfR p2 q2) = rX (hfR p q) := by rw [s2, t2, he]
    have x2 : rY (hfR p2 q2) = rY (hfR p q) := by rw [s3, t3, he]
    unfold hfR at x1 x2
    simp only [rX, rY] at x1 x2
    generalize (12 : Int).tdiv (lnG p2 q2 : Int) = w2 at *
    generalize (12 : Int).tdiv (lnG p q : Int) = w at *
    unfold turn
    clear hr he s1 s2 s3 t1 t2 t3 h h2
    grind
  have hz : turn p q p2 = 0 ∧ turn p q q2 = 0 := by
    have hs : (0 ≤ turn p q p2 ∧ 0 ≤ turn p q q2) ∨ (turn p q p2 ≤ 0 ∧ turn p q q2 ≤ 0) := by
      rcases h with h | h
      · obtain ⟨-, -, -, h4⟩ := hside_of.mp h
        have := h4 p2 c1 b1
        have := h4 q2 c2 b2
        omega
      · obtain ⟨-, -, -, h4⟩ := hside_of.mp h
        have := h4 p2 c1 b1
        have := h4 q2 c2 b2
        have := turn_rev p q p2
        have := turn_rev p q q2
        omega
    generalize turn p q p2 = a at *
    generalize turn p q q2 = b at *
    generalize (12 : Int).tdiv (lnG p2 q2 : Int) = w2 at *
    rcases hs with ⟨z1, z2⟩ | ⟨z1, z2⟩
    · have y1 := Int.mul_nonneg (show 0 ≤ 24 - w2 by omega) z1
      have y2 := Int.mul_nonneg (show 0 ≤ w2 by omega) z2
      have y3 : (24 - w2) * a = 0 := by omega
      have y4 : w2 * b = 0 := by omega
      exact ⟨(Int.mul_eq_zero.mp y3).resolve_left (by omega), (Int.mul_eq_zero.mp y4).resolve_left (by omega)⟩
    · have y1 := i_np (show 0 ≤ 24 - w2 by omega) z1
      have y2 := i_np (show 0 ≤ w2 by omega) z2
      have y3 : (24 - w2) * a = 0 := by omega
      have y4 : w2 * b = 0 := by omega
      exact ⟨(Int.mul_eq_zero.mp y3).resolve_left (by omega), (Int.mul_eq_zero.mp y4).resolve_left (by omega)⟩
  rcases h with h | h
  · obtain ⟨-, -, -, h4⟩ := hside_of.mp h
    have := h4 p2 c1 b1
    have := h4 q2 c2 b2
    omega
  · obtain ⟨-, -, -, h4⟩ := hside_of.mp h
    have := h4 p2 c1 b1
    have := h4 q2 c2 b2
    have := turn_rev p q p2
    have := turn_rev p q q2
    omega
theorem filter_pair (c : Nat × Nat → Bool) : (prs.filter c).Pairwise (fun a b => a ≠ b) := by
  refine List.Pairwise.imp ?_ (List.Pairwise.filter c prs_srt)
  rintro a b h rfl
  omega
theorem edges_30 {f : Cv} (hf : Cok 999 f) (hC : (cornF f).length ≠ 0) : (prs.filter (cnd f (cornF f))).length ≤ 30 := by
  refine pigeon (fun (k : Nat × Nat) i => cnd f (cornF f) k = true ∧ k.1 < k.2 ∧ (hp30[i]?).getD (0, 0) = hfp k.1 k.2) 30 _ (fun k hk => ?_) ?_
  · obtain ⟨h1, h2⟩ := List.mem_filter.mp hk
    have hlt := prs_of k h1
    obtain ⟨X, Y, -, h4⟩ := rowN_end4 hf ((cnd_corn hf hC k).mp h2)
    have hh := side_has hf h4
    have ha := List.all_eq_true.mp (List.all_eq_true.mp hp30L k.1 (hasF_pl hf hh.1.1)) k.2 (hasF_pl hf hh.2.1)
    rw [decide_eq_false (show ¬ k.1 = k.2 by omega), Bool.false_or, List.any_eq_true] at ha
    obtain ⟨i, i1, i2⟩ := ha
    exact ⟨i, List.mem_range.mp i1, h2, hlt.1, of_decide_eq_true i2⟩
  · refine List.Pairwise.imp ?_ (filter_pair _)
    rintro a b hne i ⟨a1, a2, a3⟩ ⟨b1, b2, b3⟩
    obtain ⟨X, Y, -, h4⟩ := rowN_end4 hf ((cnd_corn hf hC a).mp a1)
    obtain ⟨X2, Y2, -, h5⟩ := rowN_end4 hf ((cnd_corn hf hC b).mp b1)
    have e := a3.symm.trans b3
    have u1 := edge_inj hf h4 h5 a2 b2 e
    have u2 := edge_inj hf h5 h4 b2 a2 e.symm
    exact hne (Prod.ext (by omega) (by omega))
