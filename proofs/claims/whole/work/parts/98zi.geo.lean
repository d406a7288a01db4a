/-! ===== the lengths are what they should be ===== -/
theorem corn_mark {f : Cv} : ∀ P ∈ cornF f, P.2.2 = (ledW f P.1 P.2.1 : Int) :=
  cornA_all (F := fun P => P.2.2 = (ledW f P.1 P.2.1 : Int)) (fun _ _ _ _ => rfl) 21
theorem corn_at {f : Cv} {B : Int} (hf : Cok B f) {k : Nat} {P : Pt} (h : (cornF f)[k]? = some P) : isCo f P.1 P.2.1 ∧ cellAt (cornF f) k = ledW f P.1 P.2.1 := by
  have hm := List.mem_of_getElem? h
  refine ⟨(corn_iff hf).mpr ⟨P, hm, rfl, rfl⟩, ?_⟩
  rw [cellAt_eq h, corn_mark P hm]
  rfl
theorem corn_ne {f : Cv} {B : Int} (hf : Cok B f) {j k : Nat} {P Q : Pt} (h : (cornF f)[j]? = some P) (h2 : (cornF f)[k]? = some Q) (hjk : j < k) : ¬ (P.1 = Q.1 ∧ P.2.1 = Q.2.1) := by
  obtain ⟨j1, j2⟩ := List.getElem?_eq_some_iff.mp h
  obtain ⟨k1, k2⟩ := List.getElem?_eq_some_iff.mp h2
  have hs := List.pairwise_iff_getElem.mp (cornA_good hf (N := 21) 21).1.1 j k j1 k1 hjk
  have hs : ptLt ((cornF f)[j]) ((cornF f)[k]) := hs
  rw [j2, k2] at hs
  unfold ptLt at hs
  omega
theorem co_coord {f : Cv} {X Y : Int} (hf : Cok 999 f) (h : isCo f X Y) : ∃ d m n : Int, (1 ≤ d ∧ d ≤ 16) ∧ (X * d = 720720 * m ∧ Y * d = 720720 * n) ∧ (-16000 ≤ m ∧ m ≤ 16000) ∧ -16000 ≤ n ∧ n ≤ 16000 := by
  obtain ⟨p, q, r, h0, h1, h2, h3⟩ := h
  have ht := turn_L hf h1.1 h2.1 h3.1
  have ce := cr_eq (f := f) ht h0
  have e := tri_point h0 (LdP_eq h1 h2) (LdP_eq h1 h3) ce.1 ce.2
  have hw := turnW ht h0
  have hp := (hf p _ (hasF_cv h1.1))
  have hq := (hf q _ (hasF_cv h2.1))
  have hr := (hf r _ (hasF_cv h3.1))
  have d1 := pl_diff hp.2.1 hq.2.1
  have d2 := pl_diff hp.2.1 hr.2.1
  have c1 := cv_le hf p
  have c2 := cv_le hf q
  have c3 := cv_le hf r
  rw [e.1, e.2]
  unfold crX crY
  generalize (720720 : Int).tdiv (turn p q r) = t at *
  have b1 := mul_le (d := cv f p - cv f q) (c := pj r - pj p) (A := 1998) (B := 4) (by omega) (by omega)
  have b2 := mul_le (d := cv f p - cv f r) (c := pj q - pj p) (A := 1998) (B := 4) (by omega) (by omega)
  have b3 := mul_le (d := cv f p - cv f r) (c := pi q - pi p) (A := 1998) (B := 4) (by omega) (by omega)
  have b4 := mul_le (d := cv f p - cv f q) (c := pi r - pi p) (A := 1998) (B := 4) (by omega) (by omega)
  have bx : -16000 ≤ (cv f p - cv f q) * (pj r - pj p) - (cv f p - cv f r) * (pj q - pj p) ∧ (cv f p - cv f q) * (pj r - pj p) - (cv f p - cv f r) * (pj q - pj p) ≤ 16000 := by omega
  generalize (cv f p - cv f q) * (pj r - pj p) - (cv f p - cv f r) * (pj q - pj p) = x at *
  by_cases hn : 0 < turn p q r
  · refine ⟨turn p q r, x, (cv f p - cv f r) * (pi q - pi p) - (cv f p - cv f q) * (pi r - pi p), by omega, ⟨?_, ?_⟩, by omega, by omega⟩
    · rw [Int.mul_assoc, hw, Int.mul_comm]
    · rw [Int.mul_assoc, hw, Int.mul_comm]
  · refine ⟨-turn p q r, -x, -((cv f p - cv f r) * (pi q - pi p) - (cv f p - cv f q) * (pi r - pi p)), by omega, ⟨?_, ?_⟩, by omega, by omega⟩
    · rw [Int.mul_neg, Int.mul_assoc, hw, Int.mul_comm, Int.mul_neg]
    · rw [Int.mul_neg, Int.mul_assoc, hw, Int.mul_comm, Int.mul_neg]
theorem numP_bound {len K N B : Int} (h0 : 0 < len) (h : len * K = 720720 * N) (hK : K ≠ 0) (hN : -B ≤ N ∧ N ≤ B) : numP len ≤ B := by
  have hm := numP_mul len
  have hg := gcdP_pos len
  have h2 : len.natAbs * K.natAbs = 720720 * N.natAbs := by
    have := congrArg Int.natAbs h
    rw [Int.natAbs_mul, Int.natAbs_mul] at this
    exact this
  have hN0 : N.natAbs ≠ 0 := by
    intro z
    rw [z, Nat.mul_zero] at h2
    rcases Nat.mul_eq_zero.mp h2 with y | y
    · omega
    · omega
  have d1 : len.natAbs ∣ 720720 * N.natAbs := ⟨K.natAbs, h2.symm⟩
  have d2 : len.natAbs ∣ len.natAbs * N.natAbs := Nat.dvd_mul_right _ _
  have d3 := Nat.dvd_gcd d2 d1
  rw [Nat.gcd_mul_right] at d3
  have d4 := Nat.le_of_dvd (Nat.mul_pos (Nat.gcd_pos_of_pos_right _ (by decide)) (by omega)) d3
  have e1 : (Int.gcd len 720720 : Int) = ((Nat.gcd len.natAbs 720720 : Nat) : Int) := rfl
  rw [e1] at hm hg
  generalize Nat.gcd len.natAbs 720720 = g at *
  have h4 : (len : Int) ≤ (N.natAbs : Int) * (g : Int) := by
    have : (len.natAbs : Int) ≤ ((g * N.natAbs : Nat) : Int) := Int.ofNat_le.mpr d4
    rw [Int.natCast_mul, Int.mul_comm] at this
    omega
  rw [← hm] at h4
  have h5 := Int.le_of_mul_le_mul_right h4 hg
  omega
theorem lineL : ∀ a ∈ ints9, ∀ b ∈ ints9, (a = 0 ∧ b = 0) ∨ ((∃ x ∈ ints9, ∃ y ∈ ints9, x * lineU a b + y * lineV a b = 1) ∧ a * lineU a b + b * lineV a b = 0 ∧ a * lineV a b - b * lineU a b ≠ 0) := by decide +kernel
def rowJ (C : List Pt) (p q : Nat) (k : Nat) (e : Nat → Int) : Prop := (e 0 = (p : Int) ∧ e 1 = (q : Int)) ∧ ((e 4 = -1000000 ∧ e 5 = -1000000 ∧ e 6 = lineU (pi q - pi p) (pj q - pj p) ∧ e 7 = lineV (pi q - pi p) (pj q - pj p)) ∨ ∃ (k0 : Nat) (b : Bool), k0 < k ∧ e 4 = (k0 : Int) ∧ sdE (cellAt C k0) p q = some b ∧ ((decide (0 < (pi q - pi p) * lineV (pi q - pi p) (pj q - pj p) - (pj q - pj p) * lineU (pi q - pi p) (pj q - pj p)) = b ∧ e 6 = lineU (pi q - pi p) (pj q - pj p) ∧ e 7 = lineV (pi q - pi p) (pj q - pj p)) ∨ (decide (0 < (pi q - pi p) * lineV (pi q - pi p) (pj q - pj p) - (pj q - pj p) * lineU (pi q - pi p) (pj q - pj p)) ≠ b ∧ e 6 = -lineU (pi q - pi p) (pj q - pj p) ∧ e 7 = -lineV (pi q - pi p) (pj q - pj p))) ∧ (e 5 = -1000000 ∨ ∃ k1 : Nat, k0 < k1 ∧ k1 < k ∧ e 5 = (k1 : Int) ∧ sdE (cellAt C k1) p q ≠ none))
theorem rowN_J (f : Cv) (C : List Pt) (p q : Nat) : ∀ k, rowJ C p q k (rowN f C p q k)
  | 0 => ⟨⟨rfl, rfl⟩, Or.inl ⟨rfl, rfl, rfl, rfl⟩⟩
  | k + 1 => by
    have ih := rowN_J f C p q k
    have hr : rowN f C p q (k + 1) = match sdE (cellAt C k) p q with
      | some b => enR (rowN f C p q k) k b
      | none => rowN f C p q k := rfl
    rw [hr]
    generalize rowN f C p q k = e at *
    obtain ⟨⟨e0, e1⟩, ih⟩ := ih
    cases hsd : sdE (cellAt C k) p q with
    | none =>
      refine ⟨⟨e0, e1⟩, ?_⟩
      rcases ih with h | ⟨k0, b, h1, h2, h3, h4, h5⟩
      · exact Or.inl h
      · refine Or.inr ⟨k0, b, by omega, h2, h3, h4, ?_⟩
        rcases h5 with z | ⟨k1, z1, z2, z3⟩
        · exact Or.inl z
        · exact Or.inr ⟨k1, z1, by omega, z3⟩
    | some b =>
      show rowJ C p q (k + 1) (enR e k b)
      have hsi : edSI e = pi q - pi p := by unfold edSI; rw [e0, e1]; rfl
      have hsj : edSJ e = pj q - pj p := by unfold edSJ; rw [e0, e1]; rfl
      rcases ih with ⟨h4, h5, h6, h7⟩ | ⟨k0, b0, h1, h2, h3, h4, h5⟩
      · unfold enR
        rw [if_pos h4, hsi, hsj, h6, h7]
        by_cases qd : decide (0 < (pi q - pi p) * lineV (pi q - pi p) (pj q - pj p) - (pj q - pj p) * lineU (pi q - pi p) (pj q - pj p)) = b
        · rw [if_pos qd]
          exact ⟨⟨e0, e1⟩, Or.inr ⟨k, b, by omega, rfl, hsd, Or.inl ⟨qd, h6, h7⟩, Or.inl h5⟩⟩
        · rw [if_neg qd]
          exact ⟨⟨e0, e1⟩, Or.inr ⟨k, b, by omega, rfl, hsd, Or.inr ⟨qd, rfl, rfl⟩, Or.inl h5⟩⟩
      · unfold enR
        rw [if_neg (by omega)]
        exact ⟨⟨e0, e1⟩, Or.inr ⟨k0, b0, by omega, h2, h3, h4, Or.inr ⟨k, h1, by omega, rfl, by rw [hsd]; exact fun z => by cases z⟩⟩⟩
theorem flat3 {p q x y z : Nat} (hpq : p ≠ q) (h1 : turn p q x = 0) (h2 : turn p q y = 0) (h3 : turn p q z = 0) : turn x y z = 0 := by
  have hn := pl_ne hpq
  unfold turn at h1 h2 h3 ⊢
  generalize pi q - pi p = a at *
  generalize pj q - pj p = b at *
  have e1 : a * (pj y - pj x) - b * (pi y - pi x) = 0 := by grind
  have e2 : a * (pj z - pj x) - b * (pi z - pi x) = 0 := by grind
  have e3 : (pi y - pi x) * b - (pj y - pj x) * a = 0 := by grind
  have := par_tr e3 e2 hn
  exact this
theorem co_off {f : Cv} {X Y : Int} {p q : Nat} (hpq : p ≠ q) (h : isCo f X Y) : ∃ k, LdP f X Y k ∧ turn p q k ≠ 0 := by
  obtain ⟨x, y, z, h0, h1, h2, h3⟩ := h
  by_cases a : turn p q x = 0
  · by_cases b : turn p q y = 0
    · by_cases c : turn p q z = 0
      · exact absurd (flat3 hpq a b c) h0
      · exact ⟨z, h3, c⟩
    · exact ⟨y, h2, b⟩
  · exact ⟨x, h1, a⟩
theorem sdE_some {s p q : Nat} {b : Bool} (h : sdE s p q = some b) : (b = true ∧ hside s p q = true) ∨ (b = false ∧ hside s q p = true) := by
  unfold sdE at h
  split at h
  · next z => cases h; exact Or.inl ⟨rfl, z⟩
  · split at h
    · next z => cases h; exact Or.inr ⟨rfl, z⟩
    · cases h
/-- from one vertex of an edge to another point of it -/
theorem edge_dir {f : Cv} {B X Y X2 Y2 : Int} {p q : Nat} {b : Bool} (hf : Cok B f) (hpq : p ≠ q) (hc : isCo f X Y) (hb : sdE (ledW f X Y) p q = some b) (hp2 : LdP f X2 Y2 p) (hq2 : LdP f X2 Y2 q) (hne : ¬ (X = X2 ∧ Y = Y2)) : (pi q - pi p) * (X2 - X) + (pj q - pj p) * (Y2 - Y) = 0 ∧ (if b = true then 0 < (pi q - pi p) * (Y2 - Y) - (pj q - pj p) * (X2 - X) else (pi q - pi p) * (Y2 - Y) - (pj q - pj p) * (X2 - X) < 0) := by
  have hpl : LdP f X Y p ∧ LdP f X Y q ∧ ∃ k, LdP f X Y k ∧ (if b = true then 0 < turn p q k else turn p q k < 0) := by
    obtain ⟨k, hk, hk0⟩ := co_off hpq hc
    have hk21 := (hf k _ (hasF_cv hk.1)).1
    rcases sdE_some hb with ⟨rfl, h⟩ | ⟨rfl, h⟩
    · obtain ⟨-, h2, h3, h4⟩ := hside_of.mp h
      refine ⟨(led_iff hf).mp h2, (led_iff hf).mp h3, k, hk, ?_⟩
      rw [if_pos rfl]
      rcases h4 k hk21 ((led_iff hf).mpr hk) with z | z
      · exact z
      · exact absurd z.1 hk0
    · obtain ⟨-, h2, h3, h4⟩ := hside_of.mp h
      refine ⟨(led_iff hf).mp h3, (led_iff hf).mp h2, k, hk, ?_⟩
      rw [if_neg (by decide)]
      have e := turn_rev p q k
      rcases h4 k hk21 ((led_iff hf).mpr hk) with z | z
      · omega
      · omega
  obtain ⟨hp, hq, k, hk, hkt⟩ := hpl
  have e1 := LdP_eq hp hq
  have e2 := LdP_eq hp2 hq2
  have hD : (pi q - pi p) * (X2 - X) + (pj q - pj p) * (Y2 - Y) = 0 := by
    rw [← vl_diff f q p X Y X2 Y2]
    omega
  refine ⟨hD, ?_⟩
  have hkd := vl_diff f k p X Y X2 Y2
  have g1 := LdP_eq hp hk
  have g2 := hp2.2 k hk.1
  have hn := pl_ne hpq
  have hturn : turn p q k = (pi q - pi p) * (pj k - pj p) - (pj q - pj p) * (pi k - pi p) := rfl
  have hz : ¬ (X2 - X = 0 ∧ Y2 - Y = 0) := fun z => hne ⟨by omega, by omega⟩
  have hge : 0 ≤ (pi k - pi p) * (X2 - X) + (pj k - pj p) * (Y2 - Y) := by omega
  clear hkd g1 g2 e1 e2 hp hq hk hp2 hq2 hc hb hf
  generalize pi q - pi p = a at *
  generalize pj q - pj p = c at *
  generalize pi k - pi p = k1 at *
  generalize pj k - pj p = k2 at *
  generalize X2 - X = x at *
  generalize Y2 - Y = y at *
  have hid : (k1 * x + k2 * y) * (a * a + c * c) = (a * k2 - c * k1) * (a * y - c * x) + (a * k1 + c * k2) * (a * x + c * y) := by grind
  rw [hD, Int.mul_zero, Int.add_zero, ← hturn] at hid
  have hpos : 0 < a * a + c * c := by
    have s1 : 0 ≤ a * a := by
      rcases Int.lt_or_le a 0 with z | z
      · exact Int.le_of_lt (i_nn z z)
      · exact Int.mul_nonneg z z
    have s2 : 0 ≤ c * c := by
      rcases Int.lt_or_le c 0 with z | z
      · exact Int.le_of_lt (i_nn z z)
      · exact Int.mul_nonneg z z
    by_cases za : a * a = 0
    · by_cases zc : c * c = 0
      · have := (Int.mul_eq_zero.mp za)
        have := (Int.mul_eq_zero.mp zc)
        exact absurd ⟨by omega, by omega⟩ hn
      · omega
    · omega
  have hcr : a * y - c * x ≠ 0 := by
    intro z
    have := one_point (a := a) (b := c) (c := -c) (d := a) (x := x) (y := y) hD (by grind) (by
      have : a * a - c * -c = a * a + c * c := by grind
      omega)
    exact hz this
  have hl : 0 ≤ turn p q k * (a * y - c * x) := by
    rw [← hid]
    exact Int.mul_nonneg hge (Int.le_of_lt hpos)
  cases b with
  | true =>
    rw [if_pos rfl] at hkt ⊢
    rcases Int.lt_trichotomy (a * y - c * x) 0 with z | z | z
    · have := i_pn hkt z
      omega
    · exact absurd z hcr
    · exact z
  | false =>
    rw [if_neg (by decide)] at hkt ⊢
    rcases Int.lt_trichotomy (a * y - c * x) 0 with z | z | z
    · exact z
    · exact absurd z hcr
    · have := i_pn z hkt
      rw [Int.mul_comm] at this
      omega
theorem geo : GEO := by
  intro f hf p q hpq hp hq h5
  have hJ := rowN_J f (cornF f) p q (cornF f).length
  generalize rowN f (cornF f) p q (cornF f).length = e at *
  have fp := (hf p _ (hasF_cv hp))
  have fq := (hf q _ (hasF_cv hq))
  have dif := pl_diff fp.2.1 fq.2.1
  obtain ⟨⟨e0, e1⟩, hJ⟩ := hJ
  rcases hJ with ⟨-, z, -⟩ | ⟨k0, b, h1, h4, hsd, huv, hj5⟩
  · exact absurd z h5
  rcases hj5 with z | ⟨k1, k01, k1l, h5e, hsd1⟩
  · exact absurd z h5
  have c0 : (cornF f)[k0]? = some (ptAt (cornF f) (e 4)) := by
    have := ptAt_eq (C := cornF f) (k := e 4) (by omega) (by omega)
    rw [h4, Int.toNat_natCast] at this
    rw [h4]
    exact this
  have c1 : (cornF f)[k1]? = some (ptAt (cornF f) (e 5)) := by
    have := ptAt_eq (C := cornF f) (k := e 5) (by omega) (by omega)
    rw [h5e, Int.toNat_natCast] at this
    rw [h5e]
    exact this
  have hle : lenE (cornF f) e = if e 6 ≠ 0 then ((ptAt (cornF f) (e 5)).1 - (ptAt (cornF f) (e 4)).1).tdiv (e 6) else ((ptAt (cornF f) (e 5)).2.1 - (ptAt (cornF f) (e 4)).2.1).tdiv (e 7) := rfl
  obtain ⟨co0, ce0⟩ := corn_at hf c0
  obtain ⟨co1, ce1⟩ := corn_at hf c1
  have hne := corn_ne hf c0 c1 k01
  rw [ce0] at hsd
  rw [ce1] at hsd1
  generalize ptAt (cornF f) (e 4) = P at *
  generalize ptAt (cornF f) (e 5) = Q at *
  have lq : LdP f Q.1 Q.2.1 p ∧ LdP f Q.1 Q.2.1 q := by
    cases hb : sdE (ledW f Q.1 Q.2.1) p q with
    | none => exact absurd hb hsd1
    | some b1 =>
      rcases sdE_some hb with ⟨-, h⟩ | ⟨-, h⟩
      · obtain ⟨-, h2, h3, -⟩ := hside_of.mp h
        exact ⟨(led_iff hf).mp h2, (led_iff hf).mp h3⟩
      · obtain ⟨-, h2, h3, -⟩ := hside_of.mp h
        exact ⟨(led_iff hf).mp h3, (led_iff hf).mp h2⟩
  have hdir := edge_dir hf (show p ≠ q by omega) co0 hsd lq.1 lq.2 hne
  have hnz := pl_ne (show p ≠ q by omega)
  rcases lineL _ (mem9 dif.1) _ (mem9 dif.2.1) with z | ⟨⟨x, hx, y, hy, hxy⟩, hperp, hcr⟩
  · exact absurd z hnz
  obtain ⟨d1, m1, n1, dr1, ⟨x1, y1⟩, bm1, bn1⟩ := co_coord hf co0
  obtain ⟨d2, m2, n2, dr2, ⟨x2, y2⟩, bm2, bn2⟩ := co_coord hf co1
  have hU := lineU_le dif.1 dif.2.1
  generalize lineU (pi q - pi p) (pj q - pj p) = U at *
  generalize lineV (pi q - pi p) (pj q - pj p) = V at *
  obtain ⟨hD, hsg⟩ := hdir
  generalize pi q - pi p = a at *
  generalize pj q - pj p = c at *
  -- the way between is a multiple of (U, V)
  have hpar : (Q.1 - P.1) * V - (Q.2.1 - P.2.1) * U = 0 := by
    have e1 : a * ((Q.1 - P.1) * V - (Q.2.1 - P.2.1) * U) = 0 := by grind
    have e2 : c * ((Q.1 - P.1) * V - (Q.2.1 - P.2.1) * U) = 0 := by grind
    rcases Int.mul_eq_zero.mp e1 with z | z
    · rcases Int.mul_eq_zero.mp e2 with w | w
      · exact absurd ⟨z, w⟩ hnz
      · exact w
    · exact z
  have hDx : Q.1 - P.1 = (x * (Q.1 - P.1) + y * (Q.2.1 - P.2.1)) * U := by grind
  have hDy : Q.2.1 - P.2.1 = (x * (Q.1 - P.1) + y * (Q.2.1 - P.2.1)) * V := by grind
  generalize x * (Q.1 - P.1) + y * (Q.2.1 - P.2.1) = m at *
  have hcrm : a * (Q.2.1 - P.2.1) - c * (Q.1 - P.1) = m * (a * V - c * U) := by rw [hDx, hDy]; grind
  rw [hcrm] at hsg
  -- with the sign of the row
  have hw : ∃ w : Int, 0 < w ∧ Q.1 - P.1 = e 6 * w ∧ Q.2.1 - P.2.1 = e 7 * w ∧ (e 6 ≠ 0 ∨ e 7 ≠ 0) := by
    have hUV : U ≠ 0 ∨ V ≠ 0 := by
      by_cases z : U = 0
      · refine Or.inr fun w => ?_
        rw [z, w, Int.mul_zero, Int.mul_zero] at hxy
        omega
      · exact Or.inl z
    rcases huv with ⟨s1, s2, s3⟩ | ⟨s1, s2, s3⟩
    · refine ⟨m, ?_, by rw [s2, Int.mul_comm]; exact hDx, by rw [s3, Int.mul_comm]; exact hDy, by rw [s2, s3]; exact hUV⟩
      cases b with
      | true =>
        rw [if_pos rfl] at hsg
        have := of_decide_eq_true s1
        rw [Int.mul_comm] at hsg
        exact i_pos_r hsg this
      | false =>
        rw [if_neg (by decide)] at hsg
        have := of_decide_eq_false s1
        rcases Int.lt_or_le 0 m with z | z
        · exact z
        · have h3 : 0 ≤ m * (a * V - c * U) := by
            have := i_np (show 0 ≤ -m by omega) (show a * V - c * U ≤ 0 by omega)
            rw [Int.neg_mul] at this
            omega
          omega
    · refine ⟨-m, ?_, by rw [s2, Int.neg_mul_neg, Int.mul_comm]; exact hDx, by rw [s3, Int.neg_mul_neg, Int.mul_comm]; exact hDy, by rw [s2, s3]; omega⟩
      cases b with
      | true =>
        rw [if_pos rfl] at hsg
        have := of_decide_eq_false (Bool.eq_false_iff.mpr s1)
        rcases Int.lt_or_le 0 (-m) with z | z
        · exact z
        · have := i_np (show 0 ≤ m by omega) (show a * V - c * U ≤ 0 by omega)
          omega
      | false =>
        rw [if_neg (by decide)] at hsg
        have s1 : decide (0 < a * V - c * U) = true := by
          cases hh : decide (0 < a * V - c * U) with
          | true => rfl
          | false => exact absurd hh s1
        have := of_decide_eq_true s1
        rcases Int.lt_or_le 0 (-m) with z | z
        · exact z
        · have := Int.mul_nonneg (show 0 ≤ m by omega) (show 0 ≤ a * V - c * U by omega)
          omega
  obtain ⟨w, hw0, wx, wy, wne⟩ := hw
  have e67 : (-4 ≤ e 6 ∧ e 6 ≤ 4) ∧ -4 ≤ e 7 ∧ e 7 ≤ 4 := by
    rcases huv with ⟨-, s2, s3⟩ | ⟨-, s2, s3⟩ <;> omega
  have hlen : lenE (cornF f) e = w := by
    rw [hle]
    by_cases z : e 6 ≠ 0
    · rw [if_pos z, wx]
      exact Int.mul_tdiv_cancel_left w z
    · rw [if_neg z, wy]
      exact Int.mul_tdiv_cancel_left w (by omega)
  rw [hlen]
  clear huv hsg hcrm hDx hDy hpar hD hxy hperp hcr hle hlen
  have hb1 : ∀ m1 m2 d1 d2 : Int, (1 ≤ d1 ∧ d1 ≤ 16) → (1 ≤ d2 ∧ d2 ≤ 16) → (-16000 ≤ m1 ∧ m1 ≤ 16000) → (-16000 ≤ m2 ∧ m2 ≤ 16000) → -4000000 ≤ m2 * d1 - m1 * d2 ∧ m2 * d1 - m1 * d2 ≤ 4000000 := by
    intro m1 m2 d1 d2 a1 a2 a3 a4
    have := mul_le (d := m2) (c := d1) (A := 16000) (B := 16) (by omega) (by omega)
    have := mul_le (d := m1) (c := d2) (A := 16000) (B := 16) (by omega) (by omega)
    omega
  have hdd : d1 * d2 ≠ 0 := by
    have := Int.mul_pos (show 0 < d1 by omega) (show 0 < d2 by omega)
    omega
  refine ⟨hw0, ?_, ?_⟩
  · by_cases z : e 6 = 0
    · exact Or.inr ⟨z, by omega, wy⟩
    · exact Or.inl ⟨z, wx⟩
  · by_cases z : e 6 = 0
    · refine numP_bound (K := e 7 * (d1 * d2)) (N := n2 * d1 - n1 * d2) hw0 ?_ ?_ (hb1 n1 n2 d1 d2 dr1 dr2 bn1 bn2)
      · have : w * (e 7 * (d1 * d2)) = (e 7 * w) * (d1 * d2) := by grind
        rw [this, ← wy]
        have : (Q.2.1 - P.2.1) * (d1 * d2) = (Q.2.1 * d2) * d1 - (P.2.1 * d1) * d2 := by grind
        rw [this, y1, y2]
        grind
      · intro h
        rcases Int.mul_eq_zero.mp h with y | y
        · omega
        · exact hdd y
    · refine numP_bound (K := e 6 * (d1 * d2)) (N := m2 * d1 - m1 * d2) hw0 ?_ ?_ (hb1 m1 m2 d1 d2 dr1 dr2 bm1 bm2)
      · have : w * (e 6 * (d1 * d2)) = (e 6 * w) * (d1 * d2) := by grind
        rw [this, ← wx]
        have : (Q.1 - P.1) * (d1 * d2) = (Q.1 * d2) * d1 - (P.1 * d1) * d2 := by grind
        rw [this, x1, x2]
        grind
      · intro h
        rcases Int.mul_eq_zero.mp h with y | y
        · exact z y
        · exact hdd y
