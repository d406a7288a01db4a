/-! ===== when the mixed area is above 0 ===== -/
theorem sm_all0 {f : Nat → Int} : ∀ n, (∀ k, k < n → 0 ≤ f k) → sm f n = 0 → ∀ k, k < n → f k = 0
  | 0, _, _, k, hk => absurd hk (Nat.not_lt_zero k)
  | n + 1, h, hz, k, hk => by
    rw [sm] at hz
    have h1 := sm_pos n (fun j hj => h j (by omega))
    have h2 := h n (by omega)
    by_cases e : k = n
    · subst e; omega
    · exact sm_all0 n (fun j hj => h j (by omega)) (by omega) k (by omega)
def nq (a b k : Nat) : Int := (pj b - pj a) * pi k + (pi a - pi b) * pj k
theorem mixed_close {s o : Nat} (hs : plS s) (h0 : 0 < s) (r : Nat) : mixed s o = sm (fun a => sm (fun b => if hside s a b = true then reach o (pj b - pj a) (pi a - pi b) - nq a b r else 0) 21) 21 := by
  have e := side_close hs h0 r
  rw [mixed_sm]
  have : sm (fun a => sm (fun b => if hside s a b = true then reach o (pj b - pj a) (pi a - pi b) else 0) 21) 21 = sm (fun a => sm (fun b => if hside s a b = true then reach o (pj b - pj a) (pi a - pi b) else 0) 21) 21 - sm (fun a => sm (fun b => if hside s a b = true then (pj b - pj a) * pi r + (pi a - pi b) * pj r else 0) 21) 21 := by
    rw [e, Int.sub_zero]
  rw [this, ← sm_sub]
  refine sm_congr 21 fun a _ => ?_
  rw [← sm_sub]
  refine sm_congr 21 fun b _ => ?_
  unfold nq
  split <;> rfl
theorem term_nn {s o r : Nat} (ho : plS o) (o0 : 0 < o) (hr : o.testBit r = true) (a b : Nat) : 0 ≤ (if hside s a b = true then reach o (pj b - pj a) (pi a - pi b) - nq a b r else 0) := by
  have := (reach_spec ho o0 (pj b - pj a) (pi a - pi b)).2 r hr
  split
  · unfold nq; omega
  · exact Int.le_refl _
theorem mixed_nn {s o r : Nat} (hs : plS s) (h0 : 0 < s) (ho : plS o) (o0 : 0 < o) (hr : o.testBit r = true) : 0 ≤ mixed s o := by
  rw [mixed_close hs h0 r]
  exact sm_pos 21 fun a _ => sm_pos 21 fun b _ => term_nn ho o0 hr a b
theorem mixed_zero {s o : Nat} (hs : plS s) (h0 : 0 < s) (ho : plS o) (o0 : 0 < o) (hz : mixed s o = 0) {a b k r : Nat} (ha : a < 21) (hb : b < 21) (hab : hside s a b = true) (hk : o.testBit k = true) (hr : o.testBit r = true) : nq a b k = nq a b r := by
  have key : ∀ r, o.testBit r = true → nq a b r = reach o (pj b - pj a) (pi a - pi b) := by
    intro r hr
    rw [mixed_close hs h0 r] at hz
    have h1 := sm_all0 21 (fun a _ => sm_pos 21 fun b _ => term_nn ho o0 hr a b) hz a ha
    have h2 := sm_all0 21 (fun b _ => term_nn ho o0 hr a b) h1 b hb
    rw [if_pos hab] at h2
    omega
  rw [key k hk, key r hr]
theorem hside_lt {s a b : Nat} (hs : plS s) (h : hside s a b = true) : (a < 21 ∧ s.testBit a = true) ∧ b < 21 ∧ s.testBit b = true := by
  obtain ⟨-, h2, h3, -⟩ := hside_of.mp h
  have := hs a h2
  have := hs b h3
  exact ⟨⟨by omega, h2⟩, by omega, h3⟩
theorem fan8 : ∀ i, i < 2 → dd (i + 18) = (-(dd i).1, -(dd i).2) := by decide
theorem side_ex {s p q : Nat} (hs : plS s) (hp : s.testBit p = true) (hq : s.testBit q = true) (hne : p ≠ q) : ∃ a b, a < 21 ∧ b < 21 ∧ hside s a b = true := by
  have h0 : 0 < s := by
    rcases Nat.eq_zero_or_pos s with z | z
    · rw [z, Nat.zero_testBit] at hp; cases hp
    · exact z
  by_cases hL : ∃ i, i < 36 ∧ hS s i + hS s (i + 2) - aa (i + 1) * hS s (i + 1) ≠ 0
  · obtain ⟨i, hi, hn⟩ := hL
    obtain ⟨a, b, h1, -⟩ := sd_S3 (figP hs h0) hi hn
    exact ⟨a, b, h1.2.1.1, h1.2.2.1.1, (hside_G hs h1.2.1.1 h1.2.2.1.1).mpr h1⟩
  · exfalso
    have hz : ∀ i, i < 36 → hS s i + hS s (i + 2) - aa (i + 1) * hS s (i + 1) = 0 := fun i hi => by
      by_cases z : hS s i + hS s (i + 2) - aa (i + 1) * hS s (i + 1) = 0
      · exact z
      · exact absurd ⟨i, hi, z⟩ hL
    obtain ⟨v, -, v2, v3, v4⟩ := hS_cm hs h0 (show 0 < 37 by decide)
    have all : ∀ i, i ≤ 36 → nd i (ptP v) = hS s i ∧ nd (i + 1) (ptP v) = hS s (i + 1) := by
      intro i
      induction i with
      | zero => exact fun _ => ⟨v3, v4⟩
      | succ i ih =>
        intro hi
        obtain ⟨i1, i2⟩ := ih (by omega)
        refine ⟨i2, ?_⟩
        have z := hz i (by omega)
        obtain ⟨f1, f2⟩ := fan2 i (by omega)
        have hh : nd i (ptP v) + nd (i + 2) (ptP v) = aa (i + 1) * nd (i + 1) (ptP v) := by
          have g1 : (dd (i + 2)).1 = aa (i + 1) * (dd (i + 1)).1 - (dd i).1 := by omega
          have g2 : (dd (i + 2)).2 = aa (i + 1) * (dd (i + 1)).2 - (dd i).2 := by omega
          unfold nd
          rw [g1, g2]
          grind
        rw [i1, i2] at hh
        show nd (i + 2) (ptP v) = hS s (i + 2)
        omega
    have same : ∀ w, s.testBit w = true → w = v := by
      intro w hw
      have eq : ∀ i, i < 2 → nd i (ptP w) = nd i (ptP v) := by
        intro i hi
        have a1 := hS_ub hs h0 i w hw
        have a2 := hS_ub hs h0 (i + 18) w hw
        rw [← (all i (by omega)).1] at a1
        rw [← (all (i + 18) (by omega)).1] at a2
        have opp : ∀ x, nd (i + 18) x = -nd i x := by
          intro x
          unfold nd
          rw [fan8 i hi]
          grind
        rw [opp, opp] at a2
        omega
      exact ptP_inj (nd_two (show 0 < 37 by decide) (eq 0 (by decide)) (eq 1 (by decide)))
    exact hne ((same p hp).trans (same q hq).symm)
theorem nq_crs (a b k r : Nat) : nq a b k - nq a b r = crs a b k r := by
  unfold nq crs
  grind
theorem par_tr {a b c d e f : Int} (h1 : a * d - b * c = 0) (h2 : c * f - d * e = 0) (h0 : ¬ (c = 0 ∧ d = 0)) : a * f - b * e = 0 := by
  have e1 : c * (a * f - b * e) = 0 := by grind
  have e2 : d * (a * f - b * e) = 0 := by grind
  rcases Int.mul_eq_zero.mp e1 with z | z
  · rcases Int.mul_eq_zero.mp e2 with y | y
    · exact absurd ⟨z, y⟩ h0
    · exact y
  · exact z
theorem pl_ne {a b : Nat} (h : a ≠ b) : ¬ (pi b - pi a = 0 ∧ pj b - pj a = 0) := by
  rintro ⟨h1, h2⟩
  unfold pi at h1
  unfold pj at h2
  omega
theorem mixed_pos {s o p q r t : Nat} (hs : plS s) (ho : plS o) (hp : s.testBit p = true) (hq : s.testBit q = true) (hr : o.testBit r = true) (ht : o.testBit t = true) (hc : crs p q r t ≠ 0) : 0 < mixed s o := by
  have hbit : ∀ {x k : Nat}, x.testBit k = true → 0 < x := by
    intro x k h
    rcases Nat.eq_zero_or_pos x with z | z
    · rw [z, Nat.zero_testBit] at h; cases h
    · exact z
  have h0 := hbit hp
  have o0 := hbit hr
  have hn := mixed_nn hs h0 ho o0 hr
  by_cases hz : mixed s o = 0
  · exfalso
    have hz2 := hz
    rw [mixed_sym hs h0 ho o0] at hz2
    have pq : p ≠ q := by
      intro e
      rw [e] at hc
      exact hc (by unfold crs; grind)
    have rt : r ≠ t := by
      intro e
      rw [e] at hc
      exact hc (by unfold crs; grind)
    obtain ⟨a, b, ha, hb, hab⟩ := side_ex hs hp hq pq
    obtain ⟨c, d, hcl, hd, hcd⟩ := side_ex ho hr ht rt
    have sa := hside_lt hs hab
    have sc := hside_lt ho hcd
    have e1 := mixed_zero hs h0 ho o0 hz ha hb hab ht hr
    have e2 := mixed_zero ho o0 hs h0 hz2 hcl hd hcd hq hp
    have e3 := mixed_zero ho o0 hs h0 hz2 hcl hd hcd sa.2.2 sa.1.2
    have c1 := nq_crs a b t r
    have c2 := nq_crs c d q p
    have c3 := nq_crs c d b a
    have ab := pl_ne (hside_of.mp hab).1
    have cd := pl_ne (hside_of.mp hcd).1
    unfold crs at c1 c2 c3 hc
    have k1 : (pi q - pi p) * (pj d - pj c) - (pj q - pj p) * (pi d - pi c) = 0 := by grind
    have k2 : (pi d - pi c) * (pj b - pj a) - (pj d - pj c) * (pi b - pi a) = 0 := by grind
    have k3 : (pi b - pi a) * (pj t - pj r) - (pj b - pj a) * (pi t - pi r) = 0 := by grind
    have k4 := par_tr k1 k2 cd
    exact hc (par_tr k4 k3 ab)
  · omega
theorem mixed_ne {s o : Nat} (hs : plS s) (ho : plS o) (hne : mixed s o ≠ 0) (h0 : 0 < s) (o0 : 0 < o) : ∃ a b c d, hside s a b = true ∧ hside o c d = true ∧ crs a b c d ≠ 0 := by
  obtain ⟨r, -, hr⟩ := plS_bit ho o0
  rw [mixed_close hs h0 r] at hne
  obtain ⟨a, ha, h1⟩ := sm_ne 21 hne
  obtain ⟨b, hb, h2⟩ := sm_ne 21 h1
  by_cases hab : hside s a b = true
  · rw [if_pos hab] at h2
    obtain ⟨⟨k, k1, k2, k3⟩, -⟩ := reach_spec ho o0 (pj b - pj a) (pi a - pi b)
    have h3 : nq a b k - nq a b r ≠ 0 := by
      have : nq a b k = reach o (pj b - pj a) (pi a - pi b) := k3
      omega
    rw [nq_crs] at h3
    obtain ⟨⟨a1, a2⟩, b1, b2⟩ := hside_lt hs hab
    -- the set of a and b
    have tb : ∀ k, (mk (fun k => decide (k = a ∨ k = b)) 21).testBit k = true ↔ (k = a ∨ k = b) := by
      intro k
      rw [mk_tb, Bool.and_eq_true, decide_eq_true_eq, decide_eq_true_eq]
      constructor
      · exact fun z => z.2
      · rintro (z | z)
        · exact ⟨by omega, Or.inl z⟩
        · exact ⟨by omega, Or.inr z⟩
    generalize mk (fun k => decide (k = a ∨ k = b)) 21 = u at *
    have hu : plS u := by
      intro k hk
      rcases (tb k).mp hk with z | z
      · rw [z]; exact hs a a2
      · rw [z]; exact hs b b2
    have ua := (tb a).mpr (Or.inl rfl)
    have ub := (tb b).mpr (Or.inr rfl)
    have u0 : 0 < u := by
      rcases Nat.eq_zero_or_pos u with z | z
      · rw [z, Nat.zero_testBit] at ua; cases ua
      · exact z
    have hp := mixed_pos ho hu hr k2 ua ub (by
      intro z
      apply h3
      unfold crs at z ⊢
      grind)
    have hm : mixed o u ≠ 0 := by omega
    rw [mixed_close ho o0 a] at hm
    obtain ⟨c, hc, g1⟩ := sm_ne 21 hm
    obtain ⟨d, hd, g2⟩ := sm_ne 21 g1
    by_cases hcd : hside o c d = true
    · rw [if_pos hcd] at g2
      obtain ⟨⟨j, j1, j2, j3⟩, -⟩ := reach_spec hu u0 (pj d - pj c) (pi c - pi d)
      have g3 : nq c d j - nq c d a ≠ 0 := by
        have : nq c d j = reach u (pj d - pj c) (pi c - pi d) := j3
        omega
      refine ⟨a, b, c, d, hab, hcd, fun z => g3 ?_⟩
      rw [nq_crs]
      rcases (tb j).mp j2 with y | y
      · rw [y]; unfold crs; grind
      · rw [y]
        unfold crs at z ⊢
        grind
    · rw [if_neg hcd] at g2
      exact absurd rfl g2
  · rw [if_neg hab] at h2
    exact absurd rfl h2
/-- the area of what leads tells whether it is a vertex -/
theorem arQ_flat {Q : List (Int × Int)} (h : ∀ a b, a < Q.length → b < Q.length → isdQ Q a b = false) : arQ Q = 0 := by
  unfold arQ
  rw [arI_sm]
  refine (sm_congr _ fun a ha => (sm_congr _ fun b hb => ?_).trans (sm_0 _)).trans (sm_0 _)
  unfold arT
  rw [h a b ha hb]
  rfl
theorem co_area {f : Cv} {X Y : Int} (hf : Cok 999 f) : isCo f X Y ↔ arS (ledW f X Y) ≠ 0 := by
  have hs : plS (ledW f X Y) := lead_plS hf X Y 720720
  constructor
  · rintro ⟨p, q, r, h0, h1, h2, h3⟩
    rw [arq _ hs]
    have := mixed_pos hs hs ((led_iff hf).mpr h1) ((led_iff hf).mpr h2) ((led_iff hf).mpr h1) ((led_iff hf).mpr h3) (show crs p q p r ≠ 0 from h0)
    omega
  · intro h
    by_cases hc : isCo f X Y
    · exact hc
    · exfalso
      apply h
      refine arQ_flat fun a b ha hb => ?_
      have pt : ∀ j, j < (qsF (ledW f X Y) 25).length → ∃ k, LdP f X Y k ∧ ptQ (qsF (ledW f X Y) 25) j = ptP k := by
        intro j hj
        obtain ⟨k, k1, k2⟩ := (qsF_in hs).mp (ptQ_mem hj)
        exact ⟨k, (led_iff hf).mp k1, k2⟩
      obtain ⟨p, p1, p2⟩ := pt a ha
      obtain ⟨q, q1, q2⟩ := pt b hb
      unfold isdQ
      cases e2 : abQ (qsF (ledW f X Y) 25) a b (qsF (ledW f X Y) 25).length with
      | false => exact Bool.and_false _
      | true =>
        obtain ⟨k, k1, k2⟩ := (abQ_iff _).mp e2
        obtain ⟨r, r1, r2⟩ := pt k k1
        rw [p2, q2, r2] at k2
        exact absurd ⟨p, q, r, (show turn p q r ≠ 0 from by
          have : turn p q r = cr3 (ptP p) (ptP q) (ptP r) := rfl
          omega), p1, q1, r1⟩ hc
theorem plq : PLQ := by
  intro f X Y m hf
  by_cases h : isCo f X Y
  · obtain ⟨R, r1, r2⟩ := (corn_iff hf).mp h
    rw [hasP_iff.mpr ⟨R, r1, r2⟩, decide_eq_false ((co_area hf).mp h)]
    rfl
  · have h1 : hasP (cornF f) (X, Y, m) = false := by
      cases e : hasP (cornF f) (X, Y, m) with
      | false => rfl
      | true =>
        obtain ⟨R, r1, r2⟩ := hasP_iff.mp e
        exact absurd ((corn_iff hf).mpr ⟨R, r1, r2⟩) h
    have h2 : arS (ledW f X Y) = 0 := by
      by_cases z : arS (ledW f X Y) = 0
      · exact z
      · exact absurd ((co_area hf).mpr z) h
    rw [h1, h2]
    rfl
