/-! ===== a figure's sides, by direction ===== -/
def cr3 (x y z : Int × Int) : Int := (y.1 - x.1) * (z.2 - x.2) - (y.2 - x.2) * (z.1 - x.1)
def dt3 (x y z : Int × Int) : Int := (z.1 - x.1) * (z.1 - y.1) + (z.2 - x.2) * (z.2 - y.2)
def SdG (N : Nat) (pr : Nat → Bool) (pt : Nat → Int × Int) (a b : Nat) : Prop := pt a ≠ pt b ∧ (a < N ∧ pr a = true) ∧ (b < N ∧ pr b = true) ∧ ∀ k, k < N → pr k = true → 0 < cr3 (pt a) (pt b) (pt k) ∨ (cr3 (pt a) (pt b) (pt k) = 0 ∧ dt3 (pt a) (pt b) (pt k) ≤ 0)
def drP (x y : Int × Int) (i : Nat) (m : Int) : Prop := 1 ≤ m ∧ y.1 - x.1 = m * (dd (i + 1)).1 ∧ y.2 - x.2 = m * (dd (i + 1)).2
def Fig (N : Nat) (pr : Nat → Bool) (pt : Nat → Int × Int) (h : Nat → Int) : Prop := (∀ a b, a < N → b < N → pr a = true → pr b = true → pt a = pt b → a = b) ∧ (∀ i, i < 38 → ∀ a, a < N → pr a = true → nd i (pt a) ≤ h i) ∧ (∀ i, i < 37 → ∃ v, v < N ∧ pr v = true ∧ nd i (pt v) = h i ∧ nd (i + 1) (pt v) = h (i + 1)) ∧ ∀ a b, SdG N pr pt a b → ∃ i m, i < 36 ∧ drP (pt a) (pt b) i m
theorem nd_cr (i : Nat) {x y : Int × Int} {m : Int} (h : drP x y i m) (z : Int × Int) : cr3 x y z = m * (nd (i + 1) x - nd (i + 1) z) := by
  obtain ⟨-, h1, h2⟩ := h
  unfold cr3 nd
  rw [h1, h2]
  grind
/-- on a line of direction i + 1 the next direction measures -/
theorem nd_line {i : Nat} (hi : i < 36) {x z : Int × Int} (h : nd (i + 1) z = nd (i + 1) x) : z.1 - x.1 = (nd (i + 2) z - nd (i + 2) x) * (dd (i + 1)).1 ∧ z.2 - x.2 = (nd (i + 2) z - nd (i + 2) x) * (dd (i + 1)).2 ∧ nd i z - nd i x = -(nd (i + 2) z - nd (i + 2) x) := by
  have f1 := fan1 (i + 1) (by omega)
  have f2 := fan1 i (by omega)
  obtain ⟨e1, e2⟩ := fan2 i hi
  have hh : nd i z - nd i x + (nd (i + 2) z - nd (i + 2) x) = aa (i + 1) * (nd (i + 1) z - nd (i + 1) x) := by
    unfold nd
    have g1 : (dd (i + 2)).1 = aa (i + 1) * (dd (i + 1)).1 - (dd i).1 := by omega
    have g2 : (dd (i + 2)).2 = aa (i + 1) * (dd (i + 1)).2 - (dd i).2 := by omega
    rw [g1, g2]
    grind
  rw [h, Int.sub_self, Int.mul_zero] at hh
  have h' : (dd (i + 1)).2 * (z.1 - x.1) - (dd (i + 1)).1 * (z.2 - x.2) = 0 := by
    unfold nd at h
    grind
  have hn : nd (i + 2) z - nd (i + 2) x = (dd (i + 2)).2 * (z.1 - x.1) - (dd (i + 2)).1 * (z.2 - x.2) := by
    unfold nd
    grind
  refine ⟨?_, ?_, by omega⟩
  · rw [hn]
    have f1 : (dd (i + 1)).1 * (dd (i + 2)).2 - (dd (i + 1)).2 * (dd (i + 2)).1 = 1 := f1
    clear hh h hn f2 e1 e2
    generalize (dd (i + 1)).1 = a at *
    generalize (dd (i + 1)).2 = b at *
    generalize (dd (i + 2)).1 = c at *
    generalize (dd (i + 2)).2 = d at *
    generalize z.1 - x.1 = s at *
    generalize z.2 - x.2 = t at *
    have : (d * s - c * t) * a = (a * d - b * c) * s + c * (b * s - a * t) := by grind
    rw [this, f1, h']
    omega
  · rw [hn]
    have f1 : (dd (i + 1)).1 * (dd (i + 2)).2 - (dd (i + 1)).2 * (dd (i + 2)).1 = 1 := f1
    clear hh h hn f2 e1 e2
    generalize (dd (i + 1)).1 = a at *
    generalize (dd (i + 1)).2 = b at *
    generalize (dd (i + 2)).1 = c at *
    generalize (dd (i + 2)).2 = d at *
    generalize z.1 - x.1 = s at *
    generalize z.2 - x.2 = t at *
    have : (d * s - c * t) * b = (a * d - b * c) * t + d * (b * s - a * t) := by grind
    rw [this, f1, h']
    omega
theorem sq_pos {i : Nat} (hi : i < 36) : 0 < (dd (i + 1)).1 * (dd (i + 1)).1 + (dd (i + 1)).2 * (dd (i + 1)).2 := by
  have : ∀ i, i < 36 → 0 < (dd (i + 1)).1 * (dd (i + 1)).1 + (dd (i + 1)).2 * (dd (i + 1)).2 := by decide +kernel
  exact this i hi
theorem dt_line {i : Nat} {x y z : Int × Int} {s t : Int} (h1 : z.1 - x.1 = s * (dd (i + 1)).1) (h2 : z.2 - x.2 = s * (dd (i + 1)).2) (h3 : z.1 - y.1 = t * (dd (i + 1)).1) (h4 : z.2 - y.2 = t * (dd (i + 1)).2) : dt3 x y z = (s * t) * ((dd (i + 1)).1 * (dd (i + 1)).1 + (dd (i + 1)).2 * (dd (i + 1)).2) := by
  unfold dt3
  rw [h1, h2, h3, h4]
  grind
theorem mul_le0 {s t c : Int} (hc : 0 < c) : (s * t) * c ≤ 0 ↔ s * t ≤ 0 := by
  constructor
  · intro h
    rcases Int.lt_or_le 0 (s * t) with z | z
    · have := Int.mul_pos z hc
      omega
    · exact z
  · intro h
    exact i_pn0 h (Int.le_of_lt hc)
theorem sd_S1 {N : Nat} {pr : Nat → Bool} {pt : Nat → Int × Int} {h : Nat → Int} (F : Fig N pr pt h) {a b i : Nat} {m : Int} (hs : SdG N pr pt a b) (hi : i < 36) (hd : drP (pt a) (pt b) i m) : (nd (i + 1) (pt a) = h (i + 1) ∧ nd (i + 1) (pt b) = h (i + 1)) ∧ nd (i + 2) (pt b) = h (i + 2) ∧ nd i (pt a) = h i ∧ m = h i + h (i + 2) - aa (i + 1) * h (i + 1) := by
  obtain ⟨-, ub, cm, -⟩ := F
  obtain ⟨-, ⟨aN, pa⟩, ⟨bN, pb⟩, hk⟩ := hs
  have hm := hd.1
  have ea : nd (i + 1) (pt a) = h (i + 1) := by
    obtain ⟨v, vN, pv, v1, -⟩ := cm (i + 1) (by omega)
    have h1 := ub (i + 1) (by omega) a aN pa
    have h2 : 0 ≤ cr3 (pt a) (pt b) (pt v) := by
      rcases hk v vN pv with z | z <;> omega
    rw [nd_cr i hd] at h2
    have h3 : 0 ≤ nd (i + 1) (pt a) - nd (i + 1) (pt v) := by
      rcases Int.lt_or_le (nd (i + 1) (pt a) - nd (i + 1) (pt v)) 0 with z | z
      · have := i_pn (show 0 < m by omega) z
        omega
      · exact z
    omega
  have eb : nd (i + 1) (pt b) = nd (i + 1) (pt a) := by
    have h2 := nd_cr i hd (pt b)
    have h3 : cr3 (pt a) (pt b) (pt b) = 0 := by unfold cr3; grind
    rw [h3] at h2
    have := (Int.mul_eq_zero.mp h2.symm).resolve_left (by omega)
    omega
  have hab := nd_line hi eb
  have e2 : nd (i + 2) (pt b) - nd (i + 2) (pt a) = m := by
    have sq := sq_pos hi
    obtain ⟨-, d1, d2⟩ := hd
    rw [d1, d2] at hab
    generalize nd (i + 2) (pt b) - nd (i + 2) (pt a) = t at *
    have q1 : (m - t) * (dd (i + 1)).1 = 0 := by have := hab.1; grind
    have q2 : (m - t) * (dd (i + 1)).2 = 0 := by have := hab.2.1; grind
    rcases Int.mul_eq_zero.mp q1 with z | z
    · omega
    · rcases Int.mul_eq_zero.mp q2 with y | y
      · omega
      · rw [z, y] at sq
        exact absurd sq (by decide)
  -- a point on the line
  have on : ∀ v, v < N → pr v = true → nd (i + 1) (pt v) = h (i + 1) → 0 ≤ nd (i + 2) (pt v) - nd (i + 2) (pt a) ∧ nd (i + 2) (pt v) - nd (i + 2) (pt a) ≤ m := by
    intro v vN pv hv
    have la := nd_line hi (show nd (i + 1) (pt v) = nd (i + 1) (pt a) by omega)
    have lb := nd_line hi (show nd (i + 1) (pt v) = nd (i + 1) (pt b) by omega)
    have hz : cr3 (pt a) (pt b) (pt v) = 0 := by
      rw [nd_cr i hd, show nd (i + 1) (pt a) - nd (i + 1) (pt v) = 0 by omega, Int.mul_zero]
    have hdt : dt3 (pt a) (pt b) (pt v) ≤ 0 := by
      rcases hk v vN pv with z | z
      · omega
      · exact z.2
    rw [dt_line la.1 la.2.1 lb.1 lb.2.1] at hdt
    have hst := (mul_le0 (sq_pos hi)).mp hdt
    rw [show nd (i + 2) (pt v) - nd (i + 2) (pt b) = (nd (i + 2) (pt v) - nd (i + 2) (pt a)) - m by omega] at hst
    generalize nd (i + 2) (pt v) - nd (i + 2) (pt a) = s at *
    constructor
    · rcases Int.lt_or_le s 0 with z | z
      · have := i_nn z (show s - m < 0 by omega)
        omega
      · exact z
    · rcases Int.lt_or_le m s with z | z
      · have := Int.mul_pos (show 0 < s by omega) (show 0 < s - m by omega)
        omega
      · exact z
  have eb2 : nd (i + 2) (pt b) = h (i + 2) := by
    obtain ⟨v, vN, pv, v1, v2⟩ := cm (i + 1) (by omega)
    have h1 := ub (i + 2) (by omega) b bN pb
    have := on v vN pv v1
    have v2 : nd (i + 2) (pt v) = h (i + 2) := v2
    omega
  have ea0 : nd i (pt a) = h i := by
    obtain ⟨v, vN, pv, v1, v2⟩ := cm i (by omega)
    have h1 := ub i (by omega) a aN pa
    have h2 := on v vN pv v2
    have la := nd_line hi (show nd (i + 1) (pt v) = nd (i + 1) (pt a) by omega)
    omega
  refine ⟨⟨ea, by omega⟩, eb2, ea0, ?_⟩
  have f2 := fan2 i hi
  have hh : nd i (pt a) + nd (i + 2) (pt a) = aa (i + 1) * nd (i + 1) (pt a) := by
    have g1 : (dd (i + 2)).1 = aa (i + 1) * (dd (i + 1)).1 - (dd i).1 := by omega
    have g2 : (dd (i + 2)).2 = aa (i + 1) * (dd (i + 1)).2 - (dd i).2 := by omega
    unfold nd
    rw [g1, g2]
    grind
  rw [← ea0, ← eb2, ← ea, ← hh]
  omega
theorem nd_two {i : Nat} (hi : i < 37) {x y : Int × Int} (h1 : nd i x = nd i y) (h2 : nd (i + 1) x = nd (i + 1) y) : x = y := by
  have f1 := fan1 i hi
  unfold nd at h1 h2
  have e := one_point (a := (dd i).2) (b := -(dd i).1) (c := (dd (i + 1)).2) (d := -(dd (i + 1)).1) (x := x.1 - y.1) (y := x.2 - y.2) (by grind) (by grind) (by
    have : (dd i).2 * -(dd (i + 1)).1 - -(dd i).1 * (dd (i + 1)).2 = (dd i).1 * (dd (i + 1)).2 - (dd i).2 * (dd (i + 1)).1 := by grind
    omega)
  exact Prod.ext (by omega) (by omega)
theorem sd_S3 {N : Nat} {pr : Nat → Bool} {pt : Nat → Int × Int} {h : Nat → Int} (F : Fig N pr pt h) {i : Nat} (hi : i < 36) (hL : h i + h (i + 2) - aa (i + 1) * h (i + 1) ≠ 0) : ∃ a b, SdG N pr pt a b ∧ drP (pt a) (pt b) i (h i + h (i + 2) - aa (i + 1) * h (i + 1)) := by
  obtain ⟨inj, ub, cm, -⟩ := F
  obtain ⟨v, vN, pv, v1, v2⟩ := cm (i + 1) (by omega)
  obtain ⟨w, wN, pw, w1, w2⟩ := cm i (by omega)
  have v2 : nd (i + 2) (pt v) = h (i + 2) := v2
  have lv := nd_line hi (show nd (i + 1) (pt v) = nd (i + 1) (pt w) by omega)
  have f2 := fan2 i hi
  have hh : nd i (pt w) + nd (i + 2) (pt w) = aa (i + 1) * nd (i + 1) (pt w) := by
    have g1 : (dd (i + 2)).1 = aa (i + 1) * (dd (i + 1)).1 - (dd i).1 := by omega
    have g2 : (dd (i + 2)).2 = aa (i + 1) * (dd (i + 1)).2 - (dd i).2 := by omega
    unfold nd
    rw [g1, g2]
    grind
  rw [w2] at hh
  have eL : h i + h (i + 2) - aa (i + 1) * h (i + 1) = nd (i + 2) (pt v) - nd (i + 2) (pt w) := by omega
  rw [eL] at hL ⊢
  have hge := ub (i + 2) (by omega) w wN pw
  have h1 : 1 ≤ nd (i + 2) (pt v) - nd (i + 2) (pt w) := by omega
  have hd : drP (pt w) (pt v) i (nd (i + 2) (pt v) - nd (i + 2) (pt w)) := ⟨h1, lv.1, lv.2.1⟩
  refine ⟨w, v, ⟨fun e => by rw [e] at h1; omega, ⟨wN, pw⟩, ⟨vN, pv⟩, fun k kN pk => ?_⟩, hd⟩
  have hc := nd_cr i hd (pt k)
  have u1 := ub (i + 1) (by omega) k kN pk
  by_cases e : nd (i + 1) (pt k) = h (i + 1)
  · refine Or.inr ⟨by rw [hc, show nd (i + 1) (pt w) - nd (i + 1) (pt k) = 0 by omega, Int.mul_zero], ?_⟩
    have la := nd_line hi (show nd (i + 1) (pt k) = nd (i + 1) (pt w) by omega)
    have lb := nd_line hi (show nd (i + 1) (pt k) = nd (i + 1) (pt v) by omega)
    rw [dt_line la.1 la.2.1 lb.1 lb.2.1, mul_le0 (sq_pos hi)]
    have u2 := ub (i + 2) (by omega) k kN pk
    have u0 := ub i (by omega) k kN pk
    exact i_np (by omega) (by omega)
  · refine Or.inl ?_
    rw [hc]
    exact Int.mul_pos (by omega) (by omega)
/-- the sum over all sides, by directions -/
theorem fan_sum {N : Nat} {pr : Nat → Bool} {pt : Nat → Int × Int} {h : Nat → Int} (F : Fig N pr pt h) {sd : Nat → Nat → Bool} (hsd : ∀ a b, a < N → b < N → (sd a b = true ↔ SdG N pr pt a b)) {W : Nat → Nat → Int} {r : Nat → Int} (hW : ∀ a b i m, SdG N pr pt a b → i < 36 → drP (pt a) (pt b) i m → W a b = m * r (i + 1)) : sm (fun a => sm (fun b => if sd a b = true then W a b else 0) N) N = Bf h r := by
  have hdec : ∀ a b i, ∃ c : Bool, c = true ↔ (a < N ∧ b < N ∧ sd a b = true ∧ ∃ m, drP (pt a) (pt b) i m) := by
    intro a b i
    by_cases e : a < N ∧ b < N ∧ sd a b = true ∧ ∃ m, drP (pt a) (pt b) i m
    · exact ⟨true, fun _ => e, fun _ => rfl⟩
    · exact ⟨false, fun z => absurd z (by decide), fun z => absurd z e⟩
  obtain ⟨dr, hdr⟩ : ∃ dr : Nat → Nat → Nat → Bool, ∀ a b i, dr a b i = true ↔ (a < N ∧ b < N ∧ sd a b = true ∧ ∃ m, drP (pt a) (pt b) i m) := ⟨fun a b i => Classical.choose (hdec a b i), fun a b i => Classical.choose_spec (hdec a b i)⟩
  have uniq : ∀ a b i j, i < 36 → j < 36 → dr a b i = true → dr a b j = true → i = j := by
    intro a b i j hi hj h1 h2
    obtain ⟨-, -, -, m, m1, m2, m3⟩ := (hdr a b i).mp h1
    obtain ⟨-, -, -, n, n1, n2, n3⟩ := (hdr a b j).mp h2
    rw [m2] at n2
    rw [m3] at n3
    have sq := sq_pos hi
    have sq2 := sq_pos hj
    refine fan6 i hi j hj ?_ ?_
    · have : m * ((dd (i + 1)).1 * (dd (j + 1)).2 - (dd (i + 1)).2 * (dd (j + 1)).1) = 0 := by
        have : m * ((dd (i + 1)).1 * (dd (j + 1)).2 - (dd (i + 1)).2 * (dd (j + 1)).1) = (m * (dd (i + 1)).1) * (dd (j + 1)).2 - (m * (dd (i + 1)).2) * (dd (j + 1)).1 := by grind
        rw [this, n2, n3]
        grind
      exact (Int.mul_eq_zero.mp this).resolve_left (by omega)
    · have : m * ((dd (i + 1)).1 * (dd (j + 1)).1 + (dd (i + 1)).2 * (dd (j + 1)).2) = n * ((dd (j + 1)).1 * (dd (j + 1)).1 + (dd (j + 1)).2 * (dd (j + 1)).2) := by
        have : m * ((dd (i + 1)).1 * (dd (j + 1)).1 + (dd (i + 1)).2 * (dd (j + 1)).2) = (m * (dd (i + 1)).1) * (dd (j + 1)).1 + (m * (dd (i + 1)).2) * (dd (j + 1)).2 := by grind
        rw [this, n2, n3]
        grind
      have hp := Int.mul_pos (show 0 < n by omega) sq2
      rw [← this] at hp
      exact i_pos_r hp (by omega)
  have hL : ∀ a b i, i < 36 → dr a b i = true → W a b = (h i + h (i + 2) - aa (i + 1) * h (i + 1)) * r (i + 1) := by
    intro a b i hi hz
    obtain ⟨aN, bN, s, m, hm⟩ := (hdr a b i).mp hz
    have s := (hsd a b aN bN).mp s
    rw [hW a b i m s hi hm, (sd_S1 F s hi hm).2.2.2]
  have step : ∀ a, a < N → ∀ b, b < N → (if sd a b = true then W a b else 0) = sm (fun i => if dr a b i = true then (h i + h (i + 2) - aa (i + 1) * h (i + 1)) * r (i + 1) else 0) 36 := by
    intro a aN b bN
    by_cases s : sd a b = true
    · rw [if_pos s]
      obtain ⟨i, m, hi, hm⟩ := F.2.2.2 a b ((hsd a b aN bN).mp s)
      have hdi : dr a b i = true := (hdr a b i).mpr ⟨aN, bN, s, m, hm⟩
      rw [sm_one 36 hi (fun k hk hne => if_neg (fun z => hne (uniq a b k i hk hi z hdi))), if_pos hdi]
      exact hL a b i hi hdi
    · rw [if_neg s]
      refine ((sm_congr 36 fun k hk => if_neg (fun z => s ((hdr a b k).mp z).2.2.1)).trans (sm_0 36)).symm
  rw [sm_congr N (fun a ha => sm_congr N (fun b hb => step a ha b hb))]
  rw [sm_congr N (fun a _ => sm_swap (fun b i => if dr a b i = true then (h i + h (i + 2) - aa (i + 1) * h (i + 1)) * r (i + 1) else 0) 36 N)]
  rw [sm_swap (fun a i => sm (fun b => if dr a b i = true then (h i + h (i + 2) - aa (i + 1) * h (i + 1)) * r (i + 1) else 0) N) 36 N]
  unfold Bf
  refine sm_congr 36 fun i hi => ?_
  by_cases hz : h i + h (i + 2) - aa (i + 1) * h (i + 1) = 0
  · rw [hz, Int.zero_mul]
    refine (sm_congr N fun a _ => (sm_congr N fun b _ => ?_).trans (sm_0 N)).trans (sm_0 N)
    split <;> rfl
  · obtain ⟨a, b, s, hd⟩ := sd_S3 F hi hz
    have aN := s.2.1.1
    have bN := s.2.2.1.1
    have hdi : dr a b i = true := (hdr a b i).mpr ⟨aN, bN, (hsd a b aN bN).mpr s, _, hd⟩
    have s1 := sd_S1 F s hi hd
    have only : ∀ a2 b2, dr a2 b2 i = true → a2 = a ∧ b2 = b := by
      intro a2 b2 hz2
      obtain ⟨a2N, b2N, q, m, hm⟩ := (hdr a2 b2 i).mp hz2
      have s2 := (hsd a2 b2 a2N b2N).mp q
      have t1 := sd_S1 F s2 hi hm
      have e1 := nd_two (show i < 37 by omega) (t1.2.2.1.trans s1.2.2.1.symm) (t1.1.1.trans s1.1.1.symm)
      have e2 := nd_two (show i + 1 < 37 by omega) (t1.1.2.trans s1.1.2.symm) (t1.2.1.trans s1.2.1.symm)
      exact ⟨F.1 a2 a a2N aN s2.2.1.2 s.2.1.2 e1, F.1 b2 b b2N bN s2.2.2.1.2 s.2.2.1.2 e2⟩
    rw [sm_one N aN (fun k hk hne => (sm_congr N fun b2 _ => if_neg (fun z => hne (only k b2 z).1)).trans (sm_0 N))]
    rw [sm_one N bN (fun k hk hne => if_neg (fun z => hne (only a k z).2)), if_pos hdi]
