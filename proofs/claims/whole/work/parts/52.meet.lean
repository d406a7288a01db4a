/-! ===== the meetings ===== -/
def ints9 : List Int := [-4, -3, -2, -1, 0, 1, 2, 3, 4]
theorem mem9 {x : Int} (h : -4 ≤ x ∧ x ≤ 4) : x ∈ ints9 := by
  have : x = -4 ∨ x = -3 ∨ x = -2 ∨ x = -1 ∨ x = 0 ∨ x = 1 ∨ x = 2 ∨ x = 3 ∨ x = 4 := by omega
  rcases this with rfl | rfl | rfl | rfl | rfl | rfl | rfl | rfl | rfl <;> decide
theorem cross16L : ∀ a ∈ ints9, ∀ b ∈ ints9, (-4 ≤ a + b ∧ a + b ≤ 4) → ∀ c ∈ ints9, ∀ d ∈ ints9, (-4 ≤ c + d ∧ c + d ≤ 4) → -16 ≤ a * d - b * c ∧ a * d - b * c ≤ 16 := by decide +kernel
def crs (p q r t : Nat) : Int := (pi q - pi p) * (pj t - pj r) - (pj q - pj p) * (pi t - pi r)
theorem stp_le {p q : Nat} (hp : p < 21) (h1 : p / 5 + p % 5 ≤ 4) (hq : q < 21) (h2 : q / 5 + q % 5 ≤ 4) : (-4 ≤ pi q - pi p ∧ pi q - pi p ≤ 4) ∧ (-4 ≤ pj q - pj p ∧ pj q - pj p ≤ 4) ∧ (-4 ≤ (pi q - pi p) + (pj q - pj p) ∧ (pi q - pi p) + (pj q - pj p) ≤ 4) := by
  unfold pi pj; omega
def mtX (f g : Cv) (p q r t : Nat) : Int := ((cv f p - cv f q) * (pj t - pj r) - (cv g r - cv g t) * (pj q - pj p)) * Int.tdiv 720720 (crs p q r t)
def mtY (f g : Cv) (p q r t : Nat) : Int := ((cv g r - cv g t) * (pi q - pi p) - (cv f p - cv f q) * (pi t - pi r)) * Int.tdiv 720720 (crs p q r t)
def isMt (f g : Cv) (p q r t : Nat) : Bool := !decide (crs p q r t = 0) && ((ledW f (mtX f g p q r t) (mtY f g p q r t)).testBit p && (ledW g (mtX f g p q r t) (mtY f g p q r t)).testBit r)
def mtStep (f g : Cv) (pq rt : Nat × Nat) (L : List Pt) : List Pt := if isMt f g pq.1 pq.2 rt.1 rt.2 = true then capP L (mtX f g pq.1 pq.2 rt.1 rt.2, mtY f g pq.1 pq.2 rt.1 rt.2, mixed (ledW f (mtX f g pq.1 pq.2 rt.1 rt.2) (mtY f g pq.1 pq.2 rt.1 rt.2)) (ledW g (mtX f g pq.1 pq.2 rt.1 rt.2) (mtY f g pq.1 pq.2 rt.1 rt.2))) else L
/-- the crossing in whole parts -/
theorem mt_unit {w g A B a1 a2 b1 b2 : Int} (hg : g = if w < 0 then -1 else 1) (h16 : -16 ≤ w ∧ w ≤ 16) (h0 : w ≠ 0) : ∃ t : Int, 0 < t ∧ (g * w) * t = 720720 ∧ (0 < g * w ∧ g * w ≤ 16) ∧
    (g * (a2 * B - b2 * A)) * t = ((-A) * b2 - (-B) * a2) * Int.tdiv 720720 w ∧ (g * (b1 * A - a1 * B)) * t = ((-B) * a1 - (-A) * b1) * Int.tdiv 720720 w := by
  obtain ⟨k1, k2⟩ := w_dvd w.natAbs (by omega) (by omega)
  have c1 : a2 * B = B * a2 := Int.mul_comm _ _
  have c2 : b2 * A = A * b2 := Int.mul_comm _ _
  have c3 : b1 * A = A * b1 := Int.mul_comm _ _
  have c4 : a1 * B = B * a1 := Int.mul_comm _ _
  by_cases hn : w < 0
  · rw [if_pos hn] at hg
    subst hg
    have e1 : Int.tdiv 720720 w = -((720720 / w.natAbs : Nat) : Int) := by
      have : w = -((w.natAbs : Nat) : Int) := by omega
      conv => lhs; rw [this]
      rw [Int.tdiv_neg]; rfl
    refine ⟨((720720 / w.natAbs : Nat) : Int), by omega, ?_, by omega, ?_, ?_⟩
    · have : (-1 : Int) * w = (w.natAbs : Int) := by omega
      rw [this, ← Int.natCast_mul, k1]; rfl
    · rw [e1, c1, c2]
      simp only [Int.neg_mul, Int.mul_neg, Int.sub_mul, Int.mul_sub, Int.one_mul]
      omega
    · rw [e1, c3, c4]
      simp only [Int.neg_mul, Int.mul_neg, Int.sub_mul, Int.mul_sub, Int.one_mul]
      omega
  · rw [if_neg hn] at hg
    subst hg
    have e1 : Int.tdiv 720720 w = ((720720 / w.natAbs : Nat) : Int) := by
      have : w = ((w.natAbs : Nat) : Int) := by omega
      conv => lhs; rw [this]
      rfl
    refine ⟨((720720 / w.natAbs : Nat) : Int), by omega, ?_, by omega, ?_, ?_⟩
    · have : (1 : Int) * w = (w.natAbs : Int) := by omega
      rw [this, ← Int.natCast_mul, k1]; rfl
    · rw [e1, c1, c2]
      simp only [Int.neg_mul, Int.mul_neg, Int.sub_mul, Int.mul_sub, Int.one_mul]
      omega
    · rw [e1, c3, c4]
      simp only [Int.neg_mul, Int.mul_neg, Int.sub_mul, Int.mul_sub, Int.one_mul]
      omega
theorem pts149 : cKB[148]? = some (0, 1) ∧ cRT 148 0 = some 68 ∧ cRT 148 1 = some 108 ∧ cRT 148 4 = some 149 := ⟨rfl, rfl, rfl, rfl⟩
/-- an edge's row for its two places -/
def edPQ (f : Cv) (e : Nat → Int) (p q : Nat) : Prop := e 0 = (p : Int) ∧ e 1 = (q : Int) ∧ e 2 = cv f q - cv f p
theorem e_tryCrossing {c d p q r t : Nat} {f g : Cv} {e h : Nat → Int} {L : List Pt} {M : mM} (hcf : cur 10 f M) (hcg : cur 12 g M) (hf : Cok 999 f) (hg : Cok 999 g) (hL : PtR 149 L M) (hc : isEd c) (hd : isEd d) (he : EdR c e M) (hh : EdR d h M) (hpq : edPQ f e p q) (hrt : edPQ g h r t) (hp : hasF f p = true) (hq : hasF f q = true) (hr : hasF g r = true) (ht : hasF g t = true) :
    EQ 4 127 [vR 148, vR c, vR d] M (fun z N => z = none ∧ PtR 149 (mtStep f g (p, q) (r, t) L) N ∧ ∀ a, (a < 149 ∨ 149 + 5 < a) → N a = M a) := by
  have hc0 : cKB[c]? = some (0, 0) := hc
  have hd0 : cKB[d]? = some (0, 0) := hd
  have fp := hasF_some hp
  have fq := hasF_some hq
  have gr := hasF_some hr
  have gt := hasF_some ht
  have bp := hf p _ fp
  have bq := hf q _ fq
  have br := hg r _ gr
  have bt := hg t _ gt
  have m0 : M c 0 = (p : Int) := (he 0 (by decide)).trans hpq.1
  have m1 : M c 1 = (q : Int) := (he 1 (by decide)).trans hpq.2.1
  have m2 : M c 2 = cv f q - cv f p := (he 2 (by decide)).trans hpq.2.2
  have n0 : M d 0 = (r : Int) := (hh 0 (by decide)).trans hrt.1
  have n1 : M d 1 = (t : Int) := (hh 1 (by decide)).trans hrt.2.1
  have n2 : M d 2 = cv g t - cv g r := (hh 2 (by decide)).trans hrt.2.2
  have s1 := e_stepI hc m0 m1 (by omega) (by omega)
  have s2 := e_stepJ hc m0 m1 (by omega) (by omega)
  have s3 := e_stepI hd n0 n1 (by omega) (by omega)
  have s4 := e_stepJ hd n0 n1 (by omega) (by omega)
  rw [Int.toNat_natCast, Int.toNat_natCast] at s1 s2 s3 s4
  have z1 := stp_le bp.1 bp.2.1 bq.1 bq.2.1
  have z2 := stp_le br.1 br.2.1 bt.1 bt.2.1
  have hcr : crs p q r t = (pi q - pi p) * (pj t - pj r) - (pj q - pj p) * (pi t - pi r) := rfl
  have h16 := cross16L _ (mem9 z1.1) _ (mem9 z1.2.1) z1.2.2 _ (mem9 z2.1) _ (mem9 z2.2.1) z2.2.2
  rw [← hcr] at h16
  have hst : mtStep f g (p, q) (r, t) L = if isMt f g p q r t = true then capP L (mtX f g p q r t, mtY f g p q r t, mixed (ledW f (mtX f g p q r t) (mtY f g p q r t)) (ledW g (mtX f g p q r t) (mtY f g p q r t))) else L := rfl
  have hmt : isMt f g p q r t = (!decide (crs p q r t = 0) && ((ledW f (mtX f g p q r t) (mtY f g p q r t)).testBit p && (ledW g (mtX f g p q r t) (mtY f g p q r t)).testBit r)) := rfl
  have hX : mtX f g p q r t = ((cv f p - cv f q) * (pj t - pj r) - (cv g r - cv g t) * (pj q - pj p)) * Int.tdiv 720720 (crs p q r t) := rfl
  have hY : mtY f g p q r t = ((cv g r - cv g t) * (pi q - pi p) - (cv f p - cv f q) * (pi t - pi r)) * Int.tdiv 720720 (crs p q r t) := rfl
  have v1 := cv_le hf p
  have v2 := cv_le hf q
  have v3 := cv_le hg r
  have v4 := cv_le hg t
  have w1 : -1998 ≤ cv f q - cv f p ∧ cv f q - cv f p ≤ 1998 := by omega
  have w2 : -1998 ≤ cv g t - cv g r ∧ cv g t - cv g r ≤ 1998 := by omega
  rw [show cv f p - cv f q = -(cv f q - cv f p) by omega, show cv g r - cv g t = -(cv g t - cv g r) by omega] at hX hY
  generalize cv f q - cv f p = A at *
  generalize cv g t - cv g r = B at *
  generalize crs p q r t = w at *
  generalize pi q - pi p = a1 at *
  generalize pj q - pj p = a2 at *
  generalize pi t - pi r = b1 at *
  generalize pj t - pj r = b2 at *
  refine q_in (ls := [vR 148, vR c, vR d, vN, vN, vN, vN, vN, vN]) mq_127 (ml_127 rfl) rfl fun D hD => ?_
  rw [hst]
  by_cases h0 : w = 0
  · rw [if_neg (by rw [hmt, decide_eq_true h0]; simp)]
    refine w_aload rfl rfl ?_
    refine w_call (Or.inr rfl) ((s1)) (by omega) nof_83 rfl rfl rfl rfl (by first | rfl | (show cKB[_]? = _; assumption)) rfl ?_
    refine w_aload rfl rfl ?_
    refine w_call (Or.inr rfl) ((s4)) (by omega) nof_84 rfl rfl rfl rfl (by first | rfl | (show cKB[_]? = _; assumption)) rfl ?_
    refine w_imul rfl (w_aload rfl rfl ?_)
    refine w_call (Or.inr rfl) ((s2)) (by omega) nof_84 rfl rfl rfl rfl (by first | rfl | (show cKB[_]? = _; assumption)) rfl ?_
    refine w_aload rfl rfl ?_
    refine w_call (Or.inr rfl) ((s3)) (by omega) nof_83 rfl rfl rfl rfl (by first | rfl | (show cKB[_]? = _; assumption)) rfl ?_
    refine w_imul rfl (w_isub rfl ?_)
    rw [← hcr, h0]
    refine w_istore (ls2 := [_, _, _, _, _, _, _, _, _]) rfl rfl rfl (w_iload rfl rfl ?_)
    refine w_if_ne (tgt := 25) rfl (by first | assumption | exact i32_0 | (unfold i32 at *; omega)) rfl (fun c => absurd c (by decide)) (fun _ => ?_)
    exact w_return rfl ⟨rfl, by exact ⟨hL, fun _ _ => rfl⟩⟩
  · have hcase : ∀ sg : Int, (sg = if w < 0 then -1 else 1) → (sg = -1 ∨ sg = 1) → Wp mc_127 D 34 [vR 148, vR c, vR d, vI w, vN, vN, vN, vN, vN] [vI sg] M (fun z N => z = none ∧ PtR 149 (if isMt f g p q r t = true then capP L (mtX f g p q r t, mtY f g p q r t, mixed (ledW f (mtX f g p q r t) (mtY f g p q r t)) (ledW g (mtX f g p q r t) (mtY f g p q r t))) else L) N ∧ ∀ a, (a < 149 ∨ 149 + 5 < a) → N a = M a) := by
      intro sg hsg hsg2
      obtain ⟨u, hu, hwu, hw16, hXu, hYu⟩ := mt_unit (A := A) (B := B) (a1 := a1) (a2 := a2) (b1 := b1) (b2 := b2) hsg h16 h0
      rw [← hX] at hXu
      rw [← hY] at hYu
      have k1 := mul_le (A := 4) (B := 1998) z1.2.1 w2
      have k2 := mul_le (A := 4) (B := 1998) z2.2.1 w1
      have k3 := mul_le (A := 4) (B := 1998) z2.1 w1
      have k4 := mul_le (A := 4) (B := 1998) z1.1 w2
      have hxb : -15984 ≤ sg * (a2 * B - b2 * A) ∧ sg * (a2 * B - b2 * A) ≤ 15984 := by rcases hsg2 with rfl | rfl <;> omega
      have hyb : -15984 ≤ sg * (b1 * A - a1 * B) ∧ sg * (b1 * A - a1 * B) ≤ 15984 := by rcases hsg2 with rfl | rfl <;> omega
      generalize hx : sg * (a2 * B - b2 * A) = x at *
      generalize hy : sg * (b1 * A - a1 * B) = y at *
      generalize hz : sg * w = z at *
      have hledf : ledW f (mtX f g p q r t) (mtY f g p q r t) = leadF f x y z := by
        unfold ledW
        rw [← hXu, ← hYu, ← hwu]
        exact lead_mul hu
      have hledg : ledW g (mtX f g p q r t) (mtY f g p q r t) = leadF g x y z := by
        unfold ledW
        rw [← hXu, ← hYu, ← hwu]
        exact lead_mul hu
      rw [hledf, hledg]
      rw [hledf, hledg, decide_eq_false h0] at hmt
      have hlf := leadF_lt f x y z
      have hlg := leadF_lt g x y z
      have hdf := e_leading (t := 10) (M := M) (x := x) (y := y) (d := z) isT_10 hcf hf (by omega) (by omega) (by omega)
      have hdg := e_leading (t := 12) (M := M) (x := x) (y := y) (d := z) isT_12 hcg hg (by omega) (by omega) (by omega)
      have hf1 := e_isLeading1 (t := 10) (p := p) (M := M) (x := x) (y := y) (d := z) isT_10 hcf hf (by omega) (by omega) (by omega) fp
      have hf0 := e_isLeading0 (t := 10) (p := p) (M := M) (x := x) (y := y) (d := z) isT_10 hcf hf (by omega) (by omega) (by omega) fp
      have hg1 := e_isLeading1 (t := 12) (p := r) (M := M) (x := x) (y := y) (d := z) isT_12 hcg hg (by omega) (by omega) (by omega) gr
      have hg0 := e_isLeading0 (t := 12) (p := r) (M := M) (x := x) (y := y) (d := z) isT_12 hcg hg (by omega) (by omega) (by omega) gr
      have ntb : ∀ (f : Cv) (p : Nat), f p = some (cv f p) → minF f x y z 21 ≠ some (wv (cv f p) p x y z) → (leadF f x y z).testBit p = false := by
        intro f p fp hm
        refine Bool.eq_false_iff.mpr fun e => ?_
        obtain ⟨-, c, z1, z2⟩ := lead_tb.mp e
        rw [fp] at z1
        cases z1
        exact hm z2
      by_cases hm : minF f x y z 21 = some (wv (cv f p) p x y z)
      · rw [lead_tb.mpr ⟨bp.1, _, fp, hm⟩] at hmt
        have hf1 := hf1 hm
        by_cases hm2 : minF g x y z 21 = some (wv (cv g r) r x y z)
        · rw [lead_tb.mpr ⟨br.1, _, gr, hm2⟩] at hmt
          have hmt : isMt f g p q r t = true := hmt
          rw [if_pos hmt]
          have hg1 := hg1 hm2
          have hmx := e_mixed (leadF f x y z) (leadF g x y z) M (by omega) (by omega)
          have hml := mixed_le (leadF f x y z) (leadF g x y z)
          have hadd := e_padd (m := mixed (leadF f x y z) (leadF g x y z)) isPts_149 hL (x := x) (y := y) (d := z) (t := u) (by omega) (by omega) hw16 hu hwu (by omega)
          rw [hXu, hYu] at hadd
          refine w_istore (ls2 := [_, _, _, _, _, _, _, _, _]) rfl rfl rfl (w_iload rfl rfl (w_aload rfl rfl ?_))
          refine w_call (Or.inr rfl) ((s2)) (by omega) nof_84 rfl rfl rfl rfl (by first | rfl | (show cKB[_]? = _; assumption)) rfl ?_
          refine w_aload rfl rfl (w_getIV rfl (by first | rfl | assumption) (by first | exact Or.inl rfl | exact Or.inr rfl) (n2) (w_imul rfl (w_aload rfl rfl ?_)))
          refine w_call (Or.inr rfl) ((s4)) (by omega) nof_84 rfl rfl rfl rfl (by first | rfl | (show cKB[_]? = _; assumption)) rfl ?_
          refine w_aload rfl rfl (w_getIV rfl (by first | rfl | assumption) (by first | exact Or.inl rfl | exact Or.inr rfl) (m2) (w_imul rfl (w_isub rfl (w_imul rfl ?_))))
          rw [hx]
          refine w_istore (ls2 := [_, _, _, _, _, _, _, _, _]) rfl rfl rfl (w_iload rfl rfl (w_aload rfl rfl ?_))
          refine w_call (Or.inr rfl) ((s3)) (by omega) nof_83 rfl rfl rfl rfl (by first | rfl | (show cKB[_]? = _; assumption)) rfl ?_
          refine w_aload rfl rfl (w_getIV rfl (by first | rfl | assumption) (by first | exact Or.inl rfl | exact Or.inr rfl) (m2) (w_imul rfl (w_aload rfl rfl ?_)))
          refine w_call (Or.inr rfl) ((s1)) (by omega) nof_83 rfl rfl rfl rfl (by first | rfl | (show cKB[_]? = _; assumption)) rfl ?_
          refine w_aload rfl rfl (w_getIV rfl (by first | rfl | assumption) (by first | exact Or.inl rfl | exact Or.inr rfl) (n2) (w_imul rfl (w_isub rfl (w_imul rfl ?_))))
          rw [hy]
          refine w_istore (ls2 := [_, _, _, _, _, _, _, _, _]) rfl rfl rfl (w_iload rfl rfl (w_iload rfl rfl (w_imul rfl ?_)))
          rw [hz]
          refine w_istore (ls2 := [_, _, _, _, _, _, _, _, _]) rfl rfl rfl (w_aload rfl rfl (w_getR rfl (by first | rfl | assumption) rfl (by first | rfl | assumption) (w_getR rfl (by first | rfl | assumption) rfl (by first | rfl | assumption) (w_aload rfl rfl (w_getIV rfl (by first | rfl | assumption) (by first | exact Or.inl rfl | exact Or.inr rfl) (m0) (w_iload rfl rfl (w_iload rfl rfl ?_)))))))
          refine w_iload rfl rfl ?_
          refine w_call (Or.inr rfl) (hf1) (by omega) nof_73 rfl rfl rfl rfl (by first | rfl | (show cKB[_]? = _; assumption)) rfl ?_
          refine w_if_eq (tgt := 188) rfl (by first | assumption | exact i32_0 | (unfold i32 at *; omega)) rfl (fun c => absurd c (by decide)) (fun _ => ?_)
          refine w_aload rfl rfl (w_getR rfl (by first | rfl | assumption) rfl (by first | rfl | assumption) (w_getR rfl (by first | rfl | assumption) rfl (by first | rfl | assumption) (w_aload rfl rfl (w_getIV rfl (by first | rfl | assumption) (by first | exact Or.inl rfl | exact Or.inr rfl) (n0) (w_iload rfl rfl (w_iload rfl rfl (w_iload rfl rfl ?_)))))))
          refine w_call (Or.inr rfl) (hg1) (by omega) nof_73 rfl rfl rfl rfl (by first | rfl | (show cKB[_]? = _; assumption)) rfl ?_
          refine w_if_eq (tgt := 188) rfl (by first | assumption | exact i32_0 | (unfold i32 at *; omega)) rfl (fun c => absurd c (by decide)) (fun _ => ?_)
          refine w_aload rfl rfl (w_getR rfl (by first | rfl | assumption) rfl (by first | rfl | assumption) (w_getR rfl (by first | rfl | assumption) rfl (by first | rfl | assumption) (w_iload rfl rfl (w_iload rfl rfl (w_iload rfl rfl ?_)))))
          refine w_call (Or.inr rfl) ((hdf)) (by omega) nof_47 rfl rfl rfl rfl (by first | rfl | (show cKB[_]? = _; assumption)) rfl ?_
          refine w_aload rfl rfl (w_getR rfl (by first | rfl | assumption) rfl (by first | rfl | assumption) (w_getR rfl (by first | rfl | assumption) rfl (by first | rfl | assumption) (w_iload rfl rfl (w_iload rfl rfl (w_iload rfl rfl ?_)))))
          refine w_call (Or.inr rfl) ((hdg)) (by omega) nof_47 rfl rfl rfl rfl (by first | rfl | (show cKB[_]? = _; assumption)) rfl ?_
          refine w_call (Or.inl rfl) ((hmx)) (by omega) nof_99 rfl rfl rfl rfl trivial rfl ?_
          refine w_istore (ls2 := [_, _, _, _, _, _, _, _, _]) rfl rfl rfl (w_aload rfl rfl (w_getR rfl (by first | rfl | assumption) rfl (by first | rfl | assumption) (w_iload rfl rfl (w_iload rfl rfl (w_iload rfl rfl (w_iload rfl rfl ?_))))))
          refine w_callQ (Or.inr rfl) (hadd) (by omega) nof_74 rfl rfl rfl rfl (by first | rfl | (show cKB[_]? = _; assumption)) (fun r185 M185 hq185 => ?_)
          obtain ⟨rfl, w⟩ := hq185
          exact w_return rfl ⟨rfl, by exact w⟩
        · rw [ntb g r gr hm2] at hmt
          have hmt : ¬ isMt f g p q r t = true := by rw [hmt, Bool.and_false, Bool.and_false]; decide
          rw [if_neg hmt]
          have hg0 := hg0 hm2
          refine w_istore (ls2 := [_, _, _, _, _, _, _, _, _]) rfl rfl rfl (w_iload rfl rfl (w_aload rfl rfl ?_))
          refine w_call (Or.inr rfl) ((s2)) (by omega) nof_84 rfl rfl rfl rfl (by first | rfl | (show cKB[_]? = _; assumption)) rfl ?_
          refine w_aload rfl rfl (w_getIV rfl (by first | rfl | assumption) (by first | exact Or.inl rfl | exact Or.inr rfl) (n2) (w_imul rfl (w_aload rfl rfl ?_)))
          refine w_call (Or.inr rfl) ((s4)) (by omega) nof_84 rfl rfl rfl rfl (by first | rfl | (show cKB[_]? = _; assumption)) rfl ?_
          refine w_aload rfl rfl (w_getIV rfl (by first | rfl | assumption) (by first | exact Or.inl rfl | exact Or.inr rfl) (m2) (w_imul rfl (w_isub rfl (w_imul rfl ?_))))
          rw [hx]
          refine w_istore (ls2 := [_, _, _, _, _, _, _, _, _]) rfl rfl rfl (w_iload rfl rfl (w_aload rfl rfl ?_))
          refine w_call (Or.inr rfl) ((s3)) (by omega) nof_83 rfl rfl rfl rfl (by first | rfl | (show cKB[_]? = _; assumption)) rfl ?_
          refine w_aload rfl rfl (w_getIV rfl (by first | rfl | assumption) (by first | exact Or.inl rfl | exact Or.inr rfl) (m2) (w_imul rfl (w_aload rfl rfl ?_)))
          refine w_call (Or.inr rfl) ((s1)) (by omega) nof_83 rfl rfl rfl rfl (by first | rfl | (show cKB[_]? = _; assumption)) rfl ?_
          refine w_aload rfl rfl (w_getIV rfl (by first | rfl | assumption) (by first | exact Or.inl rfl | exact Or.inr rfl) (n2) (w_imul rfl (w_isub rfl (w_imul rfl ?_))))
          rw [hy]
          refine w_istore (ls2 := [_, _, _, _, _, _, _, _, _]) rfl rfl rfl (w_iload rfl rfl (w_iload rfl rfl (w_imul rfl ?_)))
          rw [hz]
          refine w_istore (ls2 := [_, _, _, _, _, _, _, _, _]) rfl rfl rfl (w_aload rfl rfl (w_getR rfl (by first | rfl | assumption) rfl (by first | rfl | assumption) (w_getR rfl (by first | rfl | assumption) rfl (by first | rfl | assumption) (w_aload rfl rfl (w_getIV rfl (by first | rfl | assumption) (by first | exact Or.inl rfl | exact Or.inr rfl) (m0) (w_iload rfl rfl (w_iload rfl rfl ?_)))))))
          refine w_iload rfl rfl ?_
          refine w_call (Or.inr rfl) (hf1) (by omega) nof_73 rfl rfl rfl rfl (by first | rfl | (show cKB[_]? = _; assumption)) rfl ?_
          refine w_if_eq (tgt := 188) rfl (by first | assumption | exact i32_0 | (unfold i32 at *; omega)) rfl (fun c => absurd c (by decide)) (fun _ => ?_)
          refine w_aload rfl rfl (w_getR rfl (by first | rfl | assumption) rfl (by first | rfl | assumption) (w_getR rfl (by first | rfl | assumption) rfl (by first | rfl | assumption) (w_aload rfl rfl (w_getIV rfl (by first | rfl | assumption) (by first | exact Or.inl rfl | exact Or.inr rfl) (n0) (w_iload rfl rfl (w_iload rfl rfl (w_iload rfl rfl ?_)))))))
          refine w_call (Or.inr rfl) (hg0) (by omega) nof_73 rfl rfl rfl rfl (by first | rfl | (show cKB[_]? = _; assumption)) rfl ?_
          refine w_if_eq (tgt := 188) rfl (by first | assumption | exact i32_0 | (unfold i32 at *; omega)) rfl (fun _ => ?_) (fun c => absurd c (by decide))
          exact w_return rfl ⟨rfl, by exact ⟨hL, fun _ _ => rfl⟩⟩
      · rw [ntb f p fp hm] at hmt
        have hmt : ¬ isMt f g p q r t = true := by rw [hmt, Bool.false_and, Bool.and_false]; decide
        rw [if_neg hmt]
        have hf0 := hf0 hm
        refine w_istore (ls2 := [_, _, _, _, _, _, _, _, _]) rfl rfl rfl (w_iload rfl rfl (w_aload rfl rfl ?_))
        refine w_call (Or.inr rfl) ((s2)) (by omega) nof_84 rfl rfl rfl rfl (by first | rfl | (show cKB[_]? = _; assumption)) rfl ?_
        refine w_aload rfl rfl (w_getIV rfl (by first | rfl | assumption) (by first | exact Or.inl rfl | exact Or.inr rfl) (n2) (w_imul rfl (w_aload rfl rfl ?_)))
        refine w_call (Or.inr rfl) ((s4)) (by omega) nof_84 rfl rfl rfl rfl (by first | rfl | (show cKB[_]? = _; assumption)) rfl ?_
        refine w_aload rfl rfl (w_getIV rfl (by first | rfl | assumption) (by first | exact Or.inl rfl | exact Or.inr rfl) (m2) (w_imul rfl (w_isub rfl (w_imul rfl ?_))))
        rw [hx]
        refine w_istore (ls2 := [_, _, _, _, _, _, _, _, _]) rfl rfl rfl (w_iload rfl rfl (w_aload rfl rfl ?_))
        refine w_call (Or.inr rfl) ((s3)) (by omega) nof_83 rfl rfl rfl rfl (by first | rfl | (show cKB[_]? = _; assumption)) rfl ?_
        refine w_aload rfl rfl (w_getIV rfl (by first | rfl | assumption) (by first | exact Or.inl rfl | exact Or.inr rfl) (m2) (w_imul rfl (w_aload rfl rfl ?_)))
        refine w_call (Or.inr rfl) ((s1)) (by omega) nof_83 rfl rfl rfl rfl (by first | rfl | (show cKB[_]? = _; assumption)) rfl ?_
        refine w_aload rfl rfl (w_getIV rfl (by first | rfl | assumption) (by first | exact Or.inl rfl | exact Or.inr rfl) (n2) (w_imul rfl (w_isub rfl (w_imul rfl ?_))))
        rw [hy]
        refine w_istore (ls2 := [_, _, _, _, _, _, _, _, _]) rfl rfl rfl (w_iload rfl rfl (w_iload rfl rfl (w_imul rfl ?_)))
        rw [hz]
        refine w_istore (ls2 := [_, _, _, _, _, _, _, _, _]) rfl rfl rfl (w_aload rfl rfl (w_getR rfl (by first | rfl | assumption) rfl (by first | rfl | assumption) (w_getR rfl (by first | rfl | assumption) rfl (by first | rfl | assumption) (w_aload rfl rfl (w_getIV rfl (by first | rfl | assumption) (by first | exact Or.inl rfl | exact Or.inr rfl) (m0) (w_iload rfl rfl (w_iload rfl rfl ?_)))))))
        refine w_iload rfl rfl ?_
        refine w_call (Or.inr rfl) (hf0) (by omega) nof_73 rfl rfl rfl rfl (by first | rfl | (show cKB[_]? = _; assumption)) rfl ?_
        refine w_if_eq (tgt := 188) rfl (by first | assumption | exact i32_0 | (unfold i32 at *; omega)) rfl (fun _ => ?_) (fun c => absurd c (by decide))
        exact w_return rfl ⟨rfl, by exact ⟨hL, fun _ _ => rfl⟩⟩
    have hneg := hcase (-1)
    have hpos := hcase 1
    refine w_aload rfl rfl ?_
    refine w_call (Or.inr rfl) ((s1)) (by omega) nof_83 rfl rfl rfl rfl (by first | rfl | (show cKB[_]? = _; assumption)) rfl ?_
    refine w_aload rfl rfl ?_
    refine w_call (Or.inr rfl) ((s4)) (by omega) nof_84 rfl rfl rfl rfl (by first | rfl | (show cKB[_]? = _; assumption)) rfl ?_
    refine w_imul rfl (w_aload rfl rfl ?_)
    refine w_call (Or.inr rfl) ((s2)) (by omega) nof_84 rfl rfl rfl rfl (by first | rfl | (show cKB[_]? = _; assumption)) rfl ?_
    refine w_aload rfl rfl ?_
    refine w_call (Or.inr rfl) ((s3)) (by omega) nof_83 rfl rfl rfl rfl (by first | rfl | (show cKB[_]? = _; assumption)) rfl ?_
    refine w_imul rfl (w_isub rfl ?_)
    rw [← hcr]
    refine w_istore (ls2 := [_, _, _, _, _, _, _, _, _]) rfl rfl rfl (w_iload rfl rfl ?_)
    refine w_if_ne (tgt := 25) rfl (by first | assumption | exact i32_0 | (unfold i32 at *; omega)) rfl (fun c21 => ?_) (fun c21 => ?_)
    · skip
      refine w_iload rfl rfl ?_
      refine w_if_ge (tgt := 33) rfl (by first | assumption | exact i32_0 | (unfold i32 at *; omega)) rfl (fun c26 => ?_) (fun c26 => ?_)
      · skip
        refine w_iconst rfl ?_
        first | exact hpos (by rw [if_neg (by omega)]) (Or.inr rfl) | exact hneg (by rw [if_pos (by omega)]) (Or.inl rfl)
      · skip
        refine w_iconst rfl (w_goto (tgt := 34) rfl rfl ?_)
        first | exact hpos (by rw [if_neg (by omega)]) (Or.inr rfl) | exact hneg (by rw [if_pos (by omega)]) (Or.inl rfl)
    · skip
      exfalso; omega
