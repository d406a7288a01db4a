/-! ===== the corners of a curve ===== -/
def isS (s t : Nat) : Prop := (cKB[s]? = some (0, 7) ∧ cRT s 0 = some t ∧ cRT s 2 = some (s + 1) ∧ cRT s 3 = some (s + 7) ∧ cRT s 6 = some (s + 8) ∧ cRT s 7 = some (s + 9)) ∧ (cKB[s + 7]? = some (5, 30) ∧ cKB[s + 8]? = some (2, 16) ∧ cKB[s + 9]? = some (1, 16)) ∧ isT t ∧ isPts (s + 1) ∧ t + 1 < s ∧ ∀ k, k < 30 → cRT (s + 7) k = some (s + 10 + k) ∧ cKB[s + 10 + k]? = some (0, 0)
theorem isT_10 : isT 10 := ⟨rfl, rfl, rfl⟩
theorem isT_12 : isT 12 := ⟨rfl, rfl, rfl⟩
theorem isS_68 : isS 68 10 := ⟨⟨rfl, rfl, rfl, rfl, rfl, rfl⟩, ⟨rfl, rfl, rfl⟩, isT_10, isPts_69, by decide, by decide +kernel⟩
theorem isS_108 : isS 108 12 := ⟨⟨rfl, rfl, rfl, rfl, rfl, rfl⟩, ⟨rfl, rfl, rfl⟩, isT_12, isPts_109, by decide, by decide +kernel⟩
def cv (f : Cv) (p : Nat) : Int := (f p).getD 0
def crX (f : Cv) (a b d : Nat) : Int := ((cv f a - cv f b) * (pj d - pj a) - (cv f a - cv f d) * (pj b - pj a)) * Int.tdiv 720720 (turn a b d)
def crY (f : Cv) (a b d : Nat) : Int := ((cv f a - cv f d) * (pi b - pi a) - (cv f a - cv f b) * (pi d - pi a)) * Int.tdiv 720720 (turn a b d)
def ledW (f : Cv) (X Y : Int) : Nat := leadF f X Y 720720
def isCorn (f : Cv) (a b d : Nat) : Bool := hasF f a && (hasF f b && (hasF f d && (!decide (turn a b d = 0) && (ledW f (crX f a b d) (crY f a b d)).testBit a)))
def cornStep (f : Cv) (a b d : Nat) (L : List Pt) : List Pt := if isCorn f a b d = true then capP L (crX f a b d, crY f a b d, (ledW f (crX f a b d) (crY f a b d) : Int)) else L
theorem wv_mul (c : Int) (p : Nat) (x y d t : Int) : wv c p (x * t) (y * t) (d * t) = wv c p x y d * t := by
  unfold wv
  rw [Int.add_mul, Int.add_mul]
  simp only [Int.mul_assoc, Int.mul_comm, Int.mul_left_comm]
theorem minF_all_none {f : Cv} {x y d : Int} {n : Nat} (h : ∀ p, p < n → f p = none) : minF f x y d n = none := by
  cases e : minF f x y d n with
  | none => rfl
  | some m =>
    obtain ⟨⟨p, c, h1, h2, -⟩, -⟩ := minF_some e
    rw [h p h1] at h2; cases h2
theorem minF_mul {f : Cv} {x y d t : Int} {n : Nat} (ht : 0 < t) : minF f (x * t) (y * t) (d * t) n = (minF f x y d n).map (· * t) := by
  cases e : minF f x y d n with
  | none => exact minF_all_none (minF_none e)
  | some m =>
    obtain ⟨⟨p, c, h1, h2, h3⟩, h4⟩ := minF_some e
    refine minF_eq ⟨p, c, h1, h2, by rw [wv_mul, h3]⟩ fun q e hq hfe => ?_
    rw [wv_mul]
    exact Int.mul_le_mul_of_nonneg_right (h4 q e hq hfe) (Int.le_of_lt ht)
theorem lead_tb {f : Cv} {x y d : Int} {p : Nat} : (leadF f x y d).testBit p = true ↔ p < 21 ∧ ∃ c, f p = some c ∧ minF f x y d 21 = some (wv c p x y d) := by
  unfold leadF
  cases e : minF f x y d 21 with
  | none =>
    constructor
    · intro h; simp at h
    · rintro ⟨h1, c, h2, h3⟩; cases h3
  | some m =>
    dsimp only
    rw [mk_tb, Bool.and_eq_true, decide_eq_true_eq]
    constructor
    · rintro ⟨h1, h2⟩
      unfold atF at h2
      cases hf : f p with
      | none => rw [hf] at h2; cases h2
      | some c =>
        rw [hf] at h2
        exact ⟨h1, c, rfl, by rw [of_decide_eq_true h2]⟩
    · rintro ⟨h1, c, h2, h3⟩
      refine ⟨h1, ?_⟩
      unfold atF
      rw [h2]
      have : m = wv c p x y d := by injection h3
      exact decide_eq_true this.symm
theorem lead_mul {f : Cv} {x y d t : Int} (ht : 0 < t) : leadF f (x * t) (y * t) (d * t) = leadF f x y d := by
  refine Nat.eq_of_testBit_eq fun p => Bool.eq_iff_iff.mpr ?_
  rw [lead_tb, lead_tb]
  constructor
  · rintro ⟨h1, c, h2, h3⟩
    refine ⟨h1, c, h2, ?_⟩
    rw [minF_mul ht, wv_mul] at h3
    cases e : minF f x y d 21 with
    | none => rw [e] at h3; cases h3
    | some m =>
      rw [e] at h3
      have h4 : m * t = wv c p x y d * t := by injection h3
      rw [Int.eq_of_mul_eq_mul_right (by omega) h4]
  · rintro ⟨h1, c, h2, h3⟩
    refine ⟨h1, c, h2, ?_⟩
    rw [minF_mul ht, wv_mul, h3]
    rfl
theorem w_dvd : ∀ s : Nat, s < 17 → 1 ≤ s → s * (720720 / s) = 720720 ∧ 0 < 720720 / s := by decide +kernel
theorem pl_mem : ∀ p, p < 21 → p / 5 + p % 5 ≤ 4 → p ∈ placesL := by decide +kernel
theorem turn_16L : ∀ a ∈ placesL, ∀ b ∈ placesL, ∀ d ∈ placesL, -16 ≤ turn a b d ∧ turn a b d ≤ 16 := by decide +kernel
theorem turn_16 (a : Nat) (h1 : a < 21) (h2 : a / 5 + a % 5 ≤ 4) (b : Nat) (h3 : b < 21) (h4 : b / 5 + b % 5 ≤ 4) (d : Nat) (h5 : d < 21) (h6 : d / 5 + d % 5 ≤ 4) : -16 ≤ turn a b d ∧ turn a b d ≤ 16 := turn_16L a (pl_mem a h1 h2) b (pl_mem b h3 h4) d (pl_mem d h5 h6)
/-- the point in whole parts -/
theorem cr_unit {f : Cv} {a b d : Nat} {w g : Int} (hw : turn a b d = w) (hg : g = if w < 0 then -1 else 1) (h16 : -16 ≤ w ∧ w ≤ 16) (h0 : w ≠ 0) : ∃ t : Int, 0 < t ∧ (g * w) * t = 720720 ∧ (0 < g * w ∧ g * w ≤ 16) ∧
    ((g * (cv f a - cv f b)) * (pj d - pj a) - (g * (cv f a - cv f d)) * (pj b - pj a)) * t = crX f a b d ∧
    ((g * (cv f a - cv f d)) * (pi b - pi a) - (g * (cv f a - cv f b)) * (pi d - pi a)) * t = crY f a b d := by
  obtain ⟨k1, k2⟩ := w_dvd w.natAbs (by omega) (by omega)
  unfold crX crY
  rw [hw]
  generalize cv f a - cv f b = A
  generalize cv f a - cv f d = B
  by_cases hn : w < 0
  · rw [if_pos hn] at hg
    subst hg
    refine ⟨((720720 / w.natAbs : Nat) : Int), by omega, ?_, by omega, ?_, ?_⟩
    · have : (-1 : Int) * w = (w.natAbs : Int) := by omega
      rw [this, ← Int.natCast_mul, k1]; rfl
    all_goals
      have e1 : Int.tdiv 720720 w = -((720720 / w.natAbs : Nat) : Int) := by
        have : w = -((w.natAbs : Nat) : Int) := by omega
        conv => lhs; rw [this]
        rw [Int.tdiv_neg]; rfl
      rw [e1]
      simp only [Int.neg_mul, Int.mul_neg, Int.sub_mul, Int.one_mul]
      omega
  · rw [if_neg hn] at hg
    subst hg
    refine ⟨((720720 / w.natAbs : Nat) : Int), by omega, ?_, by omega, ?_, ?_⟩
    · have : (1 : Int) * w = (w.natAbs : Int) := by omega
      rw [this, ← Int.natCast_mul, k1]; rfl
    all_goals
      have e1 : Int.tdiv 720720 w = ((720720 / w.natAbs : Nat) : Int) := by
        have : w = ((w.natAbs : Nat) : Int) := by omega
        conv => lhs; rw [this]
        rfl
      rw [e1, Int.one_mul, Int.one_mul]
theorem cv_le {f : Cv} (hf : Cok 999 f) (p : Nat) : -999 ≤ cv f p ∧ cv f p ≤ 999 := by
  unfold cv
  cases e : f p with
  | none => exact ⟨by decide, by decide⟩
  | some c => exact (hf p c e).2.2
theorem hasF_some {f : Cv} {p : Nat} (h : hasF f p = true) : f p = some (cv f p) := by
  unfold hasF at h; unfold cv
  cases e : f p with
  | none => rw [e] at h; cases h
  | some c => rfl
theorem e_tryCorner {s t a b d : Nat} {f : Cv} {L : List Pt} {M : mM} (hs : isS s t) (hc : cur t f M) (hf : Cok 999 f) (hL : PtR (s + 1) L M) (ha : hasF f a = true) (hb : hasF f b = true) (hd : hasF f d = true) : EQ 4 71 [vR s, vI a, vI b, vI d] M (fun r M1 => r = none ∧ PtR (s + 1) (cornStep f a b d L) M1 ∧ ∀ c, (c < s + 1 ∨ s + 1 + 5 < c) → M1 c = M c) := by
  obtain ⟨⟨k0, k1, k2, k3, k4, k5⟩, -, ht, hp, hts, -⟩ := hs
  have ht0 := ht.1
  have hp0 : cKB[s + 1]? = some (0, 5) := hp.1.1
  have fa := hasF_some ha
  have fb := hasF_some hb
  have fd := hasF_some hd
  have ga := hf a _ fa
  have gb := hf b _ fb
  have gd := hf d _ fd
  have h16 := turn_16 a ga.1 ga.2.1 b gb.1 gb.2.1 d gd.1 gd.2.1
  have e3 := e_turn a b d M (by omega) (by omega) (by omega)
  have va := e_at_s ht hc ga.1 fa
  have vb := e_at_s ht hc gb.1 fb
  have vd := e_at_s ht hc gd.1 fd
  have hst : cornStep f a b d L = if !decide (turn a b d = 0) && (ledW f (crX f a b d) (crY f a b d)).testBit a then capP L (crX f a b d, crY f a b d, (ledW f (crX f a b d) (crY f a b d) : Int)) else L := by
    unfold cornStep isCorn
    rw [ha, hb, hd]
    simp only [Bool.true_and]
  rw [hst]
  have b1 := pi_le (p := a) (by omega)
  have b2 := pi_le (p := b) (by omega)
  have b3 := pi_le (p := d) (by omega)
  have b4 := pj_le a
  have b5 := pj_le b
  have b6 := pj_le d
  refine q_in (ls := [vR s, vI a, vI b, vI d, vN, vN, vN, vN, vN, vN, vN]) mq_71 (ml_71 rfl) rfl fun D hD => ?_
  by_cases h0 : turn a b d = 0
  · rw [h0] at e3
    rw [if_neg (by rw [h0]; simp)]
    refine w_iload rfl rfl (w_iload rfl rfl (w_iload rfl rfl ?_))
    refine w_call (Or.inl rfl) (e3) (by omega) nof_72 rfl rfl rfl rfl trivial rfl ?_
    refine w_istore (ls2 := [_, _, _, _, _, _, _, _, _, _, _]) rfl rfl rfl (w_iload rfl rfl ?_)
    refine w_if_ne (tgt := 14) rfl (by first | assumption | exact i32_0 | (unfold i32 at *; omega)) rfl (fun c => absurd c (by decide)) (fun _ => ?_)
    exact w_return rfl ⟨rfl, by exact ⟨hL, fun _ _ => rfl⟩⟩
  · have hcase : ∀ g : Int, (g = if turn a b d < 0 then -1 else 1) → (g = -1 ∨ g = 1) → Wp mc_71 D 24 [vR s, vI a, vI b, vI d, vI (turn a b d), vN, vN, vN, vN, vN, vN] [vI g] M (fun r M1 => r = none ∧ PtR (s + 1) (if !decide (turn a b d = 0) && (ledW f (crX f a b d) (crY f a b d)).testBit a then capP L (crX f a b d, crY f a b d, (ledW f (crX f a b d) (crY f a b d) : Int)) else L) M1 ∧ ∀ c, (c < s + 1 ∨ s + 1 + 5 < c) → M1 c = M c) := by
      intro g hg hg2
      obtain ⟨u, hu, hwu, hw16, hX, hY⟩ := cr_unit (f := f) rfl hg h16 h0
      have q1 := cv_le hf a
      have q2 := cv_le hf b
      have q3 := cv_le hf d
      have l1 : -1998 ≤ g * (cv f a - cv f b) ∧ g * (cv f a - cv f b) ≤ 1998 := by rcases hg2 with rfl | rfl <;> omega
      have l2 : -1998 ≤ g * (cv f a - cv f d) ∧ g * (cv f a - cv f d) ≤ 1998 := by rcases hg2 with rfl | rfl <;> omega
      have mk4 : ∀ k : Nat, pj k = (k : Int).tmod 5 := fun k => by unfold pj; rfl
      have mk5 : ∀ k : Nat, pi k = (k : Int).tdiv 5 := fun k => by unfold pi; rfl
      generalize hA : g * (cv f a - cv f b) = A at *
      generalize hB : g * (cv f a - cv f d) = B at *
      have m1 := mul_le (A := 1998) (B := 4) l1 (by omega : -4 ≤ pj d - pj a ∧ pj d - pj a ≤ 4)
      have m2 := mul_le (A := 1998) (B := 4) l2 (by omega : -4 ≤ pj b - pj a ∧ pj b - pj a ≤ 4)
      have m3 := mul_le (A := 1998) (B := 4) l2 (by omega : -4 ≤ pi b - pi a ∧ pi b - pi a ≤ 4)
      have m4 := mul_le (A := 1998) (B := 4) l1 (by omega : -4 ≤ pi d - pi a ∧ pi d - pi a ≤ 4)
      generalize hx : A * (pj d - pj a) - B * (pj b - pj a) = x at *
      generalize hy : B * (pi b - pi a) - A * (pi d - pi a) = y at *
      generalize hz : g * turn a b d = z at *
      have hled : ledW f (crX f a b d) (crY f a b d) = leadF f x y z := by
        unfold ledW
        rw [← hX, ← hY, ← hwu]
        exact lead_mul hu
      have hlt := leadF_lt f x y z
      rw [hled]
      have hl1 := e_isLeading1 (t := t) (p := a) (M := M) (x := x) (y := y) (d := z) ht hc hf (by omega) (by omega) (by omega) fa
      have hl0 := e_isLeading0 (t := t) (p := a) (M := M) (x := x) (y := y) (d := z) ht hc hf (by omega) (by omega) (by omega) fa
      have hld := e_leading (t := t) (M := M) (x := x) (y := y) (d := z) ht hc hf (by omega) (by omega) (by omega)
      have hx' : A * (((d : Int)).tmod 5 - ((a : Int)).tmod 5) - B * (((b : Int)).tmod 5 - ((a : Int)).tmod 5) = x := hx
      have hy' : B * (((b : Int)).tdiv 5 - ((a : Int)).tdiv 5) - A * (((d : Int)).tdiv 5 - ((a : Int)).tdiv 5) = y := hy
      by_cases hm : minF f x y z 21 = some (wv (cv f a) a x y z)
      · have htb : (leadF f x y z).testBit a = true := lead_tb.mpr ⟨ga.1, _, fa, hm⟩
        rw [htb, decide_eq_false h0]
        have hadd := e_padd (m := ((leadF f x y z : Nat) : Int)) hp hL (x := x) (y := y) (d := z) (t := u) (by omega) (by omega) hw16 hu hwu (by omega)
        rw [hX, hY] at hadd
        have hl1 := hl1 hm
        refine w_istore (ls2 := [_, _, _, _, _, _, _, _, _, _, _]) rfl rfl rfl (w_iload rfl rfl (w_aload rfl rfl (w_getR rfl (by first | rfl | assumption) rfl (by first | rfl | assumption) (w_iload rfl rfl ?_))))
        refine w_call (Or.inr rfl) (va) (by omega) nof_31 rfl rfl rfl rfl (by first | rfl | (show cKB[_]? = _; assumption)) rfl ?_
        refine w_aload rfl rfl (w_getR rfl (by first | rfl | assumption) rfl (by first | rfl | assumption) (w_iload rfl rfl ?_))
        refine w_call (Or.inr rfl) (vb) (by omega) nof_31 rfl rfl rfl rfl (by first | rfl | (show cKB[_]? = _; assumption)) rfl ?_
        refine w_isub rfl (w_imul rfl ?_)
        rw [hA]
        refine w_istore (ls2 := [_, _, _, _, _, _, _, _, _, _, _]) rfl rfl rfl (w_iload rfl rfl (w_aload rfl rfl (w_getR rfl (by first | rfl | assumption) rfl (by first | rfl | assumption) (w_iload rfl rfl ?_))))
        refine w_call (Or.inr rfl) (va) (by omega) nof_31 rfl rfl rfl rfl (by first | rfl | (show cKB[_]? = _; assumption)) rfl ?_
        refine w_aload rfl rfl (w_getR rfl (by first | rfl | assumption) rfl (by first | rfl | assumption) (w_iload rfl rfl ?_))
        refine w_call (Or.inr rfl) (vd) (by omega) nof_31 rfl rfl rfl rfl (by first | rfl | (show cKB[_]? = _; assumption)) rfl ?_
        refine w_isub rfl (w_imul rfl ?_)
        rw [hB]
        refine w_istore (ls2 := [_, _, _, _, _, _, _, _, _, _, _]) rfl rfl rfl (w_iload rfl rfl (w_iload rfl rfl (w_iconst rfl (w_irem rfl (by first | assumption | exact i32_0 | (unfold i32 at *; omega)) (by first | assumption | exact i32_0 | (unfold i32 at *; omega)) (by first | decide | omega | assumption) (w_iload rfl rfl (w_iconst rfl (w_irem rfl (by first | assumption | exact i32_0 | (unfold i32 at *; omega)) (by first | assumption | exact i32_0 | (unfold i32 at *; omega)) (by first | decide | omega | assumption) ?_)))))))
        refine w_isub rfl (w_imul rfl (w_iload rfl rfl (w_iload rfl rfl (w_iconst rfl (w_irem rfl (by first | assumption | exact i32_0 | (unfold i32 at *; omega)) (by first | assumption | exact i32_0 | (unfold i32 at *; omega)) (by first | decide | omega | assumption) (w_iload rfl rfl (w_iconst rfl ?_)))))))
        refine w_irem rfl (by first | assumption | exact i32_0 | (unfold i32 at *; omega)) (by first | assumption | exact i32_0 | (unfold i32 at *; omega)) (by first | decide | omega | assumption) (w_isub rfl (w_imul rfl (w_isub rfl ?_)))
        rw [hx']
        refine w_istore (ls2 := [_, _, _, _, _, _, _, _, _, _, _]) rfl rfl rfl (w_iload rfl rfl (w_iload rfl rfl (w_iconst rfl (w_idiv rfl (by first | assumption | exact i32_0 | (unfold i32 at *; omega)) (by first | assumption | exact i32_0 | (unfold i32 at *; omega)) (by first | decide | omega | assumption) (w_iload rfl rfl (w_iconst rfl (w_idiv rfl (by first | assumption | exact i32_0 | (unfold i32 at *; omega)) (by first | assumption | exact i32_0 | (unfold i32 at *; omega)) (by first | decide | omega | assumption) ?_)))))))
        refine w_isub rfl (w_imul rfl (w_iload rfl rfl (w_iload rfl rfl (w_iconst rfl (w_idiv rfl (by first | assumption | exact i32_0 | (unfold i32 at *; omega)) (by first | assumption | exact i32_0 | (unfold i32 at *; omega)) (by first | decide | omega | assumption) (w_iload rfl rfl (w_iconst rfl ?_)))))))
        refine w_idiv rfl (by first | assumption | exact i32_0 | (unfold i32 at *; omega)) (by first | assumption | exact i32_0 | (unfold i32 at *; omega)) (by first | decide | omega | assumption) (w_isub rfl (w_imul rfl (w_isub rfl ?_)))
        rw [hy']
        refine w_istore (ls2 := [_, _, _, _, _, _, _, _, _, _, _]) rfl rfl rfl (w_iload rfl rfl (w_iload rfl rfl (w_imul rfl ?_)))
        rw [hz]
        refine w_istore (ls2 := [_, _, _, _, _, _, _, _, _, _, _]) rfl rfl rfl (w_aload rfl rfl (w_getR rfl (by first | rfl | assumption) rfl (by first | rfl | assumption) (w_iload rfl rfl (w_iload rfl rfl (w_iload rfl rfl (w_iload rfl rfl ?_))))))
        refine w_call (Or.inr rfl) (hl1) (by omega) nof_73 rfl rfl rfl rfl (by first | rfl | (show cKB[_]? = _; assumption)) rfl ?_
        refine w_if_eq (tgt := 166) rfl (by first | assumption | exact i32_0 | (unfold i32 at *; omega)) rfl (fun c => absurd c (by decide)) (fun _ => ?_)
        refine w_aload rfl rfl (w_getR rfl (by first | rfl | assumption) rfl (by first | rfl | assumption) (w_iload rfl rfl (w_iload rfl rfl (w_iload rfl rfl (w_aload rfl rfl (w_getR rfl (by first | rfl | assumption) rfl (by first | rfl | assumption) (w_iload rfl rfl ?_)))))))
        refine w_iload rfl rfl (w_iload rfl rfl ?_)
        refine w_call (Or.inr rfl) (hld) (by omega) nof_47 rfl rfl rfl rfl (by first | rfl | (show cKB[_]? = _; assumption)) rfl ?_
        refine w_callQ (Or.inr rfl) (hadd) (by omega) nof_74 rfl rfl rfl rfl (by first | rfl | (show cKB[_]? = _; assumption)) (fun r163 M163 hq163 => ?_)
        obtain ⟨rfl, w⟩ := hq163
        exact w_return rfl ⟨rfl, by exact w⟩
      · have htb : (leadF f x y z).testBit a = false := by
          cases e : (leadF f x y z).testBit a with
          | false => rfl
          | true =>
            obtain ⟨-, c, z1, z2⟩ := lead_tb.mp e
            rw [fa] at z1
            cases z1
            exact absurd z2 hm
        rw [htb, decide_eq_false h0]
        have hl0 := hl0 hm
        refine w_istore (ls2 := [_, _, _, _, _, _, _, _, _, _, _]) rfl rfl rfl (w_iload rfl rfl (w_aload rfl rfl (w_getR rfl (by first | rfl | assumption) rfl (by first | rfl | assumption) (w_iload rfl rfl ?_))))
        refine w_call (Or.inr rfl) (va) (by omega) nof_31 rfl rfl rfl rfl (by first | rfl | (show cKB[_]? = _; assumption)) rfl ?_
        refine w_aload rfl rfl (w_getR rfl (by first | rfl | assumption) rfl (by first | rfl | assumption) (w_iload rfl rfl ?_))
        refine w_call (Or.inr rfl) (vb) (by omega) nof_31 rfl rfl rfl rfl (by first | rfl | (show cKB[_]? = _; assumption)) rfl ?_
        refine w_isub rfl (w_imul rfl ?_)
        rw [hA]
        refine w_istore (ls2 := [_, _, _, _, _, _, _, _, _, _, _]) rfl rfl rfl (w_iload rfl rfl (w_aload rfl rfl (w_getR rfl (by first | rfl | assumption) rfl (by first | rfl | assumption) (w_iload rfl rfl ?_))))
        refine w_call (Or.inr rfl) (va) (by omega) nof_31 rfl rfl rfl rfl (by first | rfl | (show cKB[_]? = _; assumption)) rfl ?_
        refine w_aload rfl rfl (w_getR rfl (by first | rfl | assumption) rfl (by first | rfl | assumption) (w_iload rfl rfl ?_))
        refine w_call (Or.inr rfl) (vd) (by omega) nof_31 rfl rfl rfl rfl (by first | rfl | (show cKB[_]? = _; assumption)) rfl ?_
        refine w_isub rfl (w_imul rfl ?_)
        rw [hB]
        refine w_istore (ls2 := [_, _, _, _, _, _, _, _, _, _, _]) rfl rfl rfl (w_iload rfl rfl (w_iload rfl rfl (w_iconst rfl (w_irem rfl (by first | assumption | exact i32_0 | (unfold i32 at *; omega)) (by first | assumption | exact i32_0 | (unfold i32 at *; omega)) (by first | decide | omega | assumption) (w_iload rfl rfl (w_iconst rfl (w_irem rfl (by first | assumption | exact i32_0 | (unfold i32 at *; omega)) (by first | assumption | exact i32_0 | (unfold i32 at *; omega)) (by first | decide | omega | assumption) ?_)))))))
        refine w_isub rfl (w_imul rfl (w_iload rfl rfl (w_iload rfl rfl (w_iconst rfl (w_irem rfl (by first | assumption | exact i32_0 | (unfold i32 at *; omega)) (by first | assumption | exact i32_0 | (unfold i32 at *; omega)) (by first | decide | omega | assumption) (w_iload rfl rfl (w_iconst rfl ?_)))))))
        refine w_irem rfl (by first | assumption | exact i32_0 | (unfold i32 at *; omega)) (by first | assumption | exact i32_0 | (unfold i32 at *; omega)) (by first | decide | omega | assumption) (w_isub rfl (w_imul rfl (w_isub rfl ?_)))
        rw [hx']
        refine w_istore (ls2 := [_, _, _, _, _, _, _, _, _, _, _]) rfl rfl rfl (w_iload rfl rfl (w_iload rfl rfl (w_iconst rfl (w_idiv rfl (by first | assumption | exact i32_0 | (unfold i32 at *; omega)) (by first | assumption | exact i32_0 | (unfold i32 at *; omega)) (by first | decide | omega | assumption) (w_iload rfl rfl (w_iconst rfl (w_idiv rfl (by first | assumption | exact i32_0 | (unfold i32 at *; omega)) (by first | assumption | exact i32_0 | (unfold i32 at *; omega)) (by first | decide | omega | assumption) ?_)))))))
        refine w_isub rfl (w_imul rfl (w_iload rfl rfl (w_iload rfl rfl (w_iconst rfl (w_idiv rfl (by first | assumption | exact i32_0 | (unfold i32 at *; omega)) (by first | assumption | exact i32_0 | (unfold i32 at *; omega)) (by first | decide | omega | assumption) (w_iload rfl rfl (w_iconst rfl ?_)))))))
        refine w_idiv rfl (by first | assumption | exact i32_0 | (unfold i32 at *; omega)) (by first | assumption | exact i32_0 | (unfold i32 at *; omega)) (by first | decide | omega | assumption) (w_isub rfl (w_imul rfl (w_isub rfl ?_)))
        rw [hy']
        refine w_istore (ls2 := [_, _, _, _, _, _, _, _, _, _, _]) rfl rfl rfl (w_iload rfl rfl (w_iload rfl rfl (w_imul rfl ?_)))
        rw [hz]
        refine w_istore (ls2 := [_, _, _, _, _, _, _, _, _, _, _]) rfl rfl rfl (w_aload rfl rfl (w_getR rfl (by first | rfl | assumption) rfl (by first | rfl | assumption) (w_iload rfl rfl (w_iload rfl rfl (w_iload rfl rfl (w_iload rfl rfl ?_))))))
        refine w_call (Or.inr rfl) (hl0) (by omega) nof_73 rfl rfl rfl rfl (by first | rfl | (show cKB[_]? = _; assumption)) rfl ?_
        refine w_if_eq (tgt := 166) rfl (by first | assumption | exact i32_0 | (unfold i32 at *; omega)) rfl (fun _ => ?_) (fun c => absurd c (by decide))
        exact w_return rfl ⟨rfl, by exact ⟨hL, fun _ _ => rfl⟩⟩
    have hneg := hcase (-1)
    have hpos := hcase 1
    refine w_iload rfl rfl (w_iload rfl rfl (w_iload rfl rfl ?_))
    refine w_call (Or.inl rfl) (e3) (by omega) nof_72 rfl rfl rfl rfl trivial rfl ?_
    refine w_istore (ls2 := [_, _, _, _, _, _, _, _, _, _, _]) rfl rfl rfl (w_iload rfl rfl ?_)
    refine w_if_ne (tgt := 14) rfl (by first | assumption | exact i32_0 | (unfold i32 at *; omega)) rfl (fun c10 => ?_) (fun c10 => ?_)
    · skip
      refine w_iload rfl rfl ?_
      refine w_if_ge (tgt := 23) rfl (by first | assumption | exact i32_0 | (unfold i32 at *; omega)) rfl (fun c16 => ?_) (fun c16 => ?_)
      · skip
        refine w_iconst rfl ?_
        first | exact hpos (by rw [if_neg (by omega)]) (Or.inr rfl) | exact hneg (by rw [if_pos (by omega)]) (Or.inl rfl)
      · skip
        refine w_iconst rfl (w_goto (tgt := 24) rfl rfl ?_)
        first | exact hpos (by rw [if_neg (by omega)]) (Or.inr rfl) | exact hneg (by rw [if_pos (by omega)]) (Or.inl rfl)
    · skip
      exfalso; omega
