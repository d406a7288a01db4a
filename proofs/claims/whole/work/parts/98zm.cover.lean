/-! ===== every point off the lines lies in a cell ===== -/
theorem insT_iff {p q r : Nat} {g : Int × Int} : insT p q r g = true ↔ (0 < turn p q r ∧ 0 < shr q r g ∧ 0 < shr r p g ∧ 0 < shr p q g) ∨ (turn p q r < 0 ∧ shr q r g < 0 ∧ shr r p g < 0 ∧ shr p q g < 0) := by
  unfold insT
  simp only [Bool.or_eq_true, Bool.and_eq_true, decide_eq_true_eq]
theorem shr_sw (p q : Nat) (g : Int × Int) : shr q p g = -shr p q g := by unfold shr; grind
theorem ins_sw1 {p q r : Nat} {g : Int × Int} (h : insT p q r g = true) : insT q p r g = true := by
  rw [insT_iff] at h ⊢
  have e1 := turn_sw p q r
  have e2 := shr_sw p q g
  have e3 := shr_sw q r g
  have e4 := shr_sw r p g
  omega
theorem ins_sw2 {p q r : Nat} {g : Int × Int} (h : insT p q r g = true) : insT p r q g = true := by
  rw [insT_iff] at h ⊢
  have e1 := turn_sw p q r
  have e2 := shr_sw p q g
  have e3 := shr_sw q r g
  have e4 := shr_sw r p g
  omega
theorem rC_sw1 (f : Cv) (p q r : Nat) (g : Int × Int) : rC f (triR q p r g) = rC f (triR p q r g) := by
  unfold triR
  simp only [rC]
  rw [(turn_sw p q r).1, Int.tdiv_neg, shr_sw r p g, shr_sw q r g, shr_sw p q g]
  grind
theorem rC_sw2 (f : Cv) (p q r : Nat) (g : Int × Int) : rC f (triR p r q g) = rC f (triR p q r g) := by
  unfold triR
  simp only [rC]
  rw [(turn_sw p q r).2, Int.tdiv_neg, shr_sw q r g, shr_sw p q g, shr_sw r p g]
  grind
theorem sort3 {Φ : Nat → Nat → Nat → Prop} (s1 : ∀ p q r, Φ p q r → Φ q p r) (s2 : ∀ p q r, Φ p q r → Φ p r q) {p q r : Nat} (h : Φ p q r) (hne : p ≠ q ∧ q ≠ r ∧ p ≠ r) : ∃ a b c, a < b ∧ b < c ∧ Φ a b c := by
  rcases Nat.lt_or_ge p q with a | a <;> rcases Nat.lt_or_ge q r with b | b <;> rcases Nat.lt_or_ge p r with c | c
  · exact ⟨p, q, r, a, b, h⟩
  · omega
  · exact ⟨p, r, q, c, by omega, s2 _ _ _ h⟩
  · exact ⟨r, p, q, by omega, a, s1 _ _ _ (s2 _ _ _ h)⟩
  · exact ⟨q, p, r, by omega, c, s1 _ _ _ h⟩
  · exact ⟨q, r, p, b, by omega, s2 _ _ _ (s1 _ _ _ h)⟩
  · omega
  · exact ⟨r, q, p, by omega, by omega, s1 _ _ _ (s2 _ _ _ (s1 _ _ _ h))⟩
theorem ins_ne {p q r : Nat} {g : Int × Int} (h : insT p q r g = true) : p ≠ q ∧ q ≠ r ∧ p ≠ r := by
  have h0 : turn p q r ≠ 0 := by
    rw [insT_iff] at h
    omega
  refine ⟨fun e => h0 ?_, fun e => h0 ?_, fun e => h0 ?_⟩ <;> subst e <;> unfold turn <;> grind
theorem rV_le {f : Cv} {X Y F : Int} : ∀ {u : List (Nat × Int)}, (∀ a ∈ u, 0 < a.2 ∧ vl f a.1 X Y ≤ F) → rV f X Y u ≤ F * rW u ∧ (F * rW u ≤ rV f X Y u → ∀ a ∈ u, vl f a.1 X Y = F)
  | [], _ => ⟨by simp [rV, rW], fun _ a ha => by cases ha⟩
  | a :: u, h => by
    have ih := rV_le (u := u) (fun b hb => h b (List.mem_cons_of_mem _ hb))
    obtain ⟨h1, h2⟩ := h a List.mem_cons_self
    have h3 : a.2 * vl f a.1 X Y ≤ a.2 * F := Int.mul_le_mul_of_nonneg_left h2 (Int.le_of_lt h1)
    have e : F * (a.2 + rW u) = a.2 * F + F * rW u := by grind
    rw [rV, rW, e]
    refine ⟨by omega, fun hh => ?_⟩
    have h4 : a.2 * vl f a.1 X Y = a.2 * F := by omega
    have h5 := Int.eq_of_mul_eq_mul_left (by omega) h4
    intro b hb
    rcases List.mem_cons.mp hb with z | z
    · rw [z]; exact h5
    · exact ih.2 (by omega) b z
theorem pivL : (placesL.all fun p => placesL.all fun q => !decide (p < q) || placesL.all fun r => !decide (q < r) || (List.range 16).all fun i => !insT p q r (gp i) || placesL.all fun k => (decide (k = p) || (decide (k = q) || decide (k = r))) || (insT k q r (gp i) || (insT p k r (gp i) || insT p q k (gp i)))) = true := by decide +kernel
theorem piv {p q r k i : Nat} (hp : p ∈ placesL) (hq : q ∈ placesL) (hr : r ∈ placesL) (hk : k ∈ placesL) (hi : i < 16) (pq : p < q) (qr : q < r) (h : insT p q r (gp i) = true) (kp : k ≠ p) (kq : k ≠ q) (kr : k ≠ r) : insT k q r (gp i) = true ∨ insT p k r (gp i) = true ∨ insT p q k (gp i) = true := by
  have h1 := List.all_eq_true.mp (List.all_eq_true.mp pivL p hp) q hq
  rw [decide_eq_true pq, Bool.not_true, Bool.false_or] at h1
  have h2 := List.all_eq_true.mp h1 r hr
  rw [decide_eq_true qr, Bool.not_true, Bool.false_or] at h2
  have h3 := List.all_eq_true.mp h2 i (List.mem_range.mpr hi)
  rw [h, Bool.not_true, Bool.false_or] at h3
  have h4 := List.all_eq_true.mp h3 k hk
  rw [decide_eq_false kp, decide_eq_false kq, decide_eq_false kr, Bool.false_or, Bool.false_or, Bool.false_or, Bool.or_eq_true, Bool.or_eq_true] at h4
  exact h4
theorem cover {f : Cv} {B : Int} {i : Nat} (hf : Cok B f) (hi : i < 16) (h : ∃ p q r, hasF f p = true ∧ hasF f q = true ∧ hasF f r = true ∧ insT p q r (gp i) = true) : ∃ X Y, genAt f X Y i := by
  have hlt : ∀ k, hasF f k = true → k < 21 := fun k hk => (hf k _ (hasF_cv hk)).1
  obtain ⟨p0, q0, r0, a1, a2, a3, a4⟩ := h
  have l1 := hlt p0 a1
  have l2 := hlt q0 a2
  have l3 := hlt r0 a3
  obtain ⟨n, n1, ⟨b1, b2, b3, b4⟩, n3⟩ := argmin (P := fun n => hasF f (n % 21) = true ∧ hasF f (n / 21 % 21) = true ∧ hasF f (n / 441) = true ∧ insT (n % 21) (n / 21 % 21) (n / 441) (gp i) = true) (g := fun n => rC f (triR (n % 21) (n / 21 % 21) (n / 441) (gp i))) (x := fun _ => 1) (fun _ _ => by decide) 9261 ⟨p0 + 21 * q0 + 441 * r0, by omega, by
    rw [show (p0 + 21 * q0 + 441 * r0) % 21 = p0 by omega, show (p0 + 21 * q0 + 441 * r0) / 21 % 21 = q0 by omega, show (p0 + 21 * q0 + 441 * r0) / 441 = r0 by omega]
    exact ⟨a1, a2, a3, a4⟩⟩
  have hmin : ∀ p q r, hasF f p = true → hasF f q = true → hasF f r = true → insT p q r (gp i) = true → rC f (triR (n % 21) (n / 21 % 21) (n / 441) (gp i)) ≤ rC f (triR p q r (gp i)) := by
    intro p q r c1 c2 c3 c4
    have l1 := hlt p c1
    have l2 := hlt q c2
    have l3 := hlt r c3
    have e1 : (p + 21 * q + 441 * r) % 21 = p := by omega
    have e2 : (p + 21 * q + 441 * r) / 21 % 21 = q := by omega
    have e3 : (p + 21 * q + 441 * r) / 441 = r := by omega
    have := n3 (p + 21 * q + 441 * r) (by omega) (by rw [e1, e2, e3]; exact ⟨c1, c2, c3, c4⟩)
    rw [e1, e2, e3] at this
    omega
  generalize n % 21 = p1 at *
  generalize n / 21 % 21 = q1 at *
  generalize n / 441 = r1 at *
  obtain ⟨a, b, c, ab, bc, ha, hb, hc, hin, heq⟩ := sort3 (Φ := fun p q r => hasF f p = true ∧ hasF f q = true ∧ hasF f r = true ∧ insT p q r (gp i) = true ∧ rC f (triR p q r (gp i)) = rC f (triR p1 q1 r1 (gp i))) (fun p q r ⟨z1, z2, z3, z4, z5⟩ => ⟨z2, z1, z3, ins_sw1 z4, (rC_sw1 f p q r _).trans z5⟩) (fun p q r ⟨z1, z2, z3, z4, z5⟩ => ⟨z1, z3, z2, ins_sw2 z4, (rC_sw2 f p q r _).trans z5⟩) ⟨b1, b2, b3, b4, rfl⟩ (ins_ne b4)
  rw [← heq] at hmin
  have ht := turn_L hf ha hb hc
  have hpos := triR_pos ht hin
  have ce := cr_eq (f := f) ht hpos.1
  have hs := triR_sum (g := gp i) ht hpos.1
  generalize crX f a b c = X at *
  generalize crY f a b c = Y at *
  have hat : rV f X Y (triR a b c (gp i)) = vl f a X Y * rW (triR a b c (gp i)) := by
    refine rV_at (fun x hx => ⟨hpos.2 x hx, ?_⟩)
    unfold triR at hx
    simp only [List.mem_cons, List.not_mem_nil, or_false] at hx
    rcases hx with rfl | rfl | rfl
    · exact ⟨ha, rfl⟩
    · exact ⟨hb, ce.1.symm⟩
    · exact ⟨hc, ce.2.symm⟩
  have hge : ∀ k, hasF f k = true → vl f a X Y ≤ vl f k X Y := by
    intro k hk
    rcases Int.lt_or_le (vl f k X Y) (vl f a X Y) with z | z
    · exfalso
      have bad : ∀ x y w, hasF f x = true → hasF f y = true → hasF f w = true → insT x y w (gp i) = true → vl f x X Y ≤ vl f a X Y → vl f y X Y ≤ vl f a X Y → vl f w X Y ≤ vl f a X Y → (vl f x X Y = vl f a X Y ∧ vl f y X Y = vl f a X Y ∧ vl f w X Y = vl f a X Y) := by
        intro x y w x1 y1 w1 hxi v1 v2 v3
        have tx := turn_L hf x1 y1 w1
        have px := triR_pos tx hxi
        have sx := triR_sum (g := gp i) tx px.1
        have hle := rV_le (f := f) (X := X) (Y := Y) (F := vl f a X Y) (u := triR x y w (gp i)) (fun d hd => ⟨px.2 d hd, by
          unfold triR at hd
          simp only [List.mem_cons, List.not_mem_nil, or_false] at hd
          rcases hd with rfl | rfl | rfl
          · exact v1
          · exact v2
          · exact v3⟩)
        have hm := hmin x y w x1 y1 w1 hxi
        have hall := hle.2 (by
          rw [rV_eq] at hat ⊢
          rw [sx.1, sx.2.1, sx.2.2]
          rw [hs.1, hs.2.1, hs.2.2] at hat
          omega)
        unfold triR at hall
        exact ⟨hall _ List.mem_cons_self, hall _ (List.mem_cons_of_mem _ List.mem_cons_self), hall _ (List.mem_cons_of_mem _ (List.mem_cons_of_mem _ List.mem_cons_self))⟩
      have ka : k ≠ a := fun e => by rw [e] at z; omega
      have kb : k ≠ b := fun e => by rw [e] at z; omega
      have kc : k ≠ c := fun e => by rw [e] at z; omega
      rcases piv (hasF_pl hf ha) (hasF_pl hf hb) (hasF_pl hf hc) (hasF_pl hf hk) hi ab bc hin ka kb kc with y | y | y
      · have := bad k b c hk hb hc y (by omega) (by omega) (by omega)
        omega
      · have := bad a k c ha hk hc y (by omega) (by omega) (by omega)
        omega
      · have := bad a b k ha hb hk y (by omega) (by omega) (by omega)
        omega
    · exact z
  exact ⟨X, Y, a, b, c, hin, ⟨ha, hge⟩, ⟨hb, fun j hj => by rw [← ce.1]; exact hge j hj⟩, hc, fun j hj => by rw [← ce.2]; exact hge j hj⟩
/-- terms not on one line make a vertex -/
theorem off_corn {f : Cv} {B : Int} {p q r : Nat} (hf : Cok B f) (hp : hasF f p = true) (hq : hasF f q = true) (hr : hasF f r = true) (h0 : turn p q r ≠ 0) : (cornF f).length ≠ 0 := by
  have hg := gen_in p (hasF_pl hf hp) q (hasF_pl hf hq) r (hasF_pl hf hr)
  unfold genIn at hg
  rw [decide_eq_false h0, Bool.false_or, List.any_eq_true] at hg
  obtain ⟨i, hi, hin⟩ := hg
  obtain ⟨X, Y, a, b, c, g0, g1, g2, g3⟩ := cover hf (List.mem_range.mp hi) ⟨p, q, r, hp, hq, hr, hin⟩
  have hco : isCo f X Y := ⟨a, b, c, (triR_pos (turn_L hf g1.1 g2.1 g3.1) g0).1, g1, g2, g3⟩
  obtain ⟨R, r1, -⟩ := (corn_iff hf).mp hco
  intro z
  rw [List.length_eq_zero_iff.mp z] at r1
  cases r1
