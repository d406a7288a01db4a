/-! ===== the model's comparison of two edges ===== -/
theorem ends_none {f : Cv} {e : Nat → Int} (h : lenQ f e) : e 5 ≠ -1000000 → e 4 ≠ -1000000 := fun z => (h.2 z).1
def sameQ (C K : List Pt) (e d : Nat → Int) : Bool := linE d e && smE K d C e
theorem ends_iff {e d : Nat → Int} (e45 : e 5 ≠ -1000000 → e 4 ≠ -1000000) (d45 : d 5 ≠ -1000000 → d 4 ≠ -1000000) : endsR e = endsR d ↔ ((e 4 = -1000000 ↔ d 4 = -1000000) ∧ (e 5 = -1000000 ↔ d 5 = -1000000)) := by
  unfold endsR
  split <;> split <;> (try split) <;> (try split) <;> omega
theorem ends_1 {e : Nat → Int} : endsR e < 1 ↔ e 4 = -1000000 := by
  unfold endsR
  split <;> (try split) <;> omega
theorem ends_2 {e : Nat → Int} (e45 : e 5 ≠ -1000000 → e 4 ≠ -1000000) : endsR e < 2 ↔ e 5 = -1000000 := by
  unfold endsR
  split <;> (try split) <;> omega
theorem lnG_le8 {p q : Nat} (hp : p < 25) (hq : q < 25) : lnG p q ≤ 8 := by
  have b1 := pi_le hp
  have b2 := pi_le hq
  have b3 := pj_le p
  have b4 := pj_le q
  unfold lnG
  rcases Nat.eq_zero_or_pos (pi q - pi p).natAbs with z | z
  · rw [z, Nat.gcd_zero_left]; omega
  · have := Nat.gcd_le_left (pj q - pj p).natAbs z
    omega
set_option maxRecDepth 100000 in
theorem m_areSame {f g : Cv} {j k p q r t : Nat} {e d : Nat → Int} {M : mM} (hcf : mcur 0 f M) (hcg : mcur 25 g M) (hvf : mvC 0 f M) (hvg : mvC 1 g M) (hj : j < 80) (hk : k < 80) (hp : p < 21) (hq : q < 21) (hr : r < 21) (ht : t < 21)
    (fp : hasF f p = true) (fq : hasF f q = true) (gr : hasF g r = true) (gt : hasF g t = true)
    (x0 : M 166 ((j : Int)).toNat = (p : Int)) (x1 : M 167 ((j : Int)).toNat = (q : Int)) (x4 : M 168 ((j : Int)).toNat = e 4) (x5 : M 169 ((j : Int)).toNat = e 5) (x6 : M 170 ((j : Int)).toNat = e 6) (x7 : M 171 ((j : Int)).toNat = e 7)
    (y0 : M 166 ((k : Int)).toNat = (r : Int)) (y1 : M 167 ((k : Int)).toNat = (t : Int)) (y4 : M 168 ((k : Int)).toNat = d 4) (y5 : M 169 ((k : Int)).toNat = d 5) (y6 : M 170 ((k : Int)).toNat = d 6) (y7 : M 171 ((k : Int)).toNat = d 7)
    (he : edPQ f e p q) (hd : edPQ g d r t)
    (e4 : e 4 = -1000000 ∨ (0 ≤ e 4 ∧ e 4 < (cornF f).length)) (e5 : e 5 = -1000000 ∨ (0 ≤ e 5 ∧ e 5 < (cornF f).length))
    (d4 : d 4 = -1000000 ∨ (0 ≤ d 4 ∧ d 4 < (cornF g).length)) (d5 : d 5 = -1000000 ∨ (0 ≤ d 5 ∧ d 5 < (cornF g).length))
    (e6 : (-4 ≤ e 6 ∧ e 6 ≤ 4) ∧ -4 ≤ e 7 ∧ e 7 ≤ 4) (d6 : (-4 ≤ d 6 ∧ d 6 ≤ 4) ∧ -4 ≤ d 7 ∧ d 7 ≤ 4)
    (e45 : e 5 ≠ -1000000 → e 4 ≠ -1000000) (d45 : d 5 ≠ -1000000 → d 4 ≠ -1000000) (hf : Cok 999 f) (hg : Cok 999 g) :
    E 3 246 [vR 155, vI j, vI k] M (some (vI (if sameQ (cornF f) (cornF g) e d = true then 1 else 0))) M := by
  have we := m_weight hj (by omega) (by omega) x0 x1
  have wd := m_weight hk (by omega) (by omega) y0 y1
  have tp1 : (p : Int).tdiv 5 = pi p := rfl
  have tp2 : (p : Int).tmod 5 = pj p := rfl
  have tq1 : (q : Int).tdiv 5 = pi q := rfl
  have tq2 : (q : Int).tmod 5 = pj q := rfl
  have tr1 : (r : Int).tdiv 5 = pi r := rfl
  have tr2 : (r : Int).tmod 5 = pj r := rfl
  have tt1 : (t : Int).tdiv 5 = pi t := rfl
  have tt2 : (t : Int).tmod 5 = pj t := rfl
  have bp := pi_le (p := p) (by omega)
  have bq := pi_le (p := q) (by omega)
  have br := pi_le (p := r) (by omega)
  have bt := pi_le (p := t) (by omega)
  have cp := pj_le p
  have cq := pj_le q
  have cr := pj_le r
  have ct := pj_le t
  have rp : M 156 ((p : Int)).toNat = cv f p := by
    have := hcf p (by omega)
    rw [Nat.zero_add] at this
    exact this.trans (mv_some fp)
  have rq : M 156 ((q : Int)).toNat = cv f q := by
    have := hcf q (by omega)
    rw [Nat.zero_add] at this
    exact this.trans (mv_some fq)
  have rr : M 156 ((25 : Int) + (r : Int)).toNat = cv g r := by
    rw [show ((25 : Int) + (r : Int)).toNat = 25 + r by omega]
    exact (hcg r (by omega)).trans (mv_some gr)
  have rt : M 156 ((25 : Int) + (t : Int)).toNat = cv g t := by
    rw [show ((25 : Int) + (t : Int)).toNat = 25 + t by omega]
    exact (hcg t (by omega)).trans (mv_some gt)
  have v1 := cv_le hf p
  have v2 := cv_le hf q
  have v3 := cv_le hg r
  have v4 := cv_le hg t
  have hlw : pi q - pi p = pi t - pi r → pj q - pj p = pj t - pj r → lnG p q = lnG r t := by
    intro a b
    unfold lnG
    rw [a, b]
  have cf : ∀ c : Int, c ≠ -1000000 → (c = -1000000 ∨ (0 ≤ c ∧ c < (cornF f).length)) → (M 162 c.toNat = (ptAt (cornF f) c).1 ∧ M 163 c.toNat = (ptAt (cornF f) c).2.1) ∧ (0 ≤ c ∧ c < 16) := by
    intro c h1 h2
    have h2 := h2.resolve_left h1
    have h3 := hvf.2.1
    have h4 := hvf.2.2 c.toNat _ (ptAt_eq h2.1 h2.2)
    rw [Nat.mul_zero, Nat.zero_add] at h4
    exact ⟨⟨h4.1, h4.2.1⟩, by omega⟩
  have cg : ∀ c : Int, c ≠ -1000000 → (c = -1000000 ∨ (0 ≤ c ∧ c < (cornF g).length)) → (M 162 ((16 : Int) + c).toNat = (ptAt (cornF g) c).1 ∧ M 163 ((16 : Int) + c).toNat = (ptAt (cornF g) c).2.1) ∧ (0 ≤ c ∧ c < 16) := by
    intro c h1 h2
    have h2 := h2.resolve_left h1
    have h3 := hvg.2.1
    have h4 := hvg.2.2 c.toNat _ (ptAt_eq h2.1 h2.2)
    rw [show ((16 : Int) + c).toNat = 16 * 1 + c.toNat by omega]
    exact ⟨⟨h4.1, h4.2.1⟩, by omega⟩
  have f4 := fun z => cf (e 4) z e4
  have f5 := fun z => cf (e 5) z e5
  have g4 := fun z => cg (d 4) z d4
  have g5 := fun z => cg (d 5) z d5
  have pb1 := ptAt_ptB hf (e 4)
  have pb2 := ptAt_ptB hf (e 5)
  have pb3 := ptAt_ptB hg (d 4)
  have pb4 := ptAt_ptB hg (d 5)
  have l1 := hvf.2.1
  have l2 := hvg.2.1
  have hend : sameQ (cornF f) (cornF g) e d = true ↔ ((pi q - pi p = pi t - pi r ∧ pj q - pj p = pj t - pj r) ∧ cv f q - cv f p = cv g t - cv g r) ∧ (((e 4 = -1000000 ↔ d 4 = -1000000) ∧ (e 5 = -1000000 ↔ d 5 = -1000000)) ∧ e 6 = d 6 ∧ e 7 = d 7) ∧ (e 4 ≠ -1000000 → (ptAt (cornF f) (e 4)).1 = (ptAt (cornF g) (d 4)).1 ∧ (ptAt (cornF f) (e 4)).2.1 = (ptAt (cornF g) (d 4)).2.1) ∧ (e 5 ≠ -1000000 → (ptAt (cornF f) (e 5)).1 = (ptAt (cornF g) (d 5)).1 ∧ (ptAt (cornF f) (e 5)).2.1 = (ptAt (cornF g) (d 5)).2.1) := by
    have hse : edSI e = pi q - pi p ∧ edSJ e = pj q - pj p := by
      unfold edSI edSJ
      rw [he.1, he.2.1]
      exact ⟨rfl, rfl⟩
    have hsd : edSI d = pi t - pi r ∧ edSJ d = pj t - pj r := by
      unfold edSI edSJ
      rw [hd.1, hd.2.1]
      exact ⟨rfl, rfl⟩
    have hE := ends_iff e45 d45
    have hD1 := ends_1 (e := d)
    have hD2 := ends_2 d45
    unfold sameQ linE smE
    rw [hse.1, hse.2, hsd.1, hsd.2, he.2.2, hd.2.2]
    unfold ptEq
    simp only [Bool.and_eq_true, Bool.or_eq_true, decide_eq_true_eq]
    rw [hD1, hD2]
    clear we wd hcf hcg hvf hvg x0 x1 x4 x5 x6 x7 y0 y1 y4 y5 y6 y7 he hd cf cg f4 f5 g4 g5 hlw rp rq rr rt hD1 hD2
    constructor
    · rintro ⟨⟨a1, a2, a3⟩, ⟨a4, a5, a6⟩, a7, a8⟩
      have hE := hE.mp a4.symm
      exact ⟨⟨⟨a1.symm, a2.symm⟩, a3.symm⟩, ⟨hE, a5.symm, a6.symm⟩, fun z => ((a7.resolve_left (fun w => z (hE.1.mpr w)))).imp Eq.symm Eq.symm, fun z => ((a8.resolve_left (fun w => z (hE.2.mpr w)))).imp Eq.symm Eq.symm⟩
    · rintro ⟨⟨⟨a1, a2⟩, a3⟩, ⟨a4, a5, a6⟩, a7, a8⟩
      refine ⟨⟨a1.symm, a2.symm, a3.symm⟩, ⟨(hE.mpr a4).symm, a5.symm, a6.symm⟩, ?_, ?_⟩
      · by_cases z : d 4 = -1000000
        · exact Or.inl z
        · exact Or.inr ((a7 (fun w => z (a4.1.mp w))).imp Eq.symm Eq.symm)
      · by_cases z : d 5 = -1000000
        · exact Or.inl z
        · exact Or.inr ((a8 (fun w => z (a4.2.mp w))).imp Eq.symm Eq.symm)
  clear he hd hcf hcg hvf hvg cf cg
  generalize hz : (if sameQ (cornF f) (cornF g) e d = true then (1 : Int) else 0) = z
  have hzz : ∀ (Q : Prop), (sameQ (cornF f) (cornF g) e d = true ↔ Q) → (Q → z = 1) ∧ (¬ Q → z = 0) := fun Q hQ => ⟨fun w => hz.symm.trans (if_pos (hQ.mpr w)), fun w => hz.symm.trans (if_neg (fun y => w (hQ.mp y)))⟩
  have hz1 := (hzz _ hend).1
  have hz0 := (hzz _ hend).2
  clear hz hend hzz
  generalize ptAt (cornF f) (e 4) = P1 at *
  generalize ptAt (cornF f) (e 5) = P2 at *
  generalize ptAt (cornF g) (d 4) = P3 at *
  generalize ptAt (cornF g) (d 5) = P4 at *
  obtain ⟨⟨b1, b2⟩, b3, b4⟩ := pb1
  obtain ⟨⟨b5, b6⟩, b7, b8⟩ := pb2
  obtain ⟨⟨b9, b10⟩, b11, b12⟩ := pb3
  obtain ⟨⟨b13, b14⟩, b15, b16⟩ := pb4
  generalize P1.1 = X1 at *
  generalize P1.2.1 = Y1 at *
  generalize P2.1 = X2 at *
  generalize P2.2.1 = Y2 at *
  generalize P3.1 = X3 at *
  generalize P3.2.1 = Y3 at *
  generalize P4.1 = X4 at *
  generalize P4.2.1 = Y4 at *
  generalize e 4 = n4 at *
  generalize e 5 = n5 at *
  generalize e 6 = n6 at *
  generalize e 7 = n7 at *
  generalize d 4 = m4 at *
  generalize d 5 = m5 at *
  generalize d 6 = m6 at *
  generalize d 7 = m7 at *
  generalize (cornF f).length = lf at *
  generalize (cornF g).length = lg at *
  obtain ⟨⟨n61, n62⟩, n71, n72⟩ := e6
  obtain ⟨⟨m61, m62⟩, m71, m72⟩ := d6
  have hw1 := lnG_le8 (p := p) (q := q) (by omega) (by omega)
  have hw2 := lnG_le8 (p := r) (q := t) (by omega) (by omega)
  refine e_in (ls := [vR 155, vI j, vI k, vN, vN]) mq_246 (ml_246 rfl) rfl fun D hD => ?_
  generalize lnG p q = w1 at *
  generalize lnG r t = w2 at *
  have no437 : z = 0 → Wp mc_246 D 437 [vR 155, vI j, vI k, vI w1, vI 0] [] M (fun r N => r = some (vI z) ∧ N = M) := by
    intro h0
    subst h0
    clear hz1 hz0
    refine w_iload rfl rfl ?_
    exact w_zreturn rfl (by first | exact Or.inl rfl | exact Or.inr rfl | omega | assumption) ⟨by first | rfl | (congr 2; omega), by rfl⟩
  have yes437 : z = 1 → Wp mc_246 D 437 [vR 155, vI j, vI k, vI w1, vI 1] [] M (fun r N => r = some (vI z) ∧ N = M) := by
    intro h0
    subst h0
    clear hz1 hz0
    refine w_iload rfl rfl ?_
    exact w_zreturn rfl (by first | exact Or.inl rfl | exact Or.inr rfl | omega | assumption) ⟨by first | rfl | (congr 2; omega), by rfl⟩
  have no356 : z = 0 → Wp mc_246 D 356 [vR 155, vI j, vI k, vI w1, vI 0] [] M (fun r N => r = some (vI z) ∧ N = M) := by
    intro h0
    have h1 := no437 h0
    clear hz1 hz0 yes437
    refine w_iload rfl rfl ?_
    refine w_if_eq (tgt := 437) rfl (by first | assumption | exact i32_0 | (unfold i32 at *; omega)) rfl (fun _ => ?_) (fun c => absurd c (by decide))
    exact h1
  have no275 : z = 0 → Wp mc_246 D 275 [vR 155, vI j, vI k, vI w1, vI 0] [] M (fun r N => r = some (vI z) ∧ N = M) := by
    intro h0
    have h1 := no356 h0
    clear hz1 hz0 yes437
    refine w_iload rfl rfl ?_
    refine w_if_eq (tgt := 356) rfl (by first | assumption | exact i32_0 | (unfold i32 at *; omega)) rfl (fun _ => ?_) (fun c => absurd c (by decide))
    exact h1
  have no163 : z = 0 → Wp mc_246 D 163 [vR 155, vI j, vI k, vI w1, vI 0] [] M (fun r N => r = some (vI z) ∧ N = M) := by
    intro h0
    have h1 := no275 h0
    clear hz1 hz0 yes437
    refine w_iload rfl rfl ?_
    refine w_if_eq (tgt := 272) rfl (by first | assumption | exact i32_0 | (unfold i32 at *; omega)) rfl (fun _ => ?_) (fun c => absurd c (by decide))
    refine w_iconst rfl (w_istore (ls2 := [_, _, _, _, _]) rfl rfl rfl ?_)
    exact h1
  have no96 : z = 0 → Wp mc_246 D 96 [vR 155, vI j, vI k, vI w1, vI 0] [] M (fun r N => r = some (vI z) ∧ N = M) := by
    intro h0
    have h1 := no163 h0
    clear hz1 hz0 yes437
    refine w_iload rfl rfl ?_
    refine w_if_eq (tgt := 160) rfl (by first | assumption | exact i32_0 | (unfold i32 at *; omega)) rfl (fun _ => ?_) (fun c => absurd c (by decide))
    refine w_iconst rfl (w_istore (ls2 := [_, _, _, _, _]) rfl rfl rfl ?_)
    exact h1
  have s5 : (n5 = -1000000 ↔ m5 = -1000000) → ((n5 ≠ -1000000 → X2 = X4 ∧ Y2 = Y4) → z = 1) → (¬ (n5 ≠ -1000000 → X2 = X4 ∧ Y2 = Y4) → z = 0) → Wp mc_246 D 356 [vR 155, vI j, vI k, vI w1, vI 1] [] M (fun r N => r = some (vI z) ∧ N = M) := by
    intro hn h1 h0
    clear hz1 hz0 no356 no275 no163 no96
    by_cases q : n5 = -1000000
    · have hy := yes437 (h1 (fun w => absurd q w))
      clear h1 h0
      refine w_iload rfl rfl ?_
      refine w_if_eq (tgt := 437) rfl (by first | assumption | exact i32_0 | (unfold i32 at *; omega)) rfl (fun c => absurd c (by decide)) (fun _ => ?_)
      refine w_aload rfl rfl (w_getR rfl (by first | rfl | assumption) rfl (by first | rfl | assumption) (w_iload rfl rfl (w_ialoadV rfl (by first | rfl | assumption) (by omega) (by omega) (x5) (w_iconst rfl ?_))))
      refine w_icmp_eq (tgt := 437) rfl (by first | assumption | exact i32_0 | (unfold i32 at *; omega)) (by first | assumption | exact i32_0 | (unfold i32 at *; omega)) rfl (fun c369 => ?_) (fun c369 => ?_)
      · skip
        exact hy
      · skip
        exfalso; omega
    · obtain ⟨⟨c1, c2⟩, c3, c4⟩ := f5 q
      obtain ⟨⟨c5, c6⟩, c7, c8⟩ := g5 (fun w => q (hn.mpr w))
      by_cases q2 : X2 = X4 ∧ Y2 = Y4
      · have hy := yes437 (h1 (fun _ => q2))
        clear h1 h0 f4 g4 f5 g5 no437 yes437 hlw
        refine w_iload rfl rfl ?_
        refine w_if_eq (tgt := 437) rfl (by first | assumption | exact i32_0 | (unfold i32 at *; omega)) rfl (fun c => absurd c (by decide)) (fun _ => ?_)
        refine w_aload rfl rfl (w_getR rfl (by first | rfl | assumption) rfl (by first | rfl | assumption) (w_iload rfl rfl (w_ialoadV rfl (by first | rfl | assumption) (by omega) (by omega) (x5) (w_iconst rfl ?_))))
        refine w_icmp_eq (tgt := 437) rfl (by first | assumption | exact i32_0 | (unfold i32 at *; omega)) (by first | assumption | exact i32_0 | (unfold i32 at *; omega)) rfl (fun c369 => ?_) (fun c369 => ?_)
        · skip
          first | exact hy | (exfalso; omega)
        · skip
          refine w_aload rfl rfl (w_getR rfl (by first | rfl | assumption) rfl (by first | rfl | assumption) (w_aload rfl rfl (w_getR rfl (by first | rfl | assumption) rfl (by first | rfl | assumption) (w_iload rfl rfl (w_ialoadV rfl (by first | rfl | assumption) (by omega) (by omega) (x5) (w_laloadV rfl (by first | rfl | assumption) (by omega) (by omega) (c1) (w_aload rfl rfl ?_)))))))
          refine w_getR rfl (by first | rfl | assumption) rfl (by first | rfl | assumption) (w_iconst rfl (w_aload rfl rfl (w_getR rfl (by first | rfl | assumption) rfl (by first | rfl | assumption) (w_iload rfl rfl (w_ialoadV rfl (by first | rfl | assumption) (by omega) (by omega) (y5) (w_iadd rfl (w_laloadV rfl (by first | rfl | assumption) (by omega) (by omega) (c5) ?_)))))))
          refine w_lcmp rfl (by first | assumption | exact i64_0 | (unfold i64 at *; omega)) (by first | assumption | exact i64_0 | (unfold i64 at *; omega)) (fun c397 => ?_) (fun c397 => ?_) (fun c397 => ?_)
          · skip
            refine w_if_ne (tgt := 434) rfl (by first | assumption | exact i32_0 | (unfold i32 at *; omega)) rfl (fun _ => ?_) (fun c => absurd c (by decide))
            exfalso; omega
          · skip
            refine w_if_ne (tgt := 434) rfl (by first | assumption | exact i32_0 | (unfold i32 at *; omega)) rfl (fun _ => ?_) (fun c => absurd c (by decide))
            exfalso; omega
          · skip
            refine w_if_ne (tgt := 434) rfl (by first | assumption | exact i32_0 | (unfold i32 at *; omega)) rfl (fun c => absurd c (by decide)) (fun _ => ?_)
            refine w_aload rfl rfl (w_getR rfl (by first | rfl | assumption) rfl (by first | rfl | assumption) (w_aload rfl rfl (w_getR rfl (by first | rfl | assumption) rfl (by first | rfl | assumption) (w_iload rfl rfl (w_ialoadV rfl (by first | rfl | assumption) (by omega) (by omega) (x5) (w_laloadV rfl (by first | rfl | assumption) (by omega) (by omega) (c2) (w_aload rfl rfl ?_)))))))
            refine w_getR rfl (by first | rfl | assumption) rfl (by first | rfl | assumption) (w_iconst rfl (w_aload rfl rfl (w_getR rfl (by first | rfl | assumption) rfl (by first | rfl | assumption) (w_iload rfl rfl (w_ialoadV rfl (by first | rfl | assumption) (by omega) (by omega) (y5) (w_iadd rfl (w_laloadV rfl (by first | rfl | assumption) (by omega) (by omega) (c6) ?_)))))))
            refine w_lcmp rfl (by first | assumption | exact i64_0 | (unfold i64 at *; omega)) (by first | assumption | exact i64_0 | (unfold i64 at *; omega)) (fun c426 => ?_) (fun c426 => ?_) (fun c426 => ?_)
            · skip
              refine w_if_ne (tgt := 434) rfl (by first | assumption | exact i32_0 | (unfold i32 at *; omega)) rfl (fun _ => ?_) (fun c => absurd c (by decide))
              exfalso; omega
            · skip
              refine w_if_ne (tgt := 434) rfl (by first | assumption | exact i32_0 | (unfold i32 at *; omega)) rfl (fun _ => ?_) (fun c => absurd c (by decide))
              exfalso; omega
            · skip
              refine w_if_ne (tgt := 434) rfl (by first | assumption | exact i32_0 | (unfold i32 at *; omega)) rfl (fun c => absurd c (by decide)) (fun _ => ?_)
              refine w_iconst rfl (w_goto (tgt := 435) rfl rfl (w_istore (ls2 := [_, _, _, _, _]) rfl rfl rfl ?_))
              first | exact hy | (exfalso; omega)
      · have hy := no437 (h0 (fun w => q2 (w q)))
        clear h1 h0 f4 g4 f5 g5 no437 yes437 hlw
        refine w_iload rfl rfl ?_
        refine w_if_eq (tgt := 437) rfl (by first | assumption | exact i32_0 | (unfold i32 at *; omega)) rfl (fun c => absurd c (by decide)) (fun _ => ?_)
        refine w_aload rfl rfl (w_getR rfl (by first | rfl | assumption) rfl (by first | rfl | assumption) (w_iload rfl rfl (w_ialoadV rfl (by first | rfl | assumption) (by omega) (by omega) (x5) (w_iconst rfl ?_))))
        refine w_icmp_eq (tgt := 437) rfl (by first | assumption | exact i32_0 | (unfold i32 at *; omega)) (by first | assumption | exact i32_0 | (unfold i32 at *; omega)) rfl (fun c369 => ?_) (fun c369 => ?_)
        · skip
          first | exact hy | (exfalso; omega)
        · skip
          refine w_aload rfl rfl (w_getR rfl (by first | rfl | assumption) rfl (by first | rfl | assumption) (w_aload rfl rfl (w_getR rfl (by first | rfl | assumption) rfl (by first | rfl | assumption) (w_iload rfl rfl (w_ialoadV rfl (by first | rfl | assumption) (by omega) (by omega) (x5) (w_laloadV rfl (by first | rfl | assumption) (by omega) (by omega) (c1) (w_aload rfl rfl ?_)))))))
          refine w_getR rfl (by first | rfl | assumption) rfl (by first | rfl | assumption) (w_iconst rfl (w_aload rfl rfl (w_getR rfl (by first | rfl | assumption) rfl (by first | rfl | assumption) (w_iload rfl rfl (w_ialoadV rfl (by first | rfl | assumption) (by omega) (by omega) (y5) (w_iadd rfl (w_laloadV rfl (by first | rfl | assumption) (by omega) (by omega) (c5) ?_)))))))
          refine w_lcmp rfl (by first | assumption | exact i64_0 | (unfold i64 at *; omega)) (by first | assumption | exact i64_0 | (unfold i64 at *; omega)) (fun c397 => ?_) (fun c397 => ?_) (fun c397 => ?_)
          · skip
            refine w_if_ne (tgt := 434) rfl (by first | assumption | exact i32_0 | (unfold i32 at *; omega)) rfl (fun _ => ?_) (fun c => absurd c (by decide))
            refine w_iconst rfl (w_istore (ls2 := [_, _, _, _, _]) rfl rfl rfl ?_)
            first | exact hy | (exfalso; omega)
          · skip
            refine w_if_ne (tgt := 434) rfl (by first | assumption | exact i32_0 | (unfold i32 at *; omega)) rfl (fun _ => ?_) (fun c => absurd c (by decide))
            refine w_iconst rfl (w_istore (ls2 := [_, _, _, _, _]) rfl rfl rfl ?_)
            first | exact hy | (exfalso; omega)
          · skip
            refine w_if_ne (tgt := 434) rfl (by first | assumption | exact i32_0 | (unfold i32 at *; omega)) rfl (fun c => absurd c (by decide)) (fun _ => ?_)
            refine w_aload rfl rfl (w_getR rfl (by first | rfl | assumption) rfl (by first | rfl | assumption) (w_aload rfl rfl (w_getR rfl (by first | rfl | assumption) rfl (by first | rfl | assumption) (w_iload rfl rfl (w_ialoadV rfl (by first | rfl | assumption) (by omega) (by omega) (x5) (w_laloadV rfl (by first | rfl | assumption) (by omega) (by omega) (c2) (w_aload rfl rfl ?_)))))))
            refine w_getR rfl (by first | rfl | assumption) rfl (by first | rfl | assumption) (w_iconst rfl (w_aload rfl rfl (w_getR rfl (by first | rfl | assumption) rfl (by first | rfl | assumption) (w_iload rfl rfl (w_ialoadV rfl (by first | rfl | assumption) (by omega) (by omega) (y5) (w_iadd rfl (w_laloadV rfl (by first | rfl | assumption) (by omega) (by omega) (c6) ?_)))))))
            refine w_lcmp rfl (by first | assumption | exact i64_0 | (unfold i64 at *; omega)) (by first | assumption | exact i64_0 | (unfold i64 at *; omega)) (fun c426 => ?_) (fun c426 => ?_) (fun c426 => ?_)
            · skip
              refine w_if_ne (tgt := 434) rfl (by first | assumption | exact i32_0 | (unfold i32 at *; omega)) rfl (fun _ => ?_) (fun c => absurd c (by decide))
              refine w_iconst rfl (w_istore (ls2 := [_, _, _, _, _]) rfl rfl rfl ?_)
              first | exact hy | (exfalso; omega)
            · skip
              refine w_if_ne (tgt := 434) rfl (by first | assumption | exact i32_0 | (unfold i32 at *; omega)) rfl (fun _ => ?_) (fun c => absurd c (by decide))
              refine w_iconst rfl (w_istore (ls2 := [_, _, _, _, _]) rfl rfl rfl ?_)
              first | exact hy | (exfalso; omega)
            · skip
              refine w_if_ne (tgt := 434) rfl (by first | assumption | exact i32_0 | (unfold i32 at *; omega)) rfl (fun c => absurd c (by decide)) (fun _ => ?_)
              exfalso; omega
  have s4 : (n4 = -1000000 ↔ m4 = -1000000) → (n5 = -1000000 ↔ m5 = -1000000) → ((n4 ≠ -1000000 → X1 = X3 ∧ Y1 = Y3) ∧ (n5 ≠ -1000000 → X2 = X4 ∧ Y2 = Y4) → z = 1) → (¬ ((n4 ≠ -1000000 → X1 = X3 ∧ Y1 = Y3) ∧ (n5 ≠ -1000000 → X2 = X4 ∧ Y2 = Y4)) → z = 0) → Wp mc_246 D 275 [vR 155, vI j, vI k, vI w1, vI 1] [] M (fun r N => r = some (vI z) ∧ N = M) := by
    intro hn hn5 h1 h0
    clear hz1 hz0 no275 no163 no96 no437 yes437 hlw
    by_cases q : n4 = -1000000
    · have hy := s5 hn5 (fun w => h1 ⟨fun w2 => absurd q w2, w⟩) (fun w => h0 (fun w2 => w w2.2))
      clear h1 h0 s5
      refine w_iload rfl rfl ?_
      refine w_if_eq (tgt := 356) rfl (by first | assumption | exact i32_0 | (unfold i32 at *; omega)) rfl (fun c => absurd c (by decide)) (fun _ => ?_)
      refine w_aload rfl rfl (w_getR rfl (by first | rfl | assumption) rfl (by first | rfl | assumption) (w_iload rfl rfl (w_ialoadV rfl (by first | rfl | assumption) (by omega) (by omega) (x4) (w_iconst rfl ?_))))
      refine w_icmp_eq (tgt := 356) rfl (by first | assumption | exact i32_0 | (unfold i32 at *; omega)) (by first | assumption | exact i32_0 | (unfold i32 at *; omega)) rfl (fun c288 => ?_) (fun c288 => ?_)
      · skip
        exact hy
      · skip
        exfalso; omega
    · obtain ⟨⟨c1, c2⟩, c3, c4⟩ := f4 q
      obtain ⟨⟨c5, c6⟩, c7, c8⟩ := g4 (fun w => q (hn.mpr w))
      by_cases q2 : X1 = X3 ∧ Y1 = Y3
      · have hy := s5 hn5 (fun w => h1 ⟨fun _ => q2, w⟩) (fun w => h0 (fun w2 => w w2.2))
        clear h1 h0 f4 g4 f5 g5 s5 no356
        refine w_iload rfl rfl ?_
        refine w_if_eq (tgt := 356) rfl (by first | assumption | exact i32_0 | (unfold i32 at *; omega)) rfl (fun c => absurd c (by decide)) (fun _ => ?_)
        refine w_aload rfl rfl (w_getR rfl (by first | rfl | assumption) rfl (by first | rfl | assumption) (w_iload rfl rfl (w_ialoadV rfl (by first | rfl | assumption) (by omega) (by omega) (x4) (w_iconst rfl ?_))))
        refine w_icmp_eq (tgt := 356) rfl (by first | assumption | exact i32_0 | (unfold i32 at *; omega)) (by first | assumption | exact i32_0 | (unfold i32 at *; omega)) rfl (fun c288 => ?_) (fun c288 => ?_)
        · skip
          first | exact hy | (exfalso; omega)
        · skip
          refine w_aload rfl rfl (w_getR rfl (by first | rfl | assumption) rfl (by first | rfl | assumption) (w_aload rfl rfl (w_getR rfl (by first | rfl | assumption) rfl (by first | rfl | assumption) (w_iload rfl rfl (w_ialoadV rfl (by first | rfl | assumption) (by omega) (by omega) (x4) (w_laloadV rfl (by first | rfl | assumption) (by omega) (by omega) (c1) (w_aload rfl rfl ?_)))))))
          refine w_getR rfl (by first | rfl | assumption) rfl (by first | rfl | assumption) (w_iconst rfl (w_aload rfl rfl (w_getR rfl (by first | rfl | assumption) rfl (by first | rfl | assumption) (w_iload rfl rfl (w_ialoadV rfl (by first | rfl | assumption) (by omega) (by omega) (y4) (w_iadd rfl (w_laloadV rfl (by first | rfl | assumption) (by omega) (by omega) (c5) ?_)))))))
          refine w_lcmp rfl (by first | assumption | exact i64_0 | (unfold i64 at *; omega)) (by first | assumption | exact i64_0 | (unfold i64 at *; omega)) (fun c316 => ?_) (fun c316 => ?_) (fun c316 => ?_)
          · skip
            refine w_if_ne (tgt := 353) rfl (by first | assumption | exact i32_0 | (unfold i32 at *; omega)) rfl (fun _ => ?_) (fun c => absurd c (by decide))
            exfalso; omega
          · skip
            refine w_if_ne (tgt := 353) rfl (by first | assumption | exact i32_0 | (unfold i32 at *; omega)) rfl (fun _ => ?_) (fun c => absurd c (by decide))
            exfalso; omega
          · skip
            refine w_if_ne (tgt := 353) rfl (by first | assumption | exact i32_0 | (unfold i32 at *; omega)) rfl (fun c => absurd c (by decide)) (fun _ => ?_)
            refine w_aload rfl rfl (w_getR rfl (by first | rfl | assumption) rfl (by first | rfl | assumption) (w_aload rfl rfl (w_getR rfl (by first | rfl | assumption) rfl (by first | rfl | assumption) (w_iload rfl rfl (w_ialoadV rfl (by first | rfl | assumption) (by omega) (by omega) (x4) (w_laloadV rfl (by first | rfl | assumption) (by omega) (by omega) (c2) (w_aload rfl rfl ?_)))))))
            refine w_getR rfl (by first | rfl | assumption) rfl (by first | rfl | assumption) (w_iconst rfl (w_aload rfl rfl (w_getR rfl (by first | rfl | assumption) rfl (by first | rfl | assumption) (w_iload rfl rfl (w_ialoadV rfl (by first | rfl | assumption) (by omega) (by omega) (y4) (w_iadd rfl (w_laloadV rfl (by first | rfl | assumption) (by omega) (by omega) (c6) ?_)))))))
            refine w_lcmp rfl (by first | assumption | exact i64_0 | (unfold i64 at *; omega)) (by first | assumption | exact i64_0 | (unfold i64 at *; omega)) (fun c345 => ?_) (fun c345 => ?_) (fun c345 => ?_)
            · skip
              refine w_if_ne (tgt := 353) rfl (by first | assumption | exact i32_0 | (unfold i32 at *; omega)) rfl (fun _ => ?_) (fun c => absurd c (by decide))
              exfalso; omega
            · skip
              refine w_if_ne (tgt := 353) rfl (by first | assumption | exact i32_0 | (unfold i32 at *; omega)) rfl (fun _ => ?_) (fun c => absurd c (by decide))
              exfalso; omega
            · skip
              refine w_if_ne (tgt := 353) rfl (by first | assumption | exact i32_0 | (unfold i32 at *; omega)) rfl (fun c => absurd c (by decide)) (fun _ => ?_)
              refine w_iconst rfl (w_goto (tgt := 354) rfl rfl (w_istore (ls2 := [_, _, _, _, _]) rfl rfl rfl ?_))
              first | exact hy | (exfalso; omega)
      · have hy := no356 (h0 (fun w => q2 (w.1 q)))
        clear h1 h0 f4 g4 f5 g5 s5 no356
        refine w_iload rfl rfl ?_
        refine w_if_eq (tgt := 356) rfl (by first | assumption | exact i32_0 | (unfold i32 at *; omega)) rfl (fun c => absurd c (by decide)) (fun _ => ?_)
        refine w_aload rfl rfl (w_getR rfl (by first | rfl | assumption) rfl (by first | rfl | assumption) (w_iload rfl rfl (w_ialoadV rfl (by first | rfl | assumption) (by omega) (by omega) (x4) (w_iconst rfl ?_))))
        refine w_icmp_eq (tgt := 356) rfl (by first | assumption | exact i32_0 | (unfold i32 at *; omega)) (by first | assumption | exact i32_0 | (unfold i32 at *; omega)) rfl (fun c288 => ?_) (fun c288 => ?_)
        · skip
          first | exact hy | (exfalso; omega)
        · skip
          refine w_aload rfl rfl (w_getR rfl (by first | rfl | assumption) rfl (by first | rfl | assumption) (w_aload rfl rfl (w_getR rfl (by first | rfl | assumption) rfl (by first | rfl | assumption) (w_iload rfl rfl (w_ialoadV rfl (by first | rfl | assumption) (by omega) (by omega) (x4) (w_laloadV rfl (by first | rfl | assumption) (by omega) (by omega) (c1) (w_aload rfl rfl ?_)))))))
          refine w_getR rfl (by first | rfl | assumption) rfl (by first | rfl | assumption) (w_iconst rfl (w_aload rfl rfl (w_getR rfl (by first | rfl | assumption) rfl (by first | rfl | assumption) (w_iload rfl rfl (w_ialoadV rfl (by first | rfl | assumption) (by omega) (by omega) (y4) (w_iadd rfl (w_laloadV rfl (by first | rfl | assumption) (by omega) (by omega) (c5) ?_)))))))
          refine w_lcmp rfl (by first | assumption | exact i64_0 | (unfold i64 at *; omega)) (by first | assumption | exact i64_0 | (unfold i64 at *; omega)) (fun c316 => ?_) (fun c316 => ?_) (fun c316 => ?_)
          · skip
            refine w_if_ne (tgt := 353) rfl (by first | assumption | exact i32_0 | (unfold i32 at *; omega)) rfl (fun _ => ?_) (fun c => absurd c (by decide))
            refine w_iconst rfl (w_istore (ls2 := [_, _, _, _, _]) rfl rfl rfl ?_)
            first | exact hy | (exfalso; omega)
          · skip
            refine w_if_ne (tgt := 353) rfl (by first | assumption | exact i32_0 | (unfold i32 at *; omega)) rfl (fun _ => ?_) (fun c => absurd c (by decide))
            refine w_iconst rfl (w_istore (ls2 := [_, _, _, _, _]) rfl rfl rfl ?_)
            first | exact hy | (exfalso; omega)
          · skip
            refine w_if_ne (tgt := 353) rfl (by first | assumption | exact i32_0 | (unfold i32 at *; omega)) rfl (fun c => absurd c (by decide)) (fun _ => ?_)
            refine w_aload rfl rfl (w_getR rfl (by first | rfl | assumption) rfl (by first | rfl | assumption) (w_aload rfl rfl (w_getR rfl (by first | rfl | assumption) rfl (by first | rfl | assumption) (w_iload rfl rfl (w_ialoadV rfl (by first | rfl | assumption) (by omega) (by omega) (x4) (w_laloadV rfl (by first | rfl | assumption) (by omega) (by omega) (c2) (w_aload rfl rfl ?_)))))))
            refine w_getR rfl (by first | rfl | assumption) rfl (by first | rfl | assumption) (w_iconst rfl (w_aload rfl rfl (w_getR rfl (by first | rfl | assumption) rfl (by first | rfl | assumption) (w_iload rfl rfl (w_ialoadV rfl (by first | rfl | assumption) (by omega) (by omega) (y4) (w_iadd rfl (w_laloadV rfl (by first | rfl | assumption) (by omega) (by omega) (c6) ?_)))))))
            refine w_lcmp rfl (by first | assumption | exact i64_0 | (unfold i64 at *; omega)) (by first | assumption | exact i64_0 | (unfold i64 at *; omega)) (fun c345 => ?_) (fun c345 => ?_) (fun c345 => ?_)
            · skip
              refine w_if_ne (tgt := 353) rfl (by first | assumption | exact i32_0 | (unfold i32 at *; omega)) rfl (fun _ => ?_) (fun c => absurd c (by decide))
              refine w_iconst rfl (w_istore (ls2 := [_, _, _, _, _]) rfl rfl rfl ?_)
              first | exact hy | (exfalso; omega)
            · skip
              refine w_if_ne (tgt := 353) rfl (by first | assumption | exact i32_0 | (unfold i32 at *; omega)) rfl (fun _ => ?_) (fun c => absurd c (by decide))
              refine w_iconst rfl (w_istore (ls2 := [_, _, _, _, _]) rfl rfl rfl ?_)
              first | exact hy | (exfalso; omega)
            · skip
              refine w_if_ne (tgt := 353) rfl (by first | assumption | exact i32_0 | (unfold i32 at *; omega)) rfl (fun c => absurd c (by decide)) (fun _ => ?_)
              exfalso; omega
  have s3 : ((((n4 = -1000000 ↔ m4 = -1000000) ∧ (n5 = -1000000 ↔ m5 = -1000000)) ∧ n6 = m6 ∧ n7 = m7) ∧ (n4 ≠ -1000000 → X1 = X3 ∧ Y1 = Y3) ∧ (n5 ≠ -1000000 → X2 = X4 ∧ Y2 = Y4) → z = 1) → (¬ ((((n4 = -1000000 ↔ m4 = -1000000) ∧ (n5 = -1000000 ↔ m5 = -1000000)) ∧ n6 = m6 ∧ n7 = m7) ∧ (n4 ≠ -1000000 → X1 = X3 ∧ Y1 = Y3) ∧ (n5 ≠ -1000000 → X2 = X4 ∧ Y2 = Y4)) → z = 0) → Wp mc_246 D 163 [vR 155, vI j, vI k, vI w1, vI 1] [] M (fun r N => r = some (vI z) ∧ N = M) := by
    intro h1 h0
    clear hz1 hz0 no163 no96 no437 yes437 hlw no356 s5 f4 f5 g4 g5
    by_cases q : ((n4 = -1000000 ↔ m4 = -1000000) ∧ (n5 = -1000000 ↔ m5 = -1000000)) ∧ n6 = m6 ∧ n7 = m7
    · have hy := s4 q.1.1 q.1.2 (fun w => h1 ⟨q, w⟩) (fun w => h0 (fun w2 => w w2.2))
      clear h1 h0 s4 no275
      refine w_iload rfl rfl ?_
      refine w_if_eq (tgt := 272) rfl (by first | assumption | exact i32_0 | (unfold i32 at *; omega)) rfl (fun c => absurd c (by decide)) (fun _ => ?_)
      refine w_aload rfl rfl (w_getR rfl (by first | rfl | assumption) rfl (by first | rfl | assumption) (w_iload rfl rfl (w_ialoadV rfl (by first | rfl | assumption) (by omega) (by omega) (x4) (w_iconst rfl ?_))))
      refine w_icmp_ne (tgt := 183) rfl (by first | assumption | exact i32_0 | (unfold i32 at *; omega)) (by first | assumption | exact i32_0 | (unfold i32 at *; omega)) rfl (fun c176 => ?_) (fun c176 => ?_)
      · skip
        refine w_iconst rfl (w_aload rfl rfl (w_getR rfl (by first | rfl | assumption) rfl (by first | rfl | assumption) (w_iload rfl rfl (w_ialoadV rfl (by first | rfl | assumption) (by omega) (by omega) (y4) (w_iconst rfl ?_)))))
        refine w_icmp_ne (tgt := 199) rfl (by first | assumption | exact i32_0 | (unfold i32 at *; omega)) (by first | assumption | exact i32_0 | (unfold i32 at *; omega)) rfl (fun c192 => ?_) (fun c192 => ?_)
        · skip
          refine w_iconst rfl ?_
          refine w_icmp_ne (tgt := 272) rfl (by first | assumption | exact i32_0 | (unfold i32 at *; omega)) (by first | assumption | exact i32_0 | (unfold i32 at *; omega)) rfl (fun c200 => ?_) (fun c200 => ?_)
          · skip
            exfalso; omega
          · skip
            refine w_aload rfl rfl (w_getR rfl (by first | rfl | assumption) rfl (by first | rfl | assumption) (w_iload rfl rfl (w_ialoadV rfl (by first | rfl | assumption) (by omega) (by omega) (x5) (w_iconst rfl ?_))))
            refine w_icmp_ne (tgt := 218) rfl (by first | assumption | exact i32_0 | (unfold i32 at *; omega)) (by first | assumption | exact i32_0 | (unfold i32 at *; omega)) rfl (fun c211 => ?_) (fun c211 => ?_)
            · skip
              refine w_iconst rfl (w_aload rfl rfl (w_getR rfl (by first | rfl | assumption) rfl (by first | rfl | assumption) (w_iload rfl rfl (w_ialoadV rfl (by first | rfl | assumption) (by omega) (by omega) (y5) (w_iconst rfl ?_)))))
              refine w_icmp_ne (tgt := 234) rfl (by first | assumption | exact i32_0 | (unfold i32 at *; omega)) (by first | assumption | exact i32_0 | (unfold i32 at *; omega)) rfl (fun c227 => ?_) (fun c227 => ?_)
              · skip
                refine w_iconst rfl ?_
                refine w_icmp_ne (tgt := 272) rfl (by first | assumption | exact i32_0 | (unfold i32 at *; omega)) (by first | assumption | exact i32_0 | (unfold i32 at *; omega)) rfl (fun c235 => ?_) (fun c235 => ?_)
                · skip
                  exfalso; omega
                · skip
                  refine w_aload rfl rfl (w_getR rfl (by first | rfl | assumption) rfl (by first | rfl | assumption) (w_iload rfl rfl (w_ialoadV rfl (by first | rfl | assumption) (by omega) (by omega) (x6) (w_aload rfl rfl (w_getR rfl (by first | rfl | assumption) rfl (by first | rfl | assumption) (w_iload rfl rfl (w_ialoadV rfl (by first | rfl | assumption) (by omega) (by omega) (y6) ?_)))))))
                  refine w_icmp_ne (tgt := 272) rfl (by first | assumption | exact i32_0 | (unfold i32 at *; omega)) (by first | assumption | exact i32_0 | (unfold i32 at *; omega)) rfl (fun c250 => ?_) (fun c250 => ?_)
                  · skip
                    exfalso; omega
                  · skip
                    refine w_aload rfl rfl (w_getR rfl (by first | rfl | assumption) rfl (by first | rfl | assumption) (w_iload rfl rfl (w_ialoadV rfl (by first | rfl | assumption) (by omega) (by omega) (x7) (w_aload rfl rfl (w_getR rfl (by first | rfl | assumption) rfl (by first | rfl | assumption) (w_iload rfl rfl (w_ialoadV rfl (by first | rfl | assumption) (by omega) (by omega) (y7) ?_)))))))
                    refine w_icmp_ne (tgt := 272) rfl (by first | assumption | exact i32_0 | (unfold i32 at *; omega)) (by first | assumption | exact i32_0 | (unfold i32 at *; omega)) rfl (fun c265 => ?_) (fun c265 => ?_)
                    · skip
                      exfalso; omega
                    · skip
                      refine w_iconst rfl (w_goto (tgt := 273) rfl rfl (w_istore (ls2 := [_, _, _, _, _]) rfl rfl rfl ?_))
                      exact hy
              · skip
                refine w_iconst rfl (w_goto (tgt := 235) rfl rfl ?_)
                refine w_icmp_ne (tgt := 272) rfl (by first | assumption | exact i32_0 | (unfold i32 at *; omega)) (by first | assumption | exact i32_0 | (unfold i32 at *; omega)) rfl (fun c235 => ?_) (fun c235 => ?_)
                · skip
                  exfalso; omega
                · skip
                  refine w_aload rfl rfl (w_getR rfl (by first | rfl | assumption) rfl (by first | rfl | assumption) (w_iload rfl rfl (w_ialoadV rfl (by first | rfl | assumption) (by omega) (by omega) (x6) (w_aload rfl rfl (w_getR rfl (by first | rfl | assumption) rfl (by first | rfl | assumption) (w_iload rfl rfl (w_ialoadV rfl (by first | rfl | assumption) (by omega) (by omega) (y6) ?_)))))))
                  refine w_icmp_ne (tgt := 272) rfl (by first | assumption | exact i32_0 | (unfold i32 at *; omega)) (by first | assumption | exact i32_0 | (unfold i32 at *; omega)) rfl (fun c250 => ?_) (fun c250 => ?_)
                  · skip
                    exfalso; omega
                  · skip
                    refine w_aload rfl rfl (w_getR rfl (by first | rfl | assumption) rfl (by first | rfl | assumption) (w_iload rfl rfl (w_ialoadV rfl (by first | rfl | assumption) (by omega) (by omega) (x7) (w_aload rfl rfl (w_getR rfl (by first | rfl | assumption) rfl (by first | rfl | assumption) (w_iload rfl rfl (w_ialoadV rfl (by first | rfl | assumption) (by omega) (by omega) (y7) ?_)))))))
                    refine w_icmp_ne (tgt := 272) rfl (by first | assumption | exact i32_0 | (unfold i32 at *; omega)) (by first | assumption | exact i32_0 | (unfold i32 at *; omega)) rfl (fun c265 => ?_) (fun c265 => ?_)
                    · skip
                      exfalso; omega
                    · skip
                      refine w_iconst rfl (w_goto (tgt := 273) rfl rfl (w_istore (ls2 := [_, _, _, _, _]) rfl rfl rfl ?_))
                      exact hy
            · skip
              refine w_iconst rfl (w_goto (tgt := 219) rfl rfl (w_aload rfl rfl (w_getR rfl (by first | rfl | assumption) rfl (by first | rfl | assumption) (w_iload rfl rfl (w_ialoadV rfl (by first | rfl | assumption) (by omega) (by omega) (y5) (w_iconst rfl ?_))))))
              refine w_icmp_ne (tgt := 234) rfl (by first | assumption | exact i32_0 | (unfold i32 at *; omega)) (by first | assumption | exact i32_0 | (unfold i32 at *; omega)) rfl (fun c227 => ?_) (fun c227 => ?_)
              · skip
                refine w_iconst rfl ?_
                refine w_icmp_ne (tgt := 272) rfl (by first | assumption | exact i32_0 | (unfold i32 at *; omega)) (by first | assumption | exact i32_0 | (unfold i32 at *; omega)) rfl (fun c235 => ?_) (fun c235 => ?_)
                · skip
                  exfalso; omega
                · skip
                  refine w_aload rfl rfl (w_getR rfl (by first | rfl | assumption) rfl (by first | rfl | assumption) (w_iload rfl rfl (w_ialoadV rfl (by first | rfl | assumption) (by omega) (by omega) (x6) (w_aload rfl rfl (w_getR rfl (by first | rfl | assumption) rfl (by first | rfl | assumption) (w_iload rfl rfl (w_ialoadV rfl (by first | rfl | assumption) (by omega) (by omega) (y6) ?_)))))))
                  refine w_icmp_ne (tgt := 272) rfl (by first | assumption | exact i32_0 | (unfold i32 at *; omega)) (by first | assumption | exact i32_0 | (unfold i32 at *; omega)) rfl (fun c250 => ?_) (fun c250 => ?_)
                  · skip
                    exfalso; omega
                  · skip
                    refine w_aload rfl rfl (w_getR rfl (by first | rfl | assumption) rfl (by first | rfl | assumption) (w_iload rfl rfl (w_ialoadV rfl (by first | rfl | assumption) (by omega) (by omega) (x7) (w_aload rfl rfl (w_getR rfl (by first | rfl | assumption) rfl (by first | rfl | assumption) (w_iload rfl rfl (w_ialoadV rfl (by first | rfl | assumption) (by omega) (by omega) (y7) ?_)))))))
                    refine w_icmp_ne (tgt := 272) rfl (by first | assumption | exact i32_0 | (unfold i32 at *; omega)) (by first | assumption | exact i32_0 | (unfold i32 at *; omega)) rfl (fun c265 => ?_) (fun c265 => ?_)
                    · skip
                      exfalso; omega
                    · skip
                      refine w_iconst rfl (w_goto (tgt := 273) rfl rfl (w_istore (ls2 := [_, _, _, _, _]) rfl rfl rfl ?_))
                      exact hy
              · skip
                refine w_iconst rfl (w_goto (tgt := 235) rfl rfl ?_)
                refine w_icmp_ne (tgt := 272) rfl (by first | assumption | exact i32_0 | (unfold i32 at *; omega)) (by first | assumption | exact i32_0 | (unfold i32 at *; omega)) rfl (fun c235 => ?_) (fun c235 => ?_)
                · skip
                  exfalso; omega
                · skip
                  refine w_aload rfl rfl (w_getR rfl (by first | rfl | assumption) rfl (by first | rfl | assumption) (w_iload rfl rfl (w_ialoadV rfl (by first | rfl | assumption) (by omega) (by omega) (x6) (w_aload rfl rfl (w_getR rfl (by first | rfl | assumption) rfl (by first | rfl | assumption) (w_iload rfl rfl (w_ialoadV rfl (by first | rfl | assumption) (by omega) (by omega) (y6) ?_)))))))
                  refine w_icmp_ne (tgt := 272) rfl (by first | assumption | exact i32_0 | (unfold i32 at *; omega)) (by first | assumption | exact i32_0 | (unfold i32 at *; omega)) rfl (fun c250 => ?_) (fun c250 => ?_)
                  · skip
                    exfalso; omega
                  · skip
                    refine w_aload rfl rfl (w_getR rfl (by first | rfl | assumption) rfl (by first | rfl | assumption) (w_iload rfl rfl (w_ialoadV rfl (by first | rfl | assumption) (by omega) (by omega) (x7) (w_aload rfl rfl (w_getR rfl (by first | rfl | assumption) rfl (by first | rfl | assumption) (w_iload rfl rfl (w_ialoadV rfl (by first | rfl | assumption) (by omega) (by omega) (y7) ?_)))))))
                    refine w_icmp_ne (tgt := 272) rfl (by first | assumption | exact i32_0 | (unfold i32 at *; omega)) (by first | assumption | exact i32_0 | (unfold i32 at *; omega)) rfl (fun c265 => ?_) (fun c265 => ?_)
                    · skip
                      exfalso; omega
                    · skip
                      refine w_iconst rfl (w_goto (tgt := 273) rfl rfl (w_istore (ls2 := [_, _, _, _, _]) rfl rfl rfl ?_))
                      exact hy
        · skip
          refine w_iconst rfl (w_goto (tgt := 200) rfl rfl ?_)
          refine w_icmp_ne (tgt := 272) rfl (by first | assumption | exact i32_0 | (unfold i32 at *; omega)) (by first | assumption | exact i32_0 | (unfold i32 at *; omega)) rfl (fun c200 => ?_) (fun c200 => ?_)
          · skip
            exfalso; omega
          · skip
            refine w_aload rfl rfl (w_getR rfl (by first | rfl | assumption) rfl (by first | rfl | assumption) (w_iload rfl rfl (w_ialoadV rfl (by first | rfl | assumption) (by omega) (by omega) (x5) (w_iconst rfl ?_))))
            refine w_icmp_ne (tgt := 218) rfl (by first | assumption | exact i32_0 | (unfold i32 at *; omega)) (by first | assumption | exact i32_0 | (unfold i32 at *; omega)) rfl (fun c211 => ?_) (fun c211 => ?_)
            · skip
              refine w_iconst rfl (w_aload rfl rfl (w_getR rfl (by first | rfl | assumption) rfl (by first | rfl | assumption) (w_iload rfl rfl (w_ialoadV rfl (by first | rfl | assumption) (by omega) (by omega) (y5) (w_iconst rfl ?_)))))
              refine w_icmp_ne (tgt := 234) rfl (by first | assumption | exact i32_0 | (unfold i32 at *; omega)) (by first | assumption | exact i32_0 | (unfold i32 at *; omega)) rfl (fun c227 => ?_) (fun c227 => ?_)
              · skip
                refine w_iconst rfl ?_
                refine w_icmp_ne (tgt := 272) rfl (by first | assumption | exact i32_0 | (unfold i32 at *; omega)) (by first | assumption | exact i32_0 | (unfold i32 at *; omega)) rfl (fun c235 => ?_) (fun c235 => ?_)
                · skip
                  exfalso; omega
                · skip
                  refine w_aload rfl rfl (w_getR rfl (by first | rfl | assumption) rfl (by first | rfl | assumption) (w_iload rfl rfl (w_ialoadV rfl (by first | rfl | assumption) (by omega) (by omega) (x6) (w_aload rfl rfl (w_getR rfl (by first | rfl | assumption) rfl (by first | rfl | assumption) (w_iload rfl rfl (w_ialoadV rfl (by first | rfl | assumption) (by omega) (by omega) (y6) ?_)))))))
                  refine w_icmp_ne (tgt := 272) rfl (by first | assumption | exact i32_0 | (unfold i32 at *; omega)) (by first | assumption | exact i32_0 | (unfold i32 at *; omega)) rfl (fun c250 => ?_) (fun c250 => ?_)
                  · skip
                    exfalso; omega
                  · skip
                    refine w_aload rfl rfl (w_getR rfl (by first | rfl | assumption) rfl (by first | rfl | assumption) (w_iload rfl rfl (w_ialoadV rfl (by first | rfl | assumption) (by omega) (by omega) (x7) (w_aload rfl rfl (w_getR rfl (by first | rfl | assumption) rfl (by first | rfl | assumption) (w_iload rfl rfl (w_ialoadV rfl (by first | rfl | assumption) (by omega) (by omega) (y7) ?_)))))))
                    refine w_icmp_ne (tgt := 272) rfl (by first | assumption | exact i32_0 | (unfold i32 at *; omega)) (by first | assumption | exact i32_0 | (unfold i32 at *; omega)) rfl (fun c265 => ?_) (fun c265 => ?_)
                    · skip
                      exfalso; omega
                    · skip
                      refine w_iconst rfl (w_goto (tgt := 273) rfl rfl (w_istore (ls2 := [_, _, _, _, _]) rfl rfl rfl ?_))
                      exact hy
              · skip
                refine w_iconst rfl (w_goto (tgt := 235) rfl rfl ?_)
                refine w_icmp_ne (tgt := 272) rfl (by first | assumption | exact i32_0 | (unfold i32 at *; omega)) (by first | assumption | exact i32_0 | (unfold i32 at *; omega)) rfl (fun c235 => ?_) (fun c235 => ?_)
                · skip
                  exfalso; omega
                · skip
                  refine w_aload rfl rfl (w_getR rfl (by first | rfl | assumption) rfl (by first | rfl | assumption) (w_iload rfl rfl (w_ialoadV rfl (by first | rfl | assumption) (by omega) (by omega) (x6) (w_aload rfl rfl (w_getR rfl (by first | rfl | assumption) rfl (by first | rfl | assumption) (w_iload rfl rfl (w_ialoadV rfl (by first | rfl | assumption) (by omega) (by omega) (y6) ?_)))))))
                  refine w_icmp_ne (tgt := 272) rfl (by first | assumption | exact i32_0 | (unfold i32 at *; omega)) (by first | assumption | exact i32_0 | (unfold i32 at *; omega)) rfl (fun c250 => ?_) (fun c250 => ?_)
                  · skip
                    exfalso; omega
                  · skip
                    refine w_aload rfl rfl (w_getR rfl (by first | rfl | assumption) rfl (by first | rfl | assumption) (w_iload rfl rfl (w_ialoadV rfl (by first | rfl | assumption) (by omega) (by omega) (x7) (w_aload rfl rfl (w_getR rfl (by first | rfl | assumption) rfl (by first | rfl | assumption) (w_iload rfl rfl (w_ialoadV rfl (by first | rfl | assumption) (by omega) (by omega) (y7) ?_)))))))
                    refine w_icmp_ne (tgt := 272) rfl (by first | assumption | exact i32_0 | (unfold i32 at *; omega)) (by first | assumption | exact i32_0 | (unfold i32 at *; omega)) rfl (fun c265 => ?_) (fun c265 => ?_)
                    · skip
                      exfalso; omega
                    · skip
                      refine w_iconst rfl (w_goto (tgt := 273) rfl rfl (w_istore (ls2 := [_, _, _, _, _]) rfl rfl rfl ?_))
                      exact hy
            · skip
              refine w_iconst rfl (w_goto (tgt := 219) rfl rfl (w_aload rfl rfl (w_getR rfl (by first | rfl | assumption) rfl (by first | rfl | assumption) (w_iload rfl rfl (w_ialoadV rfl (by first | rfl | assumption) (by omega) (by omega) (y5) (w_iconst rfl ?_))))))
              refine w_icmp_ne (tgt := 234) rfl (by first | assumption | exact i32_0 | (unfold i32 at *; omega)) (by first | assumption | exact i32_0 | (unfold i32 at *; omega)) rfl (fun c227 => ?_) (fun c227 => ?_)
              · skip
                refine w_iconst rfl ?_
                refine w_icmp_ne (tgt := 272) rfl (by first | assumption | exact i32_0 | (unfold i32 at *; omega)) (by first | assumption | exact i32_0 | (unfold i32 at *; omega)) rfl (fun c235 => ?_) (fun c235 => ?_)
                · skip
                  exfalso; omega
                · skip
                  refine w_aload rfl rfl (w_getR rfl (by first | rfl | assumption) rfl (by first | rfl | assumption) (w_iload rfl rfl (w_ialoadV rfl (by first | rfl | assumption) (by omega) (by omega) (x6) (w_aload rfl rfl (w_getR rfl (by first | rfl | assumption) rfl (by first | rfl | assumption) (w_iload rfl rfl (w_ialoadV rfl (by first | rfl | assumption) (by omega) (by omega) (y6) ?_)))))))
                  refine w_icmp_ne (tgt := 272) rfl (by first | assumption | exact i32_0 | (unfold i32 at *; omega)) (by first | assumption | exact i32_0 | (unfold i32 at *; omega)) rfl (fun c250 => ?_) (fun c250 => ?_)
                  · skip
                    exfalso; omega
                  · skip
                    refine w_aload rfl rfl (w_getR rfl (by first | rfl | assumption) rfl (by first | rfl | assumption) (w_iload rfl rfl (w_ialoadV rfl (by first | rfl | assumption) (by omega) (by omega) (x7) (w_aload rfl rfl (w_getR rfl (by first | rfl | assumption) rfl (by first | rfl | assumption) (w_iload rfl rfl (w_ialoadV rfl (by first | rfl | assumption) (by omega) (by omega) (y7) ?_)))))))
                    refine w_icmp_ne (tgt := 272) rfl (by first | assumption | exact i32_0 | (unfold i32 at *; omega)) (by first | assumption | exact i32_0 | (unfold i32 at *; omega)) rfl (fun c265 => ?_) (fun c265 => ?_)
                    · skip
                      exfalso; omega
                    · skip
                      refine w_iconst rfl (w_goto (tgt := 273) rfl rfl (w_istore (ls2 := [_, _, _, _, _]) rfl rfl rfl ?_))
                      exact hy
              · skip
                refine w_iconst rfl (w_goto (tgt := 235) rfl rfl ?_)
                refine w_icmp_ne (tgt := 272) rfl (by first | assumption | exact i32_0 | (unfold i32 at *; omega)) (by first | assumption | exact i32_0 | (unfold i32 at *; omega)) rfl (fun c235 => ?_) (fun c235 => ?_)
                · skip
                  exfalso; omega
                · skip
                  refine w_aload rfl rfl (w_getR rfl (by first | rfl | assumption) rfl (by first | rfl | assumption) (w_iload rfl rfl (w_ialoadV rfl (by first | rfl | assumption) (by omega) (by omega) (x6) (w_aload rfl rfl (w_getR rfl (by first | rfl | assumption) rfl (by first | rfl | assumption) (w_iload rfl rfl (w_ialoadV rfl (by first | rfl | assumption) (by omega) (by omega) (y6) ?_)))))))
                  refine w_icmp_ne (tgt := 272) rfl (by first | assumption | exact i32_0 | (unfold i32 at *; omega)) (by first | assumption | exact i32_0 | (unfold i32 at *; omega)) rfl (fun c250 => ?_) (fun c250 => ?_)
                  · skip
                    exfalso; omega
                  · skip
                    refine w_aload rfl rfl (w_getR rfl (by first | rfl | assumption) rfl (by first | rfl | assumption) (w_iload rfl rfl (w_ialoadV rfl (by first | rfl | assumption) (by omega) (by omega) (x7) (w_aload rfl rfl (w_getR rfl (by first | rfl | assumption) rfl (by first | rfl | assumption) (w_iload rfl rfl (w_ialoadV rfl (by first | rfl | assumption) (by omega) (by omega) (y7) ?_)))))))
                    refine w_icmp_ne (tgt := 272) rfl (by first | assumption | exact i32_0 | (unfold i32 at *; omega)) (by first | assumption | exact i32_0 | (unfold i32 at *; omega)) rfl (fun c265 => ?_) (fun c265 => ?_)
                    · skip
                      exfalso; omega
                    · skip
                      refine w_iconst rfl (w_goto (tgt := 273) rfl rfl (w_istore (ls2 := [_, _, _, _, _]) rfl rfl rfl ?_))
                      exact hy
      · skip
        refine w_iconst rfl (w_goto (tgt := 184) rfl rfl (w_aload rfl rfl (w_getR rfl (by first | rfl | assumption) rfl (by first | rfl | assumption) (w_iload rfl rfl (w_ialoadV rfl (by first | rfl | assumption) (by omega) (by omega) (y4) (w_iconst rfl ?_))))))
        refine w_icmp_ne (tgt := 199) rfl (by first | assumption | exact i32_0 | (unfold i32 at *; omega)) (by first | assumption | exact i32_0 | (unfold i32 at *; omega)) rfl (fun c192 => ?_) (fun c192 => ?_)
        · skip
          refine w_iconst rfl ?_
          refine w_icmp_ne (tgt := 272) rfl (by first | assumption | exact i32_0 | (unfold i32 at *; omega)) (by first | assumption | exact i32_0 | (unfold i32 at *; omega)) rfl (fun c200 => ?_) (fun c200 => ?_)
          · skip
            exfalso; omega
          · skip
            refine w_aload rfl rfl (w_getR rfl (by first | rfl | assumption) rfl (by first | rfl | assumption) (w_iload rfl rfl (w_ialoadV rfl (by first | rfl | assumption) (by omega) (by omega) (x5) (w_iconst rfl ?_))))
            refine w_icmp_ne (tgt := 218) rfl (by first | assumption | exact i32_0 | (unfold i32 at *; omega)) (by first | assumption | exact i32_0 | (unfold i32 at *; omega)) rfl (fun c211 => ?_) (fun c211 => ?_)
            · skip
              refine w_iconst rfl (w_aload rfl rfl (w_getR rfl (by first | rfl | assumption) rfl (by first | rfl | assumption) (w_iload rfl rfl (w_ialoadV rfl (by first | rfl | assumption) (by omega) (by omega) (y5) (w_iconst rfl ?_)))))
              refine w_icmp_ne (tgt := 234) rfl (by first | assumption | exact i32_0 | (unfold i32 at *; omega)) (by first | assumption | exact i32_0 | (unfold i32 at *; omega)) rfl (fun c227 => ?_) (fun c227 => ?_)
              · skip
                refine w_iconst rfl ?_
                refine w_icmp_ne (tgt := 272) rfl (by first | assumption | exact i32_0 | (unfold i32 at *; omega)) (by first | assumption | exact i32_0 | (unfold i32 at *; omega)) rfl (fun c235 => ?_) (fun c235 => ?_)
                · skip
                  exfalso; omega
                · skip
                  refine w_aload rfl rfl (w_getR rfl (by first | rfl | assumption) rfl (by first | rfl | assumption) (w_iload rfl rfl (w_ialoadV rfl (by first | rfl | assumption) (by omega) (by omega) (x6) (w_aload rfl rfl (w_getR rfl (by first | rfl | assumption) rfl (by first | rfl | assumption) (w_iload rfl rfl (w_ialoadV rfl (by first | rfl | assumption) (by omega) (by omega) (y6) ?_)))))))
                  refine w_icmp_ne (tgt := 272) rfl (by first | assumption | exact i32_0 | (unfold i32 at *; omega)) (by first | assumption | exact i32_0 | (unfold i32 at *; omega)) rfl (fun c250 => ?_) (fun c250 => ?_)
                  · skip
                    exfalso; omega
                  · skip
                    refine w_aload rfl rfl (w_getR rfl (by first | rfl | assumption) rfl (by first | rfl | assumption) (w_iload rfl rfl (w_ialoadV rfl (by first | rfl | assumption) (by omega) (by omega) (x7) (w_aload rfl rfl (w_getR rfl (by first | rfl | assumption) rfl (by first | rfl | assumption) (w_iload rfl rfl (w_ialoadV rfl (by first | rfl | assumption) (by omega) (by omega) (y7) ?_)))))))
                    refine w_icmp_ne (tgt := 272) rfl (by first | assumption | exact i32_0 | (unfold i32 at *; omega)) (by first | assumption | exact i32_0 | (unfold i32 at *; omega)) rfl (fun c265 => ?_) (fun c265 => ?_)
                    · skip
                      exfalso; omega
                    · skip
                      refine w_iconst rfl (w_goto (tgt := 273) rfl rfl (w_istore (ls2 := [_, _, _, _, _]) rfl rfl rfl ?_))
                      exact hy
              · skip
                refine w_iconst rfl (w_goto (tgt := 235) rfl rfl ?_)
                refine w_icmp_ne (tgt := 272) rfl (by first | assumption | exact i32_0 | (unfold i32 at *; omega)) (by first | assumption | exact i32_0 | (unfold i32 at *; omega)) rfl (fun c235 => ?_) (fun c235 => ?_)
                · skip
                  exfalso; omega
                · skip
                  refine w_aload rfl rfl (w_getR rfl (by first | rfl | assumption) rfl (by first | rfl | assumption) (w_iload rfl rfl (w_ialoadV rfl (by first | rfl | assumption) (by omega) (by omega) (x6) (w_aload rfl rfl (w_getR rfl (by first | rfl | assumption) rfl (by first | rfl | assumption) (w_iload rfl rfl (w_ialoadV rfl (by first | rfl | assumption) (by omega) (by omega) (y6) ?_)))))))
                  refine w_icmp_ne (tgt := 272) rfl (by first | assumption | exact i32_0 | (unfold i32 at *; omega)) (by first | assumption | exact i32_0 | (unfold i32 at *; omega)) rfl (fun c250 => ?_) (fun c250 => ?_)
                  · skip
                    exfalso; omega
                  · skip
                    refine w_aload rfl rfl (w_getR rfl (by first | rfl | assumption) rfl (by first | rfl | assumption) (w_iload rfl rfl (w_ialoadV rfl (by first | rfl | assumption) (by omega) (by omega) (x7) (w_aload rfl rfl (w_getR rfl (by first | rfl | assumption) rfl (by first | rfl | assumption) (w_iload rfl rfl (w_ialoadV rfl (by first | rfl | assumption) (by omega) (by omega) (y7) ?_)))))))
                    refine w_icmp_ne (tgt := 272) rfl (by first | assumption | exact i32_0 | (unfold i32 at *; omega)) (by first | assumption | exact i32_0 | (unfold i32 at *; omega)) rfl (fun c265 => ?_) (fun c265 => ?_)
                    · skip
                      exfalso; omega
                    · skip
                      refine w_iconst rfl (w_goto (tgt := 273) rfl rfl (w_istore (ls2 := [_, _, _, _, _]) rfl rfl rfl ?_))
                      exact hy
            · skip
              refine w_iconst rfl (w_goto (tgt := 219) rfl rfl (w_aload rfl rfl (w_getR rfl (by first | rfl | assumption) rfl (by first | rfl | assumption) (w_iload rfl rfl (w_ialoadV rfl (by first | rfl | assumption) (by omega) (by omega) (y5) (w_iconst rfl ?_))))))
              refine w_icmp_ne (tgt := 234) rfl (by first | assumption | exact i32_0 | (unfold i32 at *; omega)) (by first | assumption | exact i32_0 | (unfold i32 at *; omega)) rfl (fun c227 => ?_) (fun c227 => ?_)
              · skip
                refine w_iconst rfl ?_
                refine w_icmp_ne (tgt := 272) rfl (by first | assumption | exact i32_0 | (unfold i32 at *; omega)) (by first | assumption | exact i32_0 | (unfold i32 at *; omega)) rfl (fun c235 => ?_) (fun c235 => ?_)
                · skip
                  exfalso; omega
                · skip
                  refine w_aload rfl rfl (w_getR rfl (by first | rfl | assumption) rfl (by first | rfl | assumption) (w_iload rfl rfl (w_ialoadV rfl (by first | rfl | assumption) (by omega) (by omega) (x6) (w_aload rfl rfl (w_getR rfl (by first | rfl | assumption) rfl (by first | rfl | assumption) (w_iload rfl rfl (w_ialoadV rfl (by first | rfl | assumption) (by omega) (by omega) (y6) ?_)))))))
                  refine w_icmp_ne (tgt := 272) rfl (by first | assumption | exact i32_0 | (unfold i32 at *; omega)) (by first | assumption | exact i32_0 | (unfold i32 at *; omega)) rfl (fun c250 => ?_) (fun c250 => ?_)
                  · skip
                    exfalso; omega
                  · skip
                    refine w_aload rfl rfl (w_getR rfl (by first | rfl | assumption) rfl (by first | rfl | assumption) (w_iload rfl rfl (w_ialoadV rfl (by first | rfl | assumption) (by omega) (by omega) (x7) (w_aload rfl rfl (w_getR rfl (by first | rfl | assumption) rfl (by first | rfl | assumption) (w_iload rfl rfl (w_ialoadV rfl (by first | rfl | assumption) (by omega) (by omega) (y7) ?_)))))))
                    refine w_icmp_ne (tgt := 272) rfl (by first | assumption | exact i32_0 | (unfold i32 at *; omega)) (by first | assumption | exact i32_0 | (unfold i32 at *; omega)) rfl (fun c265 => ?_) (fun c265 => ?_)
                    · skip
                      exfalso; omega
                    · skip
                      refine w_iconst rfl (w_goto (tgt := 273) rfl rfl (w_istore (ls2 := [_, _, _, _, _]) rfl rfl rfl ?_))
                      exact hy
              · skip
                refine w_iconst rfl (w_goto (tgt := 235) rfl rfl ?_)
                refine w_icmp_ne (tgt := 272) rfl (by first | assumption | exact i32_0 | (unfold i32 at *; omega)) (by first | assumption | exact i32_0 | (unfold i32 at *; omega)) rfl (fun c235 => ?_) (fun c235 => ?_)
                · skip
                  exfalso; omega
                · skip
                  refine w_aload rfl rfl (w_getR rfl (by first | rfl | assumption) rfl (by first | rfl | assumption) (w_iload rfl rfl (w_ialoadV rfl (by first | rfl | assumption) (by omega) (by omega) (x6) (w_aload rfl rfl (w_getR rfl (by first | rfl | assumption) rfl (by first | rfl | assumption) (w_iload rfl rfl (w_ialoadV rfl (by first | rfl | assumption) (by omega) (by omega) (y6) ?_)))))))
                  refine w_icmp_ne (tgt := 272) rfl (by first | assumption | exact i32_0 | (unfold i32 at *; omega)) (by first | assumption | exact i32_0 | (unfold i32 at *; omega)) rfl (fun c250 => ?_) (fun c250 => ?_)
                  · skip
                    exfalso; omega
                  · skip
                    refine w_aload rfl rfl (w_getR rfl (by first | rfl | assumption) rfl (by first | rfl | assumption) (w_iload rfl rfl (w_ialoadV rfl (by first | rfl | assumption) (by omega) (by omega) (x7) (w_aload rfl rfl (w_getR rfl (by first | rfl | assumption) rfl (by first | rfl | assumption) (w_iload rfl rfl (w_ialoadV rfl (by first | rfl | assumption) (by omega) (by omega) (y7) ?_)))))))
                    refine w_icmp_ne (tgt := 272) rfl (by first | assumption | exact i32_0 | (unfold i32 at *; omega)) (by first | assumption | exact i32_0 | (unfold i32 at *; omega)) rfl (fun c265 => ?_) (fun c265 => ?_)
                    · skip
                      exfalso; omega
                    · skip
                      refine w_iconst rfl (w_goto (tgt := 273) rfl rfl (w_istore (ls2 := [_, _, _, _, _]) rfl rfl rfl ?_))
                      exact hy
        · skip
          refine w_iconst rfl (w_goto (tgt := 200) rfl rfl ?_)
          refine w_icmp_ne (tgt := 272) rfl (by first | assumption | exact i32_0 | (unfold i32 at *; omega)) (by first | assumption | exact i32_0 | (unfold i32 at *; omega)) rfl (fun c200 => ?_) (fun c200 => ?_)
          · skip
            exfalso; omega
          · skip
            refine w_aload rfl rfl (w_getR rfl (by first | rfl | assumption) rfl (by first | rfl | assumption) (w_iload rfl rfl (w_ialoadV rfl (by first | rfl | assumption) (by omega) (by omega) (x5) (w_iconst rfl ?_))))
            refine w_icmp_ne (tgt := 218) rfl (by first | assumption | exact i32_0 | (unfold i32 at *; omega)) (by first | assumption | exact i32_0 | (unfold i32 at *; omega)) rfl (fun c211 => ?_) (fun c211 => ?_)
            · skip
              refine w_iconst rfl (w_aload rfl rfl (w_getR rfl (by first | rfl | assumption) rfl (by first | rfl | assumption) (w_iload rfl rfl (w_ialoadV rfl (by first | rfl | assumption) (by omega) (by omega) (y5) (w_iconst rfl ?_)))))
              refine w_icmp_ne (tgt := 234) rfl (by first | assumption | exact i32_0 | (unfold i32 at *; omega)) (by first | assumption | exact i32_0 | (unfold i32 at *; omega)) rfl (fun c227 => ?_) (fun c227 => ?_)
              · skip
                refine w_iconst rfl ?_
                refine w_icmp_ne (tgt := 272) rfl (by first | assumption | exact i32_0 | (unfold i32 at *; omega)) (by first | assumption | exact i32_0 | (unfold i32 at *; omega)) rfl (fun c235 => ?_) (fun c235 => ?_)
                · skip
                  exfalso; omega
                · skip
                  refine w_aload rfl rfl (w_getR rfl (by first | rfl | assumption) rfl (by first | rfl | assumption) (w_iload rfl rfl (w_ialoadV rfl (by first | rfl | assumption) (by omega) (by omega) (x6) (w_aload rfl rfl (w_getR rfl (by first | rfl | assumption) rfl (by first | rfl | assumption) (w_iload rfl rfl (w_ialoadV rfl (by first | rfl | assumption) (by omega) (by omega) (y6) ?_)))))))
                  refine w_icmp_ne (tgt := 272) rfl (by first | assumption | exact i32_0 | (unfold i32 at *; omega)) (by first | assumption | exact i32_0 | (unfold i32 at *; omega)) rfl (fun c250 => ?_) (fun c250 => ?_)
                  · skip
                    exfalso; omega
                  · skip
                    refine w_aload rfl rfl (w_getR rfl (by first | rfl | assumption) rfl (by first | rfl | assumption) (w_iload rfl rfl (w_ialoadV rfl (by first | rfl | assumption) (by omega) (by omega) (x7) (w_aload rfl rfl (w_getR rfl (by first | rfl | assumption) rfl (by first | rfl | assumption) (w_iload rfl rfl (w_ialoadV rfl (by first | rfl | assumption) (by omega) (by omega) (y7) ?_)))))))
                    refine w_icmp_ne (tgt := 272) rfl (by first | assumption | exact i32_0 | (unfold i32 at *; omega)) (by first | assumption | exact i32_0 | (unfold i32 at *; omega)) rfl (fun c265 => ?_) (fun c265 => ?_)
                    · skip
                      exfalso; omega
                    · skip
                      refine w_iconst rfl (w_goto (tgt := 273) rfl rfl (w_istore (ls2 := [_, _, _, _, _]) rfl rfl rfl ?_))
                      exact hy
              · skip
                refine w_iconst rfl (w_goto (tgt := 235) rfl rfl ?_)
                refine w_icmp_ne (tgt := 272) rfl (by first | assumption | exact i32_0 | (unfold i32 at *; omega)) (by first | assumption | exact i32_0 | (unfold i32 at *; omega)) rfl (fun c235 => ?_) (fun c235 => ?_)
                · skip
                  exfalso; omega
                · skip
                  refine w_aload rfl rfl (w_getR rfl (by first | rfl | assumption) rfl (by first | rfl | assumption) (w_iload rfl rfl (w_ialoadV rfl (by first | rfl | assumption) (by omega) (by omega) (x6) (w_aload rfl rfl (w_getR rfl (by first | rfl | assumption) rfl (by first | rfl | assumption) (w_iload rfl rfl (w_ialoadV rfl (by first | rfl | assumption) (by omega) (by omega) (y6) ?_)))))))
                  refine w_icmp_ne (tgt := 272) rfl (by first | assumption | exact i32_0 | (unfold i32 at *; omega)) (by first | assumption | exact i32_0 | (unfold i32 at *; omega)) rfl (fun c250 => ?_) (fun c250 => ?_)
                  · skip
                    exfalso; omega
                  · skip
                    refine w_aload rfl rfl (w_getR rfl (by first | rfl | assumption) rfl (by first | rfl | assumption) (w_iload rfl rfl (w_ialoadV rfl (by first | rfl | assumption) (by omega) (by omega) (x7) (w_aload rfl rfl (w_getR rfl (by first | rfl | assumption) rfl (by first | rfl | assumption) (w_iload rfl rfl (w_ialoadV rfl (by first | rfl | assumption) (by omega) (by omega) (y7) ?_)))))))
                    refine w_icmp_ne (tgt := 272) rfl (by first | assumption | exact i32_0 | (unfold i32 at *; omega)) (by first | assumption | exact i32_0 | (unfold i32 at *; omega)) rfl (fun c265 => ?_) (fun c265 => ?_)
                    · skip
                      exfalso; omega
                    · skip
                      refine w_iconst rfl (w_goto (tgt := 273) rfl rfl (w_istore (ls2 := [_, _, _, _, _]) rfl rfl rfl ?_))
                      exact hy
            · skip
              refine w_iconst rfl (w_goto (tgt := 219) rfl rfl (w_aload rfl rfl (w_getR rfl (by first | rfl | assumption) rfl (by first | rfl | assumption) (w_iload rfl rfl (w_ialoadV rfl (by first | rfl | assumption) (by omega) (by omega) (y5) (w_iconst rfl ?_))))))
              refine w_icmp_ne (tgt := 234) rfl (by first | assumption | exact i32_0 | (unfold i32 at *; omega)) (by first | assumption | exact i32_0 | (unfold i32 at *; omega)) rfl (fun c227 => ?_) (fun c227 => ?_)
              · skip
                refine w_iconst rfl ?_
                refine w_icmp_ne (tgt := 272) rfl (by first | assumption | exact i32_0 | (unfold i32 at *; omega)) (by first | assumption | exact i32_0 | (unfold i32 at *; omega)) rfl (fun c235 => ?_) (fun c235 => ?_)
                · skip
                  exfalso; omega
                · skip
                  refine w_aload rfl rfl (w_getR rfl (by first | rfl | assumption) rfl (by first | rfl | assumption) (w_iload rfl rfl (w_ialoadV rfl (by first | rfl | assumption) (by omega) (by omega) (x6) (w_aload rfl rfl (w_getR rfl (by first | rfl | assumption) rfl (by first | rfl | assumption) (w_iload rfl rfl (w_ialoadV rfl (by first | rfl | assumption) (by omega) (by omega) (y6) ?_)))))))
                  refine w_icmp_ne (tgt := 272) rfl (by first | assumption | exact i32_0 | (unfold i32 at *; omega)) (by first | assumption | exact i32_0 | (unfold i32 at *; omega)) rfl (fun c250 => ?_) (fun c250 => ?_)
                  · skip
                    exfalso; omega
                  · skip
                    refine w_aload rfl rfl (w_getR rfl (by first | rfl | assumption) rfl (by first | rfl | assumption) (w_iload rfl rfl (w_ialoadV rfl (by first | rfl | assumption) (by omega) (by omega) (x7) (w_aload rfl rfl (w_getR rfl (by first | rfl | assumption) rfl (by first | rfl | assumption) (w_iload rfl rfl (w_ialoadV rfl (by first | rfl | assumption) (by omega) (by omega) (y7) ?_)))))))
                    refine w_icmp_ne (tgt := 272) rfl (by first | assumption | exact i32_0 | (unfold i32 at *; omega)) (by first | assumption | exact i32_0 | (unfold i32 at *; omega)) rfl (fun c265 => ?_) (fun c265 => ?_)
                    · skip
                      exfalso; omega
                    · skip
                      refine w_iconst rfl (w_goto (tgt := 273) rfl rfl (w_istore (ls2 := [_, _, _, _, _]) rfl rfl rfl ?_))
                      exact hy
              · skip
                refine w_iconst rfl (w_goto (tgt := 235) rfl rfl ?_)
                refine w_icmp_ne (tgt := 272) rfl (by first | assumption | exact i32_0 | (unfold i32 at *; omega)) (by first | assumption | exact i32_0 | (unfold i32 at *; omega)) rfl (fun c235 => ?_) (fun c235 => ?_)
                · skip
                  exfalso; omega
                · skip
                  refine w_aload rfl rfl (w_getR rfl (by first | rfl | assumption) rfl (by first | rfl | assumption) (w_iload rfl rfl (w_ialoadV rfl (by first | rfl | assumption) (by omega) (by omega) (x6) (w_aload rfl rfl (w_getR rfl (by first | rfl | assumption) rfl (by first | rfl | assumption) (w_iload rfl rfl (w_ialoadV rfl (by first | rfl | assumption) (by omega) (by omega) (y6) ?_)))))))
                  refine w_icmp_ne (tgt := 272) rfl (by first | assumption | exact i32_0 | (unfold i32 at *; omega)) (by first | assumption | exact i32_0 | (unfold i32 at *; omega)) rfl (fun c250 => ?_) (fun c250 => ?_)
                  · skip
                    exfalso; omega
                  · skip
                    refine w_aload rfl rfl (w_getR rfl (by first | rfl | assumption) rfl (by first | rfl | assumption) (w_iload rfl rfl (w_ialoadV rfl (by first | rfl | assumption) (by omega) (by omega) (x7) (w_aload rfl rfl (w_getR rfl (by first | rfl | assumption) rfl (by first | rfl | assumption) (w_iload rfl rfl (w_ialoadV rfl (by first | rfl | assumption) (by omega) (by omega) (y7) ?_)))))))
                    refine w_icmp_ne (tgt := 272) rfl (by first | assumption | exact i32_0 | (unfold i32 at *; omega)) (by first | assumption | exact i32_0 | (unfold i32 at *; omega)) rfl (fun c265 => ?_) (fun c265 => ?_)
                    · skip
                      exfalso; omega
                    · skip
                      refine w_iconst rfl (w_goto (tgt := 273) rfl rfl (w_istore (ls2 := [_, _, _, _, _]) rfl rfl rfl ?_))
                      exact hy
    · have hy := no275 (h0 (fun w => q w.1))
      clear h1 h0 s4 no275
      refine w_iload rfl rfl ?_
      refine w_if_eq (tgt := 272) rfl (by first | assumption | exact i32_0 | (unfold i32 at *; omega)) rfl (fun c => absurd c (by decide)) (fun _ => ?_)
      refine w_aload rfl rfl (w_getR rfl (by first | rfl | assumption) rfl (by first | rfl | assumption) (w_iload rfl rfl (w_ialoadV rfl (by first | rfl | assumption) (by omega) (by omega) (x4) (w_iconst rfl ?_))))
      refine w_icmp_ne (tgt := 183) rfl (by first | assumption | exact i32_0 | (unfold i32 at *; omega)) (by first | assumption | exact i32_0 | (unfold i32 at *; omega)) rfl (fun c176 => ?_) (fun c176 => ?_)
      · skip
        refine w_iconst rfl (w_aload rfl rfl (w_getR rfl (by first | rfl | assumption) rfl (by first | rfl | assumption) (w_iload rfl rfl (w_ialoadV rfl (by first | rfl | assumption) (by omega) (by omega) (y4) (w_iconst rfl ?_)))))
        refine w_icmp_ne (tgt := 199) rfl (by first | assumption | exact i32_0 | (unfold i32 at *; omega)) (by first | assumption | exact i32_0 | (unfold i32 at *; omega)) rfl (fun c192 => ?_) (fun c192 => ?_)
        · skip
          refine w_iconst rfl ?_
          refine w_icmp_ne (tgt := 272) rfl (by first | assumption | exact i32_0 | (unfold i32 at *; omega)) (by first | assumption | exact i32_0 | (unfold i32 at *; omega)) rfl (fun c200 => ?_) (fun c200 => ?_)
          · skip
            refine w_iconst rfl (w_istore (ls2 := [_, _, _, _, _]) rfl rfl rfl ?_)
            exact hy
          · skip
            refine w_aload rfl rfl (w_getR rfl (by first | rfl | assumption) rfl (by first | rfl | assumption) (w_iload rfl rfl (w_ialoadV rfl (by first | rfl | assumption) (by omega) (by omega) (x5) (w_iconst rfl ?_))))
            refine w_icmp_ne (tgt := 218) rfl (by first | assumption | exact i32_0 | (unfold i32 at *; omega)) (by first | assumption | exact i32_0 | (unfold i32 at *; omega)) rfl (fun c211 => ?_) (fun c211 => ?_)
            · skip
              refine w_iconst rfl (w_aload rfl rfl (w_getR rfl (by first | rfl | assumption) rfl (by first | rfl | assumption) (w_iload rfl rfl (w_ialoadV rfl (by first | rfl | assumption) (by omega) (by omega) (y5) (w_iconst rfl ?_)))))
              refine w_icmp_ne (tgt := 234) rfl (by first | assumption | exact i32_0 | (unfold i32 at *; omega)) (by first | assumption | exact i32_0 | (unfold i32 at *; omega)) rfl (fun c227 => ?_) (fun c227 => ?_)
              · skip
                refine w_iconst rfl ?_
                refine w_icmp_ne (tgt := 272) rfl (by first | assumption | exact i32_0 | (unfold i32 at *; omega)) (by first | assumption | exact i32_0 | (unfold i32 at *; omega)) rfl (fun c235 => ?_) (fun c235 => ?_)
                · skip
                  refine w_iconst rfl (w_istore (ls2 := [_, _, _, _, _]) rfl rfl rfl ?_)
                  exact hy
                · skip
                  refine w_aload rfl rfl (w_getR rfl (by first | rfl | assumption) rfl (by first | rfl | assumption) (w_iload rfl rfl (w_ialoadV rfl (by first | rfl | assumption) (by omega) (by omega) (x6) (w_aload rfl rfl (w_getR rfl (by first | rfl | assumption) rfl (by first | rfl | assumption) (w_iload rfl rfl (w_ialoadV rfl (by first | rfl | assumption) (by omega) (by omega) (y6) ?_)))))))
                  refine w_icmp_ne (tgt := 272) rfl (by first | assumption | exact i32_0 | (unfold i32 at *; omega)) (by first | assumption | exact i32_0 | (unfold i32 at *; omega)) rfl (fun c250 => ?_) (fun c250 => ?_)
                  · skip
                    refine w_iconst rfl (w_istore (ls2 := [_, _, _, _, _]) rfl rfl rfl ?_)
                    exact hy
                  · skip
                    refine w_aload rfl rfl (w_getR rfl (by first | rfl | assumption) rfl (by first | rfl | assumption) (w_iload rfl rfl (w_ialoadV rfl (by first | rfl | assumption) (by omega) (by omega) (x7) (w_aload rfl rfl (w_getR rfl (by first | rfl | assumption) rfl (by first | rfl | assumption) (w_iload rfl rfl (w_ialoadV rfl (by first | rfl | assumption) (by omega) (by omega) (y7) ?_)))))))
                    refine w_icmp_ne (tgt := 272) rfl (by first | assumption | exact i32_0 | (unfold i32 at *; omega)) (by first | assumption | exact i32_0 | (unfold i32 at *; omega)) rfl (fun c265 => ?_) (fun c265 => ?_)
                    · skip
                      refine w_iconst rfl (w_istore (ls2 := [_, _, _, _, _]) rfl rfl rfl ?_)
                      exact hy
                    · skip
                      exfalso; omega
              · skip
                refine w_iconst rfl (w_goto (tgt := 235) rfl rfl ?_)
                refine w_icmp_ne (tgt := 272) rfl (by first | assumption | exact i32_0 | (unfold i32 at *; omega)) (by first | assumption | exact i32_0 | (unfold i32 at *; omega)) rfl (fun c235 => ?_) (fun c235 => ?_)
                · skip
                  refine w_iconst rfl (w_istore (ls2 := [_, _, _, _, _]) rfl rfl rfl ?_)
                  exact hy
                · skip
                  refine w_aload rfl rfl (w_getR rfl (by first | rfl | assumption) rfl (by first | rfl | assumption) (w_iload rfl rfl (w_ialoadV rfl (by first | rfl | assumption) (by omega) (by omega) (x6) (w_aload rfl rfl (w_getR rfl (by first | rfl | assumption) rfl (by first | rfl | assumption) (w_iload rfl rfl (w_ialoadV rfl (by first | rfl | assumption) (by omega) (by omega) (y6) ?_)))))))
                  refine w_icmp_ne (tgt := 272) rfl (by first | assumption | exact i32_0 | (unfold i32 at *; omega)) (by first | assumption | exact i32_0 | (unfold i32 at *; omega)) rfl (fun c250 => ?_) (fun c250 => ?_)
                  · skip
                    refine w_iconst rfl (w_istore (ls2 := [_, _, _, _, _]) rfl rfl rfl ?_)
                    exact hy
                  · skip
                    refine w_aload rfl rfl (w_getR rfl (by first | rfl | assumption) rfl (by first | rfl | assumption) (w_iload rfl rfl (w_ialoadV rfl (by first | rfl | assumption) (by omega) (by omega) (x7) (w_aload rfl rfl (w_getR rfl (by first | rfl | assumption) rfl (by first | rfl | assumption) (w_iload rfl rfl (w_ialoadV rfl (by first | rfl | assumption) (by omega) (by omega) (y7) ?_)))))))
                    refine w_icmp_ne (tgt := 272) rfl (by first | assumption | exact i32_0 | (unfold i32 at *; omega)) (by first | assumption | exact i32_0 | (unfold i32 at *; omega)) rfl (fun c265 => ?_) (fun c265 => ?_)
                    · skip
                      refine w_iconst rfl (w_istore (ls2 := [_, _, _, _, _]) rfl rfl rfl ?_)
                      exact hy
                    · skip
                      exfalso; omega
            · skip
              refine w_iconst rfl (w_goto (tgt := 219) rfl rfl (w_aload rfl rfl (w_getR rfl (by first | rfl | assumption) rfl (by first | rfl | assumption) (w_iload rfl rfl (w_ialoadV rfl (by first | rfl | assumption) (by omega) (by omega) (y5) (w_iconst rfl ?_))))))
              refine w_icmp_ne (tgt := 234) rfl (by first | assumption | exact i32_0 | (unfold i32 at *; omega)) (by first | assumption | exact i32_0 | (unfold i32 at *; omega)) rfl (fun c227 => ?_) (fun c227 => ?_)
              · skip
                refine w_iconst rfl ?_
                refine w_icmp_ne (tgt := 272) rfl (by first | assumption | exact i32_0 | (unfold i32 at *; omega)) (by first | assumption | exact i32_0 | (unfold i32 at *; omega)) rfl (fun c235 => ?_) (fun c235 => ?_)
                · skip
                  refine w_iconst rfl (w_istore (ls2 := [_, _, _, _, _]) rfl rfl rfl ?_)
                  exact hy
                · skip
                  refine w_aload rfl rfl (w_getR rfl (by first | rfl | assumption) rfl (by first | rfl | assumption) (w_iload rfl rfl (w_ialoadV rfl (by first | rfl | assumption) (by omega) (by omega) (x6) (w_aload rfl rfl (w_getR rfl (by first | rfl | assumption) rfl (by first | rfl | assumption) (w_iload rfl rfl (w_ialoadV rfl (by first | rfl | assumption) (by omega) (by omega) (y6) ?_)))))))
                  refine w_icmp_ne (tgt := 272) rfl (by first | assumption | exact i32_0 | (unfold i32 at *; omega)) (by first | assumption | exact i32_0 | (unfold i32 at *; omega)) rfl (fun c250 => ?_) (fun c250 => ?_)
                  · skip
                    refine w_iconst rfl (w_istore (ls2 := [_, _, _, _, _]) rfl rfl rfl ?_)
                    exact hy
                  · skip
                    refine w_aload rfl rfl (w_getR rfl (by first | rfl | assumption) rfl (by first | rfl | assumption) (w_iload rfl rfl (w_ialoadV rfl (by first | rfl | assumption) (by omega) (by omega) (x7) (w_aload rfl rfl (w_getR rfl (by first | rfl | assumption) rfl (by first | rfl | assumption) (w_iload rfl rfl (w_ialoadV rfl (by first | rfl | assumption) (by omega) (by omega) (y7) ?_)))))))
                    refine w_icmp_ne (tgt := 272) rfl (by first | assumption | exact i32_0 | (unfold i32 at *; omega)) (by first | assumption | exact i32_0 | (unfold i32 at *; omega)) rfl (fun c265 => ?_) (fun c265 => ?_)
                    · skip
                      refine w_iconst rfl (w_istore (ls2 := [_, _, _, _, _]) rfl rfl rfl ?_)
                      exact hy
                    · skip
                      exfalso; omega
              · skip
                refine w_iconst rfl (w_goto (tgt := 235) rfl rfl ?_)
                refine w_icmp_ne (tgt := 272) rfl (by first | assumption | exact i32_0 | (unfold i32 at *; omega)) (by first | assumption | exact i32_0 | (unfold i32 at *; omega)) rfl (fun c235 => ?_) (fun c235 => ?_)
                · skip
                  refine w_iconst rfl (w_istore (ls2 := [_, _, _, _, _]) rfl rfl rfl ?_)
                  exact hy
                · skip
                  refine w_aload rfl rfl (w_getR rfl (by first | rfl | assumption) rfl (by first | rfl | assumption) (w_iload rfl rfl (w_ialoadV rfl (by first | rfl | assumption) (by omega) (by omega) (x6) (w_aload rfl rfl (w_getR rfl (by first | rfl | assumption) rfl (by first | rfl | assumption) (w_iload rfl rfl (w_ialoadV rfl (by first | rfl | assumption) (by omega) (by omega) (y6) ?_)))))))
                  refine w_icmp_ne (tgt := 272) rfl (by first | assumption | exact i32_0 | (unfold i32 at *; omega)) (by first | assumption | exact i32_0 | (unfold i32 at *; omega)) rfl (fun c250 => ?_) (fun c250 => ?_)
                  · skip
                    refine w_iconst rfl (w_istore (ls2 := [_, _, _, _, _]) rfl rfl rfl ?_)
                    exact hy
                  · skip
                    refine w_aload rfl rfl (w_getR rfl (by first | rfl | assumption) rfl (by first | rfl | assumption) (w_iload rfl rfl (w_ialoadV rfl (by first | rfl | assumption) (by omega) (by omega) (x7) (w_aload rfl rfl (w_getR rfl (by first | rfl | assumption) rfl (by first | rfl | assumption) (w_iload rfl rfl (w_ialoadV rfl (by first | rfl | assumption) (by omega) (by omega) (y7) ?_)))))))
                    refine w_icmp_ne (tgt := 272) rfl (by first | assumption | exact i32_0 | (unfold i32 at *; omega)) (by first | assumption | exact i32_0 | (unfold i32 at *; omega)) rfl (fun c265 => ?_) (fun c265 => ?_)
                    · skip
                      refine w_iconst rfl (w_istore (ls2 := [_, _, _, _, _]) rfl rfl rfl ?_)
                      exact hy
                    · skip
                      exfalso; omega
        · skip
          refine w_iconst rfl (w_goto (tgt := 200) rfl rfl ?_)
          refine w_icmp_ne (tgt := 272) rfl (by first | assumption | exact i32_0 | (unfold i32 at *; omega)) (by first | assumption | exact i32_0 | (unfold i32 at *; omega)) rfl (fun c200 => ?_) (fun c200 => ?_)
          · skip
            refine w_iconst rfl (w_istore (ls2 := [_, _, _, _, _]) rfl rfl rfl ?_)
            exact hy
          · skip
            refine w_aload rfl rfl (w_getR rfl (by first | rfl | assumption) rfl (by first | rfl | assumption) (w_iload rfl rfl (w_ialoadV rfl (by first | rfl | assumption) (by omega) (by omega) (x5) (w_iconst rfl ?_))))
            refine w_icmp_ne (tgt := 218) rfl (by first | assumption | exact i32_0 | (unfold i32 at *; omega)) (by first | assumption | exact i32_0 | (unfold i32 at *; omega)) rfl (fun c211 => ?_) (fun c211 => ?_)
            · skip
              refine w_iconst rfl (w_aload rfl rfl (w_getR rfl (by first | rfl | assumption) rfl (by first | rfl | assumption) (w_iload rfl rfl (w_ialoadV rfl (by first | rfl | assumption) (by omega) (by omega) (y5) (w_iconst rfl ?_)))))
              refine w_icmp_ne (tgt := 234) rfl (by first | assumption | exact i32_0 | (unfold i32 at *; omega)) (by first | assumption | exact i32_0 | (unfold i32 at *; omega)) rfl (fun c227 => ?_) (fun c227 => ?_)
              · skip
                refine w_iconst rfl ?_
                refine w_icmp_ne (tgt := 272) rfl (by first | assumption | exact i32_0 | (unfold i32 at *; omega)) (by first | assumption | exact i32_0 | (unfold i32 at *; omega)) rfl (fun c235 => ?_) (fun c235 => ?_)
                · skip
                  refine w_iconst rfl (w_istore (ls2 := [_, _, _, _, _]) rfl rfl rfl ?_)
                  exact hy
                · skip
                  refine w_aload rfl rfl (w_getR rfl (by first | rfl | assumption) rfl (by first | rfl | assumption) (w_iload rfl rfl (w_ialoadV rfl (by first | rfl | assumption) (by omega) (by omega) (x6) (w_aload rfl rfl (w_getR rfl (by first | rfl | assumption) rfl (by first | rfl | assumption) (w_iload rfl rfl (w_ialoadV rfl (by first | rfl | assumption) (by omega) (by omega) (y6) ?_)))))))
                  refine w_icmp_ne (tgt := 272) rfl (by first | assumption | exact i32_0 | (unfold i32 at *; omega)) (by first | assumption | exact i32_0 | (unfold i32 at *; omega)) rfl (fun c250 => ?_) (fun c250 => ?_)
                  · skip
                    refine w_iconst rfl (w_istore (ls2 := [_, _, _, _, _]) rfl rfl rfl ?_)
                    exact hy
                  · skip
                    refine w_aload rfl rfl (w_getR rfl (by first | rfl | assumption) rfl (by first | rfl | assumption) (w_iload rfl rfl (w_ialoadV rfl (by first | rfl | assumption) (by omega) (by omega) (x7) (w_aload rfl rfl (w_getR rfl (by first | rfl | assumption) rfl (by first | rfl | assumption) (w_iload rfl rfl (w_ialoadV rfl (by first | rfl | assumption) (by omega) (by omega) (y7) ?_)))))))
                    refine w_icmp_ne (tgt := 272) rfl (by first | assumption | exact i32_0 | (unfold i32 at *; omega)) (by first | assumption | exact i32_0 | (unfold i32 at *; omega)) rfl (fun c265 => ?_) (fun c265 => ?_)
                    · skip
                      refine w_iconst rfl (w_istore (ls2 := [_, _, _, _, _]) rfl rfl rfl ?_)
                      exact hy
                    · skip
                      exfalso; omega
              · skip
                refine w_iconst rfl (w_goto (tgt := 235) rfl rfl ?_)
                refine w_icmp_ne (tgt := 272) rfl (by first | assumption | exact i32_0 | (unfold i32 at *; omega)) (by first | assumption | exact i32_0 | (unfold i32 at *; omega)) rfl (fun c235 => ?_) (fun c235 => ?_)
                · skip
                  refine w_iconst rfl (w_istore (ls2 := [_, _, _, _, _]) rfl rfl rfl ?_)
                  exact hy
                · skip
                  refine w_aload rfl rfl (w_getR rfl (by first | rfl | assumption) rfl (by first | rfl | assumption) (w_iload rfl rfl (w_ialoadV rfl (by first | rfl | assumption) (by omega) (by omega) (x6) (w_aload rfl rfl (w_getR rfl (by first | rfl | assumption) rfl (by first | rfl | assumption) (w_iload rfl rfl (w_ialoadV rfl (by first | rfl | assumption) (by omega) (by omega) (y6) ?_)))))))
                  refine w_icmp_ne (tgt := 272) rfl (by first | assumption | exact i32_0 | (unfold i32 at *; omega)) (by first | assumption | exact i32_0 | (unfold i32 at *; omega)) rfl (fun c250 => ?_) (fun c250 => ?_)
                  · skip
                    refine w_iconst rfl (w_istore (ls2 := [_, _, _, _, _]) rfl rfl rfl ?_)
                    exact hy
                  · skip
                    refine w_aload rfl rfl (w_getR rfl (by first | rfl | assumption) rfl (by first | rfl | assumption) (w_iload rfl rfl (w_ialoadV rfl (by first | rfl | assumption) (by omega) (by omega) (x7) (w_aload rfl rfl (w_getR rfl (by first | rfl | assumption) rfl (by first | rfl | assumption) (w_iload rfl rfl (w_ialoadV rfl (by first | rfl | assumption) (by omega) (by omega) (y7) ?_)))))))
                    refine w_icmp_ne (tgt := 272) rfl (by first | assumption | exact i32_0 | (unfold i32 at *; omega)) (by first | assumption | exact i32_0 | (unfold i32 at *; omega)) rfl (fun c265 => ?_) (fun c265 => ?_)
                    · skip
                      refine w_iconst rfl (w_istore (ls2 := [_, _, _, _, _]) rfl rfl rfl ?_)
                      exact hy
                    · skip
                      exfalso; omega
            · skip
              refine w_iconst rfl (w_goto (tgt := 219) rfl rfl (w_aload rfl rfl (w_getR rfl (by first | rfl | assumption) rfl (by first | rfl | assumption) (w_iload rfl rfl (w_ialoadV rfl (by first | rfl | assumption) (by omega) (by omega) (y5) (w_iconst rfl ?_))))))
              refine w_icmp_ne (tgt := 234) rfl (by first | assumption | exact i32_0 | (unfold i32 at *; omega)) (by first | assumption | exact i32_0 | (unfold i32 at *; omega)) rfl (fun c227 => ?_) (fun c227 => ?_)
              · skip
                refine w_iconst rfl ?_
                refine w_icmp_ne (tgt := 272) rfl (by first | assumption | exact i32_0 | (unfold i32 at *; omega)) (by first | assumption | exact i32_0 | (unfold i32 at *; omega)) rfl (fun c235 => ?_) (fun c235 => ?_)
                · skip
                  refine w_iconst rfl (w_istore (ls2 := [_, _, _, _, _]) rfl rfl rfl ?_)
                  exact hy
                · skip
                  refine w_aload rfl rfl (w_getR rfl (by first | rfl | assumption) rfl (by first | rfl | assumption) (w_iload rfl rfl (w_ialoadV rfl (by first | rfl | assumption) (by omega) (by omega) (x6) (w_aload rfl rfl (w_getR rfl (by first | rfl | assumption) rfl (by first | rfl | assumption) (w_iload rfl rfl (w_ialoadV rfl (by first | rfl | assumption) (by omega) (by omega) (y6) ?_)))))))
                  refine w_icmp_ne (tgt := 272) rfl (by first | assumption | exact i32_0 | (unfold i32 at *; omega)) (by first | assumption | exact i32_0 | (unfold i32 at *; omega)) rfl (fun c250 => ?_) (fun c250 => ?_)
                  · skip
                    refine w_iconst rfl (w_istore (ls2 := [_, _, _, _, _]) rfl rfl rfl ?_)
                    exact hy
                  · skip
                    refine w_aload rfl rfl (w_getR rfl (by first | rfl | assumption) rfl (by first | rfl | assumption) (w_iload rfl rfl (w_ialoadV rfl (by first | rfl | assumption) (by omega) (by omega) (x7) (w_aload rfl rfl (w_getR rfl (by first | rfl | assumption) rfl (by first | rfl | assumption) (w_iload rfl rfl (w_ialoadV rfl (by first | rfl | assumption) (by omega) (by omega) (y7) ?_)))))))
                    refine w_icmp_ne (tgt := 272) rfl (by first | assumption | exact i32_0 | (unfold i32 at *; omega)) (by first | assumption | exact i32_0 | (unfold i32 at *; omega)) rfl (fun c265 => ?_) (fun c265 => ?_)
                    · skip
                      refine w_iconst rfl (w_istore (ls2 := [_, _, _, _, _]) rfl rfl rfl ?_)
                      exact hy
                    · skip
                      exfalso; omega
              · skip
                refine w_iconst rfl (w_goto (tgt := 235) rfl rfl ?_)
                refine w_icmp_ne (tgt := 272) rfl (by first | assumption | exact i32_0 | (unfold i32 at *; omega)) (by first | assumption | exact i32_0 | (unfold i32 at *; omega)) rfl (fun c235 => ?_) (fun c235 => ?_)
                · skip
                  refine w_iconst rfl (w_istore (ls2 := [_, _, _, _, _]) rfl rfl rfl ?_)
                  exact hy
                · skip
                  refine w_aload rfl rfl (w_getR rfl (by first | rfl | assumption) rfl (by first | rfl | assumption) (w_iload rfl rfl (w_ialoadV rfl (by first | rfl | assumption) (by omega) (by omega) (x6) (w_aload rfl rfl (w_getR rfl (by first | rfl | assumption) rfl (by first | rfl | assumption) (w_iload rfl rfl (w_ialoadV rfl (by first | rfl | assumption) (by omega) (by omega) (y6) ?_)))))))
                  refine w_icmp_ne (tgt := 272) rfl (by first | assumption | exact i32_0 | (unfold i32 at *; omega)) (by first | assumption | exact i32_0 | (unfold i32 at *; omega)) rfl (fun c250 => ?_) (fun c250 => ?_)
                  · skip
                    refine w_iconst rfl (w_istore (ls2 := [_, _, _, _, _]) rfl rfl rfl ?_)
                    exact hy
                  · skip
                    refine w_aload rfl rfl (w_getR rfl (by first | rfl | assumption) rfl (by first | rfl | assumption) (w_iload rfl rfl (w_ialoadV rfl (by first | rfl | assumption) (by omega) (by omega) (x7) (w_aload rfl rfl (w_getR rfl (by first | rfl | assumption) rfl (by first | rfl | assumption) (w_iload rfl rfl (w_ialoadV rfl (by first | rfl | assumption) (by omega) (by omega) (y7) ?_)))))))
                    refine w_icmp_ne (tgt := 272) rfl (by first | assumption | exact i32_0 | (unfold i32 at *; omega)) (by first | assumption | exact i32_0 | (unfold i32 at *; omega)) rfl (fun c265 => ?_) (fun c265 => ?_)
                    · skip
                      refine w_iconst rfl (w_istore (ls2 := [_, _, _, _, _]) rfl rfl rfl ?_)
                      exact hy
                    · skip
                      exfalso; omega
      · skip
        refine w_iconst rfl (w_goto (tgt := 184) rfl rfl (w_aload rfl rfl (w_getR rfl (by first | rfl | assumption) rfl (by first | rfl | assumption) (w_iload rfl rfl (w_ialoadV rfl (by first | rfl | assumption) (by omega) (by omega) (y4) (w_iconst rfl ?_))))))
        refine w_icmp_ne (tgt := 199) rfl (by first | assumption | exact i32_0 | (unfold i32 at *; omega)) (by first | assumption | exact i32_0 | (unfold i32 at *; omega)) rfl (fun c192 => ?_) (fun c192 => ?_)
        · skip
          refine w_iconst rfl ?_
          refine w_icmp_ne (tgt := 272) rfl (by first | assumption | exact i32_0 | (unfold i32 at *; omega)) (by first | assumption | exact i32_0 | (unfold i32 at *; omega)) rfl (fun c200 => ?_) (fun c200 => ?_)
          · skip
            refine w_iconst rfl (w_istore (ls2 := [_, _, _, _, _]) rfl rfl rfl ?_)
            exact hy
          · skip
            refine w_aload rfl rfl (w_getR rfl (by first | rfl | assumption) rfl (by first | rfl | assumption) (w_iload rfl rfl (w_ialoadV rfl (by first | rfl | assumption) (by omega) (by omega) (x5) (w_iconst rfl ?_))))
            refine w_icmp_ne (tgt := 218) rfl (by first | assumption | exact i32_0 | (unfold i32 at *; omega)) (by first | assumption | exact i32_0 | (unfold i32 at *; omega)) rfl (fun c211 => ?_) (fun c211 => ?_)
            · skip
              refine w_iconst rfl (w_aload rfl rfl (w_getR rfl (by first | rfl | assumption) rfl (by first | rfl | assumption) (w_iload rfl rfl (w_ialoadV rfl (by first | rfl | assumption) (by omega) (by omega) (y5) (w_iconst rfl ?_)))))
              refine w_icmp_ne (tgt := 234) rfl (by first | assumption | exact i32_0 | (unfold i32 at *; omega)) (by first | assumption | exact i32_0 | (unfold i32 at *; omega)) rfl (fun c227 => ?_) (fun c227 => ?_)
              · skip
                refine w_iconst rfl ?_
                refine w_icmp_ne (tgt := 272) rfl (by first | assumption | exact i32_0 | (unfold i32 at *; omega)) (by first | assumption | exact i32_0 | (unfold i32 at *; omega)) rfl (fun c235 => ?_) (fun c235 => ?_)
                · skip
                  refine w_iconst rfl (w_istore (ls2 := [_, _, _, _, _]) rfl rfl rfl ?_)
                  exact hy
                · skip
                  refine w_aload rfl rfl (w_getR rfl (by first | rfl | assumption) rfl (by first | rfl | assumption) (w_iload rfl rfl (w_ialoadV rfl (by first | rfl | assumption) (by omega) (by omega) (x6) (w_aload rfl rfl (w_getR rfl (by first | rfl | assumption) rfl (by first | rfl | assumption) (w_iload rfl rfl (w_ialoadV rfl (by first | rfl | assumption) (by omega) (by omega) (y6) ?_)))))))
                  refine w_icmp_ne (tgt := 272) rfl (by first | assumption | exact i32_0 | (unfold i32 at *; omega)) (by first | assumption | exact i32_0 | (unfold i32 at *; omega)) rfl (fun c250 => ?_) (fun c250 => ?_)
                  · skip
                    refine w_iconst rfl (w_istore (ls2 := [_, _, _, _, _]) rfl rfl rfl ?_)
                    exact hy
                  · skip
                    refine w_aload rfl rfl (w_getR rfl (by first | rfl | assumption) rfl (by first | rfl | assumption) (w_iload rfl rfl (w_ialoadV rfl (by first | rfl | assumption) (by omega) (by omega) (x7) (w_aload rfl rfl (w_getR rfl (by first | rfl | assumption) rfl (by first | rfl | assumption) (w_iload rfl rfl (w_ialoadV rfl (by first | rfl | assumption) (by omega) (by omega) (y7) ?_)))))))
                    refine w_icmp_ne (tgt := 272) rfl (by first | assumption | exact i32_0 | (unfold i32 at *; omega)) (by first | assumption | exact i32_0 | (unfold i32 at *; omega)) rfl (fun c265 => ?_) (fun c265 => ?_)
                    · skip
                      refine w_iconst rfl (w_istore (ls2 := [_, _, _, _, _]) rfl rfl rfl ?_)
                      exact hy
                    · skip
                      exfalso; omega
              · skip
                refine w_iconst rfl (w_goto (tgt := 235) rfl rfl ?_)
                refine w_icmp_ne (tgt := 272) rfl (by first | assumption | exact i32_0 | (unfold i32 at *; omega)) (by first | assumption | exact i32_0 | (unfold i32 at *; omega)) rfl (fun c235 => ?_) (fun c235 => ?_)
                · skip
                  refine w_iconst rfl (w_istore (ls2 := [_, _, _, _, _]) rfl rfl rfl ?_)
                  exact hy
                · skip
                  refine w_aload rfl rfl (w_getR rfl (by first | rfl | assumption) rfl (by first | rfl | assumption) (w_iload rfl rfl (w_ialoadV rfl (by first | rfl | assumption) (by omega) (by omega) (x6) (w_aload rfl rfl (w_getR rfl (by first | rfl | assumption) rfl (by first | rfl | assumption) (w_iload rfl rfl (w_ialoadV rfl (by first | rfl | assumption) (by omega) (by omega) (y6) ?_)))))))
                  refine w_icmp_ne (tgt := 272) rfl (by first | assumption | exact i32_0 | (unfold i32 at *; omega)) (by first | assumption | exact i32_0 | (unfold i32 at *; omega)) rfl (fun c250 => ?_) (fun c250 => ?_)
                  · skip
                    refine w_iconst rfl (w_istore (ls2 := [_, _, _, _, _]) rfl rfl rfl ?_)
                    exact hy
                  · skip
                    refine w_aload rfl rfl (w_getR rfl (by first | rfl | assumption) rfl (by first | rfl | assumption) (w_iload rfl rfl (w_ialoadV rfl (by first | rfl | assumption) (by omega) (by omega) (x7) (w_aload rfl rfl (w_getR rfl (by first | rfl | assumption) rfl (by first | rfl | assumption) (w_iload rfl rfl (w_ialoadV rfl (by first | rfl | assumption) (by omega) (by omega) (y7) ?_)))))))
                    refine w_icmp_ne (tgt := 272) rfl (by first | assumption | exact i32_0 | (unfold i32 at *; omega)) (by first | assumption | exact i32_0 | (unfold i32 at *; omega)) rfl (fun c265 => ?_) (fun c265 => ?_)
                    · skip
                      refine w_iconst rfl (w_istore (ls2 := [_, _, _, _, _]) rfl rfl rfl ?_)
                      exact hy
                    · skip
                      exfalso; omega
            · skip
              refine w_iconst rfl (w_goto (tgt := 219) rfl rfl (w_aload rfl rfl (w_getR rfl (by first | rfl | assumption) rfl (by first | rfl | assumption) (w_iload rfl rfl (w_ialoadV rfl (by first | rfl | assumption) (by omega) (by omega) (y5) (w_iconst rfl ?_))))))
              refine w_icmp_ne (tgt := 234) rfl (by first | assumption | exact i32_0 | (unfold i32 at *; omega)) (by first | assumption | exact i32_0 | (unfold i32 at *; omega)) rfl (fun c227 => ?_) (fun c227 => ?_)
              · skip
                refine w_iconst rfl ?_
                refine w_icmp_ne (tgt := 272) rfl (by first | assumption | exact i32_0 | (unfold i32 at *; omega)) (by first | assumption | exact i32_0 | (unfold i32 at *; omega)) rfl (fun c235 => ?_) (fun c235 => ?_)
                · skip
                  refine w_iconst rfl (w_istore (ls2 := [_, _, _, _, _]) rfl rfl rfl ?_)
                  exact hy
                · skip
                  refine w_aload rfl rfl (w_getR rfl (by first | rfl | assumption) rfl (by first | rfl | assumption) (w_iload rfl rfl (w_ialoadV rfl (by first | rfl | assumption) (by omega) (by omega) (x6) (w_aload rfl rfl (w_getR rfl (by first | rfl | assumption) rfl (by first | rfl | assumption) (w_iload rfl rfl (w_ialoadV rfl (by first | rfl | assumption) (by omega) (by omega) (y6) ?_)))))))
                  refine w_icmp_ne (tgt := 272) rfl (by first | assumption | exact i32_0 | (unfold i32 at *; omega)) (by first | assumption | exact i32_0 | (unfold i32 at *; omega)) rfl (fun c250 => ?_) (fun c250 => ?_)
                  · skip
                    refine w_iconst rfl (w_istore (ls2 := [_, _, _, _, _]) rfl rfl rfl ?_)
                    exact hy
                  · skip
                    refine w_aload rfl rfl (w_getR rfl (by first | rfl | assumption) rfl (by first | rfl | assumption) (w_iload rfl rfl (w_ialoadV rfl (by first | rfl | assumption) (by omega) (by omega) (x7) (w_aload rfl rfl (w_getR rfl (by first | rfl | assumption) rfl (by first | rfl | assumption) (w_iload rfl rfl (w_ialoadV rfl (by first | rfl | assumption) (by omega) (by omega) (y7) ?_)))))))
                    refine w_icmp_ne (tgt := 272) rfl (by first | assumption | exact i32_0 | (unfold i32 at *; omega)) (by first | assumption | exact i32_0 | (unfold i32 at *; omega)) rfl (fun c265 => ?_) (fun c265 => ?_)
                    · skip
                      refine w_iconst rfl (w_istore (ls2 := [_, _, _, _, _]) rfl rfl rfl ?_)
                      exact hy
                    · skip
                      exfalso; omega
              · skip
                refine w_iconst rfl (w_goto (tgt := 235) rfl rfl ?_)
                refine w_icmp_ne (tgt := 272) rfl (by first | assumption | exact i32_0 | (unfold i32 at *; omega)) (by first | assumption | exact i32_0 | (unfold i32 at *; omega)) rfl (fun c235 => ?_) (fun c235 => ?_)
                · skip
                  refine w_iconst rfl (w_istore (ls2 := [_, _, _, _, _]) rfl rfl rfl ?_)
                  exact hy
                · skip
                  refine w_aload rfl rfl (w_getR rfl (by first | rfl | assumption) rfl (by first | rfl | assumption) (w_iload rfl rfl (w_ialoadV rfl (by first | rfl | assumption) (by omega) (by omega) (x6) (w_aload rfl rfl (w_getR rfl (by first | rfl | assumption) rfl (by first | rfl | assumption) (w_iload rfl rfl (w_ialoadV rfl (by first | rfl | assumption) (by omega) (by omega) (y6) ?_)))))))
                  refine w_icmp_ne (tgt := 272) rfl (by first | assumption | exact i32_0 | (unfold i32 at *; omega)) (by first | assumption | exact i32_0 | (unfold i32 at *; omega)) rfl (fun c250 => ?_) (fun c250 => ?_)
                  · skip
                    refine w_iconst rfl (w_istore (ls2 := [_, _, _, _, _]) rfl rfl rfl ?_)
                    exact hy
                  · skip
                    refine w_aload rfl rfl (w_getR rfl (by first | rfl | assumption) rfl (by first | rfl | assumption) (w_iload rfl rfl (w_ialoadV rfl (by first | rfl | assumption) (by omega) (by omega) (x7) (w_aload rfl rfl (w_getR rfl (by first | rfl | assumption) rfl (by first | rfl | assumption) (w_iload rfl rfl (w_ialoadV rfl (by first | rfl | assumption) (by omega) (by omega) (y7) ?_)))))))
                    refine w_icmp_ne (tgt := 272) rfl (by first | assumption | exact i32_0 | (unfold i32 at *; omega)) (by first | assumption | exact i32_0 | (unfold i32 at *; omega)) rfl (fun c265 => ?_) (fun c265 => ?_)
                    · skip
                      refine w_iconst rfl (w_istore (ls2 := [_, _, _, _, _]) rfl rfl rfl ?_)
                      exact hy
                    · skip
                      exfalso; omega
        · skip
          refine w_iconst rfl (w_goto (tgt := 200) rfl rfl ?_)
          refine w_icmp_ne (tgt := 272) rfl (by first | assumption | exact i32_0 | (unfold i32 at *; omega)) (by first | assumption | exact i32_0 | (unfold i32 at *; omega)) rfl (fun c200 => ?_) (fun c200 => ?_)
          · skip
            refine w_iconst rfl (w_istore (ls2 := [_, _, _, _, _]) rfl rfl rfl ?_)
            exact hy
          · skip
            refine w_aload rfl rfl (w_getR rfl (by first | rfl | assumption) rfl (by first | rfl | assumption) (w_iload rfl rfl (w_ialoadV rfl (by first | rfl | assumption) (by omega) (by omega) (x5) (w_iconst rfl ?_))))
            refine w_icmp_ne (tgt := 218) rfl (by first | assumption | exact i32_0 | (unfold i32 at *; omega)) (by first | assumption | exact i32_0 | (unfold i32 at *; omega)) rfl (fun c211 => ?_) (fun c211 => ?_)
            · skip
              refine w_iconst rfl (w_aload rfl rfl (w_getR rfl (by first | rfl | assumption) rfl (by first | rfl | assumption) (w_iload rfl rfl (w_ialoadV rfl (by first | rfl | assumption) (by omega) (by omega) (y5) (w_iconst rfl ?_)))))
              refine w_icmp_ne (tgt := 234) rfl (by first | assumption | exact i32_0 | (unfold i32 at *; omega)) (by first | assumption | exact i32_0 | (unfold i32 at *; omega)) rfl (fun c227 => ?_) (fun c227 => ?_)
              · skip
                refine w_iconst rfl ?_
                refine w_icmp_ne (tgt := 272) rfl (by first | assumption | exact i32_0 | (unfold i32 at *; omega)) (by first | assumption | exact i32_0 | (unfold i32 at *; omega)) rfl (fun c235 => ?_) (fun c235 => ?_)
                · skip
                  refine w_iconst rfl (w_istore (ls2 := [_, _, _, _, _]) rfl rfl rfl ?_)
                  exact hy
                · skip
                  refine w_aload rfl rfl (w_getR rfl (by first | rfl | assumption) rfl (by first | rfl | assumption) (w_iload rfl rfl (w_ialoadV rfl (by first | rfl | assumption) (by omega) (by omega) (x6) (w_aload rfl rfl (w_getR rfl (by first | rfl | assumption) rfl (by first | rfl | assumption) (w_iload rfl rfl (w_ialoadV rfl (by first | rfl | assumption) (by omega) (by omega) (y6) ?_)))))))
                  refine w_icmp_ne (tgt := 272) rfl (by first | assumption | exact i32_0 | (unfold i32 at *; omega)) (by first | assumption | exact i32_0 | (unfold i32 at *; omega)) rfl (fun c250 => ?_) (fun c250 => ?_)
                  · skip
                    refine w_iconst rfl (w_istore (ls2 := [_, _, _, _, _]) rfl rfl rfl ?_)
                    exact hy
                  · skip
                    refine w_aload rfl rfl (w_getR rfl (by first | rfl | assumption) rfl (by first | rfl | assumption) (w_iload rfl rfl (w_ialoadV rfl (by first | rfl | assumption) (by omega) (by omega) (x7) (w_aload rfl rfl (w_getR rfl (by first | rfl | assumption) rfl (by first | rfl | assumption) (w_iload rfl rfl (w_ialoadV rfl (by first | rfl | assumption) (by omega) (by omega) (y7) ?_)))))))
                    refine w_icmp_ne (tgt := 272) rfl (by first | assumption | exact i32_0 | (unfold i32 at *; omega)) (by first | assumption | exact i32_0 | (unfold i32 at *; omega)) rfl (fun c265 => ?_) (fun c265 => ?_)
                    · skip
                      refine w_iconst rfl (w_istore (ls2 := [_, _, _, _, _]) rfl rfl rfl ?_)
                      exact hy
                    · skip
                      exfalso; omega
              · skip
                refine w_iconst rfl (w_goto (tgt := 235) rfl rfl ?_)
                refine w_icmp_ne (tgt := 272) rfl (by first | assumption | exact i32_0 | (unfold i32 at *; omega)) (by first | assumption | exact i32_0 | (unfold i32 at *; omega)) rfl (fun c235 => ?_) (fun c235 => ?_)
                · skip
                  refine w_iconst rfl (w_istore (ls2 := [_, _, _, _, _]) rfl rfl rfl ?_)
                  exact hy
                · skip
                  refine w_aload rfl rfl (w_getR rfl (by first | rfl | assumption) rfl (by first | rfl | assumption) (w_iload rfl rfl (w_ialoadV rfl (by first | rfl | assumption) (by omega) (by omega) (x6) (w_aload rfl rfl (w_getR rfl (by first | rfl | assumption) rfl (by first | rfl | assumption) (w_iload rfl rfl (w_ialoadV rfl (by first | rfl | assumption) (by omega) (by omega) (y6) ?_)))))))
                  refine w_icmp_ne (tgt := 272) rfl (by first | assumption | exact i32_0 | (unfold i32 at *; omega)) (by first | assumption | exact i32_0 | (unfold i32 at *; omega)) rfl (fun c250 => ?_) (fun c250 => ?_)
                  · skip
                    refine w_iconst rfl (w_istore (ls2 := [_, _, _, _, _]) rfl rfl rfl ?_)
                    exact hy
                  · skip
                    refine w_aload rfl rfl (w_getR rfl (by first | rfl | assumption) rfl (by first | rfl | assumption) (w_iload rfl rfl (w_ialoadV rfl (by first | rfl | assumption) (by omega) (by omega) (x7) (w_aload rfl rfl (w_getR rfl (by first | rfl | assumption) rfl (by first | rfl | assumption) (w_iload rfl rfl (w_ialoadV rfl (by first | rfl | assumption) (by omega) (by omega) (y7) ?_)))))))
                    refine w_icmp_ne (tgt := 272) rfl (by first | assumption | exact i32_0 | (unfold i32 at *; omega)) (by first | assumption | exact i32_0 | (unfold i32 at *; omega)) rfl (fun c265 => ?_) (fun c265 => ?_)
                    · skip
                      refine w_iconst rfl (w_istore (ls2 := [_, _, _, _, _]) rfl rfl rfl ?_)
                      exact hy
                    · skip
                      exfalso; omega
            · skip
              refine w_iconst rfl (w_goto (tgt := 219) rfl rfl (w_aload rfl rfl (w_getR rfl (by first | rfl | assumption) rfl (by first | rfl | assumption) (w_iload rfl rfl (w_ialoadV rfl (by first | rfl | assumption) (by omega) (by omega) (y5) (w_iconst rfl ?_))))))
              refine w_icmp_ne (tgt := 234) rfl (by first | assumption | exact i32_0 | (unfold i32 at *; omega)) (by first | assumption | exact i32_0 | (unfold i32 at *; omega)) rfl (fun c227 => ?_) (fun c227 => ?_)
              · skip
                refine w_iconst rfl ?_
                refine w_icmp_ne (tgt := 272) rfl (by first | assumption | exact i32_0 | (unfold i32 at *; omega)) (by first | assumption | exact i32_0 | (unfold i32 at *; omega)) rfl (fun c235 => ?_) (fun c235 => ?_)
                · skip
                  refine w_iconst rfl (w_istore (ls2 := [_, _, _, _, _]) rfl rfl rfl ?_)
                  exact hy
                · skip
                  refine w_aload rfl rfl (w_getR rfl (by first | rfl | assumption) rfl (by first | rfl | assumption) (w_iload rfl rfl (w_ialoadV rfl (by first | rfl | assumption) (by omega) (by omega) (x6) (w_aload rfl rfl (w_getR rfl (by first | rfl | assumption) rfl (by first | rfl | assumption) (w_iload rfl rfl (w_ialoadV rfl (by first | rfl | assumption) (by omega) (by omega) (y6) ?_)))))))
                  refine w_icmp_ne (tgt := 272) rfl (by first | assumption | exact i32_0 | (unfold i32 at *; omega)) (by first | assumption | exact i32_0 | (unfold i32 at *; omega)) rfl (fun c250 => ?_) (fun c250 => ?_)
                  · skip
                    refine w_iconst rfl (w_istore (ls2 := [_, _, _, _, _]) rfl rfl rfl ?_)
                    exact hy
                  · skip
                    refine w_aload rfl rfl (w_getR rfl (by first | rfl | assumption) rfl (by first | rfl | assumption) (w_iload rfl rfl (w_ialoadV rfl (by first | rfl | assumption) (by omega) (by omega) (x7) (w_aload rfl rfl (w_getR rfl (by first | rfl | assumption) rfl (by first | rfl | assumption) (w_iload rfl rfl (w_ialoadV rfl (by first | rfl | assumption) (by omega) (by omega) (y7) ?_)))))))
                    refine w_icmp_ne (tgt := 272) rfl (by first | assumption | exact i32_0 | (unfold i32 at *; omega)) (by first | assumption | exact i32_0 | (unfold i32 at *; omega)) rfl (fun c265 => ?_) (fun c265 => ?_)
                    · skip
                      refine w_iconst rfl (w_istore (ls2 := [_, _, _, _, _]) rfl rfl rfl ?_)
                      exact hy
                    · skip
                      exfalso; omega
              · skip
                refine w_iconst rfl (w_goto (tgt := 235) rfl rfl ?_)
                refine w_icmp_ne (tgt := 272) rfl (by first | assumption | exact i32_0 | (unfold i32 at *; omega)) (by first | assumption | exact i32_0 | (unfold i32 at *; omega)) rfl (fun c235 => ?_) (fun c235 => ?_)
                · skip
                  refine w_iconst rfl (w_istore (ls2 := [_, _, _, _, _]) rfl rfl rfl ?_)
                  exact hy
                · skip
                  refine w_aload rfl rfl (w_getR rfl (by first | rfl | assumption) rfl (by first | rfl | assumption) (w_iload rfl rfl (w_ialoadV rfl (by first | rfl | assumption) (by omega) (by omega) (x6) (w_aload rfl rfl (w_getR rfl (by first | rfl | assumption) rfl (by first | rfl | assumption) (w_iload rfl rfl (w_ialoadV rfl (by first | rfl | assumption) (by omega) (by omega) (y6) ?_)))))))
                  refine w_icmp_ne (tgt := 272) rfl (by first | assumption | exact i32_0 | (unfold i32 at *; omega)) (by first | assumption | exact i32_0 | (unfold i32 at *; omega)) rfl (fun c250 => ?_) (fun c250 => ?_)
                  · skip
                    refine w_iconst rfl (w_istore (ls2 := [_, _, _, _, _]) rfl rfl rfl ?_)
                    exact hy
                  · skip
                    refine w_aload rfl rfl (w_getR rfl (by first | rfl | assumption) rfl (by first | rfl | assumption) (w_iload rfl rfl (w_ialoadV rfl (by first | rfl | assumption) (by omega) (by omega) (x7) (w_aload rfl rfl (w_getR rfl (by first | rfl | assumption) rfl (by first | rfl | assumption) (w_iload rfl rfl (w_ialoadV rfl (by first | rfl | assumption) (by omega) (by omega) (y7) ?_)))))))
                    refine w_icmp_ne (tgt := 272) rfl (by first | assumption | exact i32_0 | (unfold i32 at *; omega)) (by first | assumption | exact i32_0 | (unfold i32 at *; omega)) rfl (fun c265 => ?_) (fun c265 => ?_)
                    · skip
                      refine w_iconst rfl (w_istore (ls2 := [_, _, _, _, _]) rfl rfl rfl ?_)
                      exact hy
                    · skip
                      exfalso; omega
  have s2 : (pi q - pi p = pi t - pi r ∧ pj q - pj p = pj t - pj r) → Wp mc_246 D 96 [vR 155, vI j, vI k, vI w1, vI 1] [] M (fun r N => r = some (vI z) ∧ N = M) := by
    intro hs
    clear no96 no437 yes437 hlw no356 s5 s4 no275 f4 f5 g4 g5
    by_cases qq : cv f q - cv f p = cv g t - cv g r
    · have hy := s3 (fun w => hz1 ⟨⟨hs, qq⟩, w⟩) (fun w => hz0 (fun w2 => w w2.2))
      clear hz1 hz0 s3 no163
      refine w_iload rfl rfl ?_
      refine w_if_eq (tgt := 160) rfl (by first | assumption | exact i32_0 | (unfold i32 at *; omega)) rfl (fun c => absurd c (by decide)) (fun _ => ?_)
      refine w_aload rfl rfl (w_getR rfl (by first | rfl | assumption) rfl (by first | rfl | assumption) (w_aload rfl rfl (w_getR rfl (by first | rfl | assumption) rfl (by first | rfl | assumption) (w_iload rfl rfl (w_ialoadV rfl (by first | rfl | assumption) (by omega) (by omega) (x0) (w_ialoadV rfl (by first | rfl | assumption) (by omega) (by omega) (rp) (w_aload rfl rfl ?_)))))))
      refine w_getR rfl (by first | rfl | assumption) rfl (by first | rfl | assumption) (w_aload rfl rfl (w_getR rfl (by first | rfl | assumption) rfl (by first | rfl | assumption) (w_iload rfl rfl (w_ialoadV rfl (by first | rfl | assumption) (by omega) (by omega) (x1) (w_ialoadV rfl (by first | rfl | assumption) (by omega) (by omega) (rq) (w_isub rfl (w_aload rfl rfl ?_)))))))
      refine w_getR rfl (by first | rfl | assumption) rfl (by first | rfl | assumption) (w_iconst rfl (w_aload rfl rfl (w_getR rfl (by first | rfl | assumption) rfl (by first | rfl | assumption) (w_iload rfl rfl (w_ialoadV rfl (by first | rfl | assumption) (by omega) (by omega) (y0) (w_iadd rfl (w_ialoadV rfl (by first | rfl | assumption) (by omega) (by omega) (rr) ?_)))))))
      refine w_aload rfl rfl (w_getR rfl (by first | rfl | assumption) rfl (by first | rfl | assumption) (w_iconst rfl (w_aload rfl rfl (w_getR rfl (by first | rfl | assumption) rfl (by first | rfl | assumption) (w_iload rfl rfl (w_ialoadV rfl (by first | rfl | assumption) (by omega) (by omega) (y1) (w_iadd rfl ?_)))))))
      refine w_ialoadV rfl (by first | rfl | assumption) (by omega) (by omega) (rt) (w_isub rfl ?_)
      refine w_icmp_ne (tgt := 160) rfl (by first | assumption | exact i32_0 | (unfold i32 at *; omega)) (by first | assumption | exact i32_0 | (unfold i32 at *; omega)) rfl (fun c153 => ?_) (fun c153 => ?_)
      · skip
        exfalso; omega
      · skip
        refine w_iconst rfl (w_goto (tgt := 161) rfl rfl (w_istore (ls2 := [_, _, _, _, _]) rfl rfl rfl ?_))
        exact hy
    · have hy := no163 (hz0 (fun w => qq w.1.2))
      clear hz1 hz0 s3 no163
      refine w_iload rfl rfl ?_
      refine w_if_eq (tgt := 160) rfl (by first | assumption | exact i32_0 | (unfold i32 at *; omega)) rfl (fun c => absurd c (by decide)) (fun _ => ?_)
      refine w_aload rfl rfl (w_getR rfl (by first | rfl | assumption) rfl (by first | rfl | assumption) (w_aload rfl rfl (w_getR rfl (by first | rfl | assumption) rfl (by first | rfl | assumption) (w_iload rfl rfl (w_ialoadV rfl (by first | rfl | assumption) (by omega) (by omega) (x0) (w_ialoadV rfl (by first | rfl | assumption) (by omega) (by omega) (rp) (w_aload rfl rfl ?_)))))))
      refine w_getR rfl (by first | rfl | assumption) rfl (by first | rfl | assumption) (w_aload rfl rfl (w_getR rfl (by first | rfl | assumption) rfl (by first | rfl | assumption) (w_iload rfl rfl (w_ialoadV rfl (by first | rfl | assumption) (by omega) (by omega) (x1) (w_ialoadV rfl (by first | rfl | assumption) (by omega) (by omega) (rq) (w_isub rfl (w_aload rfl rfl ?_)))))))
      refine w_getR rfl (by first | rfl | assumption) rfl (by first | rfl | assumption) (w_iconst rfl (w_aload rfl rfl (w_getR rfl (by first | rfl | assumption) rfl (by first | rfl | assumption) (w_iload rfl rfl (w_ialoadV rfl (by first | rfl | assumption) (by omega) (by omega) (y0) (w_iadd rfl (w_ialoadV rfl (by first | rfl | assumption) (by omega) (by omega) (rr) ?_)))))))
      refine w_aload rfl rfl (w_getR rfl (by first | rfl | assumption) rfl (by first | rfl | assumption) (w_iconst rfl (w_aload rfl rfl (w_getR rfl (by first | rfl | assumption) rfl (by first | rfl | assumption) (w_iload rfl rfl (w_ialoadV rfl (by first | rfl | assumption) (by omega) (by omega) (y1) (w_iadd rfl ?_)))))))
      refine w_ialoadV rfl (by first | rfl | assumption) (by omega) (by omega) (rt) (w_isub rfl ?_)
      refine w_icmp_ne (tgt := 160) rfl (by first | assumption | exact i32_0 | (unfold i32 at *; omega)) (by first | assumption | exact i32_0 | (unfold i32 at *; omega)) rfl (fun c153 => ?_) (fun c153 => ?_)
      · skip
        refine w_iconst rfl (w_istore (ls2 := [_, _, _, _, _]) rfl rfl rfl ?_)
        exact hy
      · skip
        exfalso; omega
  clear no163 no437 yes437 no356 s5 s4 s3 no275 f4 f5 g4 g5
  by_cases hs : pi q - pi p = pi t - pi r ∧ pj q - pj p = pj t - pj r
  · have hy := s2 hs
    have hw := hlw hs.1 hs.2
    clear hz1 hz0 s2 no96 hlw
    refine w_aload rfl rfl (w_iload rfl rfl ?_)
    refine w_call (Or.inr rfl) ((we)) (by omega) nof_214 rfl rfl rfl rfl (by first | rfl | (show cKB[_]? = _; assumption)) rfl ?_
    refine w_istore (ls2 := [_, _, _, _, _]) rfl rfl rfl (w_iload rfl rfl (w_aload rfl rfl (w_iload rfl rfl ?_)))
    refine w_call (Or.inr rfl) ((wd)) (by omega) nof_214 rfl rfl rfl rfl (by first | rfl | (show cKB[_]? = _; assumption)) rfl ?_
    refine w_icmp_ne (tgt := 93) rfl (by first | assumption | exact i32_0 | (unfold i32 at *; omega)) (by first | assumption | exact i32_0 | (unfold i32 at *; omega)) rfl (fun c12 => ?_) (fun c12 => ?_)
    · skip
      exfalso; omega
    · skip
      refine w_aload rfl rfl (w_getR rfl (by first | rfl | assumption) rfl (by first | rfl | assumption) (w_iload rfl rfl (w_ialoadV rfl (by first | rfl | assumption) (by omega) (by omega) (x1) (w_iconst rfl (w_idiv rfl (by first | assumption | exact i32_0 | (unfold i32 at *; omega)) (by first | assumption | exact i32_0 | (unfold i32 at *; omega)) (by first | decide | omega | assumption) ?_)))))
      rw [tq1]
      refine w_aload rfl rfl (w_getR rfl (by first | rfl | assumption) rfl (by first | rfl | assumption) (w_iload rfl rfl (w_ialoadV rfl (by first | rfl | assumption) (by omega) (by omega) (x0) (w_iconst rfl (w_idiv rfl (by first | assumption | exact i32_0 | (unfold i32 at *; omega)) (by first | assumption | exact i32_0 | (unfold i32 at *; omega)) (by first | decide | omega | assumption) ?_)))))
      rw [tp1]
      refine w_isub rfl (w_aload rfl rfl (w_getR rfl (by first | rfl | assumption) rfl (by first | rfl | assumption) (w_iload rfl rfl (w_ialoadV rfl (by first | rfl | assumption) (by omega) (by omega) (y1) (w_iconst rfl (w_idiv rfl (by first | assumption | exact i32_0 | (unfold i32 at *; omega)) (by first | assumption | exact i32_0 | (unfold i32 at *; omega)) (by first | decide | omega | assumption) ?_))))))
      rw [tt1]
      refine w_aload rfl rfl (w_getR rfl (by first | rfl | assumption) rfl (by first | rfl | assumption) (w_iload rfl rfl (w_ialoadV rfl (by first | rfl | assumption) (by omega) (by omega) (y0) (w_iconst rfl (w_idiv rfl (by first | assumption | exact i32_0 | (unfold i32 at *; omega)) (by first | assumption | exact i32_0 | (unfold i32 at *; omega)) (by first | decide | omega | assumption) ?_)))))
      rw [tr1]
      refine w_isub rfl ?_
      refine w_icmp_ne (tgt := 93) rfl (by first | assumption | exact i32_0 | (unfold i32 at *; omega)) (by first | assumption | exact i32_0 | (unfold i32 at *; omega)) rfl (fun c49 => ?_) (fun c49 => ?_)
      · skip
        exfalso; omega
      · skip
        refine w_aload rfl rfl (w_getR rfl (by first | rfl | assumption) rfl (by first | rfl | assumption) (w_iload rfl rfl (w_ialoadV rfl (by first | rfl | assumption) (by omega) (by omega) (x1) (w_iconst rfl (w_irem rfl (by first | assumption | exact i32_0 | (unfold i32 at *; omega)) (by first | assumption | exact i32_0 | (unfold i32 at *; omega)) (by first | decide | omega | assumption) ?_)))))
        rw [tq2]
        refine w_aload rfl rfl (w_getR rfl (by first | rfl | assumption) rfl (by first | rfl | assumption) (w_iload rfl rfl (w_ialoadV rfl (by first | rfl | assumption) (by omega) (by omega) (x0) (w_iconst rfl (w_irem rfl (by first | assumption | exact i32_0 | (unfold i32 at *; omega)) (by first | assumption | exact i32_0 | (unfold i32 at *; omega)) (by first | decide | omega | assumption) ?_)))))
        rw [tp2]
        refine w_isub rfl (w_aload rfl rfl (w_getR rfl (by first | rfl | assumption) rfl (by first | rfl | assumption) (w_iload rfl rfl (w_ialoadV rfl (by first | rfl | assumption) (by omega) (by omega) (y1) (w_iconst rfl (w_irem rfl (by first | assumption | exact i32_0 | (unfold i32 at *; omega)) (by first | assumption | exact i32_0 | (unfold i32 at *; omega)) (by first | decide | omega | assumption) ?_))))))
        rw [tt2]
        refine w_aload rfl rfl (w_getR rfl (by first | rfl | assumption) rfl (by first | rfl | assumption) (w_iload rfl rfl (w_ialoadV rfl (by first | rfl | assumption) (by omega) (by omega) (y0) (w_iconst rfl (w_irem rfl (by first | assumption | exact i32_0 | (unfold i32 at *; omega)) (by first | assumption | exact i32_0 | (unfold i32 at *; omega)) (by first | decide | omega | assumption) ?_)))))
        rw [tr2]
        refine w_isub rfl ?_
        refine w_icmp_ne (tgt := 93) rfl (by first | assumption | exact i32_0 | (unfold i32 at *; omega)) (by first | assumption | exact i32_0 | (unfold i32 at *; omega)) rfl (fun c86 => ?_) (fun c86 => ?_)
        · skip
          exfalso; omega
        · skip
          refine w_iconst rfl (w_goto (tgt := 94) rfl rfl (w_istore (ls2 := [_, _, _, _, _]) rfl rfl rfl ?_))
          exact hy
  · have hy := no96 (hz0 (fun w => hs w.1.1))
    clear hz1 hz0 s2 no96 hlw
    refine w_aload rfl rfl (w_iload rfl rfl ?_)
    refine w_call (Or.inr rfl) ((we)) (by omega) nof_214 rfl rfl rfl rfl (by first | rfl | (show cKB[_]? = _; assumption)) rfl ?_
    refine w_istore (ls2 := [_, _, _, _, _]) rfl rfl rfl (w_iload rfl rfl (w_aload rfl rfl (w_iload rfl rfl ?_)))
    refine w_call (Or.inr rfl) ((wd)) (by omega) nof_214 rfl rfl rfl rfl (by first | rfl | (show cKB[_]? = _; assumption)) rfl ?_
    refine w_icmp_ne (tgt := 93) rfl (by first | assumption | exact i32_0 | (unfold i32 at *; omega)) (by first | assumption | exact i32_0 | (unfold i32 at *; omega)) rfl (fun c12 => ?_) (fun c12 => ?_)
    · skip
      refine w_iconst rfl (w_istore (ls2 := [_, _, _, _, _]) rfl rfl rfl ?_)
      exact hy
    · skip
      refine w_aload rfl rfl (w_getR rfl (by first | rfl | assumption) rfl (by first | rfl | assumption) (w_iload rfl rfl (w_ialoadV rfl (by first | rfl | assumption) (by omega) (by omega) (x1) (w_iconst rfl (w_idiv rfl (by first | assumption | exact i32_0 | (unfold i32 at *; omega)) (by first | assumption | exact i32_0 | (unfold i32 at *; omega)) (by first | decide | omega | assumption) ?_)))))
      rw [tq1]
      refine w_aload rfl rfl (w_getR rfl (by first | rfl | assumption) rfl (by first | rfl | assumption) (w_iload rfl rfl (w_ialoadV rfl (by first | rfl | assumption) (by omega) (by omega) (x0) (w_iconst rfl (w_idiv rfl (by first | assumption | exact i32_0 | (unfold i32 at *; omega)) (by first | assumption | exact i32_0 | (unfold i32 at *; omega)) (by first | decide | omega | assumption) ?_)))))
      rw [tp1]
      refine w_isub rfl (w_aload rfl rfl (w_getR rfl (by first | rfl | assumption) rfl (by first | rfl | assumption) (w_iload rfl rfl (w_ialoadV rfl (by first | rfl | assumption) (by omega) (by omega) (y1) (w_iconst rfl (w_idiv rfl (by first | assumption | exact i32_0 | (unfold i32 at *; omega)) (by first | assumption | exact i32_0 | (unfold i32 at *; omega)) (by first | decide | omega | assumption) ?_))))))
      rw [tt1]
      refine w_aload rfl rfl (w_getR rfl (by first | rfl | assumption) rfl (by first | rfl | assumption) (w_iload rfl rfl (w_ialoadV rfl (by first | rfl | assumption) (by omega) (by omega) (y0) (w_iconst rfl (w_idiv rfl (by first | assumption | exact i32_0 | (unfold i32 at *; omega)) (by first | assumption | exact i32_0 | (unfold i32 at *; omega)) (by first | decide | omega | assumption) ?_)))))
      rw [tr1]
      refine w_isub rfl ?_
      refine w_icmp_ne (tgt := 93) rfl (by first | assumption | exact i32_0 | (unfold i32 at *; omega)) (by first | assumption | exact i32_0 | (unfold i32 at *; omega)) rfl (fun c49 => ?_) (fun c49 => ?_)
      · skip
        refine w_iconst rfl (w_istore (ls2 := [_, _, _, _, _]) rfl rfl rfl ?_)
        exact hy
      · skip
        refine w_aload rfl rfl (w_getR rfl (by first | rfl | assumption) rfl (by first | rfl | assumption) (w_iload rfl rfl (w_ialoadV rfl (by first | rfl | assumption) (by omega) (by omega) (x1) (w_iconst rfl (w_irem rfl (by first | assumption | exact i32_0 | (unfold i32 at *; omega)) (by first | assumption | exact i32_0 | (unfold i32 at *; omega)) (by first | decide | omega | assumption) ?_)))))
        rw [tq2]
        refine w_aload rfl rfl (w_getR rfl (by first | rfl | assumption) rfl (by first | rfl | assumption) (w_iload rfl rfl (w_ialoadV rfl (by first | rfl | assumption) (by omega) (by omega) (x0) (w_iconst rfl (w_irem rfl (by first | assumption | exact i32_0 | (unfold i32 at *; omega)) (by first | assumption | exact i32_0 | (unfold i32 at *; omega)) (by first | decide | omega | assumption) ?_)))))
        rw [tp2]
        refine w_isub rfl (w_aload rfl rfl (w_getR rfl (by first | rfl | assumption) rfl (by first | rfl | assumption) (w_iload rfl rfl (w_ialoadV rfl (by first | rfl | assumption) (by omega) (by omega) (y1) (w_iconst rfl (w_irem rfl (by first | assumption | exact i32_0 | (unfold i32 at *; omega)) (by first | assumption | exact i32_0 | (unfold i32 at *; omega)) (by first | decide | omega | assumption) ?_))))))
        rw [tt2]
        refine w_aload rfl rfl (w_getR rfl (by first | rfl | assumption) rfl (by first | rfl | assumption) (w_iload rfl rfl (w_ialoadV rfl (by first | rfl | assumption) (by omega) (by omega) (y0) (w_iconst rfl (w_irem rfl (by first | assumption | exact i32_0 | (unfold i32 at *; omega)) (by first | assumption | exact i32_0 | (unfold i32 at *; omega)) (by first | decide | omega | assumption) ?_)))))
        rw [tr2]
        refine w_isub rfl ?_
        refine w_icmp_ne (tgt := 93) rfl (by first | assumption | exact i32_0 | (unfold i32 at *; omega)) (by first | assumption | exact i32_0 | (unfold i32 at *; omega)) rfl (fun c86 => ?_) (fun c86 => ?_)
        · skip
          refine w_iconst rfl (w_istore (ls2 := [_, _, _, _, _]) rfl rfl rfl ?_)
          exact hy
        · skip
          exfalso; omega
