/-! ===== a clause, and the text, read by the model ===== -/
/-- the two first curves' rows after a clause's beginning -/
theorem mrow_clF {nn : Int} {F G : Cv} {M N : mM} (hn : nn = 0 ∨ nn = 1) (h : mrow 0 F G M) (h1 : ∀ p, p < 25 → N 156 (25 * nn.toNat + p) = 5000) (h2 : ∀ k, (k < 25 * nn.toNat ∨ 25 * nn.toNat + 25 ≤ k) → N 156 k = M 156 k) : mrow 0 (clF nn F G).1 (clF nn F G).2 N := by
  rcases hn with rfl | rfl
  · refine ⟨fun p hp => ?_, fun p hp => ?_⟩
    · exact h1 p hp
    · rw [h2 _ (by show 0 + 25 + p < 25 * 0 ∨ 25 * 0 + 25 ≤ 0 + 25 + p; omega)]; exact h.2 p hp
  · refine ⟨fun p hp => ?_, fun p hp => ?_⟩
    · rw [h2 _ (by show 0 + p < 25 * 1 ∨ 25 * 1 + 25 ≤ 0 + p; omega)]; exact h.1 p hp
    · exact h1 p hp
theorem Cok_clF {nn : Int} {F G : Cv} (hF : Cok 999 F) (hG : Cok 999 G) : Cok 999 (clF nn F G).1 ∧ Cok 999 (clF nn F G).2 := by
  constructor
  · show Cok 999 (if nn = 0 then _ else _)
    split
    · intro _ _ q; cases q
    · exact hF
  · show Cok 999 (if nn = 0 then _ else _)
    split
    · exact hG
    · intro _ _ q; cases q
def ClQ (b l : List Int) (r : Nat → Int) (d : Int) (F G : Cv) (M : mM) : mP := fun q N => ∃ (m : List Int), PosM b m N ∧ TmF M N ∧ N 155 7 = M 155 7 ∧ m.length ≤ l.length ∧
  ((q = some (vI 0) ∧ (d = 0 → N 156 = M 156) ∧ ∀ f g, rn b l r f g = Sum.inl ((b.length - m.length : Nat) : Int)) ∨
   (q = some (vI 1) ∧ ∃ (s : Nat → Int) (T : Cv → Cv → Cv × Cv), RdI s ∧ s 1 = 5 ∧ s 5 = r 5 + 1 ∧ (tKind m = 257 ∨ (tKind m = 59 ∧ s 5 < 24)) ∧ m.length < l.length ∧ (∀ f g, Cok 999 f → Cok 999 g → Cok 999 (T f g).1 ∧ Cok 999 (T f g).2) ∧ rowsQ d (folL s (T F G).1 (T F G).2).1 (folL s (T F G).1 (T F G).2).2 M N ∧ ∀ f g, rn b l r f g = rn b m s (T f g).1 (T f g).2))
theorem clause_here {b l : List Int} {M : mM} (h : PosM b l M) : (tKind l = 256 ∧ ((dgs l).length : Int) = 1 ∧ num3 (dgs l) ≤ 1) ↔ ((hereB l 48 = true ∨ hereB l 49 = true) ∧ tLen l ≤ 1) := by
  obtain ⟨q, hq, e, hql⟩ := PosM_at h
  cases l with
  | nil => exact ⟨fun z => absurd z.1 (by decide), fun z => by rcases z.1 with y | y <;> cases y⟩
  | cons x t =>
    obtain ⟨g1, g2, g3⟩ := drop_cons e.symm
    have hx := (h.1.2.2 q x g2).2
    by_cases hd : dig x = true
    · have hdg : dgs (x :: t) = x :: dgs t := by rw [dgs, if_pos hd]
      have hk : tKind (x :: t) = 256 := if_pos hd
      have htl : tLen (x :: t) = (dgs (x :: t)).length := if_pos hd
      have hxd := dig_iff.mp hd
      have hh : ∀ c, (hereB (x :: t) c = true ↔ x = c) := fun c => decide_eq_true_iff
      rw [hh, hh, htl]
      constructor
      · rintro ⟨-, z2, z3⟩
        have z2 : (dgs (x :: t)).length = 1 := by omega
        have hdt : dgs t = [] := by rw [hdg, List.length_cons] at z2; exact List.length_eq_zero_iff.mp (by omega)
        rw [hdg, hdt] at z3
        have z3 : 0 * 10 + x - 48 ≤ 1 := z3
        exact ⟨by omega, by omega⟩
      · rintro ⟨z1, z2⟩
        have h1 : 1 ≤ (dgs (x :: t)).length := by rw [hdg, List.length_cons]; omega
        have hdt : dgs t = [] := by rw [hdg, List.length_cons] at z2; exact List.length_eq_zero_iff.mp (by omega)
        refine ⟨hk, by omega, ?_⟩
        rw [hdg, hdt]
        show 0 * 10 + x - 48 ≤ 1
        omega
    · have hk : tKind (x :: t) = x := if_neg hd
      constructor
      · rintro ⟨z1, -⟩
        rw [hk] at z1
        omega
      · rintro ⟨z1, -⟩
        have hh : ∀ c, (hereB (x :: t) c = true ↔ x = c) := fun c => decide_eq_true_iff
        rw [hh, hh] at z1
        exfalso
        exact hd (dig_iff.mpr (by omega))
theorem clause_num {b l : List Int} {M : mM} (h : PosM b l M) (hd : (dgs l).length = 1) : ∃ x t q, l = x :: t ∧ num3 (dgs l) = x - 48 ∧ b.length - l.length = q ∧ M 158 q = x ∧ 48 ≤ x ∧ x ≤ 57 := by
  obtain ⟨q, hq, e, hql⟩ := PosM_at h
  cases l with
  | nil => exact absurd hd (by decide)
  | cons x t =>
    obtain ⟨g1, g2, g3⟩ := drop_cons e.symm
    by_cases hdx : dig x = true
    · have hdg : dgs (x :: t) = x :: dgs t := by rw [dgs, if_pos hdx]
      have hdt : dgs t = [] := by rw [hdg, List.length_cons] at hd; exact List.length_eq_zero_iff.mp (by omega)
      refine ⟨x, t, q, rfl, ?_, hql, (h.1.2.2 q x g2).1, dig_iff.mp hdx⟩
      rw [hdg, hdt]
      show 0 * 10 + x - 48 = x - 48
      omega
    · rw [dgs, if_neg hdx] at hd; exact absurd hd (by decide)
theorem m_readsClause {b l : List Int} {M : mM} {r : Nat → Int} {d : Int} {F G : Cv} (h : PosM b l M) (hi : RdI r) (h1 : r 1 = 0) (hz : freshR r) (f7 : M 155 7 = r 5 + 1) (hd8 : M 155 8 = d) (hd : d = 0 ∨ d = 1) (hR : d = 1 → mrow 0 F G M ∧ Cok 999 F ∧ Cok 999 G) : EQ 7 156 [vR 155] M (ClQ b l r d F G M) := by
  refine q_in (ls := [vR 155, vN]) mq_156 (ml_156 rfl) rfl fun D hD => ?_
  have hs := h.2.1.2
  have x48 := m_isHere h (c := 48) (by decide)
  have x49 := m_isHere h (c := 49) (by decide)
  have hcl := clause_here h
  have h5 := h.2.2.1
  have h6 := h.2.2.2
  have hb200 := h.1.2.1
  have htl := tLen_le l
  have hll : l.length ≤ b.length := by obtain ⟨q, hq, e, hql⟩ := PosM_at h; rw [e, List.length_drop]; omega
  have hnn := num3_rng _ (dgs_dig l)
  have hacc : ∀ f g, accF (tKind l) (dgs l).length (num3 (dgs l)) r f g = if tKind l = 256 ∧ ((dgs l).length : Int) = 1 ∧ num3 (dgs l) ≤ 1 then some (rdCl (num3 (dgs l)) r, clF (num3 (dgs l)) f g) else none := by
    intro f g
    unfold accF
    rw [if_pos h1]
  -- the fault at once
  have bad : ¬ ((hereB l 48 = true ∨ hereB l 49 = true) ∧ tLen l ≤ 1) → ClQ b l r d F G M (some (vI 0)) M := by
    intro hn
    exact ⟨l, h, TmF_rfl M, rfl, Nat.le_refl _, Or.inl ⟨rfl, fun _ => rfl, fun f g => rn_none hs (by rw [hacc f g, if_neg (fun z => hn (hcl.mp z))])⟩⟩
  by_cases hc : (hereB l 48 = true ∨ hereB l 49 = true) ∧ tLen l ≤ 1
  · have hc3 := hcl.mpr hc
    have hl : l ≠ [] := by
      rcases hc.1 with z | z
      · exact here_ne z
      · exact here_ne z
    obtain ⟨x, t, q, hlx, hnx48, hql, hx158, hxr⟩ := clause_num h (by omega)
    rw [hql] at h5 h6
    have htl1 := tLen_pos hl
    have hlen := nxt_len hl
    have hx : M 158 ((q : Int)).toNat = x := hx158
    -- behind the digit
    have hs1 : skp (nxt l) = nxt l := skp_skp _
    have hrun1 : ∀ f g, rn b l r f g = rn b (nxt l) (rdCl (x - 48) r) (clF (x - 48) f g).1 (clF (x - 48) f g).2 := fun f g => by
      have := rn_some (f := f) (g := g) (b := b) hs hl (by rw [hacc f g, if_pos hc3])
      rw [this, hnx48]
    have hn01 : x - 48 = 0 ∨ x - 48 = 1 := by have := hc3.2.2; omega
    generalize hnn2 : x - 48 = nn at *
    have hi1 : RdI (rdCl nn r) := rdCl_ok hi h1 hn01
    have c1 : rdCl nn r 1 = 1 := rfl
    have c6 : rdCl nn r 6 = nn := rfl
    have c5 : rdCl nn r 5 = r 5 + 1 := rfl
    obtain ⟨z7, z8, z9, z10, z11, z12, z13⟩ := id hz
    have hP9 : PosM b l (upI M 155 9 nn) := PosM_fr h (if_neg (by omega)) (if_neg (by omega)) (if_neg (by omega)) (fun k => by rw [upI_ne _ _ _ _ (by decide)])
    have hnx := m_next hP9
    have cont : ∀ N : mM, PosM b (nxt l) N → (∀ a, a ≠ 155 → N a = upI M 155 9 nn a) → (∀ k, k ≠ 5 → k ≠ 6 → N 155 k = upI M 155 9 nn 155 k) → Wp mc_156 D 53 [vR 155, vN] [] N (ClQ b l r d F G M) := by
      intro N w1 w2 w3
      have hTN : TmF M N := ⟨fun a a1 a2 => by rw [w2 a a1, upI_ne _ _ _ _ a1], fun k hk => by rw [w3 k (by omega) (by omega)]; exact if_neg (by omega)⟩
      have n7 : N 155 7 = M 155 7 := by rw [w3 7 (by decide) (by decide)]; exact if_neg (by omega)
      have n9 : N 155 9 = nn := by rw [w3 9 (by decide) (by decide)]; exact upI_same _ _ _ _
      have n156 : N 156 = M 156 := by rw [w2 156 (by decide), upI_ne _ _ _ _ (by decide)]
      have n8 : N 155 8 = d := by rw [hTN.2 8 (by omega)]; exact hd8
      have hcol := m_isHere w1 (c := 58) (by decide)
      have k58 := here_kind (l := nxt l) (c := 58) (by decide) (by decide) (by decide)
      have hacc1 : ∀ f g, accF (tKind (nxt l)) (dgs (nxt l)).length (num3 (dgs (nxt l))) (rdCl nn r) f g = if tKind (nxt l) = 58 then some (sR (rdCl nn r) 1 2, f, g) else none := by
        intro f g
        unfold accF
        rw [if_neg (by rw [c1]; decide), if_pos c1]
      by_cases q58 : hereB (nxt l) 58 = true
      · rw [if_pos q58] at hcol
        have hl1 := here_ne q58
        have hlen1 := nxt_len hl1
        have hrun2 : ∀ f g, rn b l r f g = rn b (nxt (nxt l)) (sR (rdCl nn r) 1 2) (clF nn f g).1 (clF nn f g).2 := fun f g => by
          rw [hrun1 f g]
          exact rn_some (q := (sR (rdCl nn r) 1 2, (clF nn f g).1, (clF nn f g).2)) hs1 hl1 (by rw [hacc1, if_pos (k58.mp q58)])
        have hi2 : RdI (sR (rdCl nn r) 1 2) := by unfold RdI at hi1 ⊢; simp [sR]; simp [sR] at hi1; omega
        have hz2 : freshR (sR (rdCl nn r) 1 2) := ⟨z7, z8, z9, z10, z11, z12, z13⟩
        -- the terms of the clause
        have terms : ∀ (c : Nat) (m : List Int) (s : Nat → Int) (T : Cv → Cv → Cv × Cv) (O : mM), m.length ≤ c → PosM b m O → TmF M O → O 155 7 = M 155 7 → O 155 9 = nn → m.length < l.length → RdI s → s 1 = 2 → freshR s → s 5 = r 5 + 1 → s 6 = nn → (∀ f g, Cok 999 f → Cok 999 g → Cok 999 (T f g).1 ∧ Cok 999 (T f g).2) → rowsQ d (T F G).1 (T F G).2 M O → (∀ f g, rn b l r f g = rn b m s (T f g).1 (T f g).2) → ∀ v : mV, ∃ hE : EQ 6 158 [vR 155] O (TeQ b m s d (T F G).1 (T F G).2 O), ∀ (q : Option mV) (P : mM), TeQ b m s d (T F G).1 (T F G).2 O q P → ∃ w : Int, (w = 0 ∨ w = 1) ∧ q = some (vI w) ∧ Wp mc_156 D 111 [vR 155, vI w] [] P (ClQ b l r d F G M) := by
          intro c
          induction c with
          | zero =>
            intro m s T O hmc hP hTO o7 o9 hml his hs1 hfs hs5 hs6 hT hrows hrun v
            have hE := m_readsTerm (F := (T F G).1) (G := (T F G).2) hP his hs1 hfs (by rw [o7, f7, hs5]) (by rw [o9, hs6]) (by rw [hTO.2 8 (by omega)]; exact hd8) hd (fun z => ⟨(hrows.2 z).1, hT F G (hR z).2.1 (hR z).2.2⟩)
            refine ⟨hE, ?_⟩
            rintro q P ⟨m2, s2, p1, p2, ⟨p7, p9⟩, p3, (⟨rfl, p4, p5⟩ | ⟨rfl, p4, p5, p6, p8, p10, p11, p12⟩)⟩
            · refine ⟨0, Or.inl rfl, rfl, ?_⟩
              have hfin : ClQ b l r d F G M (some (vI 0)) P := ⟨m2, p1, TmF_tr hTO p2, p7.trans o7, by omega, Or.inl ⟨rfl, fun z => (p4 z).trans (hrows.1 z), fun f g => by rw [hrun f g, p5]⟩⟩
              refine w_iload rfl rfl ?_
              refine w_if_eq (tgt := 136) rfl (by first | assumption | exact i32_0 | (unfold i32 at *; omega)) rfl (fun _ => ?_) (fun c => absurd c (by decide))
              exact w_iload rfl rfl (w_zreturn rfl (Or.inl rfl) hfin)
            · omega
          | succ c ih =>
            intro m s T O hmc hP hTO o7 o9 hml his hs1 hfs hs5 hs6 hT hrows hrun v
            have hE := m_readsTerm (F := (T F G).1) (G := (T F G).2) hP his hs1 hfs (by rw [o7, f7, hs5]) (by rw [o9, hs6]) (by rw [hTO.2 8 (by omega)]; exact hd8) hd (fun z => ⟨(hrows.2 z).1, hT F G (hR z).2.1 (hR z).2.2⟩)
            refine ⟨hE, ?_⟩
            rintro q P ⟨m2, s2, p1, p2, ⟨p7, p9⟩, p3, (⟨rfl, p4, p5⟩ | ⟨rfl, p4, p5, p6, p8, p10, p11, p12⟩)⟩
            · refine ⟨0, Or.inl rfl, rfl, ?_⟩
              have hfin : ClQ b l r d F G M (some (vI 0)) P := ⟨m2, p1, TmF_tr hTO p2, p7.trans o7, by omega, Or.inl ⟨rfl, fun z => (p4 z).trans (hrows.1 z), fun f g => by rw [hrun f g, p5]⟩⟩
              refine w_iload rfl rfl ?_
              refine w_if_eq (tgt := 136) rfl (by first | assumption | exact i32_0 | (unfold i32 at *; omega)) rfl (fun _ => ?_) (fun c => absurd c (by decide))
              exact w_iload rfl rfl (w_zreturn rfl (Or.inl rfl) hfin)
            · refine ⟨1, Or.inr rfl, rfl, ?_⟩
              have hrowsP : rowsQ d (folL s2 (T F G).1 (T F G).2).1 (folL s2 (T F G).1 (T F G).2).2 M P := ⟨fun z => (p11.1 z).trans (hrows.1 z), fun z => ⟨(p11.2 z).1, fun k hk => ((p11.2 z).2 k hk).trans ((hrows.2 z).2 k hk)⟩⟩
              have hrunP : ∀ f g, rn b l r f g = rn b m2 s2 (T f g).1 (T f g).2 := fun f g => by rw [hrun f g, p12]
              have s25 : s2 5 = r 5 + 1 := p6.2.2.1.trans hs5
              have s26 : s2 6 = nn := p6.2.2.2.trans hs6
              have hcm := m_isHere p1 (c := 44) (by decide)
              have k44 := here_kind (l := m2) (c := 44) (by decide) (by decide) (by decide)
              by_cases q44 : hereB m2 44 = true
              · rw [if_pos q44] at hcm
                have hm2 := here_ne q44
                have hlen2 := nxt_len hm2
                have hrun3 : ∀ f g, rn b l r f g = rn b (nxt m2) (sR (rdNew s2) 1 2) (folL s2 (T f g).1 (T f g).2).1 (folL s2 (T f g).1 (T f g).2).2 := fun f g => by
                  rw [hrunP f g]
                  refine rn_some p1.2.1.2 hm2 (q := (sR (rdNew s2) 1 2, folL s2 (T f g).1 (T f g).2)) ?_
                  rw [accF_5 p5]
                  unfold folF
                  rw [if_neg (by have := k44.mp q44; omega), if_neg (by have := k44.mp q44; omega), if_pos (Or.inl (k44.mp q44))]
                have hnx3 := m_next p1
                have hi3 : RdI (sR (rdNew s2) 1 2) := by unfold RdI at p4 ⊢; simp [sR, rdNew]; omega
                have again : ∀ O2 : mM, PosM b (nxt m2) O2 → (∀ a, a ≠ 155 → O2 a = P a) → (∀ k, k ≠ 5 → k ≠ 6 → O2 155 k = P 155 k) → Wp mc_156 D 128 [vR 155, vI 1] [] O2 (ClQ b l r d F G M) := by
                  intro O2 v1 v2 v3
                  have hTO2 : TmF M O2 := TmF_tr hTO (TmF_tr p2 ⟨fun a a1 _ => v2 a a1, fun k hk => v3 k (by omega) (by omega)⟩)
                  obtain ⟨hE2, hB2⟩ := ih (nxt m2) (sR (rdNew s2) 1 2) (fun f g => folL s2 (T f g).1 (T f g).2) O2 (by omega) v1 hTO2 (by rw [v3 7 (by decide) (by decide), p7, o7]) (by rw [v3 9 (by decide) (by decide), p9, o9]) (by omega) hi3 rfl (freshR_new s2 0 2) s25 s26 (fun f g cf cg => folL_ok p4 (hT f g cf cg).1 (hT f g cf cg).2) ⟨fun z => by rw [v2 156 (by decide)]; exact hrowsP.1 z, fun z => ⟨mrow_fr (hrowsP.2 z).1 (fun k _ _ => by rw [v2 156 (by decide)]), fun k hk => by rw [v2 156 (by decide)]; exact (hrowsP.2 z).2 k hk⟩⟩ hrun3 vN
                  refine w_aload rfl rfl ?_
                  refine w_callQ (Or.inr rfl) (hE2) (by omega) nof_158 rfl rfl rfl rfl (by first | rfl | (show cKB[_]? = _; assumption)) (fun r129 M129 hq129 => ?_)
                  obtain ⟨w, hw, rfl, hgo⟩ := hB2 _ _ hq129
                  refine w_istore (ls2 := [_, _]) rfl rfl rfl (w_goto (tgt := 111) rfl rfl ?_)
                  exact hgo
                refine w_iload rfl rfl ?_
                refine w_if_eq (tgt := 136) rfl (by first | assumption | exact i32_0 | (unfold i32 at *; omega)) rfl (fun c => absurd c (by decide)) (fun _ => ?_)
                refine w_aload rfl rfl (w_iconst rfl ?_)
                refine w_call (Or.inr rfl) ((hcm)) (by omega) nof_157 rfl rfl rfl rfl (by first | rfl | (show cKB[_]? = _; assumption)) rfl ?_
                refine w_if_eq (tgt := 136) rfl (by first | assumption | exact i32_0 | (unfold i32 at *; omega)) rfl (fun c => absurd c (by decide)) (fun _ => ?_)
                refine w_aload rfl rfl ?_
                refine w_callQ (Or.inr rfl) (hnx3) (by omega) nof_154 rfl rfl rfl rfl (by first | rfl | (show cKB[_]? = _; assumption)) (fun r125 M125 hq125 => ?_)
                obtain ⟨rfl, v1, v2, v3⟩ := hq125
                exact again _ v1 v2 v3
              · rw [if_neg q44] at hcm
                have nk44 : tKind m2 ≠ 44 := fun z => q44 (k44.mpr z)
                have hfin : ClQ b l r d F G M (some (vI 1)) P := ⟨m2, p1, TmF_tr hTO p2, p7.trans o7, by omega, Or.inr ⟨rfl, s2, T, p4, p5, s25, by omega, by omega, hT, hrowsP, hrunP⟩⟩
                refine w_iload rfl rfl ?_
                refine w_if_eq (tgt := 136) rfl (by first | assumption | exact i32_0 | (unfold i32 at *; omega)) rfl (fun c => absurd c (by decide)) (fun _ => ?_)
                refine w_aload rfl rfl (w_iconst rfl ?_)
                refine w_call (Or.inr rfl) ((hcm)) (by omega) nof_157 rfl rfl rfl rfl (by first | rfl | (show cKB[_]? = _; assumption)) rfl ?_
                refine w_if_eq (tgt := 136) rfl (by first | assumption | exact i32_0 | (unfold i32 at *; omega)) rfl (fun _ => ?_) (fun c => absurd c (by decide))
                exact w_iload rfl rfl (w_zreturn rfl (Or.inr rfl) hfin)
        -- behind the colon
        have colon : ∀ (O : mM) (v : mV), PosM b (nxt l) O → TmF M O → O 155 7 = M 155 7 → O 155 9 = nn → rowsQ d (clF nn F G).1 (clF nn F G).2 M O → Wp mc_156 D 102 [vR 155, v] [] O (ClQ b l r d F G M) := by
          intro O v hP hTO o7 o9 hrows
          have hnx2 := m_next hP
          have go2 : ∀ O2 : mM, PosM b (nxt (nxt l)) O2 → (∀ a, a ≠ 155 → O2 a = O a) → (∀ k, k ≠ 5 → k ≠ 6 → O2 155 k = O 155 k) → Wp mc_156 D 106 [vR 155, v] [] O2 (ClQ b l r d F G M) := by
            intro O2 v1 v2 v3
            have hTO2 : TmF M O2 := TmF_tr hTO ⟨fun a a1 _ => v2 a a1, fun k hk => v3 k (by omega) (by omega)⟩
            obtain ⟨hE2, hB2⟩ := terms (nxt (nxt l)).length (nxt (nxt l)) (sR (rdCl nn r) 1 2) (fun f g => clF nn f g) O2 (Nat.le_refl _) v1 hTO2 (by rw [v3 7 (by decide) (by decide), o7]) (by rw [v3 9 (by decide) (by decide), o9]) (by omega) hi2 rfl hz2 c5 c6 (fun f g cf cg => Cok_clF cf cg) ⟨fun z => by rw [v2 156 (by decide)]; exact hrows.1 z, fun z => ⟨mrow_fr (hrows.2 z).1 (fun k _ _ => by rw [v2 156 (by decide)]), fun k hk => by rw [v2 156 (by decide)]; exact (hrows.2 z).2 k hk⟩⟩ hrun2 vN
            refine w_aload rfl rfl ?_
            refine w_callQ (Or.inr rfl) (hE2) (by omega) nof_158 rfl rfl rfl rfl (by first | rfl | (show cKB[_]? = _; assumption)) (fun r107 M107 hq107 => ?_)
            obtain ⟨w, hw, rfl, hgo⟩ := hB2 _ _ hq107
            refine w_istore (ls2 := [_, _]) rfl rfl rfl ?_
            exact hgo
          refine w_aload rfl rfl ?_
          refine w_callQ (Or.inr rfl) (hnx2) (by omega) nof_154 rfl rfl rfl rfl (by first | rfl | (show cKB[_]? = _; assumption)) (fun r103 M103 hq103 => ?_)
          obtain ⟨rfl, v1, v2, v3⟩ := hq103
          exact go2 _ v1 v2 v3
        -- the curve's row emptied
        rcases hd with rfl | rfl
        · have hgo := colon N (vI 0) w1 hTN n7 n9 ⟨fun _ => n156, fun z => absurd z (by decide)⟩
          refine w_aload rfl rfl (w_iconst rfl ?_)
          refine w_call (Or.inr rfl) ((hcol)) (by omega) nof_157 rfl rfl rfl rfl (by first | rfl | (show cKB[_]? = _; assumption)) rfl ?_
          refine w_if_ne (tgt := 64) rfl (by first | assumption | exact i32_0 | (unfold i32 at *; omega)) rfl (fun _ => ?_) (fun c => absurd c (by decide))
          refine w_iconst rfl (w_istore (ls2 := [_, _]) rfl rfl rfl (w_iload rfl rfl (w_iconst rfl ?_)))
          refine w_icmp_ge (tgt := 102) rfl (by first | assumption | exact i32_0 | (unfold i32 at *; omega)) (by first | assumption | exact i32_0 | (unfold i32 at *; omega)) rfl (fun c69 => ?_) (fun c69 => ?_)
          · skip
            first | exact hgo | (exfalso; omega)
          · skip
            refine w_aload rfl rfl (w_getIV rfl (by first | rfl | assumption) (by first | exact Or.inl rfl | exact Or.inr rfl) (n8) ?_)
            refine w_if_eq (tgt := 102) rfl (by first | assumption | exact i32_0 | (unfold i32 at *; omega)) rfl (fun _ => ?_) (fun c => absurd c (by decide))
            first | exact hgo | (exfalso; omega)
        · obtain ⟨hr0, cF, cG⟩ := hR rfl
          have clear : ∀ (z n : Nat) (O : mM), 25 - n = z → n ≤ 25 → (∀ p, p < n → O 156 (25 * nn.toNat + p) = 5000) → (∀ k, (k < 25 * nn.toNat ∨ 25 * nn.toNat + 25 ≤ k) → O 156 k = M 156 k) → (∀ a, a ≠ 156 → O a = N a) → Wp mc_156 D 66 [vR 155, vI n] [] O (ClQ b l r 1 F G M) := by
            intro z
            induction z with
            | zero =>
              intro n O hzz hn g1 g2 g3
              obtain rfl : n = 25 := by omega
              have hgo := colon O (vI (25 : Nat)) (PosM_fr w1 (by rw [g3 155 (by decide)]) (by rw [g3 155 (by decide)]) (by rw [g3 155 (by decide)]) (fun k => by rw [g3 158 (by decide)])) ⟨fun a a1 a2 => by rw [g3 a a2]; exact hTN.1 a a1 a2, fun k hk => by rw [g3 155 (by decide)]; exact hTN.2 k hk⟩ (by rw [g3 155 (by decide)]; exact n7) (by rw [g3 155 (by decide)]; exact n9) ⟨fun z => absurd z (by decide), fun _ => ⟨mrow_clF hn01 hr0 g1 g2, fun k hk => g2 k (by rcases hn01 with rfl | rfl <;> omega)⟩⟩
              refine w_iload rfl rfl (w_iconst rfl ?_)
              refine w_icmp_ge (tgt := 102) rfl (by first | assumption | exact i32_0 | (unfold i32 at *; omega)) (by first | assumption | exact i32_0 | (unfold i32 at *; omega)) rfl (fun c69 => ?_) (fun c69 => ?_)
              · skip
                exact hgo
              · skip
                exfalso; omega
            | succ z ih =>
              intro n O hzz hn g1 g2 g3
              have o8 : O 155 8 = 1 := by rw [g3 155 (by decide)]; exact n8
              have o9 : O 155 9 = nn := by rw [g3 155 (by decide)]; exact n9
              have e1 : (25 * nn + (n : Int)).toNat = 25 * nn.toNat + n := by omega
              have ihn := ih (n + 1) (upI O 156 (25 * nn.toNat + n) 5000) (by omega) (by omega) (fun k hk => by
                unfold upI
                by_cases y : k = n
                · rw [if_pos ⟨rfl, by omega⟩]
                · rw [if_neg (by omega)]; exact g1 k (by omega)) (fun k hk => (if_neg (by omega)).trans (g2 k hk)) (fun a ha => by rw [upI_ne _ _ _ _ ha]; exact g3 a ha)
              refine w_iload rfl rfl (w_iconst rfl ?_)
              refine w_icmp_ge (tgt := 102) rfl (by first | assumption | exact i32_0 | (unfold i32 at *; omega)) (by first | assumption | exact i32_0 | (unfold i32 at *; omega)) rfl (fun c69 => ?_) (fun c69 => ?_)
              · exfalso; omega
              · skip
                refine w_aload rfl rfl (w_getIV rfl (by first | rfl | assumption) (by first | exact Or.inl rfl | exact Or.inr rfl) (o8) ?_)
                refine w_if_eq (tgt := 102) rfl (by first | assumption | exact i32_0 | (unfold i32 at *; omega)) rfl (fun c => absurd c (by decide)) (fun _ => ?_)
                refine w_aload rfl rfl (w_getR rfl (by first | rfl | assumption) rfl (by first | rfl | assumption) (w_iconst rfl (w_aload rfl rfl (w_getIV rfl (by first | rfl | assumption) (by first | exact Or.inl rfl | exact Or.inr rfl) (o9) (w_imul rfl (w_iload rfl rfl (w_iadd rfl ?_)))))))
                refine w_iconst rfl (w_iastore rfl (by first | rfl | assumption) (by omega) (by omega) (w_iinc (ls2 := [_, _]) rfl rfl rfl (w_goto (tgt := 66) rfl rfl ?_)))
                rw [e1]
                exact ihn
          have hgo := clear 25 0 N rfl (by decide) (fun k hk => absurd hk (Nat.not_lt_zero k)) (fun k _ => by rw [n156]) (fun _ _ => rfl)
          refine w_aload rfl rfl (w_iconst rfl ?_)
          refine w_call (Or.inr rfl) ((hcol)) (by omega) nof_157 rfl rfl rfl rfl (by first | rfl | (show cKB[_]? = _; assumption)) rfl ?_
          refine w_if_ne (tgt := 64) rfl (by first | assumption | exact i32_0 | (unfold i32 at *; omega)) rfl (fun _ => ?_) (fun c => absurd c (by decide))
          refine w_iconst rfl (w_istore (ls2 := [_, _]) rfl rfl rfl ?_)
          exact hgo
      · rw [if_neg q58] at hcol
        have hfin : ClQ b l r d F G M (some (vI 0)) N := ⟨nxt l, w1, hTN, n7, Nat.le_of_lt hlen, Or.inl ⟨rfl, fun _ => n156, fun f g => by rw [hrun1 f g]; exact rn_none hs1 (by rw [hacc1, if_neg (fun z => q58 (k58.mpr z))])⟩⟩
        refine w_aload rfl rfl (w_iconst rfl ?_)
        refine w_call (Or.inr rfl) ((hcol)) (by omega) nof_157 rfl rfl rfl rfl (by first | rfl | (show cKB[_]? = _; assumption)) rfl ?_
        refine w_if_ne (tgt := 64) rfl (by first | assumption | exact i32_0 | (unfold i32 at *; omega)) rfl (fun c => absurd c (by decide)) (fun _ => ?_)
        refine w_iconst rfl ?_
        exact w_zreturn rfl (Or.inl rfl) hfin
    rcases hc.1 with q48 | q49
    · rw [if_pos q48] at x48
      refine w_aload rfl rfl (w_iconst rfl ?_)
      refine w_call (Or.inr rfl) ((x48)) (by omega) nof_157 rfl rfl rfl rfl (by first | rfl | (show cKB[_]? = _; assumption)) rfl ?_
      refine w_if_ne (tgt := 18) rfl (by first | assumption | exact i32_0 | (unfold i32 at *; omega)) rfl (fun _ => ?_) (fun c => absurd c (by decide))
      refine w_aload rfl rfl (w_getIV rfl (by first | rfl | assumption) (by first | exact Or.inl rfl | exact Or.inr rfl) (h6) (w_aload rfl rfl (w_getIV rfl (by first | rfl | assumption) (by first | exact Or.inl rfl | exact Or.inr rfl) (h5) (w_isub rfl (w_iconst rfl ?_)))))
      refine w_icmp_le (tgt := 33) rfl (by first | assumption | exact i32_0 | (unfold i32 at *; omega)) (by first | assumption | exact i32_0 | (unfold i32 at *; omega)) rfl (fun c28 => ?_) (fun c28 => ?_)
      · skip
        refine w_aload rfl rfl (w_aload rfl rfl (w_getR rfl (by first | rfl | assumption) rfl (by first | rfl | assumption) (w_aload rfl rfl (w_getIV rfl (by first | rfl | assumption) (by first | exact Or.inl rfl | exact Or.inr rfl) (h5) (w_ialoadV rfl (by first | rfl | assumption) (by omega) (by omega) (hx) (w_iconst rfl (w_isub rfl ?_)))))))
        rw [hnn2]
        refine w_putI rfl (by first | rfl | assumption) rfl (w_aload rfl rfl ?_)
        refine w_callQ (Or.inr rfl) (hnx) (by omega) nof_154 rfl rfl rfl rfl (by first | rfl | (show cKB[_]? = _; assumption)) (fun r50 M50 hq50 => ?_)
        obtain ⟨rfl, w1, w2, w3⟩ := hq50
        exact cont _ w1 w2 w3
      · skip
        exfalso; omega
    · by_cases q48 : hereB l 48 = true
      · rw [if_pos q48] at x48
        refine w_aload rfl rfl (w_iconst rfl ?_)
        refine w_call (Or.inr rfl) ((x48)) (by omega) nof_157 rfl rfl rfl rfl (by first | rfl | (show cKB[_]? = _; assumption)) rfl ?_
        refine w_if_ne (tgt := 18) rfl (by first | assumption | exact i32_0 | (unfold i32 at *; omega)) rfl (fun _ => ?_) (fun c => absurd c (by decide))
        refine w_aload rfl rfl (w_getIV rfl (by first | rfl | assumption) (by first | exact Or.inl rfl | exact Or.inr rfl) (h6) (w_aload rfl rfl (w_getIV rfl (by first | rfl | assumption) (by first | exact Or.inl rfl | exact Or.inr rfl) (h5) (w_isub rfl (w_iconst rfl ?_)))))
        refine w_icmp_le (tgt := 33) rfl (by first | assumption | exact i32_0 | (unfold i32 at *; omega)) (by first | assumption | exact i32_0 | (unfold i32 at *; omega)) rfl (fun c28 => ?_) (fun c28 => ?_)
        · skip
          refine w_aload rfl rfl (w_aload rfl rfl (w_getR rfl (by first | rfl | assumption) rfl (by first | rfl | assumption) (w_aload rfl rfl (w_getIV rfl (by first | rfl | assumption) (by first | exact Or.inl rfl | exact Or.inr rfl) (h5) (w_ialoadV rfl (by first | rfl | assumption) (by omega) (by omega) (hx) (w_iconst rfl (w_isub rfl ?_)))))))
          rw [hnn2]
          refine w_putI rfl (by first | rfl | assumption) rfl (w_aload rfl rfl ?_)
          refine w_callQ (Or.inr rfl) (hnx) (by omega) nof_154 rfl rfl rfl rfl (by first | rfl | (show cKB[_]? = _; assumption)) (fun r50 M50 hq50 => ?_)
          obtain ⟨rfl, w1, w2, w3⟩ := hq50
          exact cont _ w1 w2 w3
        · skip
          exfalso; omega
      · rw [if_neg q48] at x48
        rw [if_pos q49] at x49
        refine w_aload rfl rfl (w_iconst rfl ?_)
        refine w_call (Or.inr rfl) ((x48)) (by omega) nof_157 rfl rfl rfl rfl (by first | rfl | (show cKB[_]? = _; assumption)) rfl ?_
        refine w_if_ne (tgt := 18) rfl (by first | assumption | exact i32_0 | (unfold i32 at *; omega)) rfl (fun c => absurd c (by decide)) (fun _ => ?_)
        refine w_aload rfl rfl (w_iconst rfl ?_)
        refine w_call (Or.inr rfl) ((x49)) (by omega) nof_157 rfl rfl rfl rfl (by first | rfl | (show cKB[_]? = _; assumption)) rfl ?_
        refine w_if_eq (tgt := 31) rfl (by first | assumption | exact i32_0 | (unfold i32 at *; omega)) rfl (fun c => absurd c (by decide)) (fun _ => ?_)
        refine w_aload rfl rfl (w_getIV rfl (by first | rfl | assumption) (by first | exact Or.inl rfl | exact Or.inr rfl) (h6) (w_aload rfl rfl (w_getIV rfl (by first | rfl | assumption) (by first | exact Or.inl rfl | exact Or.inr rfl) (h5) (w_isub rfl (w_iconst rfl ?_)))))
        refine w_icmp_le (tgt := 33) rfl (by first | assumption | exact i32_0 | (unfold i32 at *; omega)) (by first | assumption | exact i32_0 | (unfold i32 at *; omega)) rfl (fun c28 => ?_) (fun c28 => ?_)
        · skip
          refine w_aload rfl rfl (w_aload rfl rfl (w_getR rfl (by first | rfl | assumption) rfl (by first | rfl | assumption) (w_aload rfl rfl (w_getIV rfl (by first | rfl | assumption) (by first | exact Or.inl rfl | exact Or.inr rfl) (h5) (w_ialoadV rfl (by first | rfl | assumption) (by omega) (by omega) (hx) (w_iconst rfl (w_isub rfl ?_)))))))
          rw [hnn2]
          refine w_putI rfl (by first | rfl | assumption) rfl (w_aload rfl rfl ?_)
          refine w_callQ (Or.inr rfl) (hnx) (by omega) nof_154 rfl rfl rfl rfl (by first | rfl | (show cKB[_]? = _; assumption)) (fun r50 M50 hq50 => ?_)
          obtain ⟨rfl, w1, w2, w3⟩ := hq50
          exact cont _ w1 w2 w3
        · skip
          exfalso; omega
  · have hfin := bad hc
    by_cases q48 : hereB l 48 = true
    · rw [if_pos q48] at x48
      have : 1 < tLen l := by
        rcases Nat.lt_or_ge 1 (tLen l) with z | z
        · exact z
        · exact absurd ⟨Or.inl q48, z⟩ hc
      refine w_aload rfl rfl (w_iconst rfl ?_)
      refine w_call (Or.inr rfl) ((x48)) (by omega) nof_157 rfl rfl rfl rfl (by first | rfl | (show cKB[_]? = _; assumption)) rfl ?_
      refine w_if_ne (tgt := 18) rfl (by first | assumption | exact i32_0 | (unfold i32 at *; omega)) rfl (fun _ => ?_) (fun c => absurd c (by decide))
      refine w_aload rfl rfl (w_getIV rfl (by first | rfl | assumption) (by first | exact Or.inl rfl | exact Or.inr rfl) (h6) (w_aload rfl rfl (w_getIV rfl (by first | rfl | assumption) (by first | exact Or.inl rfl | exact Or.inr rfl) (h5) (w_isub rfl (w_iconst rfl ?_)))))
      refine w_icmp_le (tgt := 33) rfl (by first | assumption | exact i32_0 | (unfold i32 at *; omega)) (by first | assumption | exact i32_0 | (unfold i32 at *; omega)) rfl (fun c28 => ?_) (fun c28 => ?_)
      · skip
        exfalso; omega
      · skip
        refine w_iconst rfl ?_
        exact w_zreturn rfl (Or.inl rfl) hfin
    · rw [if_neg q48] at x48
      by_cases q49 : hereB l 49 = true
      · rw [if_pos q49] at x49
        have : 1 < tLen l := by
          rcases Nat.lt_or_ge 1 (tLen l) with z | z
          · exact z
          · exact absurd ⟨Or.inr q49, z⟩ hc
        refine w_aload rfl rfl (w_iconst rfl ?_)
        refine w_call (Or.inr rfl) ((x48)) (by omega) nof_157 rfl rfl rfl rfl (by first | rfl | (show cKB[_]? = _; assumption)) rfl ?_
        refine w_if_ne (tgt := 18) rfl (by first | assumption | exact i32_0 | (unfold i32 at *; omega)) rfl (fun c => absurd c (by decide)) (fun _ => ?_)
        refine w_aload rfl rfl (w_iconst rfl ?_)
        refine w_call (Or.inr rfl) ((x49)) (by omega) nof_157 rfl rfl rfl rfl (by first | rfl | (show cKB[_]? = _; assumption)) rfl ?_
        refine w_if_eq (tgt := 31) rfl (by first | assumption | exact i32_0 | (unfold i32 at *; omega)) rfl (fun c => absurd c (by decide)) (fun _ => ?_)
        refine w_aload rfl rfl (w_getIV rfl (by first | rfl | assumption) (by first | exact Or.inl rfl | exact Or.inr rfl) (h6) (w_aload rfl rfl (w_getIV rfl (by first | rfl | assumption) (by first | exact Or.inl rfl | exact Or.inr rfl) (h5) (w_isub rfl (w_iconst rfl ?_)))))
        refine w_icmp_le (tgt := 33) rfl (by first | assumption | exact i32_0 | (unfold i32 at *; omega)) (by first | assumption | exact i32_0 | (unfold i32 at *; omega)) rfl (fun c28 => ?_) (fun c28 => ?_)
        · skip
          exfalso; omega
        · skip
          refine w_iconst rfl ?_
          exact w_zreturn rfl (Or.inl rfl) hfin
      · rw [if_neg q49] at x49
        refine w_aload rfl rfl (w_iconst rfl ?_)
        refine w_call (Or.inr rfl) ((x48)) (by omega) nof_157 rfl rfl rfl rfl (by first | rfl | (show cKB[_]? = _; assumption)) rfl ?_
        refine w_if_ne (tgt := 18) rfl (by first | assumption | exact i32_0 | (unfold i32 at *; omega)) rfl (fun c => absurd c (by decide)) (fun _ => ?_)
        refine w_aload rfl rfl (w_iconst rfl ?_)
        refine w_call (Or.inr rfl) ((x49)) (by omega) nof_157 rfl rfl rfl rfl (by first | rfl | (show cKB[_]? = _; assumption)) rfl ?_
        refine w_if_eq (tgt := 31) rfl (by first | assumption | exact i32_0 | (unfold i32 at *; omega)) rfl (fun _ => ?_) (fun c => absurd c (by decide))
        refine w_iconst rfl ?_
        exact w_zreturn rfl (Or.inl rfl) hfin
