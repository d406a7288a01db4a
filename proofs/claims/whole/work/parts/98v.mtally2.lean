/-! ===== the model's tally ===== -/
theorem ct0_mk {P : Nat → Bool} : ∀ n, fb_ct P n = 0 → mk P n = 0
  | 0, _ => rfl
  | n + 1, h => by
    rw [fb_ct_succ] at h
    have h1 : fb_ct P n = 0 := by omega
    have h2 : P n = false := by
      cases e : P n with
      | false => rfl
      | true => rw [e, if_pos rfl] at h; omega
    rw [mk, ct0_mk n h1, h2, if_neg (by decide)]
    rfl
theorem ct_0 {P : Nat → Bool} : ∀ n, (∀ k, k < n → P k = false) → fb_ct P n = 0
  | 0, _ => rfl
  | n + 1, h => by rw [fb_ct_succ, ct_0 n (fun k hk => h k (by omega)), h n (by omega)]; rfl
theorem places_pos {f : Cv} (h : 0 < cntF f) : 0 < placesF f := by
  rcases Nat.eq_zero_or_pos (placesF f) with z | z
  · have : cntF f = 0 := ct_0 21 fun k hk => by
      have := mk_tb (hasF f) k 21
      rw [show mk (hasF f) 21 = 0 from z, Nat.zero_testBit, decide_eq_true hk, Bool.true_and] at this
      exact this.symm
    omega
  · exact z
theorem rowsF_pq {f : Cv} {i p q : Nat} (hf : Cok 999 f) (hl : (cornF f).length ≤ 16) (hi : i < (rowsF f).length) (h0 : (rowsF f)[i] 0 = (p : Int)) (h1 : (rowsF f)[i] 1 = (q : Int)) : edPQ f (rowsF f)[i] p q := by
  have hie : i < (edL f).length := by rw [← rowsF_len]; exact hi
  obtain ⟨e, h2, h3, -⟩ := rowsF_get hf hl (List.getElem?_eq_getElem hie)
  rw [List.getElem?_eq_getElem hi, Option.some.injEq] at h2
  rw [← h2] at h3
  have a0 := h3.1.symm.trans h0
  have a1 := h3.2.1.symm.trans h1
  have b0 : (edL f)[i].1 = p := by omega
  have b1 : (edL f)[i].2 = q := by omega
  rw [b0, b1] at h3
  exact h3
theorem mix0_row (o a : Nat) : ∀ n, mixRow 0 o a n = 0
  | 0 => rfl
  | n + 1 => by
    have : hside 0 a n = false := by unfold hside; rw [Nat.zero_testBit, Bool.false_and, Bool.and_false]
    rw [mixRow, mix0_row o a n, this]
    rfl
theorem mixed_0l (o : Nat) : mixed 0 o = 0 := by
  have : ∀ n, mixSum 0 o n = 0 := by
    intro n
    induction n with
    | zero => rfl
    | succ n ih => rw [mixSum, ih, mix0_row]; rfl
  exact this 21
theorem rch_0 (u v : Int) : ∀ n, rch 0 u v n = none
  | 0 => rfl
  | n + 1 => by rw [rch, if_neg (by rw [Nat.zero_testBit]; decide), rch_0 u v n]
theorem mixed_0r (s : Nat) : mixed s 0 = 0 := by
  have h0 : ∀ a n, mixRow s 0 a n = 0 := by
    intro a n
    induction n with
    | zero => rfl
    | succ n ih =>
      rw [mixRow, ih]
      unfold reach
      rw [rch_0]
      split <;> rfl
  have : ∀ n, mixSum s 0 n = 0 := by
    intro n
    induction n with
    | zero => rfl
    | succ n ih => rw [mixSum, ih, h0]; rfl
  exact this 21
theorem mo_tally {s : Sta} {M : mM} {w : Int} (hG : GEO) (hE : GEOE) (hM : GEOM) (hX : MXQ) (hL : PLQ) (c : MI s M) (hw : i32 w) : EQ 12 241 [vR 155, vI w] M (MoQ M (dTally w s) s) := by
  refine q_in (ls := [vR 155, vI w]) mq_241 (ml_241 rfl) rfl fun D hD => ?_
  have hkn := m_knows hE hM c
  have hf := c.2.1.2.1
  have hg := c.2.1.2.2
  generalize hPost : MoQ M (dTally w s) s = Post
  have pre : (∀ N, MI s N → mFr M N → MV s.2.1 s.2.2.1 N → Wp mc_241 D 4 [vR 155, vI w] [] N Post) → Wp mc_241 D 0 [vR 155, vI w] [] M Post := by
    intro hgo
    clear hPost
    refine w_aload rfl rfl ?_
    refine w_callQ (Or.inr rfl) (hkn) (by omega) nof_187 rfl rfl rfl rfl (by first | rfl | (show cKB[_]? = _; assumption)) (fun r1 M1 hq1 => ?_)
    obtain ⟨rfl, w1, w2, w3, w4⟩ := hq1
    exact hgo _ w1 w2 w3
  refine pre fun N n1 n2 n3 => ?_
  have hcf : mcur 0 s.2.1 N := mcur_sel (a := 0) (by decide) n1.2.1.1
  have hcg : mcur 25 s.2.2.1 N := mcur_sel (a := 1) (by decide) n1.2.1.1
  clear pre hkn
  have hfin : ∀ r N2, MI s N2 → mFr N N2 → r = dTally w s → Post (some (vI r)) N2 := by
    intro r N2 z1 z2 z3
    rw [← hPost, z3]
    exact ⟨rfl, z1, mFr_tr n2 z2⟩
  have hms := fun N2 (z : MmF N N2) => MI_mf n1 z
  clear hPost
  have x35 : N 155 35 = ((meetF s.2.1 s.2.2.1).length : Int) := n3.2.2.1
  have x1 : N 155 1 = (s.2.2.2.1.length : Int) := n1.2.2.1.1.1
  have x4 : N 155 4 = (s.1.length : Int) := n1.1.1
  by_cases c0 : w = 0
  · subst c0
    have hgo := hfin ((meetF s.2.1 s.2.2.1).length : Int) N n1 (mFr_rfl N) rfl
    refine w_iload rfl rfl ?_
    skip
    · skip
      refine w_tsw (tgt := 48) rfl (by first | assumption | exact i32_0 | (unfold i32 at *; omega)) (by rfl) ?_
      refine w_aload rfl rfl (w_getIV rfl (by first | rfl | assumption) (by first | exact Or.inl rfl | exact Or.inr rfl) (x35) ?_)
      exact w_ireturn rfl hgo
  by_cases c1 : w = 1
  · subst c1
    have k1 := m_allCounts hX hcf hcg hf hg n3.2.2
    have hgo := fun N2 z => hfin (sumM (meetF s.2.1 s.2.2.1) (meetF s.2.1 s.2.2.1).length) N2 (hms N2 z).1 (hms N2 z).2 rfl
    refine w_iload rfl rfl ?_
    skip
    · skip
      refine w_tsw (tgt := 53) rfl (by first | assumption | exact i32_0 | (unfold i32 at *; omega)) (by rfl) ?_
      refine w_aload rfl rfl ?_
      refine w_callQ (Or.inr rfl) ((k1)) (by omega) nof_242 rfl rfl rfl rfl (by first | rfl | (show cKB[_]? = _; assumption)) (fun r54 M54 hq54 => ?_)
      obtain ⟨rfl, w1⟩ := hq54
      exact w_ireturn rfl (hgo _ w1)
  by_cases c2 : w = 2
  · subst c2
    have t0 := m_terms (a := 0) (by decide) hcf hf
    have tB := m_terms (a := 1) (by decide) hcg hg
    have p0 := m_allPlaces (a := 0) (by decide) hcf hf
    have p1 := m_allPlaces (a := 1) (by decide) hcg hg
    have hgo := fun r N2 z1 z2 z3 => hfin r N2 z1 z2 ((z3 : r = mixed (placesF s.2.1) (placesF s.2.2.1)).trans rfl)
    by_cases z0 : cntF s.2.1 = 0
    · have hgo := hgo 0 N n1 (mFr_rfl N) (by rw [show placesF s.2.1 = 0 from ct0_mk 21 z0, mixed_0l])
      rw [z0] at t0
      have t0 : E 2 169 [vR 155, vI 0] N (some (vI 0)) N := t0
      refine w_iload rfl rfl ?_
      skip
      · skip
        refine w_tsw (tgt := 58) rfl (by first | assumption | exact i32_0 | (unfold i32 at *; omega)) (by rfl) ?_
        refine w_aload rfl rfl (w_iconst rfl ?_)
        refine w_call (Or.inr rfl) ((t0)) (by omega) nof_169 rfl rfl rfl rfl (by first | rfl | (show cKB[_]? = _; assumption)) rfl ?_
        refine w_if_eq (tgt := 74) rfl (by first | assumption | exact i32_0 | (unfold i32 at *; omega)) rfl (fun _ => ?_) (fun c => absurd c (by decide))
        refine w_iconst rfl (w_goto (tgt := 92) rfl rfl ?_)
        exact w_ireturn rfl hgo
    · have b0 : 0 < cntF s.2.1 := by omega
      have tA := t0
      have hq0 := cntF_le s.2.1
      by_cases z1 : cntF s.2.2.1 = 0
      · have hgo := hgo 0 N n1 (mFr_rfl N) (by rw [show placesF s.2.2.1 = 0 from ct0_mk 21 z1, mixed_0r])
        rw [z1] at tB
        have tZ : E 2 169 [vR 155, vI 1] N (some (vI 0)) N := tB
        refine w_iload rfl rfl ?_
        skip
        · skip
          refine w_tsw (tgt := 58) rfl (by first | assumption | exact i32_0 | (unfold i32 at *; omega)) (by rfl) ?_
          refine w_aload rfl rfl (w_iconst rfl ?_)
          refine w_call (Or.inr rfl) ((tA)) (by omega) nof_169 rfl rfl rfl rfl (by first | rfl | (show cKB[_]? = _; assumption)) rfl ?_
          refine w_if_eq (tgt := 74) rfl (by first | assumption | exact i32_0 | (unfold i32 at *; omega)) rfl (fun c63 => ?_) (fun c63 => ?_)
          · exfalso; omega
          · skip
            refine w_aload rfl rfl (w_iconst rfl ?_)
            refine w_call (Or.inr rfl) ((tZ)) (by omega) nof_169 rfl rfl rfl rfl (by first | rfl | (show cKB[_]? = _; assumption)) rfl ?_
            refine w_if_ne (tgt := 78) rfl (by first | assumption | exact i32_0 | (unfold i32 at *; omega)) rfl (fun c => absurd c (by decide)) (fun _ => ?_)
            refine w_iconst rfl (w_goto (tgt := 92) rfl rfl ?_)
            exact w_ireturn rfl hgo
      · have b1 : 0 < cntF s.2.2.1 := by omega
        have hq1 := cntF_le s.2.2.1
        have hmx := m_mixed (M := N) (placesF_plS hf) (placesF_plS hg)
        rw [hX _ _ (placesF_plS hf) (placesF_plS hg) (places_pos b0) (places_pos b1)] at hmx
        have hgo := fun N2 z => hgo (mixed (placesF s.2.1) (placesF s.2.2.1)) N2 (hms N2 z).1 (hms N2 z).2 rfl
        refine w_iload rfl rfl ?_
        skip
        · skip
          refine w_tsw (tgt := 58) rfl (by first | assumption | exact i32_0 | (unfold i32 at *; omega)) (by rfl) ?_
          refine w_aload rfl rfl (w_iconst rfl ?_)
          refine w_call (Or.inr rfl) ((tA)) (by omega) nof_169 rfl rfl rfl rfl (by first | rfl | (show cKB[_]? = _; assumption)) rfl ?_
          refine w_if_eq (tgt := 74) rfl (by first | assumption | exact i32_0 | (unfold i32 at *; omega)) rfl (fun c63 => ?_) (fun c63 => ?_)
          · skip
            exfalso; omega
          · skip
            refine w_aload rfl rfl (w_iconst rfl ?_)
            refine w_call (Or.inr rfl) ((tB)) (by omega) nof_169 rfl rfl rfl rfl (by first | rfl | (show cKB[_]? = _; assumption)) rfl ?_
            refine w_if_ne (tgt := 78) rfl (by first | assumption | exact i32_0 | (unfold i32 at *; omega)) rfl (fun c71 => ?_) (fun c71 => ?_)
            · skip
              refine w_aload rfl rfl (w_aload rfl rfl (w_iconst rfl ?_))
              refine w_call (Or.inr rfl) ((p0)) (by omega) nof_243 rfl rfl rfl rfl (by first | rfl | (show cKB[_]? = _; assumption)) rfl ?_
              refine w_aload rfl rfl (w_iconst rfl ?_)
              refine w_call (Or.inr rfl) ((p1)) (by omega) nof_243 rfl rfl rfl rfl (by first | rfl | (show cKB[_]? = _; assumption)) rfl ?_
              refine w_callQ (Or.inr rfl) ((hmx)) (by omega) nof_205 rfl rfl rfl rfl (by first | rfl | (show cKB[_]? = _; assumption)) (fun r89 M89 hq89 => ?_)
              obtain ⟨rfl, w1⟩ := hq89
              exact w_ireturn rfl (hgo _ w1)
            · skip
              exfalso; omega
  by_cases c3 : w = 3
  · subst c3
    have k3 := m_plains hL hcf hcg hf hg n3.2.2
    have hgo := fun N2 z => hfin ((meetF s.2.1 s.2.2.1).countP (simP (cornF s.2.1) (cornF s.2.2.1)) : Nat) N2 (hms N2 (MmF_of z)).1 (hms N2 (MmF_of z)).2 rfl
    refine w_iload rfl rfl ?_
    skip
    · skip
      refine w_tsw (tgt := 93) rfl (by first | assumption | exact i32_0 | (unfold i32 at *; omega)) (by rfl) ?_
      refine w_aload rfl rfl ?_
      refine w_callQ (Or.inr rfl) ((k3)) (by omega) nof_244 rfl rfl rfl rfl (by first | rfl | (show cKB[_]? = _; assumption)) (fun r94 M94 hq94 => ?_)
      obtain ⟨rfl, w1⟩ := hq94
      exact w_ireturn rfl (hgo _ w1)
  by_cases c4 : w = 4
  · subst c4
    obtain ⟨⟨vc0, vc1⟩, ⟨ve0, ve1⟩, -⟩ := n3
    have hl0 := vc0.2.1
    have hl1 := vc1.2.1
    have ok0 := rowsF_ok hf hl0 (hG _ hf)
    have ok1 := rowsF_ok hg hl1 (hG _ hg)
    have st0 := rowsF_st (f := s.2.1)
    have st1 := rowsF_st (f := s.2.2.1)
    have lq0 := rowsF_lenQ hf hl0 (hG _ hf)
    have lq1 := rowsF_lenQ hg hl1 (hG _ hg)
    have hlk := m_areAlike (C := cornF s.2.1) (K := cornF s.2.2.1) (R := rowsF s.2.1) (S := rowsF s.2.2.1) (M := N) ve0.1 ve1.1 ve0.2.1 ve1.2.1 (by
      intro i hi k hk
      have q30 := ve0.2.1
      have q31 := ve1.2.1
      have ra := mv_at ve0 ok0 hi
      have rb := mv_at ve1 ok1 hk
      rw [show 40 * 0 + i = i by omega] at ra
      rw [show 40 * 1 + k = 40 + k by omega] at rb
      obtain ⟨p, q, h1, h2, h3, h4, h5, h6, h7⟩ := rowsF_wt hf hl0 _ (List.getElem_mem hi)
      obtain ⟨r, t, g1, g2, g3, g4, g5, g6, g7⟩ := rowsF_wt hg hl1 _ (List.getElem_mem hk)
      have ea := (ok0 _ (List.getElem_mem hi)).2.2
      have eb := (ok1 _ (List.getElem_mem hk)).2.2
      have pq0 : edPQ s.2.1 (rowsF s.2.1)[i] p q := rowsF_pq hf hl0 hi h5 h6
      have pq1 : edPQ s.2.2.1 (rowsF s.2.2.1)[k] r t := rowsF_pq hg hl1 hk g5 g6
      exact m_areSame hcf hcg vc0 vc1 (by omega) (by omega) (by omega) (by omega) (by omega) (by omega) h3 h4 g3 g4 (ra.1.1.trans h5) (ra.1.2.trans h6) ra.2.1.1 ra.2.1.2 ra.2.2.1.1 ra.2.2.1.2 (rb.1.1.trans g5) (rb.1.2.trans g6) rb.2.1.1 rb.2.1.2 rb.2.2.1.1 rb.2.2.1.2 pq0 pq1 (st0 _ (List.getElem_mem hi)) (by by_cases z : (rowsF s.2.1)[i] 5 = -1000000; exact Or.inl z; exact Or.inr (ea z).2.1) (st1 _ (List.getElem_mem hk)) (by by_cases z : (rowsF s.2.2.1)[k] 5 = -1000000; exact Or.inl z; exact Or.inr (eb z).2.1) ⟨⟨(ra.2.2.2.2.2.2.2.1).1, (ra.2.2.2.2.2.2.2.1).2.1⟩, (ra.2.2.2.2.2.2.2.1).2.2⟩ ⟨⟨(rb.2.2.2.2.2.2.2.1).1, (rb.2.2.2.2.2.2.2.1).2.1⟩, (rb.2.2.2.2.2.2.2.1).2.2⟩ (ends_none (lq0 _ (List.getElem_mem hi))) (ends_none (lq1 _ (List.getElem_mem hk))) hf hg)
    have hgo := fun r z3 => hfin r N n1 (mFr_rfl N) ((z3 : r = if likeR (cornF s.2.1) (rowsF s.2.1) (cornF s.2.2.1) (rowsF s.2.2.1) = true then 1 else 0).trans rfl)
    clear ok0 ok1 st0 st1 lq0 lq1 vc0 vc1 ve0 ve1
    cases e : likeR (cornF s.2.1) (rowsF s.2.1) (cornF s.2.2.1) (rowsF s.2.2.1) with
    | true =>
      rw [e, if_pos rfl] at hlk hgo
      have hgo := hgo 1 rfl
      refine w_iload rfl rfl ?_
      skip
      · skip
        refine w_tsw (tgt := 98) rfl (by first | assumption | exact i32_0 | (unfold i32 at *; omega)) (by rfl) ?_
        refine w_aload rfl rfl ?_
        refine w_call (Or.inr rfl) ((hlk)) (by omega) nof_245 rfl rfl rfl rfl (by first | rfl | (show cKB[_]? = _; assumption)) rfl ?_
        refine w_if_eq (tgt := 109) rfl (by first | assumption | exact i32_0 | (unfold i32 at *; omega)) rfl (fun c => absurd c (by decide)) (fun _ => ?_)
        refine w_iconst rfl (w_goto (tgt := 110) rfl rfl ?_)
        exact w_ireturn rfl hgo
    | false =>
      rw [e, if_neg (by decide)] at hlk hgo
      have hgo := hgo 0 rfl
      refine w_iload rfl rfl ?_
      skip
      · skip
        refine w_tsw (tgt := 98) rfl (by first | assumption | exact i32_0 | (unfold i32 at *; omega)) (by rfl) ?_
        refine w_aload rfl rfl ?_
        refine w_call (Or.inr rfl) ((hlk)) (by omega) nof_245 rfl rfl rfl rfl (by first | rfl | (show cKB[_]? = _; assumption)) rfl ?_
        refine w_if_eq (tgt := 109) rfl (by first | assumption | exact i32_0 | (unfold i32 at *; omega)) rfl (fun _ => ?_) (fun c => absurd c (by decide))
        refine w_iconst rfl ?_
        exact w_ireturn rfl hgo
  by_cases c5 : w = 5
  · subst c5
    have hgo := hfin (s.2.2.2.1.length : Int) N n1 (mFr_rfl N) rfl
    refine w_iload rfl rfl ?_
    skip
    · skip
      refine w_tsw (tgt := 111) rfl (by first | assumption | exact i32_0 | (unfold i32 at *; omega)) (by rfl) ?_
      refine w_aload rfl rfl (w_getIV rfl (by first | rfl | assumption) (by first | exact Or.inl rfl | exact Or.inr rfl) (x1) ?_)
      exact w_ireturn rfl hgo
  by_cases c6 : w = 6
  · subst c6
    have hgo := hfin (s.1.length : Int) N n1 (mFr_rfl N) rfl
    refine w_iload rfl rfl ?_
    skip
    · skip
      refine w_tsw (tgt := 116) rfl (by first | assumption | exact i32_0 | (unfold i32 at *; omega)) (by rfl) ?_
      refine w_aload rfl rfl (w_getIV rfl (by first | rfl | assumption) (by first | exact Or.inl rfl | exact Or.inr rfl) (x4) ?_)
      exact w_ireturn rfl hgo
  have hr : dTally w s = -1000002 := by unfold dTally; rw [if_neg (by unfold rngB; rw [decide_eq_true_eq]; omega)]
  have hgo := hfin (-1000002) N n1 (mFr_rfl N) hr.symm
  refine w_iload rfl rfl ?_
  skip
  · skip
    refine w_tsw (tgt := 121) rfl (by first | assumption | exact i32_0 | (unfold i32 at *; omega)) (by rw [show decide (w < 0 ∨ 6 < w) = true from decide_eq_true (by omega)]; rfl) ?_
    refine w_iconst rfl ?_
    exact w_ireturn rfl hgo
