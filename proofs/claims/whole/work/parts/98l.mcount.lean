/-! ===== the model's count ===== -/
theorem mo_count {s : Sta} {M : mM} {a w : Int} (hG : GEO) (hE : GEOE) (hM : GEOM) (hR : ARQ) (hBr : BRQ) (c : MI s M) (ha : i32 a) (hw : i32 w) : EQ 12 233 [vR 155, vI a, vI w] M (MoQ M (dCount a w s) s) := by
  refine q_in (ls := [vR 155, vI a, vI w]) mq_233 (ml_233 rfl) rfl fun D hD => ?_
  unfold dCount
  by_cases q : isCu a = true
  · rw [if_pos q]
    have q := isCu_iff.mp q
    obtain ⟨A, rfl⟩ : ∃ z : Nat, a = (z : Int) := ⟨a.toNat, by omega⟩
    have hA : A < 2 := by omega
    have hkn := m_knows hE hM c
    have hf : Cok 999 (selF A s.2.1 s.2.2.1) := Cok_sel (a := A) c.2.1.2.1 c.2.1.2.2
    have hsel := fun N (z : MV s.2.1 s.2.2.1 N) => MV_sel hA z
    have hcur := fun N (z : MI s N) => mcur_sel hA z.2.1.1
    generalize hh : selF A s.2.1 s.2.2.1 = h at *
    generalize hPost : MoQ M (if rngB w 12 = true then cntW h w.toNat else -1000002) s = Post
    have pre : (∀ N, MI s N → mFr M N → mvC A h N → mvE A h N → Wp mc_233 D 14 [vR 155, vI A, vI w] [] N Post) → Wp mc_233 D 0 [vR 155, vI A, vI w] [] M Post := by
      intro hgo
      have hgo2 : ∀ N, MI s N → mFr M N → MV s.2.1 s.2.2.1 N → Wp mc_233 D 14 [vR 155, vI A, vI w] [] N Post := fun N z1 z2 z3 => hgo N z1 z2 (hsel N z3).1 (hsel N z3).2
      clear hgo hPost
      refine w_iload rfl rfl ?_
      refine w_call (Or.inl rfl) (m_isCurve1 M q) (by omega) nof_165 rfl rfl rfl rfl trivial rfl ?_
      refine w_if_ne (tgt := 10) rfl (by first | assumption | exact i32_0 | (unfold i32 at *; omega)) rfl (fun _ => ?_) (fun c => absurd c (by decide))
      refine w_aload rfl rfl ?_
      refine w_callQ (Or.inr rfl) (hkn) (by omega) nof_187 rfl rfl rfl rfl (by first | rfl | (show cKB[_]? = _; assumption)) (fun r11 M11 hq11 => ?_)
      obtain ⟨rfl, w1, w2, w3, w4⟩ := hq11
      exact hgo2 _ w1 w2 w3
    refine pre fun N n1 n2 n3 n4 => ?_
    have hc := hcur N n1
    clear pre hkn hsel hcur
    have hl16 := n3.2.1
    have hok := rowsF_ok hf hl16 (hG h hf)
    have hLQ := rowsF_lenQ hf hl16 (hG h hf)
    have x165 : N 165 ((A : Int)).toNat = ((cornF h).length : Int) := n3.1
    have x172 : N 172 ((A : Int)).toNat = ((rowsF h).length : Int) := n4.1
    have k0 := m_terms hA hc hf
    have k1 := m_seen hA hc hf n4 hok
    have k4 := m_ending (w := 2) hA n4 hok hLQ (by decide)
    have k5 := m_ending (w := 1) hA n4 hok hLQ (by decide)
    have k6 := m_holes hA hc hf n4 hok
    have k7 := m_bridges hA n4 hok hl16 (hBr h hf)
    have k8 := m_areas hA hf hR n3
    have k10 := m_heaviest hA hf hl16 n4 hok
    have k11 := m_highest hA hc hf
    have hal := areaC_le (cornF h) (cornF h).length (Nat.le_refl _)
    have hfin : ∀ r N2, MI s N2 → mFr N N2 → r = (if rngB w 12 = true then cntW h w.toNat else -1000002) → Post (some (vI r)) N2 := by
      intro r N2 z1 z2 z3
      rw [← hPost, z3]
      exact ⟨rfl, z1, mFr_tr n2 z2⟩
    have hms : ∀ N2, MlF N N2 → (MI s N2 ∧ mFr N N2) ∧ N2 165 ((A : Int)).toNat = N 165 ((A : Int)).toNat := fun N2 z => ⟨⟨MI_fr n1 (fun j hj => z.2 j (by omega)) (fun b hb => z.1 b (by omega) (by omega) (by omega)), fun b hb => z.1 b (by omega) (by omega) (by omega)⟩, by rw [z.1 165 (by decide) (by decide) (by decide)]⟩
    have hmb : ∀ N2, BrF N N2 → MI s N2 ∧ mFr N N2 := fun N2 z => ⟨MI_fr n1 (fun j hj => by rw [z 155 (by decide)]) (fun b hb => z b (by omega)), fun b hb => z b (by omega)⟩
    clear hPost hok hLQ n3 n4 hc
    by_cases c0 : w = 0
    · subst c0
      have hgo := hfin N n1 (mFr_rfl N) (r := (cntF h : Int)) rfl
      refine w_iload rfl rfl ?_
      skip
      · skip
        refine w_tsw (tgt := 76) rfl (by first | assumption | exact i32_0 | (unfold i32 at *; omega)) (by rfl) ?_
        refine w_aload rfl rfl (w_iload rfl rfl ?_)
        refine w_call (Or.inr rfl) ((k0)) (by omega) nof_169 rfl rfl rfl rfl (by first | rfl | (show cKB[_]? = _; assumption)) rfl ?_
        exact w_ireturn rfl hgo
    by_cases c1 : w = 1
    · subst c1
      have hgo := hfin N n1 (mFr_rfl N) (r := (fb_ct (fun k => hasF h k && !decide (kindR h (rowsF h) k = 0)) 21 : Nat)) rfl
      refine w_iload rfl rfl ?_
      skip
      · skip
        refine w_tsw (tgt := 82) rfl (by first | assumption | exact i32_0 | (unfold i32 at *; omega)) (by rfl) ?_
        refine w_aload rfl rfl (w_iload rfl rfl ?_)
        refine w_call (Or.inr rfl) ((k1)) (by omega) nof_234 rfl rfl rfl rfl (by first | rfl | (show cKB[_]? = _; assumption)) rfl ?_
        exact w_ireturn rfl hgo
    by_cases c2 : w = 2
    · subst c2
      have hgo := hfin N n1 (mFr_rfl N) (r := ((cornF h).length : Int)) rfl
      refine w_iload rfl rfl ?_
      skip
      · skip
        refine w_tsw (tgt := 88) rfl (by first | assumption | exact i32_0 | (unfold i32 at *; omega)) (by rfl) ?_
        refine w_aload rfl rfl (w_getR rfl (by first | rfl | assumption) rfl (by first | rfl | assumption) (w_iload rfl rfl (w_ialoadV rfl (by first | rfl | assumption) (by omega) (by omega) (x165) ?_)))
        exact w_ireturn rfl hgo
    by_cases c3 : w = 3
    · subst c3
      have hgo := hfin N n1 (mFr_rfl N) (r := ((rowsF h).length : Int)) rfl
      refine w_iload rfl rfl ?_
      skip
      · skip
        refine w_tsw (tgt := 95) rfl (by first | assumption | exact i32_0 | (unfold i32 at *; omega)) (by rfl) ?_
        refine w_aload rfl rfl (w_getR rfl (by first | rfl | assumption) rfl (by first | rfl | assumption) (w_iload rfl rfl (w_ialoadV rfl (by first | rfl | assumption) (by omega) (by omega) (x172) ?_)))
        exact w_ireturn rfl hgo
    by_cases c4 : w = 4
    · subst c4
      have hgo := hfin N n1 (mFr_rfl N) (r := ((rowsF h).countP (fun e => decide (endsR e = (2 : Nat))) : Nat)) rfl
      refine w_iload rfl rfl ?_
      skip
      · skip
        refine w_tsw (tgt := 102) rfl (by first | assumption | exact i32_0 | (unfold i32 at *; omega)) (by rfl) ?_
        refine w_aload rfl rfl (w_iload rfl rfl (w_iconst rfl ?_))
        refine w_call (Or.inr rfl) ((k4)) (by omega) nof_235 rfl rfl rfl rfl (by first | rfl | (show cKB[_]? = _; assumption)) rfl ?_
        exact w_ireturn rfl hgo
    by_cases c5 : w = 5
    · subst c5
      have hgo := hfin N n1 (mFr_rfl N) (r := ((rowsF h).countP (fun e => decide (endsR e = (1 : Nat))) : Nat)) rfl
      refine w_iload rfl rfl ?_
      skip
      · skip
        refine w_tsw (tgt := 109) rfl (by first | assumption | exact i32_0 | (unfold i32 at *; omega)) (by rfl) ?_
        refine w_aload rfl rfl (w_iload rfl rfl (w_iconst rfl ?_))
        refine w_call (Or.inr rfl) ((k5)) (by omega) nof_235 rfl rfl rfl rfl (by first | rfl | (show cKB[_]? = _; assumption)) rfl ?_
        exact w_ireturn rfl hgo
    by_cases c6 : w = 6
    · subst c6
      have hgo := hfin N n1 (mFr_rfl N) (r := (fb_ct (fun k => hasF h k && decide (kindR h (rowsF h) k = 1)) 21 : Nat)) rfl
      refine w_iload rfl rfl ?_
      skip
      · skip
        refine w_tsw (tgt := 116) rfl (by first | assumption | exact i32_0 | (unfold i32 at *; omega)) (by rfl) ?_
        refine w_aload rfl rfl (w_iload rfl rfl ?_)
        refine w_call (Or.inr rfl) ((k6)) (by omega) nof_236 rfl rfl rfl rfl (by first | rfl | (show cKB[_]? = _; assumption)) rfl ?_
        exact w_ireturn rfl hgo
    by_cases c7 : w = 7
    · subst c7
      have hgo := fun N2 z => hfin N2 (hmb N2 z).1 (hmb N2 z).2 (r := ((rowsF h).countP (fun e => decide (e 10 = 1)) : Nat)) rfl
      refine w_iload rfl rfl ?_
      skip
      · skip
        refine w_tsw (tgt := 122) rfl (by first | assumption | exact i32_0 | (unfold i32 at *; omega)) (by rfl) ?_
        refine w_aload rfl rfl (w_iload rfl rfl ?_)
        refine w_callQ (Or.inr rfl) ((k7)) (by omega) nof_237 rfl rfl rfl rfl (by first | rfl | (show cKB[_]? = _; assumption)) (fun r124 M124 hq124 => ?_)
        obtain ⟨rfl, w1⟩ := hq124
        exact w_ireturn rfl (hgo _ w1)
    by_cases c8 : w = 8
    · subst c8
      have hgo := fun N2 z => hfin N2 (hms N2 z).1.1 (hms N2 z).1.2 (r := areaC (cornF h) (cornF h).length) rfl
      refine w_iload rfl rfl ?_
      skip
      · skip
        refine w_tsw (tgt := 128) rfl (by first | assumption | exact i32_0 | (unfold i32 at *; omega)) (by rfl) ?_
        refine w_aload rfl rfl (w_iload rfl rfl ?_)
        refine w_callQ (Or.inr rfl) ((k8)) (by omega) nof_238 rfl rfl rfl rfl (by first | rfl | (show cKB[_]? = _; assumption)) (fun r130 M130 hq130 => ?_)
        obtain ⟨rfl, w1⟩ := hq130
        exact w_ireturn rfl (hgo _ w1)
    by_cases c9 : w = 9
    · subst c9
      have hg := fun r N2 z1 z2 z3 => hfin r N2 z1 z2 ((z3 : r = if 0 < (cornF h).length ∧ areaC (cornF h) (cornF h).length = (cornF h).length then 1 else 0).trans rfl)
      clear hfin k0 k1 k4 k5 k6 k7 k10 k11 hmb x172
      generalize areaC (cornF h) (cornF h).length = ar at *
      generalize (cornF h).length = m at *
      by_cases z0 : 0 < m
      · by_cases z1 : ar = (m : Int)
        · have hgo := fun N2 z => hg 1 N2 (hms N2 z).1.1 (hms N2 z).1.2 (by rw [if_pos ⟨z0, z1⟩])
          refine w_iload rfl rfl ?_
          skip
          · skip
            refine w_tsw (tgt := 134) rfl (by first | assumption | exact i32_0 | (unfold i32 at *; omega)) (by rfl) ?_
            refine w_aload rfl rfl (w_getR rfl (by first | rfl | assumption) rfl (by first | rfl | assumption) (w_iload rfl rfl (w_ialoadV rfl (by first | rfl | assumption) (by omega) (by omega) (x165) ?_)))
            refine w_if_le (tgt := 161) rfl (by first | assumption | exact i32_0 | (unfold i32 at *; omega)) rfl (fun c140 => ?_) (fun c140 => ?_)
            · exfalso; omega
            · skip
              refine w_aload rfl rfl (w_iload rfl rfl ?_)
              refine w_callQ (Or.inr rfl) ((k8)) (by omega) nof_238 rfl rfl rfl rfl (by first | rfl | (show cKB[_]? = _; assumption)) (fun r145 M145 hq145 => ?_)
              obtain ⟨rfl, w1⟩ := hq145
              have y165 := (hms _ w1).2.trans x165
              refine w_aload rfl rfl (w_getR rfl (by first | rfl | assumption) rfl (by first | rfl | assumption) (w_iload rfl rfl (w_ialoadV rfl (by first | rfl | assumption) (by omega) (by omega) (y165) ?_)))
              refine w_icmp_ne (tgt := 161) rfl (by first | assumption | exact i32_0 | (unfold i32 at *; omega)) (by first | assumption | exact i32_0 | (unfold i32 at *; omega)) rfl (fun c154 => ?_) (fun c154 => ?_)
              · skip
                exfalso; omega
              · skip
                refine w_iconst rfl (w_goto (tgt := 162) rfl rfl ?_)
                exact w_ireturn rfl (hgo _ w1)
        · have hgo := fun N2 z => hg 0 N2 (hms N2 z).1.1 (hms N2 z).1.2 (by rw [if_neg (fun z => z1 z.2)])
          refine w_iload rfl rfl ?_
          skip
          · skip
            refine w_tsw (tgt := 134) rfl (by first | assumption | exact i32_0 | (unfold i32 at *; omega)) (by rfl) ?_
            refine w_aload rfl rfl (w_getR rfl (by first | rfl | assumption) rfl (by first | rfl | assumption) (w_iload rfl rfl (w_ialoadV rfl (by first | rfl | assumption) (by omega) (by omega) (x165) ?_)))
            refine w_if_le (tgt := 161) rfl (by first | assumption | exact i32_0 | (unfold i32 at *; omega)) rfl (fun c140 => ?_) (fun c140 => ?_)
            · exfalso; omega
            · skip
              refine w_aload rfl rfl (w_iload rfl rfl ?_)
              refine w_callQ (Or.inr rfl) ((k8)) (by omega) nof_238 rfl rfl rfl rfl (by first | rfl | (show cKB[_]? = _; assumption)) (fun r145 M145 hq145 => ?_)
              obtain ⟨rfl, w1⟩ := hq145
              have y165 := (hms _ w1).2.trans x165
              refine w_aload rfl rfl (w_getR rfl (by first | rfl | assumption) rfl (by first | rfl | assumption) (w_iload rfl rfl (w_ialoadV rfl (by first | rfl | assumption) (by omega) (by omega) (y165) ?_)))
              refine w_icmp_ne (tgt := 161) rfl (by first | assumption | exact i32_0 | (unfold i32 at *; omega)) (by first | assumption | exact i32_0 | (unfold i32 at *; omega)) rfl (fun c154 => ?_) (fun c154 => ?_)
              · skip
                refine w_iconst rfl ?_
                exact w_ireturn rfl (hgo _ w1)
              · skip
                exfalso; omega
      · have hgo := hg 0 N n1 (mFr_rfl N) (by rw [if_neg (fun z => z0 z.1)])
        refine w_iload rfl rfl ?_
        skip
        · skip
          refine w_tsw (tgt := 134) rfl (by first | assumption | exact i32_0 | (unfold i32 at *; omega)) (by rfl) ?_
          refine w_aload rfl rfl (w_getR rfl (by first | rfl | assumption) rfl (by first | rfl | assumption) (w_iload rfl rfl (w_ialoadV rfl (by first | rfl | assumption) (by omega) (by omega) (x165) ?_)))
          refine w_if_le (tgt := 161) rfl (by first | assumption | exact i32_0 | (unfold i32 at *; omega)) rfl (fun c140 => ?_) (fun c140 => ?_)
          · skip
            refine w_iconst rfl ?_
            exact w_ireturn rfl hgo
          · skip
            exfalso; omega
    by_cases c10 : w = 10
    · subst c10
      have hgo := hfin N n1 (mFr_rfl N) (r := maxW (rowsF h) (rowsF h).length) rfl
      refine w_iload rfl rfl ?_
      skip
      · skip
        refine w_tsw (tgt := 163) rfl (by first | assumption | exact i32_0 | (unfold i32 at *; omega)) (by rfl) ?_
        refine w_aload rfl rfl (w_iload rfl rfl ?_)
        refine w_call (Or.inr rfl) ((k10)) (by omega) nof_239 rfl rfl rfl rfl (by first | rfl | (show cKB[_]? = _; assumption)) rfl ?_
        exact w_ireturn rfl hgo
    by_cases c11 : w = 11
    · subst c11
      have hgo := hfin N n1 (mFr_rfl N) (r := degF h 21) rfl
      refine w_iload rfl rfl ?_
      skip
      · skip
        refine w_tsw (tgt := 169) rfl (by first | assumption | exact i32_0 | (unfold i32 at *; omega)) (by rfl) ?_
        refine w_aload rfl rfl (w_iload rfl rfl ?_)
        refine w_call (Or.inr rfl) ((k11)) (by omega) nof_240 rfl rfl rfl rfl (by first | rfl | (show cKB[_]? = _; assumption)) rfl ?_
        exact w_ireturn rfl hgo
    have hr : rngB w 12 = false := decide_eq_false (by omega)
    have hgo := hfin (-1000002) N n1 (mFr_rfl N) (by rw [hr]; rfl)
    refine w_iload rfl rfl ?_
    skip
    · skip
      refine w_tsw (tgt := 175) rfl (by first | assumption | exact i32_0 | (unfold i32 at *; omega)) (by rw [show decide (w < 0 ∨ 11 < w) = true from decide_eq_true (by omega)]; rfl) ?_
      refine w_iconst rfl ?_
      exact w_ireturn rfl hgo
  · rw [if_neg q]
    have q : ¬ (a = 0 ∨ a = 1) := fun z => q (isCu_iff.mpr z)
    refine w_iload rfl rfl ?_
    refine w_call (Or.inl rfl) (m_isCurve0 M ha q) (by omega) nof_165 rfl rfl rfl rfl trivial rfl ?_
    refine w_if_ne (tgt := 10) rfl (by first | assumption | exact i32_0 | (unfold i32 at *; omega)) rfl (fun c => absurd c (by decide)) (fun _ => ?_)
    refine w_iconst rfl ?_
    exact w_ireturn rfl ⟨by first | rfl | (congr 2; omega), by exact MI_same c⟩
