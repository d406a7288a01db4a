/-! ===== the text read by the model; fault and curves ===== -/
def RsQ (b : List Int) (d : Int) (F G : Cv) (M : mM) : mP := fun q N => TmF M (upI N 155 8 (M 155 8)) ∧ mTx b N ∧
  ((q = some (vI 0) ∧ (d = 0 → N 156 = M 156) ∧ ∃ p : Int, N 155 5 = p ∧ ∀ f g, rn b (skp b) (rd0 fun _ => 0) f g = Sum.inl p) ∨
   (q = some (vI 1) ∧ ∃ (s : Nat → Int) (T : Cv → Cv → Cv × Cv), N 155 7 = s 5 ∧ (∀ f g, Cok 999 f → Cok 999 g → Cok 999 (T f g).1 ∧ Cok 999 (T f g).2) ∧ RdI s ∧ rowsQ d (folL s (T F G).1 (T F G).2).1 (folL s (T F G).1 (T F G).2).2 M N ∧ ∀ f g, rn b (skp b) (rd0 fun _ => 0) f g = Sum.inr (sR (rdNew s) 1 2, folL s (T f g).1 (T f g).2)))
theorem m_reads {b : List Int} {M : mM} {d : Int} {F G : Cv} (h : mTx b M) (hd : d = 0 ∨ d = 1) (hR : d = 1 → mrow 0 F G M ∧ Cok 999 F ∧ Cok 999 G) : EQ 8 153 [vR 155, vI d] M (RsQ b d F G M) := by
  refine q_in (ls := [vR 155, vI d, vN]) mq_153 (ml_153 rfl) rfl fun D hD => ?_
  have hT0 : mTx b (upI (upI (upI M 155 8 d) 155 6 0) 155 7 1) := mTx_fr h (by simp [upI]) (fun k => by simp [upI])
  have g6 : upI (upI (upI M 155 8 d) 155 6 0) 155 7 1 155 6 = ((0 : Nat) : Int) := by simp [upI]
  have g7 : upI (upI (upI M 155 8 d) 155 6 0) 155 7 1 155 7 = 1 := upI_same _ _ _ _
  have g8 : upI (upI (upI M 155 8 d) 155 6 0) 155 7 1 155 8 = d := by simp [upI]
  have gT : ∀ N : mM, TmF (upI (upI (upI M 155 8 d) 155 6 0) 155 7 1) N → TmF M (upI N 155 8 (M 155 8)) ∧ mTx b N ∧ N 155 8 = d := fun N hN => ⟨⟨fun a a1 a2 => by rw [upI_ne _ _ _ _ a1, hN.1 a a1 a2, upI_ne _ _ _ _ a1, upI_ne _ _ _ _ a1, upI_ne _ _ _ _ a1], fun k hk => by
    by_cases z : k = 8
    · subst z; exact upI_same _ _ _ _
    · rw [show upI N 155 8 (M 155 8) 155 k = N 155 k from if_neg (by omega), hN.2 k hk]
      exact (if_neg (by omega)).trans ((if_neg (by omega)).trans (if_neg (by omega)))⟩, mTx_fr hT0 (hN.2 4 (by omega)) (fun k => by rw [hN.1 158 (by decide) (by decide)]), (hN.2 8 (by omega)).trans g8⟩
  have g156 : (upI (upI (upI M 155 8 d) 155 6 0) 155 7 1) 156 = M 156 := by rw [upI_ne _ _ _ _ (by decide), upI_ne _ _ _ _ (by decide), upI_ne _ _ _ _ (by decide)]
  generalize hM0 : upI (upI (upI M 155 8 d) 155 6 0) 155 7 1 = M0 at *
  have hnx := m_nextToken hT0 g6 (Nat.zero_le _)
  rw [List.drop_zero] at hnx
  -- clause by clause
  have loop : ∀ (c : Nat) (m : List Int) (s : Nat → Int) (T : Cv → Cv → Cv × Cv) (O : mM), m.length ≤ c → PosM b m O → TmF M0 O → O 155 7 = s 5 + 1 → RdI s → s 1 = 0 → freshR s → (∀ f g, Cok 999 f → Cok 999 g → Cok 999 (T f g).1 ∧ Cok 999 (T f g).2) → rowsQ d (T F G).1 (T F G).2 M O → (∀ f g, rn b (skp b) (rd0 fun _ => 0) f g = rn b m s (T f g).1 (T f g).2) → ∃ hE : EQ 7 156 [vR 155] O (ClQ b m s d (T F G).1 (T F G).2 O), ∀ (q : Option mV) (P : mM), ClQ b m s d (T F G).1 (T F G).2 O q P → ∃ w : Int, q = some (vI w) ∧ Wp mc_153 D 24 [vR 155, vI d, vI w] [] P (RsQ b d F G M) := by
    intro c
    induction c with
    | zero =>
      intro m s T O hmc hP hTO o7 his hs1 hfs hT hrows hrun
      have hE := m_readsClause (F := (T F G).1) (G := (T F G).2) hP his hs1 hfs o7 (gT O hTO).2.2 hd (fun z => ⟨(hrows.2 z).1, hT F G (hR z).2.1 (hR z).2.2⟩)
      refine ⟨hE, ?_⟩
      rintro q P ⟨m2, p1, p2, p7, p3, (⟨rfl, p4, p5⟩ | ⟨rfl, s2, T2, p4, p5, p6, p8, p9, p10, p11, p12⟩)⟩
      · refine ⟨0, rfl, ?_⟩
        have hfin : RsQ b d F G M (some (vI 0)) P := ⟨(gT P (TmF_tr hTO p2)).1, p1.1, Or.inl ⟨rfl, fun z => (p4 z).trans (hrows.1 z), _, p1.2.2.1, fun f g => by rw [hrun f g, p5]⟩⟩
        refine w_iload rfl rfl ?_
        refine w_if_eq (tgt := 59) rfl (by first | assumption | exact i32_0 | (unfold i32 at *; omega)) rfl (fun _ => ?_) (fun c => absurd c (by decide))
        exact w_iload rfl rfl (w_zreturn rfl (Or.inl rfl) hfin)
      · omega
    | succ c ih =>
      intro m s T O hmc hP hTO o7 his hs1 hfs hT hrows hrun
      have hE := m_readsClause (F := (T F G).1) (G := (T F G).2) hP his hs1 hfs o7 (gT O hTO).2.2 hd (fun z => ⟨(hrows.2 z).1, hT F G (hR z).2.1 (hR z).2.2⟩)
      refine ⟨hE, ?_⟩
      rintro q P ⟨m2, p1, p2, p7, p3, (⟨rfl, p4, p5⟩ | ⟨rfl, s2, T2, p4, p5, p6, p8, p9, p10, p11, p12⟩)⟩
      · refine ⟨0, rfl, ?_⟩
        have hfin : RsQ b d F G M (some (vI 0)) P := ⟨(gT P (TmF_tr hTO p2)).1, p1.1, Or.inl ⟨rfl, fun z => (p4 z).trans (hrows.1 z), _, p1.2.2.1, fun f g => by rw [hrun f g, p5]⟩⟩
        refine w_iload rfl rfl ?_
        refine w_if_eq (tgt := 59) rfl (by first | assumption | exact i32_0 | (unfold i32 at *; omega)) rfl (fun _ => ?_) (fun c => absurd c (by decide))
        exact w_iload rfl rfl (w_zreturn rfl (Or.inl rfl) hfin)
      · refine ⟨1, rfl, ?_⟩
        have hTP := TmF_tr hTO p2
        have q7 : P 155 7 = s2 5 := by rw [p7, o7, p6]
        have hT2 : ∀ f g, Cok 999 f → Cok 999 g → Cok 999 (T2 (T f g).1 (T f g).2).1 ∧ Cok 999 (T2 (T f g).1 (T f g).2).2 := fun f g cf cg => p10 _ _ (hT f g cf cg).1 (hT f g cf cg).2
        have hrows2 : rowsQ d (folL s2 (T2 (T F G).1 (T F G).2).1 (T2 (T F G).1 (T F G).2).2).1 (folL s2 (T2 (T F G).1 (T F G).2).1 (T2 (T F G).1 (T F G).2).2).2 M P := ⟨fun z => (p11.1 z).trans (hrows.1 z), fun z => ⟨(p11.2 z).1, fun k hk => ((p11.2 z).2 k hk).trans ((hrows.2 z).2 k hk)⟩⟩
        have hrun2 : ∀ f g, rn b (skp b) (rd0 fun _ => 0) f g = rn b m2 s2 (T2 (T f g).1 (T f g).2).1 (T2 (T f g).1 (T f g).2).2 := fun f g => by rw [hrun f g, p12]
        have hsc := m_isHere p1 (c := 59) (by decide)
        have k59 := here_kind (l := m2) (c := 59) (by decide) (by decide) (by decide)
        by_cases q59 : hereB m2 59 = true
        · rw [if_pos q59] at hsc
          have hm2 := here_ne q59
          have hlen2 := nxt_len hm2
          have hk := k59.mp q59
          have s24 : s2 5 < 24 := by omega
          have hrun3 : ∀ f g, rn b (skp b) (rd0 fun _ => 0) f g = rn b (nxt m2) (sR (rdNew s2) 1 0) (folL s2 (T2 (T f g).1 (T f g).2).1 (T2 (T f g).1 (T f g).2).2).1 (folL s2 (T2 (T f g).1 (T f g).2).1 (T2 (T f g).1 (T f g).2).2).2 := fun f g => by
            rw [hrun2 f g]
            refine rn_some p1.2.1.2 hm2 (q := (sR (rdNew s2) 1 0, folL s2 (T2 (T f g).1 (T f g).2).1 (T2 (T f g).1 (T f g).2).2)) ?_
            rw [accF_5 p5]
            unfold folF
            rw [if_neg (by omega), if_pos ⟨hk, s24⟩]
          have hi3 : RdI (sR (rdNew s2) 1 0) := by unfold RdI at p4 ⊢; simp [sR, rdNew]; omega
          have hnx3 := m_next p1
          have again : ∀ O2 : mM, PosM b (nxt m2) O2 → (∀ a, a ≠ 155 → O2 a = P a) → (∀ k, k ≠ 5 → k ≠ 6 → O2 155 k = P 155 k) → Wp mc_153 D 41 [vR 155, vI d, vI 1] [] O2 (RsQ b d F G M) := by
            intro O2 v1 v2 v3
            have o27 : O2 155 7 = s2 5 := by rw [v3 7 (by decide) (by decide)]; exact q7
            have hTO2 : TmF M0 (upI O2 155 7 (s2 5 + 1)) := TmF_tr hTP ⟨fun a a1 _ => by rw [upI_ne _ _ _ _ a1]; exact v2 a a1, fun k hk => (if_neg (by omega)).trans (v3 k (by omega) (by omega))⟩
            obtain ⟨hE2, hB2⟩ := ih (nxt m2) (sR (rdNew s2) 1 0) (fun f g => folL s2 (T2 (T f g).1 (T f g).2).1 (T2 (T f g).1 (T f g).2).2) (upI O2 155 7 (s2 5 + 1)) (by omega) (PosM_fr v1 (if_neg (by omega)) (if_neg (by omega)) (if_neg (by omega)) (fun k => by rw [upI_ne _ _ _ _ (by decide)])) hTO2 (upI_same _ _ _ _) hi3 rfl (freshR_new s2 0 0) (fun f g cf cg => folL_ok p4 (hT2 f g cf cg).1 (hT2 f g cf cg).2) ⟨fun z => by rw [upI_ne _ _ _ _ (by decide), v2 156 (by decide)]; exact hrows2.1 z, fun z => ⟨mrow_fr (hrows2.2 z).1 (fun k _ _ => by rw [upI_ne _ _ _ _ (by decide), v2 156 (by decide)]), fun k hk => by rw [upI_ne _ _ _ _ (by decide), v2 156 (by decide)]; exact (hrows2.2 z).2 k hk⟩⟩ hrun3
            refine w_aload rfl rfl (w_dup rfl rfl (w_getIV rfl (by first | rfl | assumption) (by first | exact Or.inl rfl | exact Or.inr rfl) (o27) (w_iconst rfl (w_iadd rfl (w_putI rfl (by first | rfl | assumption) rfl (w_aload rfl rfl ?_))))))
            refine w_callQ (Or.inr rfl) (hE2) (by omega) nof_156 rfl rfl rfl rfl (by first | rfl | (show cKB[_]? = _; assumption)) (fun r52 M52 hq52 => ?_)
            obtain ⟨w, rfl, hgo⟩ := hB2 _ _ hq52
            refine w_istore (ls2 := [_, _, _]) rfl rfl rfl (w_goto (tgt := 24) rfl rfl ?_)
            exact hgo
          refine w_iload rfl rfl ?_
          refine w_if_eq (tgt := 59) rfl (by first | assumption | exact i32_0 | (unfold i32 at *; omega)) rfl (fun c => absurd c (by decide)) (fun _ => ?_)
          refine w_aload rfl rfl (w_iconst rfl ?_)
          refine w_call (Or.inr rfl) ((hsc)) (by omega) nof_157 rfl rfl rfl rfl (by first | rfl | (show cKB[_]? = _; assumption)) rfl ?_
          refine w_if_eq (tgt := 59) rfl (by first | assumption | exact i32_0 | (unfold i32 at *; omega)) rfl (fun c => absurd c (by decide)) (fun _ => ?_)
          refine w_aload rfl rfl ?_
          refine w_callQ (Or.inr rfl) (hnx3) (by omega) nof_154 rfl rfl rfl rfl (by first | rfl | (show cKB[_]? = _; assumption)) (fun r38 M38 hq38 => ?_)
          obtain ⟨rfl, v1, v2, v3⟩ := hq38
          exact again _ v1 v2 v3
        · rw [if_neg q59] at hsc
          have hk : tKind m2 = 257 := by
            have : tKind m2 ≠ 59 := fun z => q59 (k59.mpr z)
            omega
          have hm0 := (kind_end p1).mp hk
          have hend : ∀ f g, rn b (skp b) (rd0 fun _ => 0) f g = Sum.inr (sR (rdNew s2) 1 2, folL s2 (T2 (T f g).1 (T f g).2).1 (T2 (T f g).1 (T f g).2).2) := fun f g => by
            rw [hrun2 f g, hm0]
            refine rn_end ?_
            rw [accF_5 p5]
            unfold folF
            rw [if_neg (by decide), if_neg (fun z => absurd z.1 (by decide)), if_pos (Or.inr rfl)]
          have hfin : RsQ b d F G M (some (vI 1)) P := ⟨(gT P hTP).1, p1.1, Or.inr ⟨rfl, s2, fun f g => T2 (T f g).1 (T f g).2, q7, hT2, p4, hrows2, hend⟩⟩
          refine w_iload rfl rfl ?_
          refine w_if_eq (tgt := 59) rfl (by first | assumption | exact i32_0 | (unfold i32 at *; omega)) rfl (fun c => absurd c (by decide)) (fun _ => ?_)
          refine w_aload rfl rfl (w_iconst rfl ?_)
          refine w_call (Or.inr rfl) ((hsc)) (by omega) nof_157 rfl rfl rfl rfl (by first | rfl | (show cKB[_]? = _; assumption)) rfl ?_
          refine w_if_eq (tgt := 59) rfl (by first | assumption | exact i32_0 | (unfold i32 at *; omega)) rfl (fun _ => ?_) (fun c => absurd c (by decide))
          exact w_iload rfl rfl (w_zreturn rfl (Or.inr rfl) hfin)
  have start : ∀ O : mM, PosM b (skp b) O → (∀ a, a ≠ 155 → O a = M0 a) → (∀ k, k ≠ 5 → k ≠ 6 → O 155 k = M0 155 k) → Wp mc_153 D 19 [vR 155, vI d, vN] [] O (RsQ b d F G M) := by
    intro O v1 v2 v3
    have hTO : TmF M0 O := ⟨fun a a1 _ => v2 a a1, fun k hk => v3 k (by omega) (by omega)⟩
    have o156 : O 156 = M 156 := by rw [v2 156 (by decide)]; exact g156
    obtain ⟨hE2, hB2⟩ := loop (skp b).length (skp b) (rd0 fun _ => 0) (fun f g => (f, g)) O (Nat.le_refl _) v1 hTO (by rw [v3 7 (by decide) (by decide), g7]; rfl) (rd0_ok (Or.inl rfl)) rfl ⟨rfl, rfl, rfl, rfl, rfl, rfl, rfl⟩ (fun f g cf cg => ⟨cf, cg⟩) ⟨fun _ => o156, fun z => ⟨mrow_fr (hR z).1 (fun k _ _ => by rw [o156]), fun k _ => by rw [o156]⟩⟩ (fun f g => rfl)
    refine w_aload rfl rfl ?_
    refine w_callQ (Or.inr rfl) (hE2) (by omega) nof_156 rfl rfl rfl rfl (by first | rfl | (show cKB[_]? = _; assumption)) (fun r20 M20 hq20 => ?_)
    obtain ⟨w, rfl, hgo⟩ := hB2 _ _ hq20
    refine w_istore (ls2 := [_, _, _]) rfl rfl rfl ?_
    exact hgo
  refine w_aload rfl rfl (w_iload rfl rfl (w_putZ rfl (by first | rfl | assumption) rfl (by assumption) (w_aload rfl rfl (w_iconst rfl (w_putI rfl (by first | rfl | assumption) rfl (w_aload rfl rfl (w_iconst rfl ?_)))))))
  refine w_putI rfl (by first | rfl | assumption) rfl ?_
  rw [hM0]
  refine w_aload rfl rfl ?_
  refine w_callQ (Or.inr rfl) (hnx) (by omega) nof_154 rfl rfl rfl rfl (by first | rfl | (show cKB[_]? = _; assumption)) (fun r16 M16 hq16 => ?_)
  obtain ⟨rfl, v1, v2, v3⟩ := hq16
  exact start _ v1 v2 v3
theorem parse_rn {b : List Int} (hb : b.length ≤ 200) : ∀ f g, runF b.length 201 b (rd0 fun _ => 0) f g = rn b (skp b) (rd0 fun _ => 0) f g := fun f g => by
  rw [← runF_skp]
  have := skp_len b
  exact runF_fuel _ _ _ _ _ _ _ (by omega) (Nat.lt_succ_self _)
theorem mo_fault {s : Sta} {M : mM} (c : MI s M) : EQ 12 152 [vR 155] M (MoQ M (dFault s) s) := by
  refine q_in (ls := [vR 155]) mq_152 (ml_152 rfl) rfl fun D hD => ?_
  have hr := m_reads (d := 0) (F := s.2.1) (G := s.2.2.1) c.1 (Or.inl rfl) (fun z => absurd z (by decide))
  have hb := c.1.2.1
  have hfin : ∀ N : mM, TmF M (upI N 155 8 (M 155 8)) → mTx s.1 N → N 156 = M 156 → MI s N ∧ mFr M N := by
    intro N hT hX h156
    have e : ∀ a, a ≠ 155 → N a = M a := fun a a1 => by
      by_cases z : a = 156
      · rw [z]; exact h156
      · rw [← hT.1 a a1 z, upI_ne _ _ _ _ a1]
    have e5 : ∀ k, (k = 1 ∨ k = 4 ∨ k = 21 ∨ k = 35) → N 155 k = M 155 k := fun k hk => by
      rw [← hT.2 k (by omega)]; exact (if_neg (by omega)).symm
    exact ⟨MI_fr c e5 (fun a ha => e a (by omega)), fun a ha => e a (by omega)⟩
  have hpr := parse_rn hb
  have hcase : ∀ (q : Option mV) (N : mM), RsQ s.1 0 s.2.1 s.2.2.1 M q N → (q = some (vI 0) ∧ N 155 5 = dFault s ∧ (0 ≤ dFault s ∧ dFault s ≤ 200) ∧ MI s N ∧ mFr M N) ∨ (q = some (vI 1) ∧ dFault s = -1000000 ∧ MI s N ∧ mFr M N) := by
    rintro q N ⟨h1, h2, (⟨rfl, h3, p, h4, h5⟩ | ⟨rfl, s2, T, h3, h4, h5, h6, h7⟩)⟩
    · left
      have hp : parseS s.1 = Sum.inl p := by unfold parseS; rw [hpr, h5]
      have hd : dFault s = p := by unfold dFault; rw [hp]
      have hle := runF_le _ _ _ _ _ _ _ hp
      exact ⟨rfl, by rw [h4, hd], by rw [hd]; omega, hfin N h1 h2 (h3 rfl)⟩
    · right
      have hp : parseS s.1 = Sum.inr (sR (rdNew s2) 1 2, folL s2 (T noneC noneC).1 (T noneC noneC).2) := by unfold parseS; rw [hpr, h7]
      exact ⟨rfl, by unfold dFault; rw [hp], hfin N h1 h2 (h6.1 rfl)⟩
  have cont : ∀ (q : Option mV) (N : mM), RsQ s.1 0 s.2.1 s.2.2.1 M q N → ∃ w : Int, q = some (vI w) ∧ Wp mc_152 D 5 [vR 155] [vI w] N (MoQ M (dFault s) s) := by
    intro q N hq
    rcases hcase q N hq with ⟨rfl, h5, hb2, h6⟩ | ⟨rfl, hd, h6⟩
    · refine ⟨0, rfl, ?_⟩
      refine w_if_eq (tgt := 13) rfl (by first | assumption | exact i32_0 | (unfold i32 at *; omega)) rfl (fun _ => ?_) (fun c => absurd c (by decide))
      refine w_aload rfl rfl (w_getIV rfl (by first | rfl | assumption) (by first | exact Or.inl rfl | exact Or.inr rfl) (h5) ?_)
      exact w_ireturn rfl ⟨by first | rfl | (congr 2; omega), by exact h6⟩
    · refine ⟨1, rfl, ?_⟩
      rw [hd]
      refine w_if_eq (tgt := 13) rfl (by first | assumption | exact i32_0 | (unfold i32 at *; omega)) rfl (fun c => absurd c (by decide)) (fun _ => ?_)
      refine w_iconst rfl (w_goto (tgt := 17) rfl rfl ?_)
      exact w_ireturn rfl ⟨by first | rfl | (congr 2; omega), by exact h6⟩
  refine w_aload rfl rfl (w_iconst rfl ?_)
  refine w_callQ (Or.inr rfl) (hr) (by omega) nof_153 rfl rfl rfl rfl (by first | rfl | (show cKB[_]? = _; assumption)) (fun r2 M2 hq2 => ?_)
  obtain ⟨w, rfl, hgo⟩ := cont _ _ hq2
  exact hgo
