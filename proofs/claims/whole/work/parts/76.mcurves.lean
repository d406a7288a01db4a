/-! ===== a curve without a clause keeps its terms; the model's curves ===== -/
def namI (r : Nat → Int) : Prop := r 1 ≠ 0 → (r 6 = 0 → r 3 = 1) ∧ (r 6 ≠ 0 → r 4 = 1)
def keepQ (r : Nat → Int) (f g : Cv) (q : (Nat → Int) × Cv × Cv) : Prop := namI q.1 ∧ (q.1 3 = 0 → r 3 = 0 ∧ q.2.1 = f) ∧ (q.1 4 = 0 → r 4 = 0 ∧ q.2.2 = g)
theorem keep_same {r s : Nat → Int} {f g : Cv} (h1 : r 1 ≠ 0) (hn : namI r) (h3 : s 3 = r 3) (h4 : s 4 = r 4) (h6 : s 6 = r 6) : keepQ r f g (s, f, g) := ⟨fun _ => by show (s 6 = 0 → s 3 = 1) ∧ (s 6 ≠ 0 → s 4 = 1); rw [h3, h4, h6]; exact hn h1, fun z => ⟨by rw [← h3]; exact z, rfl⟩, fun z => ⟨by rw [← h4]; exact z, rfl⟩⟩
theorem folF_keep {kind : Int} {r : Nat → Int} {f g : Cv} {q : (Nat → Int) × Cv × Cv} (h1 : r 1 ≠ 0) (hn : namI r) (h : folF kind r f g = some q) : keepQ r f g q := by
  have hL : ∀ v : Int, keepQ r f g (sR (rdNew r) 1 v, folL r f g) := by
    intro v
    obtain ⟨n1, n2⟩ := hn h1
    refine ⟨fun _ => ⟨n1, n2⟩, fun z => ⟨z, ?_⟩, fun z => ⟨z, ?_⟩⟩
    · have z : r 3 = 0 := z
      show (if r 6 = 0 then lowC f (5 * r 7 + r 8).toNat (r 9) else f) = f
      rw [if_neg (fun y => by have := n1 y; omega)]
    · have z : r 4 = 0 := z
      show (if r 6 = 0 then g else lowC g (5 * r 7 + r 8).toNat (r 9)) = g
      by_cases y : r 6 = 0
      · rw [if_pos y]
      · have := n2 y; omega
  unfold folF at h
  split at h
  · split at h
    · cases h; exact keep_same h1 hn rfl rfl rfl
    · cases h
  · split at h
    · cases h; exact hL 0
    · split at h
      · cases h; exact hL 2
      · cases h
theorem accF_keep {kind dd nn : Int} {r : Nat → Int} {f g : Cv} {q : (Nat → Int) × Cv × Cv} (hi : RdI r) (hnn : 0 ≤ nn) (hn : namI r) (h : accF kind dd nn r f g = some q) : keepQ r f g q := by
  have h3b := hi.2.2.1.2.2.2.1
  have h4b := hi.2.2.1.2.2.2.2.1
  unfold accF at h
  split at h
  · split at h
    · next h0 hk =>
      cases h
      have v3 : rdCl nn r 3 = if r 3 = 0 ∧ nn ≠ 0 then 0 else 1 := rfl
      have v4 : rdCl nn r 4 = if r 4 = 0 ∧ nn ≠ 1 then 0 else 1 := rfl
      have v6 : rdCl nn r 6 = nn := rfl
      refine ⟨fun _ => ?_, fun z => ?_, fun z => ?_⟩
      · show (rdCl nn r 6 = 0 → rdCl nn r 3 = 1) ∧ (rdCl nn r 6 ≠ 0 → rdCl nn r 4 = 1)
        rw [v3, v4, v6]
        exact ⟨fun z => if_neg (by omega), fun z => if_neg (by omega)⟩
      · have z : rdCl nn r 3 = 0 := z
        rw [v3] at z
        have : r 3 = 0 ∧ nn ≠ 0 := by
          by_cases y : r 3 = 0 ∧ nn ≠ 0
          · exact y
          · rw [if_neg y] at z; exact absurd z (by decide)
        exact ⟨this.1, if_neg this.2⟩
      · have z : rdCl nn r 4 = 0 := z
        rw [v4] at z
        have : r 4 = 0 ∧ nn ≠ 1 := by
          by_cases y : r 4 = 0 ∧ nn ≠ 1
          · exact y
          · rw [if_neg y] at z; exact absurd z (by decide)
        exact ⟨this.1, if_pos (by omega)⟩
    · cases h
  · next h1 =>
    split at h
    · split at h
      · cases h; exact keep_same h1 hn rfl rfl rfl
      · cases h
    · split at h
      · split at h
        · cases h
          unfold rdPart
          split
          · exact keep_same h1 hn rfl rfl rfl
          · split
            · exact keep_same h1 hn rfl rfl rfl
            · cases e : rdLet kind 1 r with
              | none => exact keep_same h1 hn rfl rfl rfl
              | some s => have := (rdLet_same e).1; exact keep_same h1 hn this.1 this.2.1 this.2.2.2
        · cases h
      · split at h
        · split at h
          · cases h; exact keep_same h1 hn rfl rfl rfl
          · cases h
        · split at h
          · split at h
            · cases e : rdLet kind (r 14) r with
              | none => rw [e] at h; cases h
              | some s =>
                rw [e] at h
                cases h
                have := (rdLet_same e).1
                exact keep_same h1 hn this.1 this.2.1 this.2.2.2
            · split at h
              · exact folF_keep (r := rdNum (r 14) r) (by show (5 : Int) ≠ 0; decide) (fun _ => hn h1) h
              · cases h
          · exact folF_keep h1 hn h
theorem runF_keep (n : Nat) : ∀ (fuel : Nat) (l : List Int) (r : Nat → Int) (f g : Cv) (t : (Nat → Int) × Cv × Cv), RdI r → Cok 999 f → Cok 999 g → namI r → runF n fuel l r f g = Sum.inr t → (t.1 3 = 0 → r 3 = 0 ∧ t.2.1 = f) ∧ (t.1 4 = 0 → r 4 = 0 ∧ t.2.2 = g) ∧ RdI t.1 := by
  intro fuel
  induction fuel with
  | zero => intro l r f g t _ _ _ _ h; cases h
  | succ fuel ih =>
    intro l r f g t hi hf hg hn h
    have hnn := num3_rng _ (dgs_dig (skp l))
    have e1 : runF n (fuel + 1) l r f g = match accF (tKind (skp l)) (dgs (skp l)).length (num3 (dgs (skp l))) r f g with
      | none => Sum.inl ((n - (skp l).length : Nat) : Int)
      | some q => if skp l = [] then Sum.inr q else runF n fuel ((skp l).drop (tLen (skp l))) q.1 q.2.1 q.2.2 := rfl
    rw [e1] at h
    cases ea : accF (tKind (skp l)) (dgs (skp l)).length (num3 (dgs (skp l))) r f g with
    | none => rw [ea] at h; cases h
    | some a =>
      rw [ea] at h
      have hok := accF_ok hi hf hg hnn ea
      have hk := accF_keep hi hnn.1 hn ea
      have h : (if skp l = [] then Sum.inr a else runF n fuel ((skp l).drop (tLen (skp l))) a.1 a.2.1 a.2.2) = Sum.inr t := h
      split at h
      · cases h; exact ⟨hk.2.1, hk.2.2, hok.1⟩
      · have := ih _ _ _ _ _ hok.1 hok.2.1 hok.2.2 hk.1 h
        exact ⟨fun z => by have y := this.1 z; have x := hk.2.1 y.1; exact ⟨x.1, y.2.trans x.2⟩, fun z => by have y := this.2.1 z; have x := hk.2.2 y.1; exact ⟨x.1, y.2.trans x.2⟩, this.2.2⟩
theorem mo_curves {s : Sta} {M : mM} (c : MI s M) : EQ 12 163 [vR 155] M (MoQ M (dCurves s).1 (dCurves s).2) := by
  refine q_in (ls := [vR 155]) mq_163 (ml_163 rfl) rfl fun D hD => ?_
  have hr := m_reads (d := 0) (F := s.2.1) (G := s.2.2.1) c.1 (Or.inl rfl) (fun z => absurd z (by decide))
  have hb := c.1.2.1
  have hf := c.2.1.2.1
  have hg := c.2.1.2.2
  have hfin : ∀ N : mM, TmF M (upI N 155 8 (M 155 8)) → mTx s.1 N → N 156 = M 156 → MI s N ∧ mFr M N := by
    intro N hT hX h156
    have e : ∀ a, a ≠ 155 → N a = M a := fun a a1 => by
      by_cases z : a = 156
      · rw [z]; exact h156
      · rw [← hT.1 a a1 z, upI_ne _ _ _ _ a1]
    have e5 : ∀ k, (k = 1 ∨ k = 4 ∨ k = 21 ∨ k = 35) → N 155 k = M 155 k := fun k hk => by
      rw [← hT.2 k (by omega)]; exact (if_neg (by omega)).symm
    exact ⟨MI_fr c e5 (fun a ha => e a (by omega)), fun a ha => e a (by omega)⟩
  have hpr := parse_rn hb
  -- the second reading, done
  have second : ∀ (N : mM), MI s N → mFr M N → ∀ (t0 : (Nat → Int) × Cv × Cv), parseS s.1 = Sum.inr t0 → Wp mc_163 D 11 [vR 155] [] N (MoQ M (dCurves s).1 (dCurves s).2) := by
    intro N cN fN t0 ht0
    have hr2 := m_reads (d := 1) (F := s.2.1) (G := s.2.2.1) cN.1 (Or.inr rfl) (fun _ => ⟨cN.2.1.1, hf, hg⟩)
    have cont2 : ∀ (q : Option mV) (P : mM), RsQ s.1 1 s.2.1 s.2.2.1 N q P → q = some (vI 1) ∧ Wp mc_163 D 17 [vR 155] [] P (MoQ M (dCurves s).1 (dCurves s).2) := by
      rintro q P ⟨h1, h2, (⟨rfl, h3, p, h4, h5⟩ | ⟨rfl, s2, T, h3, h4, h5, h6, h7⟩)⟩
      · exfalso
        have hp : parseS s.1 = Sum.inl p := by unfold parseS; rw [hpr, h5]
        rw [hp] at ht0; cases ht0
      · refine ⟨rfl, ?_⟩
        have hp : parseS s.1 = Sum.inr (sR (rdNew s2) 1 2, folL s2 (T noneC noneC).1 (T noneC noneC).2) := by unfold parseS; rw [hpr, h7]
        have hdc : dCurves s = (s2 5, ([], if s2 3 = 1 then (folL s2 (T noneC noneC).1 (T noneC noneC).2).1 else s.2.1, if s2 4 = 1 then (folL s2 (T noneC noneC).1 (T noneC noneC).2).2 else s.2.2.1, [], none, none)) := by unfold dCurves; rw [hp]; rfl
        obtain ⟨rw1, rw2⟩ := h6.2 rfl
        have hTc := h4 s.2.1 s.2.2.1 hf hg
        have hfl := folL_ok h5 hTc.1 hTc.2
        -- what the new rows are
        have hFG : runF s.1.length 201 s.1 (rd0 fun _ => 0) s.2.1 s.2.2.1 = Sum.inr (sR (rdNew s2) 1 2, folL s2 (T s.2.1 s.2.2.1).1 (T s.2.1 s.2.2.1).2) := by rw [hpr, h7]
        have hkp := runF_keep _ _ _ _ _ _ _ (rd0_ok (Or.inl rfl)) hf hg (fun z => absurd rfl z) hFG
        have hrel := runF_parse (b := s.1) (r := fun _ => 0) (Or.inl rfl) hf hg
        rw [hFG, hp] at hrel
        have b3 := hkp.2.2.2.2.1.2.2.2.1
        have b4 := hkp.2.2.2.2.1.2.2.2.2.1
        have b3 : s2 3 = 0 ∨ s2 3 = 1 := b3
        have b4 : s2 4 = 0 ∨ s2 4 = 1 := b4
        have e0 : (folL s2 (T s.2.1 s.2.2.1).1 (T s.2.1 s.2.2.1).2).1 = if s2 3 = 1 then (folL s2 (T noneC noneC).1 (T noneC noneC).2).1 else s.2.1 := by
          by_cases z : s2 3 = 1
          · rw [if_pos z]; exact hrel.2.1 z
          · rw [if_neg z]; exact (hkp.1 (show s2 3 = 0 by omega)).2
        have e1 : (folL s2 (T s.2.1 s.2.2.1).1 (T s.2.1 s.2.2.1).2).2 = if s2 4 = 1 then (folL s2 (T noneC noneC).1 (T noneC noneC).2).2 else s.2.2.1 := by
          by_cases z : s2 4 = 1
          · rw [if_pos z]; exact hrel.2.2.1 z
          · rw [if_neg z]; exact (hkp.2.1 (show s2 4 = 0 by omega)).2
        rw [hdc, ← e0, ← e1]
        generalize folL s2 (T s.2.1 s.2.2.1).1 (T s.2.1 s.2.2.1).2 = nw at *
        have hbb : ∀ a, a ≠ 155 → a ≠ 156 → P a = N a := fun a a1 a2 => by rw [← h1.1 a a1 a2, upI_ne _ _ _ _ a1]
        have n46 : upI (upI (upI (upI (upI P 155 4 0) 155 1 0) 157 0 0) 157 1 0) 155 21 0 155 7 = s2 5 := by
          rw [← h3]
          exact (if_neg (by omega)).trans ((if_neg (by omega)).trans ((if_neg (by omega)).trans ((if_neg (by omega)).trans (if_neg (by omega)))))
        have hend : MI ([], nw.1, nw.2, [], none, none) (upI (upI (upI (upI (upI P 155 4 0) 155 1 0) 157 0 0) 157 1 0) 155 21 0) ∧ mFr M (upI (upI (upI (upI (upI P 155 4 0) 155 1 0) 157 0 0) 157 1 0) 155 21 0) := by
          have gk : ∀ k, upI (upI (upI (upI (upI P 155 4 0) 155 1 0) 157 0 0) 157 1 0) 155 21 0 156 k = P 156 k := fun k => by simp [upI]
          refine ⟨⟨mTx_nil (by simp [upI]), ⟨mrow_fr rw1 (fun k _ _ => gk k), hfl⟩, ⟨⟨by simp [upI], Nat.zero_le 8, fun j z hz => by simp at hz⟩, fun z hz => by cases hz⟩, ⟨by simp [upI]; rfl, by simp [upI]; rfl, fun q hq => (by cases hq), fun q hq => (by cases hq)⟩, mKn_0 (by simp [upI])⟩, fun a ha => ?_⟩
          rw [upI_ne _ _ _ _ (by omega), upI_ne _ _ _ _ (by omega), upI_ne _ _ _ _ (by omega), upI_ne _ _ _ _ (by omega), upI_ne _ _ _ _ (by omega), hbb a (by omega) (by omega)]
          exact fN a ha
        refine w_aload rfl rfl (w_iconst rfl (w_putI rfl (by first | rfl | assumption) rfl (w_aload rfl rfl (w_iconst rfl (w_putI rfl (by first | rfl | assumption) rfl (w_aload rfl rfl (w_getR rfl (by first | rfl | assumption) rfl (by first | rfl | assumption) ?_)))))))
        refine w_iconst rfl (w_iconst rfl (w_bastore rfl (by first | rfl | assumption) (by omega) (by omega) (by first | exact Or.inl rfl | exact Or.inr rfl | omega | assumption) (w_aload rfl rfl (w_getR rfl (by first | rfl | assumption) rfl (by first | rfl | assumption) (w_iconst rfl (w_iconst rfl (w_bastore rfl (by first | rfl | assumption) (by omega) (by omega) (by first | exact Or.inl rfl | exact Or.inr rfl | omega | assumption) ?_)))))))
        refine w_aload rfl rfl (w_iconst rfl (w_putZ rfl (by first | rfl | assumption) rfl (by first | exact Or.inl rfl | exact Or.inr rfl | omega | assumption) (w_aload rfl rfl (w_getIV rfl (by first | rfl | assumption) (by first | exact Or.inl rfl | exact Or.inr rfl) (n46) ?_))))
        exact w_ireturn rfl ⟨by first | rfl | (congr 2; omega), by exact hend⟩
    refine w_aload rfl rfl (w_iconst rfl ?_)
    refine w_callQ (Or.inr rfl) (hr2) (by omega) nof_153 rfl rfl rfl rfl (by first | rfl | (show cKB[_]? = _; assumption)) (fun r13 M13 hq13 => ?_)
    obtain ⟨rfl, hgo⟩ := cont2 _ _ hq13
    refine w_pop rfl rfl ?_
    exact hgo
  have cont : ∀ (q : Option mV) (N : mM), RsQ s.1 0 s.2.1 s.2.2.1 M q N → ∃ w : Int, q = some (vI w) ∧ Wp mc_163 D 5 [vR 155] [vI w] N (MoQ M (dCurves s).1 (dCurves s).2) := by
    rintro q N ⟨h1, h2, (⟨rfl, h3, p, h4, h5⟩ | ⟨rfl, s2, T, h3, h4, h5, h6, h7⟩)⟩
    · refine ⟨0, rfl, ?_⟩
      have hp : parseS s.1 = Sum.inl p := by unfold parseS; rw [hpr, h5]
      have hdc : dCurves s = (-1000003, s) := by unfold dCurves; rw [hp]
      rw [hdc]
      have h6 := hfin N h1 h2 (h3 rfl)
      refine w_if_ne (tgt := 11) rfl (by first | assumption | exact i32_0 | (unfold i32 at *; omega)) rfl (fun c => absurd c (by decide)) (fun _ => ?_)
      refine w_iconst rfl ?_
      exact w_ireturn rfl ⟨by first | rfl | (congr 2; omega), by exact h6⟩
    · refine ⟨1, rfl, ?_⟩
      have hp : parseS s.1 = Sum.inr (sR (rdNew s2) 1 2, folL s2 (T noneC noneC).1 (T noneC noneC).2) := by unfold parseS; rw [hpr, h7]
      have h8 := hfin N h1 h2 (h6.1 rfl)
      have hgo := second N h8.1 h8.2 _ hp
      refine w_if_ne (tgt := 11) rfl (by first | assumption | exact i32_0 | (unfold i32 at *; omega)) rfl (fun _ => ?_) (fun c => absurd c (by decide))
      exact hgo
  refine w_aload rfl rfl (w_iconst rfl ?_)
  refine w_callQ (Or.inr rfl) (hr) (by omega) nof_153 rfl rfl rfl rfl (by first | rfl | (show cKB[_]? = _; assumption)) (fun r2 M2 hq2 => ?_)
  obtain ⟨w, rfl, hgo⟩ := cont _ _ hq2
  exact hgo
