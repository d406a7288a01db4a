/-! ===== what the model knows ===== -/
def eqE (f : Cv) : Prop := (mEf f).length = (rowsF f).length ∧ (rowsF f).length ≤ 30 ∧ ∀ (k : Nat) (e d : Nat → Int), (mEf f)[k]? = some e → (rowsF f)[k]? = some d → (e 0 = d 0 ∧ e 1 = d 1) ∧ (e 2 = d 4 ∧ e 3 = d 5) ∧ e 4 = d 6 ∧ e 5 = d 7
def eqM (f g : Cv) : Prop := mLF f g (mEf f) (mEf g) = (meetF f g).map fun P => (P.1, P.2.1)
/-- geometry still to be shown: both sides' edges are the same -/
def GEOE : Prop := ∀ f, Cok 999 f → eqE f ∧ rowP f (mEf f)
/-- geometry still to be shown: both sides' meetings are the same -/
def GEOM : Prop := ∀ f g, Cok 999 f → Cok 999 g → eqM f g
def KnF (M N : mM) : Prop := (∀ b, (b < 155 ∨ (156 ≤ b ∧ b ≤ 158) ∨ 175 ≤ b) → N b = M b) ∧ ∀ j, j ≠ 19 → j ≠ 35 → N 155 j = M 155 j
theorem KnF_tr {M N O : mM} (h : KnF M N) (h2 : KnF N O) : KnF M O := ⟨fun b q => (h2.1 b q).trans (h.1 b q), fun j q1 q2 => (h2.2 j q1 q2).trans (h.2 j q1 q2)⟩
theorem KnF_c {a : Nat} {M N : mM} (h : McF a M N) : KnF M N := ⟨fun b q => h.1 b (by omega), fun j _ _ => by rw [h.1 155 (by decide)]⟩
theorem KnF_e {a : Nat} {M N : mM} (h : MkF a M N) : KnF M N := ⟨fun b q => h.1 b (by omega) (by omega) (by omega) (by omega), fun j q _ => h.2.1 j q⟩
theorem KnF_z {M N : mM} (h : MzF M N) : KnF M N := ⟨fun b q => h.1 b (by omega) (by omega) (by omega) (by omega) (by omega) (by omega), fun j q1 q2 => h.2 j q1 q2⟩
theorem mcC_c {a b : Nat} {L : List Pt} {M N : mM} (h : mcC b L M) (hF : McF a M N) (hab : a ≠ b) (ha : a < 2) (hb : b < 2) : mcC b L N := by
  obtain ⟨h1, h2, h3, h4⟩ := h
  refine ⟨by rw [hF.2.2 b (fun q => hab q.symm)]; exact h1, h2, h3, fun k P hk => ?_⟩
  have hl := (List.getElem?_eq_some_iff.mp hk).1
  have q := h4 k P hk
  exact ⟨by rw [hF.2.1 162 _ (by omega) (by decide)]; exact q.1, by rw [hF.2.1 163 _ (by omega) (by decide)]; exact q.2.1, by rw [hF.2.1 164 _ (by omega) (by decide)]; exact q.2.2⟩
theorem mcC_k2 {a b : Nat} {L : List Pt} {M N : mM} (h : mcC b L M) (hF : MkF a M N) : mcC b L N := ⟨by rw [hF.1 165 (by decide) (by decide) (by decide) (by decide)]; exact h.1, h.2.1, h.2.2.1, fun k P hk => by rw [hF.1 162 (by decide) (by decide) (by decide) (by decide), hF.1 163 (by decide) (by decide) (by decide) (by decide), hF.1 164 (by decide) (by decide) (by decide) (by decide)]; exact h.2.2.2 k P hk⟩
theorem mE_c {a b : Nat} {R : List (Nat → Int)} {M N : mM} (h : mE b R M) (hF : McF a M N) : mE b R N := ⟨by rw [hF.1 172 (by decide)]; exact h.1, h.2.1, h.2.2.1, fun k e hk t ht => by rw [hF.1 (166 + t) (by omega)]; exact h.2.2.2 k e hk t ht⟩
theorem mE_k {a b : Nat} {R : List (Nat → Int)} {M N : mM} (h : mE b R M) (hF : MkF a M N) (hab : a ≠ b) (ha : a < 2) (hb : b < 2) : mE b R N := by
  obtain ⟨h1, h2, h3, h4⟩ := h
  refine ⟨by rw [hF.2.2.2 b (fun q => hab q.symm)]; exact h1, h2, h3, fun k e hk t ht => ?_⟩
  have hl := (List.getElem?_eq_some_iff.mp hk).1
  rw [hF.2.2.1 (166 + t) _ (by omega) (by omega) (by omega)]
  exact h4 k e hk t ht
theorem mcC_z {b : Nat} {L : List Pt} {M N : mM} (h : mcC b L M) (hF : MzF M N) : mcC b L N := ⟨by rw [hF.1 165 (by decide) (by decide) (by decide) (by decide) (by decide) (by decide)]; exact h.1, h.2.1, h.2.2.1, fun k P hk => by rw [hF.1 162 (by decide) (by decide) (by decide) (by decide) (by decide) (by decide), hF.1 163 (by decide) (by decide) (by decide) (by decide) (by decide) (by decide), hF.1 164 (by decide) (by decide) (by decide) (by decide) (by decide) (by decide)]; exact h.2.2.2 k P hk⟩
theorem mE_z {b : Nat} {R : List (Nat → Int)} {M N : mM} (h : mE b R M) (hF : MzF M N) : mE b R N := ⟨by rw [hF.1 172 (by decide) (by decide) (by decide) (by decide) (by decide) (by decide)]; exact h.1, h.2.1, h.2.2.1, fun k e hk t ht => by rw [hF.1 (166 + t) (by omega) (by omega) (by omega) (by omega) (by omega) (by omega)]; exact h.2.2.2 k e hk t ht⟩
theorem mvC_of {a : Nat} {f : Cv} {M : mM} (h : mcC a (cornF f) M) : mvC a f M := ⟨h.1, h.2.1, h.2.2.2⟩
theorem mvE_of {a : Nat} {f : Cv} {M : mM} (h : mE a (mEf f) M) (q : eqE f) : mvE a f M := by
  obtain ⟨h1, h2, h3, h4⟩ := h
  obtain ⟨q1, q2, q3⟩ := q
  refine ⟨by rw [← q1]; exact h1, q2, fun k d hk => ?_⟩
  have hl := (List.getElem?_eq_some_iff.mp hk).1
  have he : (mEf f)[k]? = some ((mEf f)[k]'(by omega)) := List.getElem?_eq_getElem (by omega)
  generalize ((mEf f)[k]'(by omega)) = e at he
  have v := h4 k e he
  obtain ⟨⟨w0, w1⟩, ⟨w2, w3⟩, w4, w5⟩ := q3 k e d he hk
  exact ⟨⟨(v 0 (by decide)).trans w0, (v 1 (by decide)).trans w1⟩, ⟨(v 2 (by decide)).trans w2, (v 3 (by decide)).trans w3⟩, (v 4 (by decide)).trans w4, (v 5 (by decide)).trans w5⟩
theorem mvM_of {f g : Cv} {M : mM} (h : mMt (mLF f g (mEf f) (mEf g)) M) (q : eqM f g) : mvM f g M := by
  unfold eqM at q
  rw [q] at h
  obtain ⟨h1, h2, h3, h4⟩ := h
  rw [List.length_map] at h1 h2
  refine ⟨h1, h2, fun k P hk => ?_⟩
  exact h4 k (P.1, P.2.1) (by rw [List.getElem?_map, hk]; rfl)
theorem mvC_up {a : Nat} {f : Cv} {M : mM} {j : Nat} {v : Int} (h : mvC a f M) : mvC a f (upI M 155 j v) := by
  unfold mvC at h ⊢
  rw [upI_ne _ _ _ _ (by decide), upI_ne _ _ _ _ (by decide), upI_ne _ _ _ _ (by decide), upI_ne _ _ _ _ (by decide)]
  exact h
def KnQ (s : Sta) (M : mM) : mP := fun z N => z = none ∧ MI s N ∧ mFr M N ∧ MV s.2.1 s.2.2.1 N ∧ (∀ j, j ≠ 19 → j ≠ 21 → j ≠ 35 → N 155 j = M 155 j)
theorem m_knows {s : Sta} {M : mM} (hE : GEOE) (hM : GEOM) (c : MI s M) : EQ 11 187 [vR 155] M (KnQ s M) := by
  have c0 := c
  obtain ⟨t, f, g, ps, k0, k1⟩ := s
  obtain ⟨cT, ⟨cR, hf, hg⟩, ⟨cP, cPo⟩, cS, cK⟩ := c
  have cR : mrow 0 f g M := cR
  have hf : Cok 999 f := hf
  have hg : Cok 999 g := hg
  have cK : mKn f g M := cK
  obtain ⟨hcf, hcg⟩ := cR
  refine q_in (ls := [vR 155, vN]) mq_187 (ml_187 rfl) rfl fun D hD => ?_
  generalize hQ : KnQ (t, f, g, ps, k0, k1) M = Q
  rcases cK.1 with h21 | h21
  · obtain ⟨e1, pf⟩ := hE f hf
    obtain ⟨e2, pg⟩ := hE g hg
    have em := hM f g hf hg
    have hlf : (mEf f).length ≤ 40 := by have := e1.1; have := e1.2.1; omega
    have hlg : (mEf g).length ≤ 40 := by have := e2.1; have := e2.2.1; omega
    have curf : ∀ N, KnF M N → mcur (25 * 0) f N := fun N h => mcur_fr hcf (fun k _ _ => by rw [h.1 156 (by decide)])
    have curg : ∀ N, KnF M N → mcur (25 * 1) g N := fun N h => mcur_fr hcg (fun k _ _ => by rw [h.1 156 (by decide)])
    have hfin : ∀ N, KnF M N → mcC 0 (cornF f) N → mcC 1 (cornF g) N → mE 0 (mEf f) N → mE 1 (mEf g) N → mMt (mLF f g (mEf f) (mEf g)) N → Q none (upI N 155 21 1) := by
      intro N hF q1 q2 q3 q4 q5
      have hMV : MV f g (upI N 155 21 1) := MV_fr ⟨⟨mvC_of q1, mvC_of q2⟩, ⟨mvE_of q3 e1, mvE_of q4 e2⟩, mvM_of q5 em⟩ (fun a q1 q2 => upI_ne _ _ _ _ (by omega)) (if_neg (by omega))
      have u155 : ∀ k, k ≠ 21 → upI N 155 21 1 155 k = N 155 k := fun k hk => if_neg (fun z => hk z.2)
      have u : ∀ b, b ≠ 155 → upI N 155 21 1 b = N b := fun b hb => upI_ne _ _ _ _ hb
      rw [← hQ]
      refine ⟨rfl, ⟨mTx_fr cT ?_ ?_, ⟨?_, hf, hg⟩, ⟨mPa_fr cP ?_ ?_, cPo⟩, moSl_fr cS ?_ ?_, ⟨Or.inr (upI_same _ _ _ _), fun _ => hMV⟩⟩, ?_, hMV, ?_⟩
      · rw [u155 4 (by decide)]; exact hF.2 4 (by decide) (by decide)
      · intro k; rw [u 158 (by decide), hF.1 158 (by decide)]
      · exact mrow_fr ⟨hcf, hcg⟩ (fun k _ _ => by rw [u 156 (by decide), hF.1 156 (by decide)])
      · rw [u155 1 (by decide)]; exact hF.2 1 (by decide) (by decide)
      · intro k _ _; rw [u 156 (by decide), hF.1 156 (by decide)]
      · intro k; rw [u 157 (by decide), hF.1 157 (by decide)]
      · intro k _ _; rw [u 156 (by decide), hF.1 156 (by decide)]
      · intro a ha
        rw [u a (by omega), hF.1 a (by omega)]
      · intro j j1 j2 j3
        rw [u155 j j2]; exact hF.2 j j1 j3
    have hc0 := m_findsCorners (a := 0) (M := M) (by decide) hcf hf
    have he0 := fun (N : mM) (q : KnF M N) (q2 : mcC 0 (cornF f) N) => m_findsEdges (a := 0) (by decide) (curf N q) hf q2 hlf
    have hc1 := fun (N : mM) (q : KnF M N) => m_findsCorners (a := 1) (M := N) (by decide) (curg N q) hg
    have he1 := fun (N : mM) (q : KnF M N) (q2 : mcC 1 (cornF g) N) => m_findsEdges (a := 1) (by decide) (curg N q) hg q2 hlg
    have hmm := fun (N : mM) (q : KnF M N) (q1 : mcC 0 (cornF f) N) (q2 : mcC 1 (cornF g) N) (q3 : mE 0 (mEf f) N) (q4 : mE 1 (mEf g) N) => m_findsMeetings (curf N q) (curg N q) hf hg q1 q2 q3 q4 pf pg
    have st31 : ∀ N, KnF M N → mcC 0 (cornF f) N → mcC 1 (cornF g) N → mE 0 (mEf f) N → mE 1 (mEf g) N → Wp mc_187 D 10 [vR 155, vI 2] [] N Q := by
      intro N hF q1 q2 q3 q4
      have hm2 := hmm N hF q1 q2 q3 q4
      refine w_iload rfl rfl (w_iconst rfl ?_)
      refine w_icmp_ge (tgt := 31) rfl (by first | assumption | exact i32_0 | (unfold i32 at *; omega)) (by first | assumption | exact i32_0 | (unfold i32 at *; omega)) rfl (fun c12 => ?_) (fun c12 => ?_)
      · skip
        refine w_aload rfl rfl ?_
        refine w_callQ (Or.inr rfl) (hm2) (by omega) nof_203 rfl rfl rfl rfl (by first | rfl | (show cKB[_]? = _; assumption)) (fun r32 M32 hq32 => ?_)
        obtain ⟨rfl, w1, w2⟩ := hq32
        refine w_aload rfl rfl (w_iconst rfl (w_putZ rfl (by first | rfl | assumption) rfl (by first | exact Or.inl rfl | exact Or.inr rfl | omega | assumption) ?_))
        exact w_return rfl (hfin _ (KnF_tr hF (KnF_z w2)) (mcC_z q1 w2) (mcC_z q2 w2) (mE_z q3 w2) (mE_z q4 w2) w1)
      · skip
        exfalso; omega
    have st10 : ∀ N, KnF M N → mcC 0 (cornF f) N → mE 0 (mEf f) N → Wp mc_187 D 10 [vR 155, vI 1] [] N Q := by
      intro N hF q1 q3
      have hc2 := hc1 N hF
      refine w_iload rfl rfl (w_iconst rfl ?_)
      refine w_icmp_ge (tgt := 31) rfl (by first | assumption | exact i32_0 | (unfold i32 at *; omega)) (by first | assumption | exact i32_0 | (unfold i32 at *; omega)) rfl (fun c12 => ?_) (fun c12 => ?_)
      · exfalso; omega
      · skip
        refine w_aload rfl rfl (w_iload rfl rfl ?_)
        refine w_callQ (Or.inr rfl) (hc2) (by omega) nof_188 rfl rfl rfl rfl (by first | rfl | (show cKB[_]? = _; assumption)) (fun r17 M17 hq17 => ?_)
        obtain ⟨rfl, w1, w2⟩ := hq17
        have hk1 := KnF_tr hF (KnF_c w2)
        refine w_aload rfl rfl (w_iload rfl rfl ?_)
        refine w_callQ (Or.inr rfl) ((he1 M17 hk1 w1)) (by omega) nof_193 rfl rfl rfl rfl (by first | rfl | (show cKB[_]? = _; assumption)) (fun r22 M22 hq22 => ?_)
        obtain ⟨rfl, w3, w4⟩ := hq22
        refine w_iinc (ls2 := [_, _]) rfl rfl rfl (w_goto (tgt := 10) rfl rfl ?_)
        exact st31 _ (KnF_tr hk1 (KnF_e w4)) (mcC_k2 (mcC_c q1 w2 (by decide) (by decide) (by decide)) w4) (mcC_k2 w1 w4) (mE_k (mE_c q3 w2) w4 (by decide) (by decide) (by decide)) w3
    have st0 : Wp mc_187 D 10 [vR 155, vI 0] [] M Q := by
      refine w_iload rfl rfl (w_iconst rfl ?_)
      refine w_icmp_ge (tgt := 31) rfl (by first | assumption | exact i32_0 | (unfold i32 at *; omega)) (by first | assumption | exact i32_0 | (unfold i32 at *; omega)) rfl (fun c12 => ?_) (fun c12 => ?_)
      · exfalso; omega
      · skip
        refine w_aload rfl rfl (w_iload rfl rfl ?_)
        refine w_callQ (Or.inr rfl) (hc0) (by omega) nof_188 rfl rfl rfl rfl (by first | rfl | (show cKB[_]? = _; assumption)) (fun r17 M17 hq17 => ?_)
        obtain ⟨rfl, w1, w2⟩ := hq17
        refine w_aload rfl rfl (w_iload rfl rfl ?_)
        refine w_callQ (Or.inr rfl) ((he0 M17 (KnF_c w2) w1)) (by omega) nof_193 rfl rfl rfl rfl (by first | rfl | (show cKB[_]? = _; assumption)) (fun r22 M22 hq22 => ?_)
        obtain ⟨rfl, w3, w4⟩ := hq22
        refine w_iinc (ls2 := [_, _]) rfl rfl rfl (w_goto (tgt := 10) rfl rfl ?_)
        exact st10 _ (KnF_tr (KnF_c w2) (KnF_e w4)) (mcC_k2 w1 w4) w3
    refine w_aload rfl rfl (w_getIV rfl (by first | rfl | assumption) (by first | exact Or.inl rfl | exact Or.inr rfl) (h21) ?_)
    refine w_if_eq (tgt := 8) rfl (by first | assumption | exact i32_0 | (unfold i32 at *; omega)) rfl (fun _ => ?_) (fun c => absurd c (by decide))
    refine w_iconst rfl (w_istore (ls2 := [_, _]) rfl rfl rfl ?_)
    exact st0
  · have hfin : Q none M := by
      rw [← hQ]
      exact ⟨rfl, c0, mFr_rfl M, cK.2 h21, fun _ _ _ _ => rfl⟩
    refine w_aload rfl rfl (w_getIV rfl (by first | rfl | assumption) (by first | exact Or.inl rfl | exact Or.inr rfl) (h21) ?_)
    refine w_if_eq (tgt := 8) rfl (by first | assumption | exact i32_0 | (unfold i32 at *; omega)) rfl (fun c => absurd c (by decide)) (fun _ => ?_)
    exact w_return rfl hfin
