/-! ===== the model's meetings, asked ===== -/
theorem mtStep_all {f g : Cv} {F : Pt → Prop} {pq rt : Nat × Nat} {L : List Pt} (hF : isMt f g pq.1 pq.2 rt.1 rt.2 = true → F (mtX f g pq.1 pq.2 rt.1 rt.2, mtY f g pq.1 pq.2 rt.1 rt.2, mixed (ledW f (mtX f g pq.1 pq.2 rt.1 rt.2) (mtY f g pq.1 pq.2 rt.1 rt.2)) (ledW g (mtX f g pq.1 pq.2 rt.1 rt.2) (mtY f g pq.1 pq.2 rt.1 rt.2)))) (h : ∀ P ∈ L, F P) : ∀ P ∈ mtStep f g pq rt L, F P := by
  intro P hP
  unfold mtStep at hP
  split at hP
  · next q =>
    unfold capP at hP
    split at hP
    · exact h P hP
    · rcases insP_mem hP with z | z
      · exact h P z
      · rw [z]; exact hF q
  · exact h P hP
theorem mtB_all {f g : Cv} {F : Pt → Prop} {pq : Nat × Nat} {S : List (Nat × Nat)} {L : List Pt} (hF : ∀ rt ∈ S, isMt f g pq.1 pq.2 rt.1 rt.2 = true → F (mtX f g pq.1 pq.2 rt.1 rt.2, mtY f g pq.1 pq.2 rt.1 rt.2, mixed (ledW f (mtX f g pq.1 pq.2 rt.1 rt.2) (mtY f g pq.1 pq.2 rt.1 rt.2)) (ledW g (mtX f g pq.1 pq.2 rt.1 rt.2) (mtY f g pq.1 pq.2 rt.1 rt.2)))) (h : ∀ P ∈ L, F P) : ∀ n, n ≤ S.length → ∀ P ∈ mtB f g pq S L n, F P
  | 0, _ => h
  | n + 1, hn => by
    unfold mtB
    have hg : S[n]? = some (S[n]'(by omega)) := List.getElem?_eq_getElem (by omega)
    rw [hg]
    exact mtStep_all (hF _ (List.getElem_mem (by omega))) (mtB_all hF h n (by omega))
theorem mtA_all {f g : Cv} {F : Pt → Prop} {R S : List (Nat × Nat)} (hF : ∀ pq ∈ R, ∀ rt ∈ S, isMt f g pq.1 pq.2 rt.1 rt.2 = true → F (mtX f g pq.1 pq.2 rt.1 rt.2, mtY f g pq.1 pq.2 rt.1 rt.2, mixed (ledW f (mtX f g pq.1 pq.2 rt.1 rt.2) (mtY f g pq.1 pq.2 rt.1 rt.2)) (ledW g (mtX f g pq.1 pq.2 rt.1 rt.2) (mtY f g pq.1 pq.2 rt.1 rt.2)))) : ∀ n, n ≤ R.length → ∀ P ∈ mtA f g R S n, F P
  | 0, _ => fun P h => by cases h
  | n + 1, hn => by
    unfold mtA
    have hg : R[n]? = some (R[n]'(by omega)) := List.getElem?_eq_getElem (by omega)
    rw [hg]
    exact mtB_all (hF _ (List.getElem_mem (by omega))) (mtA_all hF n (by omega)) _ (Nat.le_refl _)
theorem meetF_all {f g : Cv} (hf : Cok 999 f) (hg : Cok 999 g) : ∀ P ∈ meetF f g, ptB P ∧ P.2.2 = mixed (ledW f P.1 P.2.1) (ledW g P.1 P.2.1) ∧ 0 < ledW f P.1 P.2.1 ∧ 0 < ledW g P.1 P.2.1 := by
  refine mtA_all (F := fun P => ptB P ∧ P.2.2 = mixed (ledW f P.1 P.2.1) (ledW g P.1 P.2.1) ∧ 0 < ledW f P.1 P.2.1 ∧ 0 < ledW g P.1 P.2.1) ?_ _ (Nat.le_refl _)
  intro pq hpq rt hrt hmt
  unfold isMt at hmt
  rw [Bool.and_eq_true, Bool.and_eq_true] at hmt
  have hz : ∀ (s p : Nat), s.testBit p = true → 0 < s := by
    intro s p h
    rcases Nat.eq_zero_or_pos s with z | z
    · rw [z, Nat.zero_testBit] at h; cases h
    · exact z
  have h1 := elA_mem 21 hpq
  have h2 := elA_mem 21 hrt
  exact ⟨mt_le hf hg (by omega) (by omega) (by omega) (by omega), rfl, hz _ _ hmt.2.1, hz _ _ hmt.2.2⟩
/-- mixed areas, vertices: still to be shown -/
def MXQ : Prop := ∀ s o, plS s → plS o → 0 < s → 0 < o → mxM s o = mixed s o
def PLQ : Prop := ∀ f X Y m, Cok 999 f → hasP (cornF f) (X, Y, m) = !decide (arS (ledW f X Y) = 0)
theorem m_counts {f g : Cv} {k : Nat} {M : mM} {P : Pt} (hcf : mcur 0 f M) (hcg : mcur 25 g M) (hf : Cok 999 f) (hg : Cok 999 g) (hP : ptB P) (hk : k < 16) (x1 : M 173 ((k : Int)).toNat = P.1) (x2 : M 174 ((k : Int)).toNat = P.2.1) : EQ 8 231 [vR 155, vI k] M (fun z N => z = some (vI (mxM (ledW f P.1 P.2.1) (ledW g P.1 P.2.1))) ∧ MmF M N) := by
  obtain ⟨⟨b1, b2⟩, b3, b4⟩ := hP
  have hld1 := m_leadAt (a := 0) (x := P.1) (y := P.2.1) (d := 720720) (by decide) hcf hf (by omega) (by omega) (by omega)
  have hld2 := m_leadAt (a := 1) (x := P.1) (y := P.2.1) (d := 720720) (by decide) hcg hg (by omega) (by omega) (by omega)
  have hmx := m_mixed (M := M) (lead_plS hf P.1 P.2.1 720720) (lead_plS hg P.1 P.2.1 720720)
  show EQ 8 231 [vR 155, vI k] M (fun z N => z = some (vI (mxM (leadF f P.1 P.2.1 720720) (leadF g P.1 P.2.1 720720))) ∧ MmF M N)
  generalize leadF f P.1 P.2.1 720720 = s1 at *
  generalize leadF g P.1 P.2.1 720720 = s2 at *
  generalize mxM s1 s2 = mx at *
  generalize P.1 = x at *
  generalize P.2.1 = y at *
  refine q_in (ls := [vR 155, vI k]) mq_231 (ml_231 rfl) rfl fun D hD => ?_
  refine w_aload rfl rfl (w_aload rfl rfl (w_iconst rfl (w_aload rfl rfl (w_getR rfl (by first | rfl | assumption) rfl (by first | rfl | assumption) (w_iload rfl rfl (w_laloadV rfl (by first | rfl | assumption) (by omega) (by omega) (x1) (w_aload rfl rfl ?_)))))))
  refine w_getR rfl (by first | rfl | assumption) rfl (by first | rfl | assumption) (w_iload rfl rfl (w_laloadV rfl (by first | rfl | assumption) (by omega) (by omega) (x2) (w_lconst rfl ?_)))
  refine w_call (Or.inr rfl) ((hld1)) (by omega) nof_172 rfl rfl rfl rfl (by first | rfl | (show cKB[_]? = _; assumption)) rfl ?_
  refine w_aload rfl rfl (w_iconst rfl (w_aload rfl rfl (w_getR rfl (by first | rfl | assumption) rfl (by first | rfl | assumption) (w_iload rfl rfl (w_laloadV rfl (by first | rfl | assumption) (by omega) (by omega) (x1) (w_aload rfl rfl (w_getR rfl (by first | rfl | assumption) rfl (by first | rfl | assumption) ?_)))))))
  refine w_iload rfl rfl (w_laloadV rfl (by first | rfl | assumption) (by omega) (by omega) (x2) (w_lconst rfl ?_))
  refine w_call (Or.inr rfl) ((hld2)) (by omega) nof_172 rfl rfl rfl rfl (by first | rfl | (show cKB[_]? = _; assumption)) rfl ?_
  refine w_callQ (Or.inr rfl) ((hmx)) (by omega) nof_205 rfl rfl rfl rfl (by first | rfl | (show cKB[_]? = _; assumption)) (fun r41 M41 hq41 => ?_)
  obtain ⟨rfl, w1⟩ := hq41
  exact w_ireturn rfl ⟨by first | rfl | (congr 2; omega), by exact w1⟩
theorem m_isPlain {f g : Cv} {k : Nat} {M : mM} {P : Pt} (hL : PLQ) (hcf : mcur 0 f M) (hcg : mcur 25 g M) (hf : Cok 999 f) (hg : Cok 999 g) (hP : ptB P) (hk : k < 16) (x1 : M 173 ((k : Int)).toNat = P.1) (x2 : M 174 ((k : Int)).toNat = P.2.1) : EQ 8 232 [vR 155, vI k] M (fun z N => z = some (vI (if simP (cornF f) (cornF g) P = true then 1 else 0)) ∧ MlF M N) := by
  obtain ⟨⟨b1, b2⟩, b3, b4⟩ := hP
  have hld1 := m_leadAt (a := 0) (x := P.1) (y := P.2.1) (d := 720720) (by decide) hcf hf (by omega) (by omega) (by omega)
  have hsim : simP (cornF f) (cornF g) P = (decide (arS (ledW f P.1 P.2.1) = 0) && decide (arS (ledW g P.1 P.2.1) = 0)) := by
    unfold simP
    rw [show P = (P.1, P.2.1, P.2.2) from rfl, hL f _ _ _ hf, hL g _ _ _ hg]
    simp only [Bool.not_not]
  have hld2 : ∀ N, MlF M N → E 3 172 [vR 155, vI 1, vL P.1, vL P.2.1, vL 720720] N (some (vI (leadF g P.1 P.2.1 720720))) N := fun N z => m_leadAt (a := 1) (by decide) (mcur_fr hcg (fun k _ _ => by rw [z.1 156 (by decide) (by decide) (by decide)])) hg (by omega) (by omega) (by omega)
  have hy : ∀ N, MlF M N → N 173 ((k : Int)).toNat = P.1 ∧ N 174 ((k : Int)).toNat = P.2.1 := fun N z => by rw [z.1 173 (by decide) (by decide) (by decide), z.1 174 (by decide) (by decide) (by decide)]; exact ⟨x1, x2⟩
  have l1 := leadF_lt f P.1 P.2.1 720720
  have l2 := leadF_lt g P.1 P.2.1 720720
  have ha1 := m_area (s := leadF f P.1 P.2.1 720720) (M := M) (by omega)
  have ha2 := fun N => m_area (s := leadF g P.1 P.2.1 720720) (M := N) (by omega)
  have c1 := arS_le (leadF f P.1 P.2.1 720720)
  have c2 := arS_le (leadF g P.1 P.2.1 720720)
  rw [hsim]
  show EQ 8 232 [vR 155, vI k] M (fun z N => z = some (vI (if (decide (arS (leadF f P.1 P.2.1 720720) = 0) && decide (arS (leadF g P.1 P.2.1 720720) = 0)) = true then 1 else 0)) ∧ MlF M N)
  clear hsim
  generalize leadF f P.1 P.2.1 720720 = s1 at *
  generalize leadF g P.1 P.2.1 720720 = s2 at *
  generalize arS s1 = r1 at *
  generalize arS s2 = r2 at *
  generalize P.1 = x at *
  generalize P.2.1 = y at *
  refine q_in (ls := [vR 155, vI k]) mq_232 (ml_232 rfl) rfl fun D hD => ?_
  by_cases q1 : r1 = 0
  · subst q1
    by_cases q2 : r2 = 0
    · subst q2
      rw [if_pos (by decide)]
      refine w_aload rfl rfl (w_aload rfl rfl (w_iconst rfl (w_aload rfl rfl (w_getR rfl (by first | rfl | assumption) rfl (by first | rfl | assumption) (w_iload rfl rfl (w_laloadV rfl (by first | rfl | assumption) (by omega) (by omega) (x1) (w_aload rfl rfl ?_)))))))
      refine w_getR rfl (by first | rfl | assumption) rfl (by first | rfl | assumption) (w_iload rfl rfl (w_laloadV rfl (by first | rfl | assumption) (by omega) (by omega) (x2) (w_lconst rfl ?_)))
      refine w_call (Or.inr rfl) ((hld1)) (by omega) nof_172 rfl rfl rfl rfl (by first | rfl | (show cKB[_]? = _; assumption)) rfl ?_
      refine w_callQ (Or.inr rfl) ((ha1)) (by omega) nof_207 rfl rfl rfl rfl (by first | rfl | (show cKB[_]? = _; assumption)) (fun r21 M21 hq21 => ?_)
      obtain ⟨rfl, w1⟩ := hq21
      have y1 := (hy _ w1).1
      have y2 := (hy _ w1).2
      have hld2 := hld2 _ w1
      have ha2 := ha2 M21
      refine w_if_ne (tgt := 58) rfl (by first | assumption | exact i32_0 | (unfold i32 at *; omega)) rfl (fun c => absurd c (by decide)) (fun _ => ?_)
      refine w_aload rfl rfl (w_aload rfl rfl (w_iconst rfl (w_aload rfl rfl (w_getR rfl (by first | rfl | assumption) rfl (by first | rfl | assumption) (w_iload rfl rfl (w_laloadV rfl (by first | rfl | assumption) (by omega) (by omega) (y1) (w_aload rfl rfl ?_)))))))
      refine w_getR rfl (by first | rfl | assumption) rfl (by first | rfl | assumption) (w_iload rfl rfl (w_laloadV rfl (by first | rfl | assumption) (by omega) (by omega) (y2) (w_lconst rfl ?_)))
      refine w_call (Or.inr rfl) ((hld2)) (by omega) nof_172 rfl rfl rfl rfl (by first | rfl | (show cKB[_]? = _; assumption)) rfl ?_
      refine w_callQ (Or.inr rfl) ((ha2)) (by omega) nof_207 rfl rfl rfl rfl (by first | rfl | (show cKB[_]? = _; assumption)) (fun r48 M48 hq48 => ?_)
      obtain ⟨rfl, w2⟩ := hq48
      refine w_if_ne (tgt := 58) rfl (by first | assumption | exact i32_0 | (unfold i32 at *; omega)) rfl (fun c => absurd c (by decide)) (fun _ => ?_)
      refine w_iconst rfl (w_goto (tgt := 59) rfl rfl ?_)
      exact w_zreturn rfl (by first | exact Or.inl rfl | exact Or.inr rfl | omega | assumption) ⟨by first | rfl | (congr 2; omega), by exact MlF_tr w1 w2⟩
    · rw [decide_eq_false q2, if_neg (by decide)]
      refine w_aload rfl rfl (w_aload rfl rfl (w_iconst rfl (w_aload rfl rfl (w_getR rfl (by first | rfl | assumption) rfl (by first | rfl | assumption) (w_iload rfl rfl (w_laloadV rfl (by first | rfl | assumption) (by omega) (by omega) (x1) (w_aload rfl rfl ?_)))))))
      refine w_getR rfl (by first | rfl | assumption) rfl (by first | rfl | assumption) (w_iload rfl rfl (w_laloadV rfl (by first | rfl | assumption) (by omega) (by omega) (x2) (w_lconst rfl ?_)))
      refine w_call (Or.inr rfl) ((hld1)) (by omega) nof_172 rfl rfl rfl rfl (by first | rfl | (show cKB[_]? = _; assumption)) rfl ?_
      refine w_callQ (Or.inr rfl) ((ha1)) (by omega) nof_207 rfl rfl rfl rfl (by first | rfl | (show cKB[_]? = _; assumption)) (fun r21 M21 hq21 => ?_)
      obtain ⟨rfl, w1⟩ := hq21
      have y1 := (hy _ w1).1
      have y2 := (hy _ w1).2
      have hld2 := hld2 _ w1
      have ha2 := ha2 M21
      refine w_if_ne (tgt := 58) rfl (by first | assumption | exact i32_0 | (unfold i32 at *; omega)) rfl (fun c => absurd c (by decide)) (fun _ => ?_)
      refine w_aload rfl rfl (w_aload rfl rfl (w_iconst rfl (w_aload rfl rfl (w_getR rfl (by first | rfl | assumption) rfl (by first | rfl | assumption) (w_iload rfl rfl (w_laloadV rfl (by first | rfl | assumption) (by omega) (by omega) (y1) (w_aload rfl rfl ?_)))))))
      refine w_getR rfl (by first | rfl | assumption) rfl (by first | rfl | assumption) (w_iload rfl rfl (w_laloadV rfl (by first | rfl | assumption) (by omega) (by omega) (y2) (w_lconst rfl ?_)))
      refine w_call (Or.inr rfl) ((hld2)) (by omega) nof_172 rfl rfl rfl rfl (by first | rfl | (show cKB[_]? = _; assumption)) rfl ?_
      refine w_callQ (Or.inr rfl) ((ha2)) (by omega) nof_207 rfl rfl rfl rfl (by first | rfl | (show cKB[_]? = _; assumption)) (fun r48 M48 hq48 => ?_)
      obtain ⟨rfl, w2⟩ := hq48
      refine w_if_ne (tgt := 58) rfl (by first | assumption | exact i32_0 | (unfold i32 at *; omega)) rfl (fun c51 => ?_) (fun c51 => ?_)
      · skip
        refine w_iconst rfl ?_
        exact w_zreturn rfl (by first | exact Or.inl rfl | exact Or.inr rfl | omega | assumption) ⟨by first | rfl | (congr 2; omega), by exact MlF_tr w1 w2⟩
      · skip
        exfalso; omega
  · rw [decide_eq_false q1, Bool.false_and, if_neg (by decide)]
    refine w_aload rfl rfl (w_aload rfl rfl (w_iconst rfl (w_aload rfl rfl (w_getR rfl (by first | rfl | assumption) rfl (by first | rfl | assumption) (w_iload rfl rfl (w_laloadV rfl (by first | rfl | assumption) (by omega) (by omega) (x1) (w_aload rfl rfl ?_)))))))
    refine w_getR rfl (by first | rfl | assumption) rfl (by first | rfl | assumption) (w_iload rfl rfl (w_laloadV rfl (by first | rfl | assumption) (by omega) (by omega) (x2) (w_lconst rfl ?_)))
    refine w_call (Or.inr rfl) ((hld1)) (by omega) nof_172 rfl rfl rfl rfl (by first | rfl | (show cKB[_]? = _; assumption)) rfl ?_
    refine w_callQ (Or.inr rfl) ((ha1)) (by omega) nof_207 rfl rfl rfl rfl (by first | rfl | (show cKB[_]? = _; assumption)) (fun r21 M21 hq21 => ?_)
    obtain ⟨rfl, w1⟩ := hq21
    refine w_if_ne (tgt := 58) rfl (by first | assumption | exact i32_0 | (unfold i32 at *; omega)) rfl (fun c24 => ?_) (fun c24 => ?_)
    · skip
      refine w_iconst rfl ?_
      exact w_zreturn rfl (by first | exact Or.inl rfl | exact Or.inr rfl | omega | assumption) ⟨by first | rfl | (congr 2; omega), by exact w1⟩
    · skip
      exfalso; omega
