/-! ===== all meetings ===== -/
def mtB (f g : Cv) (pq : Nat × Nat) (S : List (Nat × Nat)) (L : List Pt) : Nat → List Pt
  | 0 => L
  | n + 1 => mtStep f g pq ((S[n]?).getD (0, 0)) (mtB f g pq S L n)
def mtA (f g : Cv) (R S : List (Nat × Nat)) : Nat → List Pt
  | 0 => []
  | n + 1 => mtB f g ((R[n]?).getD (0, 0)) S (mtA f g R S n) S.length
def edL (f : Cv) : List (Nat × Nat) := elA f (cornF f) 21
def meetF (f g : Cv) : List Pt := mtA f g (edL f) (edL g) (edL f).length
theorem rowsF_len (f : Cv) : (rowsF f).length = (edL f).length := by
  unfold rowsF; rw [rowsBr_len]; unfold rowsF0; rw [List.length_map]; rfl
theorem rowsF_get {f : Cv} {k : Nat} {pq : Nat × Nat} (hf : Cok 999 f) (hl : (cornF f).length ≤ 16) (h : (edL f)[k]? = some pq) : ∃ e, (rowsF f)[k]? = some e ∧ edPQ f e pq.1 pq.2 ∧ hasF f pq.1 = true ∧ hasF f pq.2 = true := by
  obtain ⟨h1, h2, h3, h4, -⟩ := elA_mem 21 (List.mem_of_getElem? h)
  refine ⟨_, by unfold rowsF; rw [rowsBr_get]; unfold rowsF0; rw [List.getElem?_map, show (elA f (cornF f) 21)[k]? = some pq from h]; rfl, ?_, h3, h4⟩
  have hi := (rowN_ok (C := cornF f) (p := pq.1) (q := pq.2) hf (by omega) h2 (cornF f).length hl).2.1
  have hrow : rowE f (cornF f) pq.1 pq.2 0 = rowN f (cornF f) pq.1 pq.2 (cornF f).length 0 ∧ rowE f (cornF f) pq.1 pq.2 1 = rowN f (cornF f) pq.1 pq.2 (cornF f).length 1 ∧ rowE f (cornF f) pq.1 pq.2 2 = rowN f (cornF f) pq.1 pq.2 (cornF f).length 2 := by
    unfold rowE
    split
    · exact ⟨rfl, rfl, rfl⟩
    · exact ⟨rfl, rfl, rfl⟩
  unfold edPQ
  split
  · exact ⟨hrow.1.trans hi.1, hrow.2.1.trans hi.2.1, hrow.2.2.trans hi.2.2.1⟩
  · exact ⟨hrow.1.trans hi.1, hrow.2.1.trans hi.2.1, hrow.2.2.trans hi.2.2.1⟩
def MeQ (f g : Cv) (M : mM) : mP := fun z N => z = none ∧ PtR 149 (meetF f g) N ∧ N 148 2 = M 10 1 ∧ N 148 3 = M 12 1 ∧ ∀ a, (a < 148 ∨ 155 ≤ a) → N a = M a
theorem e_mrefresh {f g : Cv} {M : mM} (hcf : cur 10 f M) (hcg : cur 12 g M) (hf : Cok 999 f) (hg : Cok 999 g) (vf : ShV 68 f M) (vg : ShV 108 g M) (i1 : i32 (M 10 1)) (i2 : i32 (M 12 1)) (i3 : i32 (M 148 2)) (i4 : i32 (M 148 3)) (hv : M 148 2 = M 10 1 → M 148 3 = M 12 1 → PtR 149 (meetF f g) M) : EQ 5 126 [vR 148] M (MeQ f g M) := by
  have lf := vf.1.2.1
  have lg := vg.1.2.1
  have rlf := rowsF_len f
  have rlg := rowsF_len g
  have rf4 := vf.2.1.1
  have rg4 := vg.2.1.1
  have rf30 := vf.2.1.2.1
  have rg30 := vg.2.1.2.1
  rw [rlf] at rf4 rf30
  rw [rlg] at rg4 rg30
  refine q_in (ls := [vR 148, vN, vN]) mq_126 (ml_126 rfl) rfl fun D hD => ?_
  by_cases hq : M 148 2 = M 10 1 ∧ M 148 3 = M 12 1
  · have hV := hv hq.1 hq.2
    refine w_aload rfl rfl (w_getI rfl (by first | rfl | assumption) (by first | exact Or.inl rfl | exact Or.inr rfl) (w_aload rfl rfl (w_getR rfl (by first | rfl | assumption) rfl (by first | rfl | assumption) (w_getR rfl (by first | rfl | assumption) rfl (by first | rfl | assumption) (w_getI rfl (by first | rfl | assumption) (by first | exact Or.inl rfl | exact Or.inr rfl) ?_)))))
    refine w_icmp_ne (tgt := 35) rfl (by first | assumption | exact i32_0 | (unfold i32 at *; omega)) (by first | assumption | exact i32_0 | (unfold i32 at *; omega)) rfl (fun c14 => ?_) (fun c14 => ?_)
    · skip
      exfalso; omega
    · skip
      refine w_aload rfl rfl (w_getI rfl (by first | rfl | assumption) (by first | exact Or.inl rfl | exact Or.inr rfl) (w_aload rfl rfl (w_getR rfl (by first | rfl | assumption) rfl (by first | rfl | assumption) (w_getR rfl (by first | rfl | assumption) rfl (by first | rfl | assumption) (w_getI rfl (by first | rfl | assumption) (by first | exact Or.inl rfl | exact Or.inr rfl) ?_)))))
      refine w_icmp_ne (tgt := 35) rfl (by first | assumption | exact i32_0 | (unfold i32 at *; omega)) (by first | assumption | exact i32_0 | (unfold i32 at *; omega)) rfl (fun c31 => ?_) (fun c31 => ?_)
      · skip
        exfalso; omega
      · skip
        exact w_return rfl ⟨rfl, by exact ⟨hV, hq.1, hq.2, fun _ _ => rfl⟩⟩
  · have inner : ∀ (i : Nat) (acc : List Pt), i < (edL f).length → (∀ (N : mM), PtR 149 (mtB f g (((edL f)[i]?).getD (0, 0)) (edL g) acc (edL g).length) N → N 148 2 = M 10 1 → N 148 3 = M 12 1 → (∀ a, (a < 148 ∨ 155 ≤ a) → N a = M a) → Wp mc_126 D 148 [vR 148, vI i, vI (edL g).length] [] N (MeQ f g M)) → ∀ (m n : Nat) (N : mM), (edL g).length - n = m → n ≤ (edL g).length → PtR 149 (mtB f g (((edL f)[i]?).getD (0, 0)) (edL g) acc n) N → N 148 2 = M 10 1 → N 148 3 = M 12 1 → (∀ a, (a < 148 ∨ 155 ≤ a) → N a = M a) → Wp mc_126 D 97 [vR 148, vI i, vI n] [] N (MeQ f g M) := by
      intro i acc hi hout m
      have hxi := edgs_row isS_68 (k := i) (by omega)
      have hxir := hxi.1
      have hpq : (edL f)[i]? = some (edL f)[i] := List.getElem?_eq_getElem hi
      rw [hpq] at hout ⊢
      obtain ⟨e, he, hepq, hp, hq⟩ := rowsF_get hf lf hpq
      induction m with
      | zero =>
        intro n N hm hn hP h2 h3 hF
        obtain rfl : n = (edL g).length := by omega
        have hgo := hout N hP h2 h3 hF
        have r4 : N 108 4 = ((edL g).length : Int) := by rw [hF 108 (by omega)]; exact rg4
        refine w_iload rfl rfl (w_aload rfl rfl (w_getR rfl (by first | rfl | assumption) rfl (by first | rfl | assumption) (w_getIV rfl (by first | rfl | assumption) (by first | exact Or.inl rfl | exact Or.inr rfl) (r4) ?_)))
        refine w_icmp_ge (tgt := 148) rfl (by first | assumption | exact i32_0 | (unfold i32 at *; omega)) (by first | assumption | exact i32_0 | (unfold i32 at *; omega)) rfl (fun c105 => ?_) (fun c105 => ?_)
        · skip
          exact hgo
        · skip
          exfalso; omega
      | succ m ih =>
        intro n N hm hn hP h2 h3 hF
        have hnl : n < (edL g).length := by omega
        have hxj := edgs_row isS_108 (k := n) (by omega)
        have hxjr := hxj.1
        have hrt : (edL g)[n]? = some (edL g)[n] := List.getElem?_eq_getElem hnl
        obtain ⟨h, hh, hhrt, hr, ht⟩ := rowsF_get hg lg hrt
        have r4 : N 108 4 = ((edL g).length : Int) := by rw [hF 108 (by omega)]; exact rg4
        have ihn := fun N2 => ih (n + 1) N2 (by omega) (by omega)
        have hun : mtB f g (((some (edL f)[i]) : Option (Nat × Nat)).getD (0, 0)) (edL g) acc (n + 1) = mtStep f g (((some (edL f)[i]) : Option (Nat × Nat)).getD (0, 0)) (((edL g)[n]?).getD (0, 0)) (mtB f g (((some (edL f)[i]) : Option (Nat × Nat)).getD (0, 0)) (edL g) acc n) := rfl
        rw [hun, hrt] at ihn
        have htc := e_tryCrossing (M := N) (c := 68 + 10 + i) (d := 108 + 10 + n) (cur_fr hcf (fun k => by rw [hF 11 (by omega)])) (cur_fr hcg (fun k => by rw [hF 13 (by omega)])) hf hg hP hxi.2 hxj.2 (EdR_fr (vf.2.1.2.2 i e he) (hF _ (by omega))) (EdR_fr (vg.2.1.2.2 n h hh) (hF _ (by omega))) hepq hhrt hp hq hr ht
        refine w_iload rfl rfl (w_aload rfl rfl (w_getR rfl (by first | rfl | assumption) rfl (by first | rfl | assumption | (rw [Int.toNat_natCast]; assumption)) (w_getIV rfl (by first | rfl | assumption) (by first | exact Or.inl rfl | exact Or.inr rfl) (r4) ?_)))
        refine w_icmp_ge (tgt := 148) rfl (by first | assumption | exact i32_0 | (unfold i32 at *; omega)) (by first | assumption | exact i32_0 | (unfold i32 at *; omega)) rfl (fun c105 => ?_) (fun c105 => ?_)
        · skip
          exfalso; omega
        · skip
          refine w_iload rfl rfl (w_aload rfl rfl (w_getR rfl (by first | rfl | assumption) rfl (by first | rfl | assumption | (rw [Int.toNat_natCast]; assumption)) (w_getR rfl (by first | rfl | assumption) rfl (by first | rfl | assumption | (rw [Int.toNat_natCast]; assumption)) (w_alen rfl (by first | rfl | assumption) (by decide) (by decide) ?_))))
          refine w_icmp_ge (tgt := 148) rfl (by first | assumption | exact i32_0 | (unfold i32 at *; omega)) (by first | assumption | exact i32_0 | (unfold i32 at *; omega)) rfl (fun c117 => ?_) (fun c117 => ?_)
          · skip
            exfalso; omega
          · skip
            refine w_aload rfl rfl (w_aload rfl rfl (w_getR rfl (by first | rfl | assumption) rfl (by first | rfl | assumption | (rw [Int.toNat_natCast]; assumption)) (w_getR rfl (by first | rfl | assumption) rfl (by first | rfl | assumption | (rw [Int.toNat_natCast]; assumption)) (w_iload rfl rfl (w_aaload rfl (by first | rfl | assumption) (by first | exact Or.inl rfl | exact Or.inr rfl) (by omega) (by omega) (by first | rfl | assumption | (rw [Int.toNat_natCast]; assumption)) (w_aload rfl rfl (w_getR rfl (by first | rfl | assumption) rfl (by first | rfl | assumption | (rw [Int.toNat_natCast]; assumption)) ?_)))))))
            refine w_getR rfl (by first | rfl | assumption) rfl (by first | rfl | assumption | (rw [Int.toNat_natCast]; assumption)) (w_iload rfl rfl (w_aaload rfl (by first | rfl | assumption) (by first | exact Or.inl rfl | exact Or.inr rfl) (by omega) (by omega) (by first | rfl | assumption | (rw [Int.toNat_natCast]; assumption)) ?_))
            refine w_callQ (Or.inr rfl) (htc) (by omega) nof_127 rfl rfl rfl rfl (by first | rfl | (show cKB[_]? = _; assumption)) (fun r139 M139 hq139 => ?_)
            obtain ⟨rfl, w1, w2⟩ := hq139
            refine w_iinc (ls2 := [_, _, _]) rfl rfl rfl (w_goto (tgt := 97) rfl rfl ?_)
            exact ihn M139 w1 (by rw [w2 148 (by omega)]; exact h2) (by rw [w2 148 (by omega)]; exact h3) (fun a ha => by rw [w2 a (by omega)]; exact hF a ha)
    have outer : ∀ (m n : Nat) (N : mM) (v : mV), (edL f).length - n = m → n ≤ (edL f).length → PtR 149 (mtA f g (edL f) (edL g) n) N → N 148 2 = M 10 1 → N 148 3 = M 12 1 → (∀ a, (a < 148 ∨ 155 ≤ a) → N a = M a) → Wp mc_126 D 72 [vR 148, vI n, v] [] N (MeQ f g M) := by
      intro m
      induction m with
      | zero =>
        intro n N v hm hn hP h2 h3 hF
        obtain rfl : n = (edL f).length := by omega
        have r4 : N 68 4 = ((edL f).length : Int) := by rw [hF 68 (by omega)]; exact rf4
        refine w_iload rfl rfl (w_aload rfl rfl (w_getR rfl (by first | rfl | assumption) rfl (by first | rfl | assumption) (w_getIV rfl (by first | rfl | assumption) (by first | exact Or.inl rfl | exact Or.inr rfl) (r4) ?_)))
        refine w_icmp_ge (tgt := 154) rfl (by first | assumption | exact i32_0 | (unfold i32 at *; omega)) (by first | assumption | exact i32_0 | (unfold i32 at *; omega)) rfl (fun c80 => ?_) (fun c80 => ?_)
        · skip
          exact w_return rfl ⟨rfl, by exact ⟨hP, h2, h3, hF⟩⟩
        · skip
          exfalso; omega
      | succ m ih =>
        intro n N v hm hn hP h2 h3 hF
        have r4 : N 68 4 = ((edL f).length : Int) := by rw [hF 68 (by omega)]; exact rf4
        have ihn := fun N2 v => ih (n + 1) N2 v (by omega) (by omega)
        have hgo := inner n (mtA f g (edL f) (edL g) n) (by omega) (fun N2 w1 w2 w3 w4 => by
          have hgo := ihn N2 (vI (edL g).length) w1 w2 w3 w4
          refine w_iinc (ls2 := [_, _, _]) rfl rfl rfl (w_goto (tgt := 72) rfl rfl ?_)
          exact hgo) (edL g).length 0 N (Nat.sub_zero _) (Nat.zero_le _) hP h2 h3 hF
        refine w_iload rfl rfl (w_aload rfl rfl (w_getR rfl (by first | rfl | assumption) rfl (by first | rfl | assumption) (w_getIV rfl (by first | rfl | assumption) (by first | exact Or.inl rfl | exact Or.inr rfl) (r4) ?_)))
        refine w_icmp_ge (tgt := 154) rfl (by first | assumption | exact i32_0 | (unfold i32 at *; omega)) (by first | assumption | exact i32_0 | (unfold i32 at *; omega)) rfl (fun c80 => ?_) (fun c80 => ?_)
        · skip
          exfalso; omega
        · skip
          refine w_iload rfl rfl (w_aload rfl rfl (w_getR rfl (by first | rfl | assumption) rfl (by first | rfl | assumption) (w_getR rfl (by first | rfl | assumption) rfl (by first | rfl | assumption) (w_alen rfl (by first | rfl | assumption) (by decide) (by decide) ?_))))
          refine w_icmp_ge (tgt := 154) rfl (by first | assumption | exact i32_0 | (unfold i32 at *; omega)) (by first | assumption | exact i32_0 | (unfold i32 at *; omega)) rfl (fun c92 => ?_) (fun c92 => ?_)
          · skip
            exfalso; omega
          · skip
            refine w_iconst rfl (w_istore (ls2 := [_, _, _]) rfl rfl rfl ?_)
            exact hgo
    have start : Wp mc_126 D 35 [vR 148, vN, vN] [] M (MeQ f g M) := by
      have e57 : upI M 148 2 (M 10 1) 12 1 = M 12 1 := if_neg (by omega)
      have hgo := outer (edL f).length 0 (upI (upI (upI M 148 2 (M 10 1)) 148 3 (M 12 1)) 149 5 0) vN (Nat.sub_zero _) (Nat.zero_le _) (PtR_nil (upI_same _ _ _ _)) (by rw [upI_ne _ _ _ _ (by decide)]; exact (if_neg (by omega)).trans (upI_same _ _ _ _)) (by rw [upI_ne _ _ _ _ (by decide)]; exact upI_same _ _ _ _) (fun a ha => by rw [upI_ne _ _ _ _ (by omega), upI_ne _ _ _ _ (by omega), upI_ne _ _ _ _ (by omega)])
      refine w_aload rfl rfl (w_aload rfl rfl (w_getR rfl (by first | rfl | assumption) rfl (by first | rfl | assumption) (w_getR rfl (by first | rfl | assumption) rfl (by first | rfl | assumption) (w_getI rfl (by first | rfl | assumption) (by first | exact Or.inl rfl | exact Or.inr rfl) (w_putI rfl (by first | rfl | assumption) rfl (w_aload rfl rfl (w_aload rfl rfl ?_)))))))
      refine w_getR rfl (by first | rfl | assumption) rfl (by first | rfl | assumption) (w_getR rfl (by first | rfl | assumption) rfl (by first | rfl | assumption) (w_getIV rfl (by first | rfl | assumption) (by first | exact Or.inl rfl | exact Or.inr rfl) (e57) (w_putI rfl (by first | rfl | assumption) rfl (w_aload rfl rfl (w_getR rfl (by first | rfl | assumption) rfl (by first | rfl | assumption) ?_)))))
      refine w_call (Or.inr rfl) ((e_pclear isPts_149)) (by omega) nof_70 rfl rfl rfl rfl (by first | rfl | (show cKB[_]? = _; assumption)) rfl ?_
      refine w_iconst rfl (w_istore (ls2 := [_, _, _]) rfl rfl rfl ?_)
      exact hgo
    refine w_aload rfl rfl (w_getI rfl (by first | rfl | assumption) (by first | exact Or.inl rfl | exact Or.inr rfl) (w_aload rfl rfl (w_getR rfl (by first | rfl | assumption) rfl (by first | rfl | assumption) (w_getR rfl (by first | rfl | assumption) rfl (by first | rfl | assumption) (w_getI rfl (by first | rfl | assumption) (by first | exact Or.inl rfl | exact Or.inr rfl) ?_)))))
    refine w_icmp_ne (tgt := 35) rfl (by first | assumption | exact i32_0 | (unfold i32 at *; omega)) (by first | assumption | exact i32_0 | (unfold i32 at *; omega)) rfl (fun c14 => ?_) (fun c14 => ?_)
    · skip
      exact start
    · skip
      refine w_aload rfl rfl (w_getI rfl (by first | rfl | assumption) (by first | exact Or.inl rfl | exact Or.inr rfl) (w_aload rfl rfl (w_getR rfl (by first | rfl | assumption) rfl (by first | rfl | assumption) (w_getR rfl (by first | rfl | assumption) rfl (by first | rfl | assumption) (w_getI rfl (by first | rfl | assumption) (by first | exact Or.inl rfl | exact Or.inr rfl) ?_)))))
      refine w_icmp_ne (tgt := 35) rfl (by first | assumption | exact i32_0 | (unfold i32 at *; omega)) (by first | assumption | exact i32_0 | (unfold i32 at *; omega)) rfl (fun c31 => ?_) (fun c31 => ?_)
      · skip
        exact start
      · exfalso; omega
def sumM (L : List Pt) (n : Nat) : Int := (L.take n).foldl (fun a P => a + P.2.2) 0
theorem sumM_snoc (L : List Pt) (n : Nat) (h : n < L.length) : sumM L (n + 1) = sumM L n + L[n].2.2 := by
  unfold sumM; rw [take_snoc L n h, List.foldl_append]; rfl
theorem e_multiplicities {L : List Pt} {M : mM} (hL : PtR 149 L M) : E 2 142 [vR 148] M (some (vI (sumM L L.length))) M := by
  have hL5 := hL.1
  have hl16 := hL.2.1
  refine e_in (ls := [vR 148, vN, vN]) mq_142 (ml_142 rfl) rfl fun D hD => ?_
  have loop : ∀ (z n : Nat), L.length - n = z → n ≤ L.length → Wp mc_142 D 4 [vR 148, vI (sumM L n), vI n] [] M (fun r N => r = some (vI (sumM L L.length)) ∧ N = M) := by
    intro z
    induction z with
    | zero =>
      intro n hz hn
      obtain rfl : n = L.length := by omega
      refine w_iload rfl rfl (w_aload rfl rfl (w_getR rfl (by first | rfl | assumption) rfl (by first | rfl | assumption) (w_getIV rfl (by first | rfl | assumption) (by first | exact Or.inl rfl | exact Or.inr rfl) (hL5) ?_)))
      refine w_icmp_ge (tgt := 32) rfl (by first | assumption | exact i32_0 | (unfold i32 at *; omega)) (by first | assumption | exact i32_0 | (unfold i32 at *; omega)) rfl (fun c12 => ?_) (fun c12 => ?_)
      · skip
        refine w_iload rfl rfl ?_
        exact w_ireturn rfl ⟨by first | rfl | (congr 2; omega), by rfl⟩
      · skip
        exfalso; omega
    | succ z ih =>
      intro n hz hn
      have hnl : n < L.length := by omega
      have hP : L[n]? = some L[n] := List.getElem?_eq_getElem hnl
      have hma := e_markAt isPts_149 hL hP
      have ihn := ih (n + 1) (by omega) (by omega)
      rw [sumM_snoc L n hnl] at ihn
      refine w_iload rfl rfl (w_aload rfl rfl (w_getR rfl (by first | rfl | assumption) rfl (by first | rfl | assumption) (w_getIV rfl (by first | rfl | assumption) (by first | exact Or.inl rfl | exact Or.inr rfl) (hL5) ?_)))
      refine w_icmp_ge (tgt := 32) rfl (by first | assumption | exact i32_0 | (unfold i32 at *; omega)) (by first | assumption | exact i32_0 | (unfold i32 at *; omega)) rfl (fun c12 => ?_) (fun c12 => ?_)
      · skip
        exfalso; omega
      · skip
        refine w_iload rfl rfl (w_aload rfl rfl (w_getR rfl (by first | rfl | assumption) rfl (by first | rfl | assumption) (w_iload rfl rfl ?_)))
        refine w_call (Or.inr rfl) (hma) (by omega) nof_86 rfl rfl rfl rfl (by first | rfl | (show cKB[_]? = _; assumption)) rfl ?_
        refine w_iadd rfl (w_istore (ls2 := [_, _, _]) rfl rfl rfl (w_iinc (ls2 := [_, _, _]) rfl rfl rfl (w_goto (tgt := 4) rfl rfl ?_)))
        exact ihn
  have hgo := loop L.length 0 (Nat.sub_zero _) (Nat.zero_le _)
  refine w_iconst rfl (w_istore (ls2 := [_, _, _]) rfl rfl rfl (w_iconst rfl (w_istore (ls2 := [_, _, _]) rfl rfl rfl ?_)))
  exact hgo
def simP (C K : List Pt) (P : Pt) : Bool := !hasP C P && !hasP K P
theorem e_isSimple {C K L : List Pt} {M : mM} {k : Nat} {P : Pt} (hC : PtR 69 C M) (hK : PtR 109 K M) (hL : PtR 149 L M) (hP : L[k]? = some P) : E 4 128 [vR 148, vI k] M (some (vI (if simP C K P = true then 1 else 0))) M := by
  have xa := e_contains isPts_69 isPts_149 hC hL hP
  have xb := e_contains isPts_109 isPts_149 hK hL hP
  unfold simP
  refine e_in (ls := [vR 148, vI k]) mq_128 (ml_128 rfl) rfl fun D hD => ?_
  cases qa : hasP C P with
  | true =>
    rw [qa] at xa
    have xa : E 3 129 [vR 69, vR 149, vI k] M (some (vI 1)) M := xa
    refine w_aload rfl rfl (w_getR rfl (by first | rfl | assumption) rfl (by first | rfl | assumption) (w_getR rfl (by first | rfl | assumption) rfl (by first | rfl | assumption) (w_aload rfl rfl (w_getR rfl (by first | rfl | assumption) rfl (by first | rfl | assumption) (w_iload rfl rfl ?_)))))
    refine w_call (Or.inr rfl) ((xa)) (by omega) nof_129 rfl rfl rfl rfl (by first | rfl | (show cKB[_]? = _; assumption)) rfl ?_
    refine w_if_ne (tgt := 40) rfl (by first | assumption | exact i32_0 | (unfold i32 at *; omega)) rfl (fun _ => ?_) (fun c => absurd c (by decide))
    refine w_iconst rfl ?_
    exact w_zreturn rfl (by first | exact Or.inl rfl | exact Or.inr rfl | omega | assumption) ⟨by first | rfl | (congr 2; omega), by rfl⟩
  | false =>
    rw [qa] at xa
    have xa : E 3 129 [vR 69, vR 149, vI k] M (some (vI 0)) M := xa
    cases qb : hasP K P with
    | true =>
      rw [qb] at xb
      have xb : E 3 129 [vR 109, vR 149, vI k] M (some (vI 1)) M := xb
      refine w_aload rfl rfl (w_getR rfl (by first | rfl | assumption) rfl (by first | rfl | assumption) (w_getR rfl (by first | rfl | assumption) rfl (by first | rfl | assumption) (w_aload rfl rfl (w_getR rfl (by first | rfl | assumption) rfl (by first | rfl | assumption) (w_iload rfl rfl ?_)))))
      refine w_call (Or.inr rfl) ((xa)) (by omega) nof_129 rfl rfl rfl rfl (by first | rfl | (show cKB[_]? = _; assumption)) rfl ?_
      refine w_if_ne (tgt := 40) rfl (by first | assumption | exact i32_0 | (unfold i32 at *; omega)) rfl (fun c => absurd c (by decide)) (fun _ => ?_)
      refine w_aload rfl rfl (w_getR rfl (by first | rfl | assumption) rfl (by first | rfl | assumption) (w_getR rfl (by first | rfl | assumption) rfl (by first | rfl | assumption) (w_aload rfl rfl (w_getR rfl (by first | rfl | assumption) rfl (by first | rfl | assumption) (w_iload rfl rfl ?_)))))
      refine w_call (Or.inr rfl) ((xb)) (by omega) nof_129 rfl rfl rfl rfl (by first | rfl | (show cKB[_]? = _; assumption)) rfl ?_
      refine w_if_ne (tgt := 40) rfl (by first | assumption | exact i32_0 | (unfold i32 at *; omega)) rfl (fun _ => ?_) (fun c => absurd c (by decide))
      refine w_iconst rfl ?_
      exact w_zreturn rfl (by first | exact Or.inl rfl | exact Or.inr rfl | omega | assumption) ⟨by first | rfl | (congr 2; omega), by rfl⟩
    | false =>
      rw [qb] at xb
      have xb : E 3 129 [vR 109, vR 149, vI k] M (some (vI 0)) M := xb
      refine w_aload rfl rfl (w_getR rfl (by first | rfl | assumption) rfl (by first | rfl | assumption) (w_getR rfl (by first | rfl | assumption) rfl (by first | rfl | assumption) (w_aload rfl rfl (w_getR rfl (by first | rfl | assumption) rfl (by first | rfl | assumption) (w_iload rfl rfl ?_)))))
      refine w_call (Or.inr rfl) ((xa)) (by omega) nof_129 rfl rfl rfl rfl (by first | rfl | (show cKB[_]? = _; assumption)) rfl ?_
      refine w_if_ne (tgt := 40) rfl (by first | assumption | exact i32_0 | (unfold i32 at *; omega)) rfl (fun c => absurd c (by decide)) (fun _ => ?_)
      refine w_aload rfl rfl (w_getR rfl (by first | rfl | assumption) rfl (by first | rfl | assumption) (w_getR rfl (by first | rfl | assumption) rfl (by first | rfl | assumption) (w_aload rfl rfl (w_getR rfl (by first | rfl | assumption) rfl (by first | rfl | assumption) (w_iload rfl rfl ?_)))))
      refine w_call (Or.inr rfl) ((xb)) (by omega) nof_129 rfl rfl rfl rfl (by first | rfl | (show cKB[_]? = _; assumption)) rfl ?_
      refine w_if_ne (tgt := 40) rfl (by first | assumption | exact i32_0 | (unfold i32 at *; omega)) rfl (fun c => absurd c (by decide)) (fun _ => ?_)
      refine w_iconst rfl (w_goto (tgt := 41) rfl rfl ?_)
      exact w_zreturn rfl (by first | exact Or.inl rfl | exact Or.inr rfl | omega | assumption) ⟨by first | rfl | (congr 2; omega), by rfl⟩
theorem e_simpleOnes {C K L : List Pt} {M : mM} (hC : PtR 69 C M) (hK : PtR 109 K M) (hL : PtR 149 L M) : E 5 143 [vR 148] M (some (vI (L.countP (simP C K) : Nat))) M := by
  have hL5 := hL.1
  have hl16 := hL.2.1
  refine e_in (ls := [vR 148, vN, vN]) mq_143 (ml_143 rfl) rfl fun D hD => ?_
  have loop : ∀ (z n : Nat), L.length - n = z → n ≤ L.length → Wp mc_143 D 4 [vR 148, vI ((L.take n).countP (simP C K) : Nat), vI n] [] M (fun r N => r = some (vI (L.countP (simP C K) : Nat)) ∧ N = M) := by
    intro z
    induction z with
    | zero =>
      intro n hz hn
      obtain rfl : n = L.length := by omega
      rw [List.take_length]
      refine w_iload rfl rfl (w_aload rfl rfl (w_getR rfl (by first | rfl | assumption) rfl (by first | rfl | assumption) (w_getIV rfl (by first | rfl | assumption) (by first | exact Or.inl rfl | exact Or.inr rfl) (hL5) ?_)))
      refine w_icmp_ge (tgt := 37) rfl (by first | assumption | exact i32_0 | (unfold i32 at *; omega)) (by first | assumption | exact i32_0 | (unfold i32 at *; omega)) rfl (fun c12 => ?_) (fun c12 => ?_)
      · skip
        refine w_iload rfl rfl ?_
        exact w_ireturn rfl ⟨by first | rfl | (congr 2; omega), by rfl⟩
      · skip
        exfalso; omega
    | succ z ih =>
      intro n hz hn
      have hnl : n < L.length := by omega
      have hP : L[n]? = some L[n] := List.getElem?_eq_getElem hnl
      have hsi := e_isSimple hC hK hL hP
      have ihn := ih (n + 1) (by omega) (by omega)
      rw [cnt_snoc _ L n hnl] at ihn
      generalize (L.take n).countP (simP C K) = c at *
      cases q : simP C K L[n] with
      | true =>
        rw [q] at hsi ihn
        have hsi : E 4 128 [vR 148, vI n] M (some (vI 1)) M := hsi
        refine w_iload rfl rfl (w_aload rfl rfl (w_getR rfl (by first | rfl | assumption) rfl (by first | rfl | assumption) (w_getIV rfl (by first | rfl | assumption) (by first | exact Or.inl rfl | exact Or.inr rfl) (hL5) ?_)))
        refine w_icmp_ge (tgt := 37) rfl (by first | assumption | exact i32_0 | (unfold i32 at *; omega)) (by first | assumption | exact i32_0 | (unfold i32 at *; omega)) rfl (fun c12 => ?_) (fun c12 => ?_)
        · skip
          exfalso; omega
        · skip
          refine w_iload rfl rfl (w_aload rfl rfl (w_iload rfl rfl ?_))
          refine w_call (Or.inr rfl) ((hsi)) (by omega) nof_128 rfl rfl rfl rfl (by first | rfl | (show cKB[_]? = _; assumption)) rfl ?_
          refine w_if_eq (tgt := 28) rfl (by first | assumption | exact i32_0 | (unfold i32 at *; omega)) rfl (fun c => absurd c (by decide)) (fun _ => ?_)
          refine w_iconst rfl (w_goto (tgt := 29) rfl rfl (w_iadd rfl (w_istore (ls2 := [_, _, _]) rfl rfl rfl (w_iinc (ls2 := [_, _, _]) rfl rfl rfl (w_goto (tgt := 4) rfl rfl ?_)))))
          exact ihn
      | false =>
        rw [q] at hsi ihn
        have hsi : E 4 128 [vR 148, vI n] M (some (vI 0)) M := hsi
        refine w_iload rfl rfl (w_aload rfl rfl (w_getR rfl (by first | rfl | assumption) rfl (by first | rfl | assumption) (w_getIV rfl (by first | rfl | assumption) (by first | exact Or.inl rfl | exact Or.inr rfl) (hL5) ?_)))
        refine w_icmp_ge (tgt := 37) rfl (by first | assumption | exact i32_0 | (unfold i32 at *; omega)) (by first | assumption | exact i32_0 | (unfold i32 at *; omega)) rfl (fun c12 => ?_) (fun c12 => ?_)
        · skip
          exfalso; omega
        · skip
          refine w_iload rfl rfl (w_aload rfl rfl (w_iload rfl rfl ?_))
          refine w_call (Or.inr rfl) ((hsi)) (by omega) nof_128 rfl rfl rfl rfl (by first | rfl | (show cKB[_]? = _; assumption)) rfl ?_
          refine w_if_eq (tgt := 28) rfl (by first | assumption | exact i32_0 | (unfold i32 at *; omega)) rfl (fun _ => ?_) (fun c => absurd c (by decide))
          refine w_iconst rfl (w_iadd rfl (w_istore (ls2 := [_, _, _]) rfl rfl rfl (w_iinc (ls2 := [_, _, _]) rfl rfl rfl (w_goto (tgt := 4) rfl rfl ?_))))
          exact ihn
  have hgo := loop L.length 0 (Nat.sub_zero _) (Nat.zero_le _)
  refine w_iconst rfl (w_istore (ls2 := [_, _, _]) rfl rfl rfl (w_iconst rfl (w_istore (ls2 := [_, _, _]) rfl rfl rfl ?_)))
  exact hgo
