/-! ===== the whole text read ===== -/
theorem num3_rng : ∀ l : List Int, (∀ c ∈ l, dig c = true) → 0 ≤ num3 l ∧ num3 l ≤ 999 := by
  intro l h
  unfold num3
  have h3 : ∀ c ∈ l.take 3, 48 ≤ c ∧ c ≤ 57 := fun c hc => dig_iff.mp (h c (List.mem_of_mem_take hc))
  have hl : (l.take 3).length ≤ 3 := by rw [List.length_take]; omega
  generalize l.take 3 = m at h3 hl
  match m, h3, hl with
  | [], _, _ => exact ⟨Int.le_refl _, by decide⟩
  | [a], h3, _ =>
    have := h3 a (by simp)
    simp only [List.foldl]; omega
  | [a, b], h3, _ =>
    have := h3 a (by simp); have := h3 b (by simp)
    simp only [List.foldl]; omega
  | [a, b, c], h3, _ =>
    have := h3 a (by simp); have := h3 b (by simp); have := h3 c (by simp)
    simp only [List.foldl]; omega
  | a :: b :: c :: d :: t, _, hl => simp only [List.length_cons] at hl; omega
theorem dgs_dig : ∀ l : List Int, ∀ c ∈ dgs l, dig c = true := by
  intro l
  induction l with
  | nil => intro c hc; cases hc
  | cons a l ih =>
    intro c hc
    unfold dgs at hc
    split at hc
    · next q =>
      rcases List.mem_cons.mp hc with e | e
      · rw [e]; exact q
      · exact ih c e
    · cases hc
/-- the run over the tokens: l is what is ahead; the answer is the fault's place, or what was read -/
def runF (n : Nat) : Nat → List Int → (Nat → Int) → Cv → Cv → Sum Int ((Nat → Int) × Cv × Cv)
  | 0, _, _, _, _ => Sum.inl n
  | k + 1, l, r, f, g => match accF (tKind (skp l)) (dgs (skp l)).length (num3 (dgs (skp l))) r f g with
    | none => Sum.inl ((n - (skp l).length : Nat) : Int)
    | some q => if skp l = [] then Sum.inr q else runF n k ((skp l).drop (tLen (skp l))) q.1 q.2.1 q.2.2
theorem folL_ok {r : Nat → Int} {f g : Cv} (hi : RdI r) (hf : Cok 999 f) (hg : Cok 999 g) : Cok 999 (folL r f g).1 ∧ Cok 999 (folL r f g).2 := by
  obtain ⟨h1, -, -, h9, -⟩ := hi
  have hp : (5 * r 7 + r 8).toNat < 21 ∧ (5 * r 7 + r 8).toNat / 5 + (5 * r 7 + r 8).toNat % 5 ≤ 4 := by omega
  unfold folL
  constructor
  · show Cok 999 (if r 6 = 0 then _ else _)
    split
    · exact lowC_ok hf hp h9
    · exact hf
  · show Cok 999 (if r 6 = 0 then _ else _)
    split
    · exact hg
    · exact lowC_ok hg hp h9
theorem folF_ok {kind : Int} {r : Nat → Int} {f g : Cv} {q : (Nat → Int) × Cv × Cv} (hi : RdI r) (hf : Cok 999 f) (hg : Cok 999 g) (h : folF kind r f g = some q) : RdI q.1 ∧ Cok 999 q.2.1 ∧ Cok 999 q.2.2 := by
  have hl := folL_ok hi hf hg
  unfold folF at h
  split at h
  · split at h
    · next _ h3 =>
      cases h
      exact ⟨by unfold RdI at hi ⊢; simp [sR]; omega, hf, hg⟩
    · cases h
  · split at h
    · next _ h3 =>
      cases h
      exact ⟨by unfold RdI at hi ⊢; simp [sR, rdNew]; omega, hl⟩
    · split at h
      · cases h
        exact ⟨by unfold RdI at hi ⊢; simp [sR, rdNew]; omega, hl⟩
      · cases h
theorem rdLet_ok {kind power : Int} {r s : Nat → Int} (hi : RdI r) (h1 : r 1 ≠ 5) (hp : 0 ≤ power) (h : rdLet kind power r = some s) : RdI s := by
  unfold rdLet at h
  split at h
  · next q =>
    cases h
    unfold RdI at hi ⊢; simp [sR]; omega
  · split at h
    · next q =>
      cases h
      unfold RdI at hi ⊢; simp [sR]; omega
    · cases h
theorem rdPart_ok {kind dd nn : Int} {r : Nat → Int} (hi : RdI r) (h1 : r 1 = 2) (hnn : 0 ≤ nn ∧ nn ≤ 999) (h : (rdPart kind dd nn r).1 = true) : RdI (rdPart kind dd nn r).2 := by
  unfold rdPart at h ⊢
  split
  · unfold RdI at hi ⊢; simp [sR]; omega
  · split
    · unfold RdI at hi ⊢; simp [sR]; omega
    · next q1 q2 =>
      rw [if_neg q1, if_neg q2] at h
      cases e : rdLet kind 1 r with
      | none => rw [e] at h; cases h
      | some s => exact rdLet_ok hi (by omega) (by decide) e
theorem rdCl_ok {nn : Int} {r : Nat → Int} (hi : RdI r) (h1 : r 1 = 0) (hnn : nn = 0 ∨ nn = 1) : RdI (rdCl nn r) := by
  have h3 : (if r 3 = 0 ∧ nn ≠ 0 then (0 : Int) else 1) = 0 ∨ (if r 3 = 0 ∧ nn ≠ 0 then (0 : Int) else 1) = 1 := by split <;> simp
  have h4 : (if r 4 = 0 ∧ nn ≠ 1 then (0 : Int) else 1) = 0 ∨ (if r 4 = 0 ∧ nn ≠ 1 then (0 : Int) else 1) = 1 := by split <;> simp
  unfold rdCl
  generalize (if r 3 = 0 ∧ nn ≠ 0 then (0 : Int) else 1) = a at h3 ⊢
  generalize (if r 4 = 0 ∧ nn ≠ 1 then (0 : Int) else 1) = b at h4 ⊢
  unfold RdI at hi ⊢; simp [sR]; omega
theorem accF_ok {kind dd nn : Int} {r : Nat → Int} {f g : Cv} {q : (Nat → Int) × Cv × Cv} (hi : RdI r) (hf : Cok 999 f) (hg : Cok 999 g) (hnn : 0 ≤ nn ∧ nn ≤ 999) (h : accF kind dd nn r f g = some q) : RdI q.1 ∧ Cok 999 q.2.1 ∧ Cok 999 q.2.2 := by
  unfold accF at h
  split at h
  · next h1 =>
    split at h
    · next h2 =>
      cases h
      refine ⟨rdCl_ok hi h1 (by omega), ?_, ?_⟩
      · show Cok 999 (if nn = 0 then _ else _)
        split
        · intro _ _ q; cases q
        · exact hf
      · show Cok 999 (if nn = 0 then _ else _)
        split
        · exact hg
        · intro _ _ q; cases q
    · cases h
  · split at h
    · split at h
      · cases h
        exact ⟨by unfold RdI at hi ⊢; simp [sR]; omega, hf, hg⟩
      · cases h
    · split at h
      · next h1 =>
        split at h
        · next h2 =>
          cases h
          exact ⟨rdPart_ok hi h1 hnn h2, hf, hg⟩
        · cases h
      · split at h
        · split at h
          · cases h
            exact ⟨RdI_num hi (by omega) (by omega), hf, hg⟩
          · cases h
        · have h14 := hi.2.2.2.2.1
          split at h
          · split at h
            · cases e : rdLet kind (r 14) r with
              | none => rw [e] at h; cases h
              | some s =>
                rw [e] at h
                cases h
                exact ⟨rdLet_ok hi (by omega) h14.1 e, hf, hg⟩
            · split at h
              · exact folF_ok (RdI_num hi (by omega) (by omega)) hf hg h
              · cases h
          · exact folF_ok hi hf hg h
def RdG (M M1 : mM) : Prop := ∀ a k, a ≠ 3 → (a < 5 ∨ 8 < a) → (a ≠ 1 ∨ k < 2) → M1 a k = M a k
def rd0 (r : Nat → Int) : Nat → Int := rdNew (sR (sR (sR (sR r 1 0) 3 0) 4 0) 5 0)
theorem rd0_ok {r : Nat → Int} (h6 : r 6 = 0 ∨ r 6 = 1) : RdI (rd0 r) := by
  unfold RdI rd0 rdNew; simp [sR]; omega
def rdQ (M : mM) (o : Sum Int ((Nat → Int) × Cv × Cv)) : mP := fun q M1 => RdG M M1 ∧ match o with
  | Sum.inl p => q = some (vI p) ∧ RdX M1
  | Sum.inr s => q = some (vI (-1000000)) ∧ RdM s.1 s.2.1 s.2.2 M1 ∧ RdI s.1 ∧ Cok 999 s.2.1 ∧ Cok 999 s.2.2
theorem skp_drop (b : List Int) (p : Nat) : ∃ q, q ≤ b.length ∧ skp (b.drop p) = b.drop q := by
  generalize hl : b.drop p = l
  induction l generalizing p with
  | nil => exact ⟨b.length, Nat.le_refl _, by rw [List.drop_length]; rfl⟩
  | cons c l ih =>
    obtain ⟨g1, g2, g3⟩ := drop_cons hl
    unfold skp
    split
    · exact ih _ g3
    · exact ⟨p, Nat.le_of_lt g1, hl.symm⟩
theorem tKind_rng {b : List Int} {M : mM} (hb : TxR b M) (q : Nat) : 0 ≤ tKind (b.drop q) ∧ tKind (b.drop q) ≤ 257 ∧ (b.drop q ≠ [] → tKind (b.drop q) ≤ 256) := by
  cases e : b.drop q with
  | nil => exact ⟨by decide, by decide, fun q => absurd rfl q⟩
  | cons c l =>
    obtain ⟨g1, g2, g3⟩ := drop_cons e
    have := (hb.2.2 q c g2).2
    show 0 ≤ (if dig c = true then (256 : Int) else c) ∧ (if dig c = true then (256 : Int) else c) ≤ 257 ∧ (c :: l ≠ [] → (if dig c = true then (256 : Int) else c) ≤ 256)
    split <;> omega
theorem e_readLoop {b : List Int} {M0 : mM} {D : Nat} (hD : 5 ≤ D) : ∀ (fuel n p : Nat) (M : mM) (r : Nat → Int) (f g : Cv), n + fuel = 201 → M 1 2 = (p : Int) → p ≤ b.length → TxR b M → RdM r f g M → RdI r → Cok 999 f → Cok 999 g → RdG M0 M → Wp mc_16 D 33 [vR 3, vI n] [] M (rdQ M0 (runF b.length fuel (b.drop p) r f g)) := by
  intro fuel
  induction fuel with
  | zero =>
    intro n p M r f g hn h2 hp hb hr hi hf hg hG
    have hfin : rdQ M0 (runF b.length 0 (b.drop p) r f g) (some (vI b.length)) M := ⟨hG, rfl, RdX_of hr hi.2.2.1.2.2.2.2.2 hf hg⟩
    have h11 := hb.1
    refine w_iload rfl rfl (w_iconst rfl ?_)
    refine w_icmp_gt (tgt := 91) rfl (by first | assumption | exact i32_0 | (unfold i32 at *; omega)) (by first | assumption | exact i32_0 | (unfold i32 at *; omega)) rfl (fun c37 => ?_) (fun c37 => ?_)
    · skip
      refine w_aload rfl rfl (w_getR rfl (by first | rfl | assumption) rfl (by first | rfl | assumption) (w_getIV rfl (by first | rfl | assumption) (by first | exact Or.inl rfl | exact Or.inr rfl) (h11) ?_))
      exact w_ireturn rfl ⟨by exact hfin.1, by exact hfin.2⟩
    · skip
      exfalso; omega
  | succ fuel ih =>
    intro n p M r f g hn h2 hp hb hr hi hf hg hG
    obtain ⟨q, hq, hs⟩ := skp_drop b p
    have hkr := tKind_rng hb q
    rw [← hs] at hkr
    have hsl : (skp (b.drop p)).length = b.length - q := by rw [hs, List.length_drop]
    have hnx := e_next hb h2 hp
    have hrun : runF b.length (fuel + 1) (b.drop p) r f g = match accF (tKind (skp (b.drop p))) (dgs (skp (b.drop p))).length (num3 (dgs (skp (b.drop p)))) r f g with
      | none => Sum.inl ((b.length - (skp (b.drop p)).length : Nat) : Int)
      | some q => if skp (b.drop p) = [] then Sum.inr q else runF b.length fuel ((skp (b.drop p)).drop (tLen (skp (b.drop p)))) q.1 q.2.1 q.2.2 := rfl
    have htl := tLen_le (skp (b.drop p))
    have hnn := num3_rng _ (dgs_dig (skp (b.drop p)))
    have hdl : (dgs (skp (b.drop p))).length ≤ 200 := by
      have := dgs_len (skp (b.drop p))
      have := hb.2.1
      omega
    generalize hS : skp (b.drop p) = s at *
    cases e : accF (tKind s) (dgs s).length (num3 (dgs s)) r f g with
    | none =>
      rw [e] at hrun
      rw [hrun]
      refine w_iload rfl rfl (w_iconst rfl ?_)
      refine w_icmp_gt (tgt := 91) rfl (by first | assumption | exact i32_0 | (unfold i32 at *; omega)) (by first | assumption | exact i32_0 | (unfold i32 at *; omega)) rfl (fun c37 => ?_) (fun c37 => ?_)
      · skip
        exfalso; omega
      · skip
        refine w_aload rfl rfl (w_getR rfl (by first | rfl | assumption) rfl (by first | rfl | assumption) ?_)
        refine w_callQ (Or.inr rfl) (hnx) (by omega) nof_19 rfl rfl rfl rfl (by first | rfl | (show cKB[_]? = _; assumption)) (fun r44 M44 hq44 => ?_)
        obtain ⟨rfl, w⟩ := hq44
        have hr1 : RdM r f g M44 := ⟨by rw [← hr.1]; exact funext fun k => w.2 3 k (by omega), cur_fr hr.2.1 (fun k => w.2 6 k (by omega)), cur_fr hr.2.2 (fun k => w.2 8 k (by omega))⟩
        have hac := e_accept hr1 hi hf hg ⟨hkr.1, hkr.2.1⟩ w.1.2.2.2.1 w.1.2.2.2.2 ⟨by omega, by omega⟩ hnn
        rw [e] at hac
        refine w_aload rfl rfl (w_aload rfl rfl (w_getR rfl (by first | rfl | assumption) rfl (by first | rfl | assumption) (w_getIV rfl (by first | rfl | assumption) (by first | exact Or.inl rfl | exact Or.inr rfl) (w.1.2.1) ?_)))
        refine w_callQ (Or.inr rfl) (hac) (by omega) nof_22 rfl rfl rfl rfl (by first | rfl | (show cKB[_]? = _; assumption)) (fun r55 M55 hq55 => ?_)
        obtain ⟨rfl, w2, w3⟩ := hq55
        have h4 : M55 1 4 = ((b.length - s.length : Nat) : Int) := by rw [w3 1 (by decide) (by decide)]; exact w.1.2.2.1
        refine w_if_ne (tgt := 69) rfl (by first | assumption | exact i32_0 | (unfold i32 at *; omega)) rfl (fun c => absurd c (by decide)) (fun _ => ?_)
        refine w_aload rfl rfl (w_getR rfl (by first | rfl | assumption) rfl (by first | rfl | assumption) (w_getIV rfl (by first | rfl | assumption) (by first | exact Or.inl rfl | exact Or.inr rfl) (h4) ?_))
        exact w_ireturn rfl ⟨by exact fun a k q1 q2 q3 => by rw [w3 a q1 q2, w.2 a k (by omega)]; exact hG a k q1 q2 q3, by exact ⟨rfl, w2⟩⟩
    | some t =>
      rw [e] at hrun
      have hok := accF_ok hi hf hg hnn e
      by_cases hnil : s = []
      · rw [hrun]
        show Wp _ _ _ _ _ _ (rdQ M0 (if s = [] then _ else _))
        rw [if_pos hnil]
        have hk257 : tKind s = 257 := by rw [hnil]; rfl
        refine w_iload rfl rfl (w_iconst rfl ?_)
        refine w_icmp_gt (tgt := 91) rfl (by first | assumption | exact i32_0 | (unfold i32 at *; omega)) (by first | assumption | exact i32_0 | (unfold i32 at *; omega)) rfl (fun c37 => ?_) (fun c37 => ?_)
        · skip
          exfalso; omega
        · skip
          refine w_aload rfl rfl (w_getR rfl (by first | rfl | assumption) rfl (by first | rfl | assumption) ?_)
          refine w_callQ (Or.inr rfl) (hnx) (by omega) nof_19 rfl rfl rfl rfl (by first | rfl | (show cKB[_]? = _; assumption)) (fun r44 M44 hq44 => ?_)
          obtain ⟨rfl, w⟩ := hq44
          have hr1 : RdM r f g M44 := ⟨by rw [← hr.1]; exact funext fun k => w.2 3 k (by omega), cur_fr hr.2.1 (fun k => w.2 6 k (by omega)), cur_fr hr.2.2 (fun k => w.2 8 k (by omega))⟩
          have hac := e_accept hr1 hi hf hg ⟨hkr.1, hkr.2.1⟩ w.1.2.2.2.1 w.1.2.2.2.2 ⟨by omega, by omega⟩ hnn
          rw [e] at hac
          refine w_aload rfl rfl (w_aload rfl rfl (w_getR rfl (by first | rfl | assumption) rfl (by first | rfl | assumption) (w_getIV rfl (by first | rfl | assumption) (by first | exact Or.inl rfl | exact Or.inr rfl) (w.1.2.1) ?_)))
          refine w_callQ (Or.inr rfl) (hac) (by omega) nof_22 rfl rfl rfl rfl (by first | rfl | (show cKB[_]? = _; assumption)) (fun r55 M55 hq55 => ?_)
          obtain ⟨rfl, w2, w3⟩ := hq55
          have h4 : M55 1 3 = tKind s := by rw [w3 1 (by decide) (by decide)]; exact w.1.2.1
          refine w_if_ne (tgt := 69) rfl (by first | assumption | exact i32_0 | (unfold i32 at *; omega)) rfl (fun _ => ?_) (fun c => absurd c (by decide))
          refine w_aload rfl rfl (w_getR rfl (by first | rfl | assumption) rfl (by first | rfl | assumption) (w_getIV rfl (by first | rfl | assumption) (by first | exact Or.inl rfl | exact Or.inr rfl) (h4) (w_iconst rfl ?_)))
          refine w_icmp_ne (tgt := 85) rfl (by first | assumption | exact i32_0 | (unfold i32 at *; omega)) (by first | assumption | exact i32_0 | (unfold i32 at *; omega)) rfl (fun c79 => ?_) (fun c79 => ?_)
          · skip
            exfalso; omega
          · skip
            refine w_iconst rfl ?_
            exact w_ireturn rfl ⟨by exact fun a k q1 q2 q3 => by rw [w3 a q1 q2, w.2 a k (by omega)]; exact hG a k q1 q2 q3, by exact ⟨rfl, w2, hok⟩⟩
      · rw [hrun]
        show Wp _ _ _ _ _ _ (rdQ M0 (if s = [] then _ else _))
        rw [if_neg hnil]
        have hk256 : tKind s ≤ 256 := hkr.2.2 hnil
        have hdr : s.drop (tLen s) = b.drop (b.length - s.length + tLen s) := by
          have hq2 : b.length - s.length = q := by omega
          rw [hq2, hs, List.drop_drop]
        rw [hdr]
        have hgo : ∀ N : mM, RdM t.1 t.2.1 t.2.2 N → TxR b N → N 1 2 = ((b.length - s.length + tLen s : Nat) : Int) → RdG M0 N → Wp mc_16 D 33 [vR 3, vI ((n : Int) + 1)] [] N (rdQ M0 (runF b.length fuel (b.drop (b.length - s.length + tLen s)) t.1 t.2.1 t.2.2)) := fun N w1 w2 w3 w4 => ih (n + 1) _ N t.1 t.2.1 t.2.2 (by omega) w3 (by omega) w2 w1 hok.1 hok.2.1 hok.2.2 w4
        refine w_iload rfl rfl (w_iconst rfl ?_)
        refine w_icmp_gt (tgt := 91) rfl (by first | assumption | exact i32_0 | (unfold i32 at *; omega)) (by first | assumption | exact i32_0 | (unfold i32 at *; omega)) rfl (fun c37 => ?_) (fun c37 => ?_)
        · skip
          exfalso; omega
        · skip
          refine w_aload rfl rfl (w_getR rfl (by first | rfl | assumption) rfl (by first | rfl | assumption) ?_)
          refine w_callQ (Or.inr rfl) (hnx) (by omega) nof_19 rfl rfl rfl rfl (by first | rfl | (show cKB[_]? = _; assumption)) (fun r44 M44 hq44 => ?_)
          obtain ⟨rfl, w⟩ := hq44
          have hr1 : RdM r f g M44 := ⟨by rw [← hr.1]; exact funext fun k => w.2 3 k (by omega), cur_fr hr.2.1 (fun k => w.2 6 k (by omega)), cur_fr hr.2.2 (fun k => w.2 8 k (by omega))⟩
          have hac := e_accept hr1 hi hf hg ⟨hkr.1, hkr.2.1⟩ w.1.2.2.2.1 w.1.2.2.2.2 ⟨by omega, by omega⟩ hnn
          rw [e] at hac
          refine w_aload rfl rfl (w_aload rfl rfl (w_getR rfl (by first | rfl | assumption) rfl (by first | rfl | assumption) (w_getIV rfl (by first | rfl | assumption) (by first | exact Or.inl rfl | exact Or.inr rfl) (w.1.2.1) ?_)))
          refine w_callQ (Or.inr rfl) (hac) (by omega) nof_22 rfl rfl rfl rfl (by first | rfl | (show cKB[_]? = _; assumption)) (fun r55 M55 hq55 => ?_)
          obtain ⟨rfl, w2, w3⟩ := hq55
          have h4 : M55 1 3 = tKind s := by rw [w3 1 (by decide) (by decide)]; exact w.1.2.1
          refine w_if_ne (tgt := 69) rfl (by first | assumption | exact i32_0 | (unfold i32 at *; omega)) rfl (fun _ => ?_) (fun c => absurd c (by decide))
          refine w_aload rfl rfl (w_getR rfl (by first | rfl | assumption) rfl (by first | rfl | assumption) (w_getIV rfl (by first | rfl | assumption) (by first | exact Or.inl rfl | exact Or.inr rfl) (h4) (w_iconst rfl ?_)))
          refine w_icmp_ne (tgt := 85) rfl (by first | assumption | exact i32_0 | (unfold i32 at *; omega)) (by first | assumption | exact i32_0 | (unfold i32 at *; omega)) rfl (fun c79 => ?_) (fun c79 => ?_)
          · skip
            refine w_iinc (ls2 := [_, _]) rfl rfl rfl (w_goto (tgt := 33) rfl rfl ?_)
            exact hgo M55 w2 (TxR_fr hb (by rw [w3 1 (by decide) (by decide), w.2 1 1 (by omega)]) (fun k => by rw [w3 2 (by decide) (by decide), w.2 2 k (by omega)])) (by rw [w3 1 (by decide) (by decide)]; exact w.1.1) (fun a k q1 q2 q3 => by rw [w3 a q1 q2, w.2 a k (by omega)]; exact hG a k q1 q2 q3)
          · skip
            exfalso; omega
theorem e_read {b : List Int} {M : mM} {r : Nat → Int} {f g : Cv} (hb : TxR b M) (hr : RdM r f g M) (h6 : r 6 = 0 ∨ r 6 = 1) (hf : Cok 999 f) (hg : Cok 999 g) : EQ 6 16 [vR 3] M (rdQ M (runF b.length 201 b (rd0 r) f g)) := by
  refine q_in (ls := [vR 3, vN]) mq_16 (ml_16 rfl) rfl fun D hD => ?_
  have hM : upI (upI (upI (upI (upI M 1 2 0) 3 1 0) 3 3 0) 3 4 0) 3 5 0 = upO (upI M 1 2 0) 3 (sR (sR (sR (sR r 1 0) 3 0) 4 0) 5 0) := by
    have h0 : upI M 1 2 0 = upO (upI M 1 2 0) 3 r := upO_self ((upI_ne M 1 2 0 (by decide)).trans hr.1)
    rw [h0, upI_upO, upI_upO, upI_upO, upI_upO]
    exact congrArg (fun N => upO N 3 _) h0
  have hbt := e_beginTerm (upI M 1 2 0) (sR (sR (sR (sR r 1 0) 3 0) 4 0) 5 0)
  rw [← hM] at hbt
  have hu := (RdM_upO (M := upI M 1 2 0) (rd0 r) (r := r) (f := f) (g := g) ⟨(upI_ne M 1 2 0 (by decide)).trans hr.1, cur_fr hr.2.1 (fun k => by rw [upI_ne _ _ _ _ (by decide)]), cur_fr hr.2.2 (fun k => by rw [upI_ne _ _ _ _ (by decide)])⟩).1
  have hgo := e_readLoop (b := b) (M0 := M) (D := D) (by omega) 201 0 0 (upO (upI M 1 2 0) 3 (rd0 r)) (rd0 r) f g rfl (by rw [upO_ne _ _ _ (by decide)]; exact upI_same _ _ _ _) (Nat.zero_le _) (TxR_fr hb (by rw [upO_ne _ _ _ (by decide)]; exact if_neg (by omega)) (fun k => by rw [upO_ne _ _ _ (by decide)]; exact if_neg (by omega))) hu (rd0_ok h6) hf hg (fun a k q1 q2 q3 => by rw [upO_ne _ _ _ q1]; exact if_neg (by omega))
  refine w_aload rfl rfl (w_getR rfl (by first | rfl | assumption) rfl (by first | rfl | assumption) ?_)
  refine w_call (Or.inr rfl) (e_rewind M) (by omega) nof_17 rfl rfl rfl rfl (by first | rfl | (show cKB[_]? = _; assumption)) rfl ?_
  refine w_aload rfl rfl (w_iconst rfl (w_putI rfl (by first | rfl | assumption) rfl (w_aload rfl rfl (w_iconst rfl (w_putZ rfl (by first | rfl | assumption) rfl (by first | exact Or.inl rfl | exact Or.inr rfl | omega | assumption) (w_aload rfl rfl (w_iconst rfl ?_)))))))
  refine w_putZ rfl (by first | rfl | assumption) rfl (by first | exact Or.inl rfl | exact Or.inr rfl | omega | assumption) (w_aload rfl rfl (w_iconst rfl (w_putI rfl (by first | rfl | assumption) rfl (w_aload rfl rfl ?_))))
  refine w_call (Or.inr rfl) (hbt) (by omega) nof_18 rfl rfl rfl rfl (by first | rfl | (show cKB[_]? = _; assumption)) rfl ?_
  refine w_iconst rfl (w_istore (ls2 := [_, _]) rfl rfl rfl ?_)
  exact hgo
