/-! ===== clauses ===== -/
theorem upI_row (M : mM) (a k : Nat) (v : Int) : upI M a k v a = sR (M a) k v := by
  funext j
  unfold upI sR
  by_cases h : j = k
  · rw [if_pos ⟨rfl, h⟩, if_pos h]
  · rw [if_neg (fun q => h q.2), if_neg h]
theorem upI_ne (M : mM) (a k : Nat) (v : Int) {b : Nat} (h : b ≠ a) : upI M a k v b = M b := by
  funext j
  exact if_neg (fun q => h q.1)
def RdM (r : Nat → Int) (f g : Cv) (M : mM) : Prop := M 3 = r ∧ cur 5 f M ∧ cur 7 g M
def RdF (M M1 : mM) : Prop := ∀ a, a ≠ 3 → (a < 5 ∨ 8 < a) → M1 a = M a
def lowC (f : Cv) (p : Nat) (v : Int) : Cv := match f p with
  | none => upF f p (some v)
  | some c => if v < c then upF f p (some v) else f
theorem lowC_ok {f : Cv} {p : Nat} {v : Int} (hf : Cok 999 f) (hp : p < 21 ∧ p / 5 + p % 5 ≤ 4) (hv : -999 ≤ v ∧ v ≤ 999) : Cok 999 (lowC f p v) := by
  have hu : Cok 999 (upF f p (some v)) := fun k c hk => by
    unfold upF at hk
    split at hk
    · next q => cases hk; exact ⟨by omega, by subst q; exact hp.2, hv.1, hv.2⟩
    · exact hf k c hk
  unfold lowC
  split
  · exact hu
  · split
    · exact hu
    · exact hf
theorem e_lowerC {t p : Nat} {f : Cv} {M : mM} {v : Int} (ht : isT t) (hc : cur t f M) (hf : Cok 999 f) (hv : -999 ≤ v ∧ v ≤ 999) (hp : p < 21) : EQ 3 29 [vR t, vI p, vI v] M (fun a M1 => a = none ∧ cur t (lowC f p v) M1 ∧ ∀ b, b ≠ t → b ≠ t + 1 → M1 b = M b) := by
  have hi : i32 v := by unfold i32; omega
  have hw := Tw_set (t := t) (p := p) (o := some v) hc
  have hset : cur t (upF f p (some v)) (setM t p v M) ∧ ∀ b, b ≠ t → b ≠ t + 1 → setM t p v M b = M b := ⟨hw.1, fun b q1 q2 => funext fun k => hw.2.2.2 b q1 q2 k⟩
  cases e : f p with
  | none =>
    rw [show lowC f p v = upF f p (some v) by unfold lowC; rw [e]]
    exact (e_lower_set ht hc (by decide) hf hi hp (fun c q => by rw [e] at q; cases q)).q ⟨rfl, hset⟩
  | some c =>
    by_cases hl : v < c
    · rw [show lowC f p v = upF f p (some v) by unfold lowC; rw [e]; exact if_pos hl]
      exact (e_lower_set ht hc (by decide) hf hi hp (fun d q => by rw [e] at q; cases q; exact hl)).q ⟨rfl, hset⟩
    · rw [show lowC f p v = f by unfold lowC; rw [e]; exact if_neg hl]
      exact (e_lower_not ht hc (by decide) hf hi e (by omega)).q ⟨rfl, hc, fun _ _ _ => rfl⟩
theorem isT_5 : isT 5 := ⟨rfl, rfl, rfl⟩
theorem isT_7 : isT 7 := ⟨rfl, rfl, rfl⟩
/-- at the beginning of a clause -/
def rdCl (nn : Int) (r : Nat → Int) : Nat → Int := sR (sR (sR (sR (sR r 6 nn) 3 (if r 3 = 0 ∧ nn ≠ 0 then 0 else 1)) 4 (if r 4 = 0 ∧ nn ≠ 1 then 0 else 1)) 5 (r 5 + 1)) 1 1
theorem e_beginClause0 {M : mM} {r : Nat → Int} {kind dd nn : Int} (hr : M 3 = r) (hk : 0 ≤ kind ∧ kind ≤ 257) (h5 : M 1 5 = dd) (h6 : M 1 6 = nn) (hdd : 0 ≤ dd ∧ dd ≤ 200) (hnn : 0 ≤ nn ∧ nn ≤ 999) (h : ¬ (kind = 256 ∧ dd = 1 ∧ nn ≤ 1)) : E 3 23 [vR 3, vI kind] M (some (vI 0)) M := by
  refine e_in (ls := [vR 3, vI kind]) mq_23 (ml_23 rfl) rfl fun D hD => ?_
  refine w_iload rfl rfl (w_iconst rfl ?_)
  refine w_icmp_ne (tgt := 29) rfl (by first | assumption | exact i32_0 | (unfold i32 at *; omega)) (by first | assumption | exact i32_0 | (unfold i32 at *; omega)) rfl (fun c4 => ?_) (fun c4 => ?_)
  · skip
    refine w_iconst rfl ?_
    exact w_zreturn rfl (by first | exact Or.inl rfl | exact Or.inr rfl | omega | assumption) ⟨by first | rfl | (congr 2; omega), by rfl⟩
  · skip
    refine w_aload rfl rfl (w_getR rfl (by first | rfl | assumption) rfl (by first | rfl | assumption) (w_getIV rfl (by first | rfl | assumption) (by first | exact Or.inl rfl | exact Or.inr rfl) (h5) (w_iconst rfl ?_)))
    refine w_icmp_ne (tgt := 29) rfl (by first | assumption | exact i32_0 | (unfold i32 at *; omega)) (by first | assumption | exact i32_0 | (unfold i32 at *; omega)) rfl (fun c15 => ?_) (fun c15 => ?_)
    · skip
      refine w_iconst rfl ?_
      exact w_zreturn rfl (by first | exact Or.inl rfl | exact Or.inr rfl | omega | assumption) ⟨by first | rfl | (congr 2; omega), by rfl⟩
    · skip
      refine w_aload rfl rfl (w_getR rfl (by first | rfl | assumption) rfl (by first | rfl | assumption) (w_getIV rfl (by first | rfl | assumption) (by first | exact Or.inl rfl | exact Or.inr rfl) (h6) (w_iconst rfl ?_)))
      refine w_icmp_le (tgt := 31) rfl (by first | assumption | exact i32_0 | (unfold i32 at *; omega)) (by first | assumption | exact i32_0 | (unfold i32 at *; omega)) rfl (fun c26 => ?_) (fun c26 => ?_)
      · skip
        exfalso; omega
      · skip
        refine w_iconst rfl ?_
        exact w_zreturn rfl (by first | exact Or.inl rfl | exact Or.inr rfl | omega | assumption) ⟨by first | rfl | (congr 2; omega), by rfl⟩

theorem e_bc_000 {M : mM} {r : Nat → Int} {f g : Cv} (hr : RdM r f g M) (h6 : M 1 6 = 0) (h5 : M 1 5 = 1) (h3 : r 3 = 0) (h4 : r 4 = 0) : EQ 3 23 [vR 3, vI 256] M (fun q M1 => q = some (vI 1) ∧ RdM (rdCl 0 r) (fun _ => none) g M1 ∧ RdF M M1) := by
  obtain ⟨hr1, hr2, hr3⟩ := hr
  refine q_in (ls := [vR 3, vI 256]) mq_23 (ml_23 rfl) rfl fun D hD => ?_
  have hcl : rdCl 0 r = sR (sR (sR (sR (sR r 6 0) 3 1) 4 0) 5 (r 5 + 1)) 1 1 := by
    unfold rdCl
    rw [if_neg (by rw [h3]; decide), if_pos (by rw [h4]; decide)]
  have k3 : upI M 3 6 0 3 3 = 0 := by rw [upI_row, hr1]; exact h3
  have k6 : upI M 3 6 0 3 6 = 0 := upI_same _ _ _ _
  have k4 : upI (upI M 3 6 0) 3 3 1 3 4 = 0 := by rw [upI_row, upI_row, hr1]; exact h4
  have k6b : upI (upI M 3 6 0) 3 3 1 3 6 = 0 := by rw [upI_row, upI_row]; rfl
  have k6c : upI (upI (upI M 3 6 0) 3 3 1) 3 4 0 3 6 = 0 := by rw [upI_row, upI_row, upI_row]; rfl
  generalize hN : upI (upI (upI M 3 6 0) 3 3 1) 3 4 0 = N at k6c
  have hNr : N 3 = sR (sR (sR r 6 0) 3 1) 4 0 := by rw [← hN, upI_row, upI_row, upI_row, hr1]
  have hNn : ∀ c, c ≠ 3 → N c = M c := fun c hc => by rw [← hN, upI_ne _ _ _ _ hc, upI_ne _ _ _ _ hc, upI_ne _ _ _ _ hc]
  have hfin : ∀ M1 : mM, Tw 5 (fun _ => none) 1 N M1 → RdM (rdCl 0 r) (fun _ => none) g (upI (upI M1 3 5 (r 5 + 1)) 3 1 1) ∧ RdF M (upI (upI M1 3 5 (r 5 + 1)) 3 1 1) := fun M1 w => by
    have hw : ∀ c, c ≠ 5 → c ≠ 5+1 → M1 c = N c := fun c q1 q2 => funext fun k => w.2.2.2 c q1 q2 k
    refine ⟨⟨?_, ?_, ?_⟩, fun c q1 q2 => ?_⟩
    · rw [upI_row, upI_row, hw 3 (by decide) (by decide), hNr, hcl]
    · exact cur_fr w.1 (fun k => by rw [upI_ne _ _ _ _ (by decide), upI_ne _ _ _ _ (by decide)])
    · exact cur_fr hr3 (fun k => by rw [upI_ne _ _ _ _ (by decide), upI_ne _ _ _ _ (by decide), hw _ (by decide) (by decide), hNn _ (by decide)])
    · rw [upI_ne _ _ _ _ q1, upI_ne _ _ _ _ q1, hw c (by omega) (by omega), hNn c q1]
  refine w_iload rfl rfl (w_iconst rfl ?_)
  refine w_icmp_ne (tgt := 29) rfl (by first | assumption | exact i32_0 | (unfold i32 at *; omega)) (by first | assumption | exact i32_0 | (unfold i32 at *; omega)) rfl (fun c4 => ?_) (fun c4 => ?_)
  · skip
    exfalso; omega
  · skip
    refine w_aload rfl rfl (w_getR rfl (by first | rfl | assumption) rfl (by first | rfl | assumption) (w_getIV rfl (by first | rfl | assumption) (by first | exact Or.inl rfl | exact Or.inr rfl) (h5) (w_iconst rfl ?_)))
    refine w_icmp_ne (tgt := 29) rfl (by first | assumption | exact i32_0 | (unfold i32 at *; omega)) (by first | assumption | exact i32_0 | (unfold i32 at *; omega)) rfl (fun c15 => ?_) (fun c15 => ?_)
    · skip
      exfalso; omega
    · skip
      refine w_aload rfl rfl (w_getR rfl (by first | rfl | assumption) rfl (by first | rfl | assumption) (w_getIV rfl (by first | rfl | assumption) (by first | exact Or.inl rfl | exact Or.inr rfl) (h6) (w_iconst rfl ?_)))
      refine w_icmp_le (tgt := 31) rfl (by first | assumption | exact i32_0 | (unfold i32 at *; omega)) (by first | assumption | exact i32_0 | (unfold i32 at *; omega)) rfl (fun c26 => ?_) (fun c26 => ?_)
      · skip
        refine w_aload rfl rfl (w_aload rfl rfl (w_getR rfl (by first | rfl | assumption) rfl (by first | rfl | assumption) (w_getIV rfl (by first | rfl | assumption) (by first | exact Or.inl rfl | exact Or.inr rfl) (h6) (w_putI rfl (by first | rfl | assumption) rfl (w_aload rfl rfl (w_aload rfl rfl (w_getIV rfl (by first | rfl | assumption) (by first | exact Or.inl rfl | exact Or.inr rfl) (k3) ?_)))))))
        refine w_if_ne (tgt := 57) rfl (by first | assumption | exact i32_0 | (unfold i32 at *; omega)) rfl (fun c => absurd c (by decide)) (fun _ => ?_)
        refine w_aload rfl rfl (w_getIV rfl (by first | rfl | assumption) (by first | exact Or.inl rfl | exact Or.inr rfl) (k6) ?_)
        refine w_if_ne (tgt := 61) rfl (by first | assumption | exact i32_0 | (unfold i32 at *; omega)) rfl (fun c => absurd c (by decide)) (fun _ => ?_)
        refine w_iconst rfl (w_goto (tgt := 62) rfl rfl (w_putZ rfl (by first | rfl | assumption) rfl (by first | exact Or.inl rfl | exact Or.inr rfl | omega | assumption) (w_aload rfl rfl (w_aload rfl rfl (w_getIV rfl (by first | rfl | assumption) (by first | exact Or.inl rfl | exact Or.inr rfl) (k4) ?_)))))
        refine w_if_ne (tgt := 81) rfl (by first | assumption | exact i32_0 | (unfold i32 at *; omega)) rfl (fun c => absurd c (by decide)) (fun _ => ?_)
        refine w_aload rfl rfl (w_getIV rfl (by first | rfl | assumption) (by first | exact Or.inl rfl | exact Or.inr rfl) (k6b) (w_iconst rfl ?_))
        refine w_icmp_ne (tgt := 85) rfl (by first | assumption | exact i32_0 | (unfold i32 at *; omega)) (by first | assumption | exact i32_0 | (unfold i32 at *; omega)) rfl (fun c78 => ?_) (fun c78 => ?_)
        · skip
          refine w_iconst rfl (w_putZ rfl (by first | rfl | assumption) rfl (by first | exact Or.inl rfl | exact Or.inr rfl | omega | assumption) ?_)
          rw [hN]
          refine w_aload rfl rfl (w_getR rfl (by first | rfl | assumption) rfl (by first | rfl | assumption) (w_aload rfl rfl (w_getIV rfl (by first | rfl | assumption) (by first | exact Or.inl rfl | exact Or.inr rfl) (k6c) ?_)))
          refine w_call (Or.inr rfl) (e_of_first N isP_4) (by omega) nof_24 rfl rfl rfl rfl (by first | rfl | (show cKB[_]? = _; assumption)) rfl ?_
          refine w_callQ (Or.inr rfl) (e_clear isT_5) (by omega) nof_5 rfl rfl rfl rfl (by first | rfl | (show cKB[_]? = _; assumption)) (fun r100 M100 hq100 => ?_)
          obtain ⟨rfl, w⟩ := hq100
          have e105 : M100 3 5 = r 5 := by rw [w.2.2.2 3 (by decide) (by decide), hNr]; rfl
          refine w_aload rfl rfl (w_dup rfl rfl (w_getIV rfl (by first | rfl | assumption) (by first | exact Or.inl rfl | exact Or.inr rfl) (e105) (w_iconst rfl (w_iadd rfl (w_putI rfl (by first | rfl | assumption) rfl (w_aload rfl rfl (w_iconst rfl ?_)))))))
          refine w_putI rfl (by first | rfl | assumption) rfl (w_iconst rfl ?_)
          exact w_zreturn rfl (by first | exact Or.inl rfl | exact Or.inr rfl | omega | assumption) ⟨by first | rfl | (congr 2; omega), by exact hfin _ w⟩
        · skip
          exfalso; omega
      · skip
        exfalso; omega
theorem e_bc_001 {M : mM} {r : Nat → Int} {f g : Cv} (hr : RdM r f g M) (h6 : M 1 6 = 0) (h5 : M 1 5 = 1) (h3 : r 3 = 0) (h4 : r 4 = 1) : EQ 3 23 [vR 3, vI 256] M (fun q M1 => q = some (vI 1) ∧ RdM (rdCl 0 r) (fun _ => none) g M1 ∧ RdF M M1) := by
  obtain ⟨hr1, hr2, hr3⟩ := hr
  refine q_in (ls := [vR 3, vI 256]) mq_23 (ml_23 rfl) rfl fun D hD => ?_
  have hcl : rdCl 0 r = sR (sR (sR (sR (sR r 6 0) 3 1) 4 1) 5 (r 5 + 1)) 1 1 := by
    unfold rdCl
    rw [if_neg (by rw [h3]; decide), if_neg (by rw [h4]; decide)]
  have k3 : upI M 3 6 0 3 3 = 0 := by rw [upI_row, hr1]; exact h3
  have k6 : upI M 3 6 0 3 6 = 0 := upI_same _ _ _ _
  have k4 : upI (upI M 3 6 0) 3 3 1 3 4 = 1 := by rw [upI_row, upI_row, hr1]; exact h4
  have k6b : upI (upI M 3 6 0) 3 3 1 3 6 = 0 := by rw [upI_row, upI_row]; rfl
  have k6c : upI (upI (upI M 3 6 0) 3 3 1) 3 4 1 3 6 = 0 := by rw [upI_row, upI_row, upI_row]; rfl
  generalize hN : upI (upI (upI M 3 6 0) 3 3 1) 3 4 1 = N at k6c
  have hNr : N 3 = sR (sR (sR r 6 0) 3 1) 4 1 := by rw [← hN, upI_row, upI_row, upI_row, hr1]
  have hNn : ∀ c, c ≠ 3 → N c = M c := fun c hc => by rw [← hN, upI_ne _ _ _ _ hc, upI_ne _ _ _ _ hc, upI_ne _ _ _ _ hc]
  have hfin : ∀ M1 : mM, Tw 5 (fun _ => none) 1 N M1 → RdM (rdCl 0 r) (fun _ => none) g (upI (upI M1 3 5 (r 5 + 1)) 3 1 1) ∧ RdF M (upI (upI M1 3 5 (r 5 + 1)) 3 1 1) := fun M1 w => by
    have hw : ∀ c, c ≠ 5 → c ≠ 5+1 → M1 c = N c := fun c q1 q2 => funext fun k => w.2.2.2 c q1 q2 k
    refine ⟨⟨?_, ?_, ?_⟩, fun c q1 q2 => ?_⟩
    · rw [upI_row, upI_row, hw 3 (by decide) (by decide), hNr, hcl]
    · exact cur_fr w.1 (fun k => by rw [upI_ne _ _ _ _ (by decide), upI_ne _ _ _ _ (by decide)])
    · exact cur_fr hr3 (fun k => by rw [upI_ne _ _ _ _ (by decide), upI_ne _ _ _ _ (by decide), hw _ (by decide) (by decide), hNn _ (by decide)])
    · rw [upI_ne _ _ _ _ q1, upI_ne _ _ _ _ q1, hw c (by omega) (by omega), hNn c q1]
  refine w_iload rfl rfl (w_iconst rfl ?_)
  refine w_icmp_ne (tgt := 29) rfl (by first | assumption | exact i32_0 | (unfold i32 at *; omega)) (by first | assumption | exact i32_0 | (unfold i32 at *; omega)) rfl (fun c4 => ?_) (fun c4 => ?_)
  · skip
    exfalso; omega
  · skip
    refine w_aload rfl rfl (w_getR rfl (by first | rfl | assumption) rfl (by first | rfl | assumption) (w_getIV rfl (by first | rfl | assumption) (by first | exact Or.inl rfl | exact Or.inr rfl) (h5) (w_iconst rfl ?_)))
    refine w_icmp_ne (tgt := 29) rfl (by first | assumption | exact i32_0 | (unfold i32 at *; omega)) (by first | assumption | exact i32_0 | (unfold i32 at *; omega)) rfl (fun c15 => ?_) (fun c15 => ?_)
    · skip
      exfalso; omega
    · skip
      refine w_aload rfl rfl (w_getR rfl (by first | rfl | assumption) rfl (by first | rfl | assumption) (w_getIV rfl (by first | rfl | assumption) (by first | exact Or.inl rfl | exact Or.inr rfl) (h6) (w_iconst rfl ?_)))
      refine w_icmp_le (tgt := 31) rfl (by first | assumption | exact i32_0 | (unfold i32 at *; omega)) (by first | assumption | exact i32_0 | (unfold i32 at *; omega)) rfl (fun c26 => ?_) (fun c26 => ?_)
      · skip
        refine w_aload rfl rfl (w_aload rfl rfl (w_getR rfl (by first | rfl | assumption) rfl (by first | rfl | assumption) (w_getIV rfl (by first | rfl | assumption) (by first | exact Or.inl rfl | exact Or.inr rfl) (h6) (w_putI rfl (by first | rfl | assumption) rfl (w_aload rfl rfl (w_aload rfl rfl (w_getIV rfl (by first | rfl | assumption) (by first | exact Or.inl rfl | exact Or.inr rfl) (k3) ?_)))))))
        refine w_if_ne (tgt := 57) rfl (by first | assumption | exact i32_0 | (unfold i32 at *; omega)) rfl (fun c => absurd c (by decide)) (fun _ => ?_)
        refine w_aload rfl rfl (w_getIV rfl (by first | rfl | assumption) (by first | exact Or.inl rfl | exact Or.inr rfl) (k6) ?_)
        refine w_if_ne (tgt := 61) rfl (by first | assumption | exact i32_0 | (unfold i32 at *; omega)) rfl (fun c => absurd c (by decide)) (fun _ => ?_)
        refine w_iconst rfl (w_goto (tgt := 62) rfl rfl (w_putZ rfl (by first | rfl | assumption) rfl (by first | exact Or.inl rfl | exact Or.inr rfl | omega | assumption) (w_aload rfl rfl (w_aload rfl rfl (w_getIV rfl (by first | rfl | assumption) (by first | exact Or.inl rfl | exact Or.inr rfl) (k4) ?_)))))
        refine w_if_ne (tgt := 81) rfl (by first | assumption | exact i32_0 | (unfold i32 at *; omega)) rfl (fun _ => ?_) (fun c => absurd c (by decide))
        refine w_iconst rfl (w_goto (tgt := 86) rfl rfl (w_putZ rfl (by first | rfl | assumption) rfl (by first | exact Or.inl rfl | exact Or.inr rfl | omega | assumption) ?_))
        rw [hN]
        refine w_aload rfl rfl (w_getR rfl (by first | rfl | assumption) rfl (by first | rfl | assumption) (w_aload rfl rfl (w_getIV rfl (by first | rfl | assumption) (by first | exact Or.inl rfl | exact Or.inr rfl) (k6c) ?_)))
        refine w_call (Or.inr rfl) (e_of_first N isP_4) (by omega) nof_24 rfl rfl rfl rfl (by first | rfl | (show cKB[_]? = _; assumption)) rfl ?_
        refine w_callQ (Or.inr rfl) (e_clear isT_5) (by omega) nof_5 rfl rfl rfl rfl (by first | rfl | (show cKB[_]? = _; assumption)) (fun r100 M100 hq100 => ?_)
        obtain ⟨rfl, w⟩ := hq100
        have e105 : M100 3 5 = r 5 := by rw [w.2.2.2 3 (by decide) (by decide), hNr]; rfl
        refine w_aload rfl rfl (w_dup rfl rfl (w_getIV rfl (by first | rfl | assumption) (by first | exact Or.inl rfl | exact Or.inr rfl) (e105) (w_iconst rfl (w_iadd rfl (w_putI rfl (by first | rfl | assumption) rfl (w_aload rfl rfl (w_iconst rfl ?_)))))))
        refine w_putI rfl (by first | rfl | assumption) rfl (w_iconst rfl ?_)
        exact w_zreturn rfl (by first | exact Or.inl rfl | exact Or.inr rfl | omega | assumption) ⟨by first | rfl | (congr 2; omega), by exact hfin _ w⟩
      · skip
        exfalso; omega
theorem e_bc_010 {M : mM} {r : Nat → Int} {f g : Cv} (hr : RdM r f g M) (h6 : M 1 6 = 0) (h5 : M 1 5 = 1) (h3 : r 3 = 1) (h4 : r 4 = 0) : EQ 3 23 [vR 3, vI 256] M (fun q M1 => q = some (vI 1) ∧ RdM (rdCl 0 r) (fun _ => none) g M1 ∧ RdF M M1) := by
  obtain ⟨hr1, hr2, hr3⟩ := hr
  refine q_in (ls := [vR 3, vI 256]) mq_23 (ml_23 rfl) rfl fun D hD => ?_
  have hcl : rdCl 0 r = sR (sR (sR (sR (sR r 6 0) 3 1) 4 0) 5 (r 5 + 1)) 1 1 := by
    unfold rdCl
    rw [if_neg (by rw [h3]; decide), if_pos (by rw [h4]; decide)]
  have k3 : upI M 3 6 0 3 3 = 1 := by rw [upI_row, hr1]; exact h3
  have k6 : upI M 3 6 0 3 6 = 0 := upI_same _ _ _ _
  have k4 : upI (upI M 3 6 0) 3 3 1 3 4 = 0 := by rw [upI_row, upI_row, hr1]; exact h4
  have k6b : upI (upI M 3 6 0) 3 3 1 3 6 = 0 := by rw [upI_row, upI_row]; rfl
  have k6c : upI (upI (upI M 3 6 0) 3 3 1) 3 4 0 3 6 = 0 := by rw [upI_row, upI_row, upI_row]; rfl
  generalize hN : upI (upI (upI M 3 6 0) 3 3 1) 3 4 0 = N at k6c
  have hNr : N 3 = sR (sR (sR r 6 0) 3 1) 4 0 := by rw [← hN, upI_row, upI_row, upI_row, hr1]
  have hNn : ∀ c, c ≠ 3 → N c = M c := fun c hc => by rw [← hN, upI_ne _ _ _ _ hc, upI_ne _ _ _ _ hc, upI_ne _ _ _ _ hc]
  have hfin : ∀ M1 : mM, Tw 5 (fun _ => none) 1 N M1 → RdM (rdCl 0 r) (fun _ => none) g (upI (upI M1 3 5 (r 5 + 1)) 3 1 1) ∧ RdF M (upI (upI M1 3 5 (r 5 + 1)) 3 1 1) := fun M1 w => by
    have hw : ∀ c, c ≠ 5 → c ≠ 5+1 → M1 c = N c := fun c q1 q2 => funext fun k => w.2.2.2 c q1 q2 k
    refine ⟨⟨?_, ?_, ?_⟩, fun c q1 q2 => ?_⟩
    · rw [upI_row, upI_row, hw 3 (by decide) (by decide), hNr, hcl]
    · exact cur_fr w.1 (fun k => by rw [upI_ne _ _ _ _ (by decide), upI_ne _ _ _ _ (by decide)])
    · exact cur_fr hr3 (fun k => by rw [upI_ne _ _ _ _ (by decide), upI_ne _ _ _ _ (by decide), hw _ (by decide) (by decide), hNn _ (by decide)])
    · rw [upI_ne _ _ _ _ q1, upI_ne _ _ _ _ q1, hw c (by omega) (by omega), hNn c q1]
  refine w_iload rfl rfl (w_iconst rfl ?_)
  refine w_icmp_ne (tgt := 29) rfl (by first | assumption | exact i32_0 | (unfold i32 at *; omega)) (by first | assumption | exact i32_0 | (unfold i32 at *; omega)) rfl (fun c4 => ?_) (fun c4 => ?_)
  · skip
    exfalso; omega
  · skip
    refine w_aload rfl rfl (w_getR rfl (by first | rfl | assumption) rfl (by first | rfl | assumption) (w_getIV rfl (by first | rfl | assumption) (by first | exact Or.inl rfl | exact Or.inr rfl) (h5) (w_iconst rfl ?_)))
    refine w_icmp_ne (tgt := 29) rfl (by first | assumption | exact i32_0 | (unfold i32 at *; omega)) (by first | assumption | exact i32_0 | (unfold i32 at *; omega)) rfl (fun c15 => ?_) (fun c15 => ?_)
    · skip
      exfalso; omega
    · skip
      refine w_aload rfl rfl (w_getR rfl (by first | rfl | assumption) rfl (by first | rfl | assumption) (w_getIV rfl (by first | rfl | assumption) (by first | exact Or.inl rfl | exact Or.inr rfl) (h6) (w_iconst rfl ?_)))
      refine w_icmp_le (tgt := 31) rfl (by first | assumption | exact i32_0 | (unfold i32 at *; omega)) (by first | assumption | exact i32_0 | (unfold i32 at *; omega)) rfl (fun c26 => ?_) (fun c26 => ?_)
      · skip
        refine w_aload rfl rfl (w_aload rfl rfl (w_getR rfl (by first | rfl | assumption) rfl (by first | rfl | assumption) (w_getIV rfl (by first | rfl | assumption) (by first | exact Or.inl rfl | exact Or.inr rfl) (h6) (w_putI rfl (by first | rfl | assumption) rfl (w_aload rfl rfl (w_aload rfl rfl (w_getIV rfl (by first | rfl | assumption) (by first | exact Or.inl rfl | exact Or.inr rfl) (k3) ?_)))))))
        refine w_if_ne (tgt := 57) rfl (by first | assumption | exact i32_0 | (unfold i32 at *; omega)) rfl (fun _ => ?_) (fun c => absurd c (by decide))
        refine w_iconst rfl (w_goto (tgt := 62) rfl rfl (w_putZ rfl (by first | rfl | assumption) rfl (by first | exact Or.inl rfl | exact Or.inr rfl | omega | assumption) (w_aload rfl rfl (w_aload rfl rfl (w_getIV rfl (by first | rfl | assumption) (by first | exact Or.inl rfl | exact Or.inr rfl) (k4) ?_)))))
        refine w_if_ne (tgt := 81) rfl (by first | assumption | exact i32_0 | (unfold i32 at *; omega)) rfl (fun c => absurd c (by decide)) (fun _ => ?_)
        refine w_aload rfl rfl (w_getIV rfl (by first | rfl | assumption) (by first | exact Or.inl rfl | exact Or.inr rfl) (k6b) (w_iconst rfl ?_))
        refine w_icmp_ne (tgt := 85) rfl (by first | assumption | exact i32_0 | (unfold i32 at *; omega)) (by first | assumption | exact i32_0 | (unfold i32 at *; omega)) rfl (fun c78 => ?_) (fun c78 => ?_)
        · skip
          refine w_iconst rfl (w_putZ rfl (by first | rfl | assumption) rfl (by first | exact Or.inl rfl | exact Or.inr rfl | omega | assumption) ?_)
          rw [hN]
          refine w_aload rfl rfl (w_getR rfl (by first | rfl | assumption) rfl (by first | rfl | assumption) (w_aload rfl rfl (w_getIV rfl (by first | rfl | assumption) (by first | exact Or.inl rfl | exact Or.inr rfl) (k6c) ?_)))
          refine w_call (Or.inr rfl) (e_of_first N isP_4) (by omega) nof_24 rfl rfl rfl rfl (by first | rfl | (show cKB[_]? = _; assumption)) rfl ?_
          refine w_callQ (Or.inr rfl) (e_clear isT_5) (by omega) nof_5 rfl rfl rfl rfl (by first | rfl | (show cKB[_]? = _; assumption)) (fun r100 M100 hq100 => ?_)
          obtain ⟨rfl, w⟩ := hq100
          have e105 : M100 3 5 = r 5 := by rw [w.2.2.2 3 (by decide) (by decide), hNr]; rfl
          refine w_aload rfl rfl (w_dup rfl rfl (w_getIV rfl (by first | rfl | assumption) (by first | exact Or.inl rfl | exact Or.inr rfl) (e105) (w_iconst rfl (w_iadd rfl (w_putI rfl (by first | rfl | assumption) rfl (w_aload rfl rfl (w_iconst rfl ?_)))))))
          refine w_putI rfl (by first | rfl | assumption) rfl (w_iconst rfl ?_)
          exact w_zreturn rfl (by first | exact Or.inl rfl | exact Or.inr rfl | omega | assumption) ⟨by first | rfl | (congr 2; omega), by exact hfin _ w⟩
        · skip
          exfalso; omega
      · skip
        exfalso; omega
theorem e_bc_011 {M : mM} {r : Nat → Int} {f g : Cv} (hr : RdM r f g M) (h6 : M 1 6 = 0) (h5 : M 1 5 = 1) (h3 : r 3 = 1) (h4 : r 4 = 1) : EQ 3 23 [vR 3, vI 256] M (fun q M1 => q = some (vI 1) ∧ RdM (rdCl 0 r) (fun _ => none) g M1 ∧ RdF M M1) := by
  obtain ⟨hr1, hr2, hr3⟩ := hr
  refine q_in (ls := [vR 3, vI 256]) mq_23 (ml_23 rfl) rfl fun D hD => ?_
  have hcl : rdCl 0 r = sR (sR (sR (sR (sR r 6 0) 3 1) 4 1) 5 (r 5 + 1)) 1 1 := by
    unfold rdCl
    rw [if_neg (by rw [h3]; decide), if_neg (by rw [h4]; decide)]
  have k3 : upI M 3 6 0 3 3 = 1 := by rw [upI_row, hr1]; exact h3
  have k6 : upI M 3 6 0 3 6 = 0 := upI_same _ _ _ _
  have k4 : upI (upI M 3 6 0) 3 3 1 3 4 = 1 := by rw [upI_row, upI_row, hr1]; exact h4
  have k6b : upI (upI M 3 6 0) 3 3 1 3 6 = 0 := by rw [upI_row, upI_row]; rfl
  have k6c : upI (upI (upI M 3 6 0) 3 3 1) 3 4 1 3 6 = 0 := by rw [upI_row, upI_row, upI_row]; rfl
  generalize hN : upI (upI (upI M 3 6 0) 3 3 1) 3 4 1 = N at k6c
  have hNr : N 3 = sR (sR (sR r 6 0) 3 1) 4 1 := by rw [← hN, upI_row, upI_row, upI_row, hr1]
  have hNn : ∀ c, c ≠ 3 → N c = M c := fun c hc => by rw [← hN, upI_ne _ _ _ _ hc, upI_ne _ _ _ _ hc, upI_ne _ _ _ _ hc]
  have hfin : ∀ M1 : mM, Tw 5 (fun _ => none) 1 N M1 → RdM (rdCl 0 r) (fun _ => none) g (upI (upI M1 3 5 (r 5 + 1)) 3 1 1) ∧ RdF M (upI (upI M1 3 5 (r 5 + 1)) 3 1 1) := fun M1 w => by
    have hw : ∀ c, c ≠ 5 → c ≠ 5+1 → M1 c = N c := fun c q1 q2 => funext fun k => w.2.2.2 c q1 q2 k
    refine ⟨⟨?_, ?_, ?_⟩, fun c q1 q2 => ?_⟩
    · rw [upI_row, upI_row, hw 3 (by decide) (by decide), hNr, hcl]
    · exact cur_fr w.1 (fun k => by rw [upI_ne _ _ _ _ (by decide), upI_ne _ _ _ _ (by decide)])
    · exact cur_fr hr3 (fun k => by rw [upI_ne _ _ _ _ (by decide), upI_ne _ _ _ _ (by decide), hw _ (by decide) (by decide), hNn _ (by decide)])
    · rw [upI_ne _ _ _ _ q1, upI_ne _ _ _ _ q1, hw c (by omega) (by omega), hNn c q1]
  refine w_iload rfl rfl (w_iconst rfl ?_)
  refine w_icmp_ne (tgt := 29) rfl (by first | assumption | exact i32_0 | (unfold i32 at *; omega)) (by first | assumption | exact i32_0 | (unfold i32 at *; omega)) rfl (fun c4 => ?_) (fun c4 => ?_)
  · skip
    exfalso; omega
  · skip
    refine w_aload rfl rfl (w_getR rfl (by first | rfl | assumption) rfl (by first | rfl | assumption) (w_getIV rfl (by first | rfl | assumption) (by first | exact Or.inl rfl | exact Or.inr rfl) (h5) (w_iconst rfl ?_)))
    refine w_icmp_ne (tgt := 29) rfl (by first | assumption | exact i32_0 | (unfold i32 at *; omega)) (by first | assumption | exact i32_0 | (unfold i32 at *; omega)) rfl (fun c15 => ?_) (fun c15 => ?_)
    · skip
      exfalso; omega
    · skip
      refine w_aload rfl rfl (w_getR rfl (by first | rfl | assumption) rfl (by first | rfl | assumption) (w_getIV rfl (by first | rfl | assumption) (by first | exact Or.inl rfl | exact Or.inr rfl) (h6) (w_iconst rfl ?_)))
      refine w_icmp_le (tgt := 31) rfl (by first | assumption | exact i32_0 | (unfold i32 at *; omega)) (by first | assumption | exact i32_0 | (unfold i32 at *; omega)) rfl (fun c26 => ?_) (fun c26 => ?_)
      · skip
        refine w_aload rfl rfl (w_aload rfl rfl (w_getR rfl (by first | rfl | assumption) rfl (by first | rfl | assumption) (w_getIV rfl (by first | rfl | assumption) (by first | exact Or.inl rfl | exact Or.inr rfl) (h6) (w_putI rfl (by first | rfl | assumption) rfl (w_aload rfl rfl (w_aload rfl rfl (w_getIV rfl (by first | rfl | assumption) (by first | exact Or.inl rfl | exact Or.inr rfl) (k3) ?_)))))))
        refine w_if_ne (tgt := 57) rfl (by first | assumption | exact i32_0 | (unfold i32 at *; omega)) rfl (fun _ => ?_) (fun c => absurd c (by decide))
        refine w_iconst rfl (w_goto (tgt := 62) rfl rfl (w_putZ rfl (by first | rfl | assumption) rfl (by first | exact Or.inl rfl | exact Or.inr rfl | omega | assumption) (w_aload rfl rfl (w_aload rfl rfl (w_getIV rfl (by first | rfl | assumption) (by first | exact Or.inl rfl | exact Or.inr rfl) (k4) ?_)))))
        refine w_if_ne (tgt := 81) rfl (by first | assumption | exact i32_0 | (unfold i32 at *; omega)) rfl (fun _ => ?_) (fun c => absurd c (by decide))
        refine w_iconst rfl (w_goto (tgt := 86) rfl rfl (w_putZ rfl (by first | rfl | assumption) rfl (by first | exact Or.inl rfl | exact Or.inr rfl | omega | assumption) ?_))
        rw [hN]
        refine w_aload rfl rfl (w_getR rfl (by first | rfl | assumption) rfl (by first | rfl | assumption) (w_aload rfl rfl (w_getIV rfl (by first | rfl | assumption) (by first | exact Or.inl rfl | exact Or.inr rfl) (k6c) ?_)))
        refine w_call (Or.inr rfl) (e_of_first N isP_4) (by omega) nof_24 rfl rfl rfl rfl (by first | rfl | (show cKB[_]? = _; assumption)) rfl ?_
        refine w_callQ (Or.inr rfl) (e_clear isT_5) (by omega) nof_5 rfl rfl rfl rfl (by first | rfl | (show cKB[_]? = _; assumption)) (fun r100 M100 hq100 => ?_)
        obtain ⟨rfl, w⟩ := hq100
        have e105 : M100 3 5 = r 5 := by rw [w.2.2.2 3 (by decide) (by decide), hNr]; rfl
        refine w_aload rfl rfl (w_dup rfl rfl (w_getIV rfl (by first | rfl | assumption) (by first | exact Or.inl rfl | exact Or.inr rfl) (e105) (w_iconst rfl (w_iadd rfl (w_putI rfl (by first | rfl | assumption) rfl (w_aload rfl rfl (w_iconst rfl ?_)))))))
        refine w_putI rfl (by first | rfl | assumption) rfl (w_iconst rfl ?_)
        exact w_zreturn rfl (by first | exact Or.inl rfl | exact Or.inr rfl | omega | assumption) ⟨by first | rfl | (congr 2; omega), by exact hfin _ w⟩
      · skip
        exfalso; omega
theorem e_bc_100 {M : mM} {r : Nat → Int} {f g : Cv} (hr : RdM r f g M) (h6 : M 1 6 = 1) (h5 : M 1 5 = 1) (h3 : r 3 = 0) (h4 : r 4 = 0) : EQ 3 23 [vR 3, vI 256] M (fun q M1 => q = some (vI 1) ∧ RdM (rdCl 1 r) f (fun _ => none) M1 ∧ RdF M M1) := by
  obtain ⟨hr1, hr2, hr3⟩ := hr
  refine q_in (ls := [vR 3, vI 256]) mq_23 (ml_23 rfl) rfl fun D hD => ?_
  have hcl : rdCl 1 r = sR (sR (sR (sR (sR r 6 1) 3 0) 4 1) 5 (r 5 + 1)) 1 1 := by
    unfold rdCl
    rw [if_pos (by rw [h3]; decide), if_neg (by rw [h4]; decide)]
  have k3 : upI M 3 6 1 3 3 = 0 := by rw [upI_row, hr1]; exact h3
  have k6 : upI M 3 6 1 3 6 = 1 := upI_same _ _ _ _
  have k4 : upI (upI M 3 6 1) 3 3 0 3 4 = 0 := by rw [upI_row, upI_row, hr1]; exact h4
  have k6b : upI (upI M 3 6 1) 3 3 0 3 6 = 1 := by rw [upI_row, upI_row]; rfl
  have k6c : upI (upI (upI M 3 6 1) 3 3 0) 3 4 1 3 6 = 1 := by rw [upI_row, upI_row, upI_row]; rfl
  generalize hN : upI (upI (upI M 3 6 1) 3 3 0) 3 4 1 = N at k6c
  have hNr : N 3 = sR (sR (sR r 6 1) 3 0) 4 1 := by rw [← hN, upI_row, upI_row, upI_row, hr1]
  have hNn : ∀ c, c ≠ 3 → N c = M c := fun c hc => by rw [← hN, upI_ne _ _ _ _ hc, upI_ne _ _ _ _ hc, upI_ne _ _ _ _ hc]
  have hfin : ∀ M1 : mM, Tw 7 (fun _ => none) 1 N M1 → RdM (rdCl 1 r) f (fun _ => none) (upI (upI M1 3 5 (r 5 + 1)) 3 1 1) ∧ RdF M (upI (upI M1 3 5 (r 5 + 1)) 3 1 1) := fun M1 w => by
    have hw : ∀ c, c ≠ 7 → c ≠ 7+1 → M1 c = N c := fun c q1 q2 => funext fun k => w.2.2.2 c q1 q2 k
    refine ⟨⟨?_, ?_, ?_⟩, fun c q1 q2 => ?_⟩
    · rw [upI_row, upI_row, hw 3 (by decide) (by decide), hNr, hcl]
    · exact cur_fr hr2 (fun k => by rw [upI_ne _ _ _ _ (by decide), upI_ne _ _ _ _ (by decide), hw _ (by decide) (by decide), hNn _ (by decide)])
    · exact cur_fr w.1 (fun k => by rw [upI_ne _ _ _ _ (by decide), upI_ne _ _ _ _ (by decide)])
    · rw [upI_ne _ _ _ _ q1, upI_ne _ _ _ _ q1, hw c (by omega) (by omega), hNn c q1]
  refine w_iload rfl rfl (w_iconst rfl ?_)
  refine w_icmp_ne (tgt := 29) rfl (by first | assumption | exact i32_0 | (unfold i32 at *; omega)) (by first | assumption | exact i32_0 | (unfold i32 at *; omega)) rfl (fun c4 => ?_) (fun c4 => ?_)
  · skip
    exfalso; omega
  · skip
    refine w_aload rfl rfl (w_getR rfl (by first | rfl | assumption) rfl (by first | rfl | assumption) (w_getIV rfl (by first | rfl | assumption) (by first | exact Or.inl rfl | exact Or.inr rfl) (h5) (w_iconst rfl ?_)))
    refine w_icmp_ne (tgt := 29) rfl (by first | assumption | exact i32_0 | (unfold i32 at *; omega)) (by first | assumption | exact i32_0 | (unfold i32 at *; omega)) rfl (fun c15 => ?_) (fun c15 => ?_)
    · skip
      exfalso; omega
    · skip
      refine w_aload rfl rfl (w_getR rfl (by first | rfl | assumption) rfl (by first | rfl | assumption) (w_getIV rfl (by first | rfl | assumption) (by first | exact Or.inl rfl | exact Or.inr rfl) (h6) (w_iconst rfl ?_)))
      refine w_icmp_le (tgt := 31) rfl (by first | assumption | exact i32_0 | (unfold i32 at *; omega)) (by first | assumption | exact i32_0 | (unfold i32 at *; omega)) rfl (fun c26 => ?_) (fun c26 => ?_)
      · skip
        refine w_aload rfl rfl (w_aload rfl rfl (w_getR rfl (by first | rfl | assumption) rfl (by first | rfl | assumption) (w_getIV rfl (by first | rfl | assumption) (by first | exact Or.inl rfl | exact Or.inr rfl) (h6) (w_putI rfl (by first | rfl | assumption) rfl (w_aload rfl rfl (w_aload rfl rfl (w_getIV rfl (by first | rfl | assumption) (by first | exact Or.inl rfl | exact Or.inr rfl) (k3) ?_)))))))
        refine w_if_ne (tgt := 57) rfl (by first | assumption | exact i32_0 | (unfold i32 at *; omega)) rfl (fun c => absurd c (by decide)) (fun _ => ?_)
        refine w_aload rfl rfl (w_getIV rfl (by first | rfl | assumption) (by first | exact Or.inl rfl | exact Or.inr rfl) (k6) ?_)
        refine w_if_ne (tgt := 61) rfl (by first | assumption | exact i32_0 | (unfold i32 at *; omega)) rfl (fun _ => ?_) (fun c => absurd c (by decide))
        refine w_iconst rfl (w_putZ rfl (by first | rfl | assumption) rfl (by first | exact Or.inl rfl | exact Or.inr rfl | omega | assumption) (w_aload rfl rfl (w_aload rfl rfl (w_getIV rfl (by first | rfl | assumption) (by first | exact Or.inl rfl | exact Or.inr rfl) (k4) ?_))))
        refine w_if_ne (tgt := 81) rfl (by first | assumption | exact i32_0 | (unfold i32 at *; omega)) rfl (fun c => absurd c (by decide)) (fun _ => ?_)
        refine w_aload rfl rfl (w_getIV rfl (by first | rfl | assumption) (by first | exact Or.inl rfl | exact Or.inr rfl) (k6b) (w_iconst rfl ?_))
        refine w_icmp_ne (tgt := 85) rfl (by first | assumption | exact i32_0 | (unfold i32 at *; omega)) (by first | assumption | exact i32_0 | (unfold i32 at *; omega)) rfl (fun c78 => ?_) (fun c78 => ?_)
        · skip
          exfalso; omega
        · skip
          refine w_iconst rfl (w_goto (tgt := 86) rfl rfl (w_putZ rfl (by first | rfl | assumption) rfl (by first | exact Or.inl rfl | exact Or.inr rfl | omega | assumption) ?_))
          rw [hN]
          refine w_aload rfl rfl (w_getR rfl (by first | rfl | assumption) rfl (by first | rfl | assumption) (w_aload rfl rfl (w_getIV rfl (by first | rfl | assumption) (by first | exact Or.inl rfl | exact Or.inr rfl) (k6c) ?_)))
          refine w_call (Or.inr rfl) (e_of_second N isP_4) (by omega) nof_24 rfl rfl rfl rfl (by first | rfl | (show cKB[_]? = _; assumption)) rfl ?_
          refine w_callQ (Or.inr rfl) (e_clear isT_7) (by omega) nof_5 rfl rfl rfl rfl (by first | rfl | (show cKB[_]? = _; assumption)) (fun r100 M100 hq100 => ?_)
          obtain ⟨rfl, w⟩ := hq100
          have e105 : M100 3 5 = r 5 := by rw [w.2.2.2 3 (by decide) (by decide), hNr]; rfl
          refine w_aload rfl rfl (w_dup rfl rfl (w_getIV rfl (by first | rfl | assumption) (by first | exact Or.inl rfl | exact Or.inr rfl) (e105) (w_iconst rfl (w_iadd rfl (w_putI rfl (by first | rfl | assumption) rfl (w_aload rfl rfl (w_iconst rfl ?_)))))))
          refine w_putI rfl (by first | rfl | assumption) rfl (w_iconst rfl ?_)
          exact w_zreturn rfl (by first | exact Or.inl rfl | exact Or.inr rfl | omega | assumption) ⟨by first | rfl | (congr 2; omega), by exact hfin _ w⟩
      · skip
        exfalso; omega
theorem e_bc_101 {M : mM} {r : Nat → Int} {f g : Cv} (hr : RdM r f g M) (h6 : M 1 6 = 1) (h5 : M 1 5 = 1) (h3 : r 3 = 0) (h4 : r 4 = 1) : EQ 3 23 [vR 3, vI 256] M (fun q M1 => q = some (vI 1) ∧ RdM (rdCl 1 r) f (fun _ => none) M1 ∧ RdF M M1) := by
  obtain ⟨hr1, hr2, hr3⟩ := hr
  refine q_in (ls := [vR 3, vI 256]) mq_23 (ml_23 rfl) rfl fun D hD => ?_
  have hcl : rdCl 1 r = sR (sR (sR (sR (sR r 6 1) 3 0) 4 1) 5 (r 5 + 1)) 1 1 := by
    unfold rdCl
    rw [if_pos (by rw [h3]; decide), if_neg (by rw [h4]; decide)]
  have k3 : upI M 3 6 1 3 3 = 0 := by rw [upI_row, hr1]; exact h3
  have k6 : upI M 3 6 1 3 6 = 1 := upI_same _ _ _ _
  have k4 : upI (upI M 3 6 1) 3 3 0 3 4 = 1 := by rw [upI_row, upI_row, hr1]; exact h4
  have k6b : upI (upI M 3 6 1) 3 3 0 3 6 = 1 := by rw [upI_row, upI_row]; rfl
  have k6c : upI (upI (upI M 3 6 1) 3 3 0) 3 4 1 3 6 = 1 := by rw [upI_row, upI_row, upI_row]; rfl
  generalize hN : upI (upI (upI M 3 6 1) 3 3 0) 3 4 1 = N at k6c
  have hNr : N 3 = sR (sR (sR r 6 1) 3 0) 4 1 := by rw [← hN, upI_row, upI_row, upI_row, hr1]
  have hNn : ∀ c, c ≠ 3 → N c = M c := fun c hc => by rw [← hN, upI_ne _ _ _ _ hc, upI_ne _ _ _ _ hc, upI_ne _ _ _ _ hc]
  have hfin : ∀ M1 : mM, Tw 7 (fun _ => none) 1 N M1 → RdM (rdCl 1 r) f (fun _ => none) (upI (upI M1 3 5 (r 5 + 1)) 3 1 1) ∧ RdF M (upI (upI M1 3 5 (r 5 + 1)) 3 1 1) := fun M1 w => by
    have hw : ∀ c, c ≠ 7 → c ≠ 7+1 → M1 c = N c := fun c q1 q2 => funext fun k => w.2.2.2 c q1 q2 k
    refine ⟨⟨?_, ?_, ?_⟩, fun c q1 q2 => ?_⟩
    · rw [upI_row, upI_row, hw 3 (by decide) (by decide), hNr, hcl]
    · exact cur_fr hr2 (fun k => by rw [upI_ne _ _ _ _ (by decide), upI_ne _ _ _ _ (by decide), hw _ (by decide) (by decide), hNn _ (by decide)])
    · exact cur_fr w.1 (fun k => by rw [upI_ne _ _ _ _ (by decide), upI_ne _ _ _ _ (by decide)])
    · rw [upI_ne _ _ _ _ q1, upI_ne _ _ _ _ q1, hw c (by omega) (by omega), hNn c q1]
  refine w_iload rfl rfl (w_iconst rfl ?_)
  refine w_icmp_ne (tgt := 29) rfl (by first | assumption | exact i32_0 | (unfold i32 at *; omega)) (by first | assumption | exact i32_0 | (unfold i32 at *; omega)) rfl (fun c4 => ?_) (fun c4 => ?_)
  · skip
    exfalso; omega
  · skip
    refine w_aload rfl rfl (w_getR rfl (by first | rfl | assumption) rfl (by first | rfl | assumption) (w_getIV rfl (by first | rfl | assumption) (by first | exact Or.inl rfl | exact Or.inr rfl) (h5) (w_iconst rfl ?_)))
    refine w_icmp_ne (tgt := 29) rfl (by first | assumption | exact i32_0 | (unfold i32 at *; omega)) (by first | assumption | exact i32_0 | (unfold i32 at *; omega)) rfl (fun c15 => ?_) (fun c15 => ?_)
    · skip
      exfalso; omega
    · skip
      refine w_aload rfl rfl (w_getR rfl (by first | rfl | assumption) rfl (by first | rfl | assumption) (w_getIV rfl (by first | rfl | assumption) (by first | exact Or.inl rfl | exact Or.inr rfl) (h6) (w_iconst rfl ?_)))
      refine w_icmp_le (tgt := 31) rfl (by first | assumption | exact i32_0 | (unfold i32 at *; omega)) (by first | assumption | exact i32_0 | (unfold i32 at *; omega)) rfl (fun c26 => ?_) (fun c26 => ?_)
      · skip
        refine w_aload rfl rfl (w_aload rfl rfl (w_getR rfl (by first | rfl | assumption) rfl (by first | rfl | assumption) (w_getIV rfl (by first | rfl | assumption) (by first | exact Or.inl rfl | exact Or.inr rfl) (h6) (w_putI rfl (by first | rfl | assumption) rfl (w_aload rfl rfl (w_aload rfl rfl (w_getIV rfl (by first | rfl | assumption) (by first | exact Or.inl rfl | exact Or.inr rfl) (k3) ?_)))))))
        refine w_if_ne (tgt := 57) rfl (by first | assumption | exact i32_0 | (unfold i32 at *; omega)) rfl (fun c => absurd c (by decide)) (fun _ => ?_)
        refine w_aload rfl rfl (w_getIV rfl (by first | rfl | assumption) (by first | exact Or.inl rfl | exact Or.inr rfl) (k6) ?_)
        refine w_if_ne (tgt := 61) rfl (by first | assumption | exact i32_0 | (unfold i32 at *; omega)) rfl (fun _ => ?_) (fun c => absurd c (by decide))
        refine w_iconst rfl (w_putZ rfl (by first | rfl | assumption) rfl (by first | exact Or.inl rfl | exact Or.inr rfl | omega | assumption) (w_aload rfl rfl (w_aload rfl rfl (w_getIV rfl (by first | rfl | assumption) (by first | exact Or.inl rfl | exact Or.inr rfl) (k4) ?_))))
        refine w_if_ne (tgt := 81) rfl (by first | assumption | exact i32_0 | (unfold i32 at *; omega)) rfl (fun _ => ?_) (fun c => absurd c (by decide))
        refine w_iconst rfl (w_goto (tgt := 86) rfl rfl (w_putZ rfl (by first | rfl | assumption) rfl (by first | exact Or.inl rfl | exact Or.inr rfl | omega | assumption) ?_))
        rw [hN]
        refine w_aload rfl rfl (w_getR rfl (by first | rfl | assumption) rfl (by first | rfl | assumption) (w_aload rfl rfl (w_getIV rfl (by first | rfl | assumption) (by first | exact Or.inl rfl | exact Or.inr rfl) (k6c) ?_)))
        refine w_call (Or.inr rfl) (e_of_second N isP_4) (by omega) nof_24 rfl rfl rfl rfl (by first | rfl | (show cKB[_]? = _; assumption)) rfl ?_
        refine w_callQ (Or.inr rfl) (e_clear isT_7) (by omega) nof_5 rfl rfl rfl rfl (by first | rfl | (show cKB[_]? = _; assumption)) (fun r100 M100 hq100 => ?_)
        obtain ⟨rfl, w⟩ := hq100
        have e105 : M100 3 5 = r 5 := by rw [w.2.2.2 3 (by decide) (by decide), hNr]; rfl
        refine w_aload rfl rfl (w_dup rfl rfl (w_getIV rfl (by first | rfl | assumption) (by first | exact Or.inl rfl | exact Or.inr rfl) (e105) (w_iconst rfl (w_iadd rfl (w_putI rfl (by first | rfl | assumption) rfl (w_aload rfl rfl (w_iconst rfl ?_)))))))
        refine w_putI rfl (by first | rfl | assumption) rfl (w_iconst rfl ?_)
        exact w_zreturn rfl (by first | exact Or.inl rfl | exact Or.inr rfl | omega | assumption) ⟨by first | rfl | (congr 2; omega), by exact hfin _ w⟩
      · skip
        exfalso; omega
theorem e_bc_110 {M : mM} {r : Nat → Int} {f g : Cv} (hr : RdM r f g M) (h6 : M 1 6 = 1) (h5 : M 1 5 = 1) (h3 : r 3 = 1) (h4 : r 4 = 0) : EQ 3 23 [vR 3, vI 256] M (fun q M1 => q = some (vI 1) ∧ RdM (rdCl 1 r) f (fun _ => none) M1 ∧ RdF M M1) := by
  obtain ⟨hr1, hr2, hr3⟩ := hr
  refine q_in (ls := [vR 3, vI 256]) mq_23 (ml_23 rfl) rfl fun D hD => ?_
  have hcl : rdCl 1 r = sR (sR (sR (sR (sR r 6 1) 3 1) 4 1) 5 (r 5 + 1)) 1 1 := by
    unfold rdCl
    rw [if_neg (by rw [h3]; decide), if_neg (by rw [h4]; decide)]
  have k3 : upI M 3 6 1 3 3 = 1 := by rw [upI_row, hr1]; exact h3
  have k6 : upI M 3 6 1 3 6 = 1 := upI_same _ _ _ _
  have k4 : upI (upI M 3 6 1) 3 3 1 3 4 = 0 := by rw [upI_row, upI_row, hr1]; exact h4
  have k6b : upI (upI M 3 6 1) 3 3 1 3 6 = 1 := by rw [upI_row, upI_row]; rfl
  have k6c : upI (upI (upI M 3 6 1) 3 3 1) 3 4 1 3 6 = 1 := by rw [upI_row, upI_row, upI_row]; rfl
  generalize hN : upI (upI (upI M 3 6 1) 3 3 1) 3 4 1 = N at k6c
  have hNr : N 3 = sR (sR (sR r 6 1) 3 1) 4 1 := by rw [← hN, upI_row, upI_row, upI_row, hr1]
  have hNn : ∀ c, c ≠ 3 → N c = M c := fun c hc => by rw [← hN, upI_ne _ _ _ _ hc, upI_ne _ _ _ _ hc, upI_ne _ _ _ _ hc]
  have hfin : ∀ M1 : mM, Tw 7 (fun _ => none) 1 N M1 → RdM (rdCl 1 r) f (fun _ => none) (upI (upI M1 3 5 (r 5 + 1)) 3 1 1) ∧ RdF M (upI (upI M1 3 5 (r 5 + 1)) 3 1 1) := fun M1 w => by
    have hw : ∀ c, c ≠ 7 → c ≠ 7+1 → M1 c = N c := fun c q1 q2 => funext fun k => w.2.2.2 c q1 q2 k
    refine ⟨⟨?_, ?_, ?_⟩, fun c q1 q2 => ?_⟩
    · rw [upI_row, upI_row, hw 3 (by decide) (by decide), hNr, hcl]
    · exact cur_fr hr2 (fun k => by rw [upI_ne _ _ _ _ (by decide), upI_ne _ _ _ _ (by decide), hw _ (by decide) (by decide), hNn _ (by decide)])
    · exact cur_fr w.1 (fun k => by rw [upI_ne _ _ _ _ (by decide), upI_ne _ _ _ _ (by decide)])
    · rw [upI_ne _ _ _ _ q1, upI_ne _ _ _ _ q1, hw c (by omega) (by omega), hNn c q1]
  refine w_iload rfl rfl (w_iconst rfl ?_)
  refine w_icmp_ne (tgt := 29) rfl (by first | assumption | exact i32_0 | (unfold i32 at *; omega)) (by first | assumption | exact i32_0 | (unfold i32 at *; omega)) rfl (fun c4 => ?_) (fun c4 => ?_)
  · skip
    exfalso; omega
  · skip
    refine w_aload rfl rfl (w_getR rfl (by first | rfl | assumption) rfl (by first | rfl | assumption) (w_getIV rfl (by first | rfl | assumption) (by first | exact Or.inl rfl | exact Or.inr rfl) (h5) (w_iconst rfl ?_)))
    refine w_icmp_ne (tgt := 29) rfl (by first | assumption | exact i32_0 | (unfold i32 at *; omega)) (by first | assumption | exact i32_0 | (unfold i32 at *; omega)) rfl (fun c15 => ?_) (fun c15 => ?_)
    · skip
      exfalso; omega
    · skip
      refine w_aload rfl rfl (w_getR rfl (by first | rfl | assumption) rfl (by first | rfl | assumption) (w_getIV rfl (by first | rfl | assumption) (by first | exact Or.inl rfl | exact Or.inr rfl) (h6) (w_iconst rfl ?_)))
      refine w_icmp_le (tgt := 31) rfl (by first | assumption | exact i32_0 | (unfold i32 at *; omega)) (by first | assumption | exact i32_0 | (unfold i32 at *; omega)) rfl (fun c26 => ?_) (fun c26 => ?_)
      · skip
        refine w_aload rfl rfl (w_aload rfl rfl (w_getR rfl (by first | rfl | assumption) rfl (by first | rfl | assumption) (w_getIV rfl (by first | rfl | assumption) (by first | exact Or.inl rfl | exact Or.inr rfl) (h6) (w_putI rfl (by first | rfl | assumption) rfl (w_aload rfl rfl (w_aload rfl rfl (w_getIV rfl (by first | rfl | assumption) (by first | exact Or.inl rfl | exact Or.inr rfl) (k3) ?_)))))))
        refine w_if_ne (tgt := 57) rfl (by first | assumption | exact i32_0 | (unfold i32 at *; omega)) rfl (fun _ => ?_) (fun c => absurd c (by decide))
        refine w_iconst rfl (w_goto (tgt := 62) rfl rfl (w_putZ rfl (by first | rfl | assumption) rfl (by first | exact Or.inl rfl | exact Or.inr rfl | omega | assumption) (w_aload rfl rfl (w_aload rfl rfl (w_getIV rfl (by first | rfl | assumption) (by first | exact Or.inl rfl | exact Or.inr rfl) (k4) ?_)))))
        refine w_if_ne (tgt := 81) rfl (by first | assumption | exact i32_0 | (unfold i32 at *; omega)) rfl (fun c => absurd c (by decide)) (fun _ => ?_)
        refine w_aload rfl rfl (w_getIV rfl (by first | rfl | assumption) (by first | exact Or.inl rfl | exact Or.inr rfl) (k6b) (w_iconst rfl ?_))
        refine w_icmp_ne (tgt := 85) rfl (by first | assumption | exact i32_0 | (unfold i32 at *; omega)) (by first | assumption | exact i32_0 | (unfold i32 at *; omega)) rfl (fun c78 => ?_) (fun c78 => ?_)
        · skip
          exfalso; omega
        · skip
          refine w_iconst rfl (w_goto (tgt := 86) rfl rfl (w_putZ rfl (by first | rfl | assumption) rfl (by first | exact Or.inl rfl | exact Or.inr rfl | omega | assumption) ?_))
          rw [hN]
          refine w_aload rfl rfl (w_getR rfl (by first | rfl | assumption) rfl (by first | rfl | assumption) (w_aload rfl rfl (w_getIV rfl (by first | rfl | assumption) (by first | exact Or.inl rfl | exact Or.inr rfl) (k6c) ?_)))
          refine w_call (Or.inr rfl) (e_of_second N isP_4) (by omega) nof_24 rfl rfl rfl rfl (by first | rfl | (show cKB[_]? = _; assumption)) rfl ?_
          refine w_callQ (Or.inr rfl) (e_clear isT_7) (by omega) nof_5 rfl rfl rfl rfl (by first | rfl | (show cKB[_]? = _; assumption)) (fun r100 M100 hq100 => ?_)
          obtain ⟨rfl, w⟩ := hq100
          have e105 : M100 3 5 = r 5 := by rw [w.2.2.2 3 (by decide) (by decide), hNr]; rfl
          refine w_aload rfl rfl (w_dup rfl rfl (w_getIV rfl (by first | rfl | assumption) (by first | exact Or.inl rfl | exact Or.inr rfl) (e105) (w_iconst rfl (w_iadd rfl (w_putI rfl (by first | rfl | assumption) rfl (w_aload rfl rfl (w_iconst rfl ?_)))))))
          refine w_putI rfl (by first | rfl | assumption) rfl (w_iconst rfl ?_)
          exact w_zreturn rfl (by first | exact Or.inl rfl | exact Or.inr rfl | omega | assumption) ⟨by first | rfl | (congr 2; omega), by exact hfin _ w⟩
      · skip
        exfalso; omega
theorem e_bc_111 {M : mM} {r : Nat → Int} {f g : Cv} (hr : RdM r f g M) (h6 : M 1 6 = 1) (h5 : M 1 5 = 1) (h3 : r 3 = 1) (h4 : r 4 = 1) : EQ 3 23 [vR 3, vI 256] M (fun q M1 => q = some (vI 1) ∧ RdM (rdCl 1 r) f (fun _ => none) M1 ∧ RdF M M1) := by
  obtain ⟨hr1, hr2, hr3⟩ := hr
  refine q_in (ls := [vR 3, vI 256]) mq_23 (ml_23 rfl) rfl fun D hD => ?_
  have hcl : rdCl 1 r = sR (sR (sR (sR (sR r 6 1) 3 1) 4 1) 5 (r 5 + 1)) 1 1 := by
    unfold rdCl
    rw [if_neg (by rw [h3]; decide), if_neg (by rw [h4]; decide)]
  have k3 : upI M 3 6 1 3 3 = 1 := by rw [upI_row, hr1]; exact h3
  have k6 : upI M 3 6 1 3 6 = 1 := upI_same _ _ _ _
  have k4 : upI (upI M 3 6 1) 3 3 1 3 4 = 1 := by rw [upI_row, upI_row, hr1]; exact h4
  have k6b : upI (upI M 3 6 1) 3 3 1 3 6 = 1 := by rw [upI_row, upI_row]; rfl
  have k6c : upI (upI (upI M 3 6 1) 3 3 1) 3 4 1 3 6 = 1 := by rw [upI_row, upI_row, upI_row]; rfl
  generalize hN : upI (upI (upI M 3 6 1) 3 3 1) 3 4 1 = N at k6c
  have hNr : N 3 = sR (sR (sR r 6 1) 3 1) 4 1 := by rw [← hN, upI_row, upI_row, upI_row, hr1]
  have hNn : ∀ c, c ≠ 3 → N c = M c := fun c hc => by rw [← hN, upI_ne _ _ _ _ hc, upI_ne _ _ _ _ hc, upI_ne _ _ _ _ hc]
  have hfin : ∀ M1 : mM, Tw 7 (fun _ => none) 1 N M1 → RdM (rdCl 1 r) f (fun _ => none) (upI (upI M1 3 5 (r 5 + 1)) 3 1 1) ∧ RdF M (upI (upI M1 3 5 (r 5 + 1)) 3 1 1) := fun M1 w => by
    have hw : ∀ c, c ≠ 7 → c ≠ 7+1 → M1 c = N c := fun c q1 q2 => funext fun k => w.2.2.2 c q1 q2 k
    refine ⟨⟨?_, ?_, ?_⟩, fun c q1 q2 => ?_⟩
    · rw [upI_row, upI_row, hw 3 (by decide) (by decide), hNr, hcl]
    · exact cur_fr hr2 (fun k => by rw [upI_ne _ _ _ _ (by decide), upI_ne _ _ _ _ (by decide), hw _ (by decide) (by decide), hNn _ (by decide)])
    · exact cur_fr w.1 (fun k => by rw [upI_ne _ _ _ _ (by decide), upI_ne _ _ _ _ (by decide)])
    · rw [upI_ne _ _ _ _ q1, upI_ne _ _ _ _ q1, hw c (by omega) (by omega), hNn c q1]
  refine w_iload rfl rfl (w_iconst rfl ?_)
  refine w_icmp_ne (tgt := 29) rfl (by first | assumption | exact i32_0 | (unfold i32 at *; omega)) (by first | assumption | exact i32_0 | (unfold i32 at *; omega)) rfl (fun c4 => ?_) (fun c4 => ?_)
  · skip
    exfalso; omega
  · skip
    refine w_aload rfl rfl (w_getR rfl (by first | rfl | assumption) rfl (by first | rfl | assumption) (w_getIV rfl (by first | rfl | assumption) (by first | exact Or.inl rfl | exact Or.inr rfl) (h5) (w_iconst rfl ?_)))
    refine w_icmp_ne (tgt := 29) rfl (by first | assumption | exact i32_0 | (unfold i32 at *; omega)) (by first | assumption | exact i32_0 | (unfold i32 at *; omega)) rfl (fun c15 => ?_) (fun c15 => ?_)
    · skip
      exfalso; omega
    · skip
      refine w_aload rfl rfl (w_getR rfl (by first | rfl | assumption) rfl (by first | rfl | assumption) (w_getIV rfl (by first | rfl | assumption) (by first | exact Or.inl rfl | exact Or.inr rfl) (h6) (w_iconst rfl ?_)))
      refine w_icmp_le (tgt := 31) rfl (by first | assumption | exact i32_0 | (unfold i32 at *; omega)) (by first | assumption | exact i32_0 | (unfold i32 at *; omega)) rfl (fun c26 => ?_) (fun c26 => ?_)
      · skip
        refine w_aload rfl rfl (w_aload rfl rfl (w_getR rfl (by first | rfl | assumption) rfl (by first | rfl | assumption) (w_getIV rfl (by first | rfl | assumption) (by first | exact Or.inl rfl | exact Or.inr rfl) (h6) (w_putI rfl (by first | rfl | assumption) rfl (w_aload rfl rfl (w_aload rfl rfl (w_getIV rfl (by first | rfl | assumption) (by first | exact Or.inl rfl | exact Or.inr rfl) (k3) ?_)))))))
        refine w_if_ne (tgt := 57) rfl (by first | assumption | exact i32_0 | (unfold i32 at *; omega)) rfl (fun _ => ?_) (fun c => absurd c (by decide))
        refine w_iconst rfl (w_goto (tgt := 62) rfl rfl (w_putZ rfl (by first | rfl | assumption) rfl (by first | exact Or.inl rfl | exact Or.inr rfl | omega | assumption) (w_aload rfl rfl (w_aload rfl rfl (w_getIV rfl (by first | rfl | assumption) (by first | exact Or.inl rfl | exact Or.inr rfl) (k4) ?_)))))
        refine w_if_ne (tgt := 81) rfl (by first | assumption | exact i32_0 | (unfold i32 at *; omega)) rfl (fun _ => ?_) (fun c => absurd c (by decide))
        refine w_iconst rfl (w_goto (tgt := 86) rfl rfl (w_putZ rfl (by first | rfl | assumption) rfl (by first | exact Or.inl rfl | exact Or.inr rfl | omega | assumption) ?_))
        rw [hN]
        refine w_aload rfl rfl (w_getR rfl (by first | rfl | assumption) rfl (by first | rfl | assumption) (w_aload rfl rfl (w_getIV rfl (by first | rfl | assumption) (by first | exact Or.inl rfl | exact Or.inr rfl) (k6c) ?_)))
        refine w_call (Or.inr rfl) (e_of_second N isP_4) (by omega) nof_24 rfl rfl rfl rfl (by first | rfl | (show cKB[_]? = _; assumption)) rfl ?_
        refine w_callQ (Or.inr rfl) (e_clear isT_7) (by omega) nof_5 rfl rfl rfl rfl (by first | rfl | (show cKB[_]? = _; assumption)) (fun r100 M100 hq100 => ?_)
        obtain ⟨rfl, w⟩ := hq100
        have e105 : M100 3 5 = r 5 := by rw [w.2.2.2 3 (by decide) (by decide), hNr]; rfl
        refine w_aload rfl rfl (w_dup rfl rfl (w_getIV rfl (by first | rfl | assumption) (by first | exact Or.inl rfl | exact Or.inr rfl) (e105) (w_iconst rfl (w_iadd rfl (w_putI rfl (by first | rfl | assumption) rfl (w_aload rfl rfl (w_iconst rfl ?_)))))))
        refine w_putI rfl (by first | rfl | assumption) rfl (w_iconst rfl ?_)
        exact w_zreturn rfl (by first | exact Or.inl rfl | exact Or.inr rfl | omega | assumption) ⟨by first | rfl | (congr 2; omega), by exact hfin _ w⟩
      · skip
        exfalso; omega
