/-! ===== behind a part ===== -/
def folL (r : Nat → Int) (f g : Cv) : Cv × Cv := (if r 6 = 0 then lowC f (5 * r 7 + r 8).toNat (r 9) else f, if r 6 = 0 then g else lowC g (5 * r 7 + r 8).toNat (r 9))
def folF (kind : Int) (r : Nat → Int) (f g : Cv) : Option ((Nat → Int) × Cv × Cv) :=
  if kind = 43 then (if r 10 < 3 then some (sR r 1 2, f, g) else none)
  else if kind = 59 ∧ r 5 < 24 then some (sR (rdNew r) 1 0, folL r f g)
  else if kind = 44 ∨ kind = 257 then some (sR (rdNew r) 1 2, folL r f g)
  else none
theorem e_fol_plus {M : mM} {r : Nat → Int} {f g : Cv} (hr : RdM r f g M) (hi : RdI r) : E 1 28 [vR 3, vI 43] M (some (vI (if r 10 < 3 then 1 else 0))) (upI M 3 1 2) := by
  have hi2 := hi.2.1
  have k10 : upI M 3 1 2 3 10 = r 10 := by rw [upI_row, hr.1]; rfl
  refine e_in (ls := [vR 3, vI 43, vN]) mq_28 (ml_28 rfl) rfl fun D hD => ?_
  by_cases h : r 10 < 3
  · rw [if_pos h]
    refine w_iload rfl rfl (w_iconst rfl ?_)
    refine w_icmp_ne (tgt := 25) rfl (by first | assumption | exact i32_0 | (unfold i32 at *; omega)) (by first | assumption | exact i32_0 | (unfold i32 at *; omega)) rfl (fun c3 => ?_) (fun c3 => ?_)
    · skip
      exfalso; omega
    · skip
      refine w_aload rfl rfl (w_iconst rfl (w_putI rfl (by first | rfl | assumption) rfl (w_aload rfl rfl (w_getIV rfl (by first | rfl | assumption) (by first | exact Or.inl rfl | exact Or.inr rfl) (k10) (w_iconst rfl ?_)))))
      refine w_icmp_ge (tgt := 23) rfl (by first | assumption | exact i32_0 | (unfold i32 at *; omega)) (by first | assumption | exact i32_0 | (unfold i32 at *; omega)) rfl (fun c16 => ?_) (fun c16 => ?_)
      · skip
        exfalso; omega
      · skip
        refine w_iconst rfl (w_goto (tgt := 24) rfl rfl ?_)
        exact w_zreturn rfl (by first | exact Or.inl rfl | exact Or.inr rfl | omega | assumption) ⟨by first | rfl | (congr 2; omega), by rfl⟩
  · rw [if_neg h]
    refine w_iload rfl rfl (w_iconst rfl ?_)
    refine w_icmp_ne (tgt := 25) rfl (by first | assumption | exact i32_0 | (unfold i32 at *; omega)) (by first | assumption | exact i32_0 | (unfold i32 at *; omega)) rfl (fun c3 => ?_) (fun c3 => ?_)
    · skip
      exfalso; omega
    · skip
      refine w_aload rfl rfl (w_iconst rfl (w_putI rfl (by first | rfl | assumption) rfl (w_aload rfl rfl (w_getIV rfl (by first | rfl | assumption) (by first | exact Or.inl rfl | exact Or.inr rfl) (k10) (w_iconst rfl ?_)))))
      refine w_icmp_ge (tgt := 23) rfl (by first | assumption | exact i32_0 | (unfold i32 at *; omega)) (by first | assumption | exact i32_0 | (unfold i32 at *; omega)) rfl (fun c16 => ?_) (fun c16 => ?_)
      · skip
        refine w_iconst rfl ?_
        exact w_zreturn rfl (by first | exact Or.inl rfl | exact Or.inr rfl | omega | assumption) ⟨by first | rfl | (congr 2; omega), by rfl⟩
      · skip
        exfalso; omega
theorem e_fol_bad {M : mM} {r : Nat → Int} {f g : Cv} {kind : Int} (hr : RdM r f g M) (hi : RdI r) (hk : 0 ≤ kind ∧ kind ≤ 257) (h1 : kind ≠ 43) (h2 : ¬ (kind = 59 ∧ r 5 < 24)) (h3 : ¬ (kind = 44 ∨ kind = 257)) : E 1 28 [vR 3, vI kind] M (some (vI 0)) M := by
  obtain ⟨-, -, -, -, -, hi2, -⟩ := hi
  have k5 : M 3 5 = r 5 := by rw [hr.1]
  refine e_in (ls := [vR 3, vI kind, vN]) mq_28 (ml_28 rfl) rfl fun D hD => ?_
  refine w_iload rfl rfl (w_iconst rfl ?_)
  refine w_icmp_ne (tgt := 25) rfl (by first | assumption | exact i32_0 | (unfold i32 at *; omega)) (by first | assumption | exact i32_0 | (unfold i32 at *; omega)) rfl (fun c3 => ?_) (fun c3 => ?_)
  · skip
    refine w_iload rfl rfl (w_iconst rfl ?_)
    refine w_icmp_ne (tgt := 44) rfl (by first | assumption | exact i32_0 | (unfold i32 at *; omega)) (by first | assumption | exact i32_0 | (unfold i32 at *; omega)) rfl (fun c28 => ?_) (fun c28 => ?_)
    · skip
      refine w_iconst rfl (w_istore (ls2 := [_, _, _]) rfl rfl rfl (w_iload rfl rfl (w_iconst rfl ?_)))
      refine w_icmp_eq (tgt := 65) rfl (by first | assumption | exact i32_0 | (unfold i32 at *; omega)) (by first | assumption | exact i32_0 | (unfold i32 at *; omega)) rfl (fun c49 => ?_) (fun c49 => ?_)
      · skip
        exfalso; omega
      · skip
        refine w_iload rfl rfl (w_iconst rfl ?_)
        refine w_icmp_eq (tgt := 65) rfl (by first | assumption | exact i32_0 | (unfold i32 at *; omega)) (by first | assumption | exact i32_0 | (unfold i32 at *; omega)) rfl (fun c56 => ?_) (fun c56 => ?_)
        · skip
          exfalso; omega
        · skip
          refine w_iload rfl rfl ?_
          refine w_if_ne (tgt := 65) rfl (by first | assumption | exact i32_0 | (unfold i32 at *; omega)) rfl (fun c => absurd c (by decide)) (fun _ => ?_)
          refine w_iconst rfl ?_
          exact w_zreturn rfl (by first | exact Or.inl rfl | exact Or.inr rfl | omega | assumption) ⟨by first | rfl | (congr 2; omega), by rfl⟩
    · skip
      refine w_aload rfl rfl (w_getIV rfl (by first | rfl | assumption) (by first | exact Or.inl rfl | exact Or.inr rfl) (k5) (w_iconst rfl ?_))
      refine w_icmp_ge (tgt := 44) rfl (by first | assumption | exact i32_0 | (unfold i32 at *; omega)) (by first | assumption | exact i32_0 | (unfold i32 at *; omega)) rfl (fun c37 => ?_) (fun c37 => ?_)
      · skip
        refine w_iconst rfl (w_istore (ls2 := [_, _, _]) rfl rfl rfl (w_iload rfl rfl (w_iconst rfl ?_)))
        refine w_icmp_eq (tgt := 65) rfl (by first | assumption | exact i32_0 | (unfold i32 at *; omega)) (by first | assumption | exact i32_0 | (unfold i32 at *; omega)) rfl (fun c49 => ?_) (fun c49 => ?_)
        · skip
          exfalso; omega
        · skip
          refine w_iload rfl rfl (w_iconst rfl ?_)
          refine w_icmp_eq (tgt := 65) rfl (by first | assumption | exact i32_0 | (unfold i32 at *; omega)) (by first | assumption | exact i32_0 | (unfold i32 at *; omega)) rfl (fun c56 => ?_) (fun c56 => ?_)
          · skip
            exfalso; omega
          · skip
            refine w_iload rfl rfl ?_
            refine w_if_ne (tgt := 65) rfl (by first | assumption | exact i32_0 | (unfold i32 at *; omega)) rfl (fun c => absurd c (by decide)) (fun _ => ?_)
            refine w_iconst rfl ?_
            exact w_zreturn rfl (by first | exact Or.inl rfl | exact Or.inr rfl | omega | assumption) ⟨by first | rfl | (congr 2; omega), by rfl⟩
      · skip
        exfalso; omega
  · skip
    exfalso; omega

theorem e_fol_00 {M : mM} {r : Nat → Int} {f g : Cv} {kind : Int} (hr : RdM r f g M) (hi : RdI r) (hf : Cok 999 f) (hg : Cok 999 g) (h6 : r 6 = 0) (hkk : kind = 44 ∨ kind = 257) : EQ 4 28 [vR 3, vI kind] M (fun q M1 => q = some (vI 1) ∧ RdM (sR (rdNew r) 1 2) (folL r f g).1 (folL r f g).2 M1 ∧ RdF M M1) := by
  obtain ⟨hi1, -, -, hi9, -, hi5, -⟩ := hi
  obtain ⟨hr1, hr2, hr3⟩ := hr
  have e1 : (folL r f g).1 = lowC f (5 * r 7 + r 8).toNat (r 9) := if_pos h6
  have e2 : (folL r f g).2 = g := if_pos h6
  rw [e1, e2]
  have k (j : Nat) : M 3 j = r j := by rw [hr1]
  obtain ⟨i, hi7⟩ : ∃ i : Nat, r 7 = i := ⟨(r 7).toNat, by omega⟩
  obtain ⟨j, hi8⟩ : ∃ j : Nat, r 8 = j := ⟨(r 8).toNat, by omega⟩
  have ep : (5 * r 7 + r 8).toNat = 5 * i + j := by omega
  rw [ep]
  have k7 : M 3 7 = (i : Int) := (k 7).trans hi7
  have k8 : M 3 8 = (j : Int) := (k 8).trans hi8
  have k6 : M 3 6 = 0 := (k 6).trans h6
  refine q_in (ls := [vR 3, vI kind, vN]) mq_28 (ml_28 rfl) rfl fun D hD => ?_
  have hfin : ∀ N : mM, cur 5 (lowC f (5 * i + j) (r 9)) N → (∀ b, b ≠ 5 → b ≠ 5 + 1 → N b = M b) → ∃ s : Nat → Int, N 3 = s ∧ RdM (sR (rdNew r) 1 2) (lowC f (5 * i + j) (r 9)) g (upI (upO N 3 (rdNew s)) 3 1 2) ∧ RdF M (upI (upO N 3 (rdNew s)) 3 1 2) := fun N q1 q2 => by
    refine ⟨r, by rw [q2 3 (by decide) (by decide), hr1], ⟨?_, ?_, ?_⟩, fun c c1 c2 => ?_⟩
    · rw [upI_upO]; funext j; exact upO_at _ _ _ _
    · rw [upI_upO]; exact cur_fr q1 (fun k => upO_ne _ _ _ (by decide))
    · rw [upI_upO]; exact cur_fr hr3 (fun k => (upO_ne _ _ _ (by decide)).trans (by rw [q2 _ (by decide) (by decide)]))
    · rw [upI_upO]; funext k; exact (upO_ne _ _ _ c1).trans (by rw [q2 c (by omega) (by omega)])
  refine w_iload rfl rfl (w_iconst rfl ?_)
  refine w_icmp_ne (tgt := 25) rfl (by first | assumption | exact i32_0 | (unfold i32 at *; omega)) (by first | assumption | exact i32_0 | (unfold i32 at *; omega)) rfl (fun c3 => ?_) (fun c3 => ?_)
  · skip
    refine w_iload rfl rfl (w_iconst rfl ?_)
    refine w_icmp_ne (tgt := 44) rfl (by first | assumption | exact i32_0 | (unfold i32 at *; omega)) (by first | assumption | exact i32_0 | (unfold i32 at *; omega)) rfl (fun c28 => ?_) (fun c28 => ?_)
    · skip
      refine w_iconst rfl (w_istore (ls2 := [_, _, _]) rfl rfl rfl (w_iload rfl rfl (w_iconst rfl ?_)))
      refine w_icmp_eq (tgt := 65) rfl (by first | assumption | exact i32_0 | (unfold i32 at *; omega)) (by first | assumption | exact i32_0 | (unfold i32 at *; omega)) rfl (fun c49 => ?_) (fun c49 => ?_)
      · skip
        refine w_aload rfl rfl (w_getR rfl (by first | rfl | assumption) rfl (by first | rfl | assumption) (w_aload rfl rfl (w_getIV rfl (by first | rfl | assumption) (by first | exact Or.inl rfl | exact Or.inr rfl) (k6) ?_)))
        refine w_call (Or.inr rfl) (e_of_first M isP_4) (by omega) nof_24 rfl rfl rfl rfl (by first | rfl | (show cKB[_]? = _; assumption)) rfl ?_
        refine w_iconst rfl (w_aload rfl rfl (w_getIV rfl (by first | rfl | assumption) (by first | exact Or.inl rfl | exact Or.inr rfl) (k7) (w_imul rfl (w_aload rfl rfl (w_getIV rfl (by first | rfl | assumption) (by first | exact Or.inl rfl | exact Or.inr rfl) (k8) (w_iadd rfl (w_aload rfl rfl ?_)))))))
        refine w_getIV rfl (by first | rfl | assumption) (by first | exact Or.inl rfl | exact Or.inr rfl) (k 9) ?_
        refine w_callQ (Or.inr rfl) ((e_lowerC isT_5 hr2 hf hi9 (by omega) : EQ 3 29 [vR 5, vI ((5 * i + j : Nat) : Int), vI (r 9)] M _)) (by omega) nof_29 rfl rfl rfl rfl (by first | rfl | (show cKB[_]? = _; assumption)) (fun r91 M91 hq91 => ?_)
        obtain ⟨rfl, w1, w2⟩ := hq91
        obtain ⟨s, hs, hz⟩ := hfin _ w1 w2
        have hb := e_beginTerm M91 s
        rw [← upO_self hs] at hb
        refine w_aload rfl rfl ?_
        refine w_call (Or.inr rfl) (hb) (by omega) nof_18 rfl rfl rfl rfl (by first | rfl | (show cKB[_]? = _; assumption)) rfl ?_
        refine w_aload rfl rfl (w_iload rfl rfl ?_)
        refine w_if_eq (tgt := 107) rfl (by first | assumption | exact i32_0 | (unfold i32 at *; omega)) rfl (fun _ => ?_) (fun c => absurd c (by decide))
        refine w_iconst rfl (w_putI rfl (by first | rfl | assumption) rfl (w_iconst rfl ?_))
        exact w_zreturn rfl (by first | exact Or.inl rfl | exact Or.inr rfl | omega | assumption) ⟨by first | rfl | (congr 2; omega), by exact hz⟩
      · skip
        refine w_iload rfl rfl (w_iconst rfl ?_)
        refine w_icmp_eq (tgt := 65) rfl (by first | assumption | exact i32_0 | (unfold i32 at *; omega)) (by first | assumption | exact i32_0 | (unfold i32 at *; omega)) rfl (fun c56 => ?_) (fun c56 => ?_)
        · skip
          refine w_aload rfl rfl (w_getR rfl (by first | rfl | assumption) rfl (by first | rfl | assumption) (w_aload rfl rfl (w_getIV rfl (by first | rfl | assumption) (by first | exact Or.inl rfl | exact Or.inr rfl) (k6) ?_)))
          refine w_call (Or.inr rfl) (e_of_first M isP_4) (by omega) nof_24 rfl rfl rfl rfl (by first | rfl | (show cKB[_]? = _; assumption)) rfl ?_
          refine w_iconst rfl (w_aload rfl rfl (w_getIV rfl (by first | rfl | assumption) (by first | exact Or.inl rfl | exact Or.inr rfl) (k7) (w_imul rfl (w_aload rfl rfl (w_getIV rfl (by first | rfl | assumption) (by first | exact Or.inl rfl | exact Or.inr rfl) (k8) (w_iadd rfl (w_aload rfl rfl ?_)))))))
          refine w_getIV rfl (by first | rfl | assumption) (by first | exact Or.inl rfl | exact Or.inr rfl) (k 9) ?_
          refine w_callQ (Or.inr rfl) ((e_lowerC isT_5 hr2 hf hi9 (by omega) : EQ 3 29 [vR 5, vI ((5 * i + j : Nat) : Int), vI (r 9)] M _)) (by omega) nof_29 rfl rfl rfl rfl (by first | rfl | (show cKB[_]? = _; assumption)) (fun r91 M91 hq91 => ?_)
          obtain ⟨rfl, w1, w2⟩ := hq91
          obtain ⟨s, hs, hz⟩ := hfin _ w1 w2
          have hb := e_beginTerm M91 s
          rw [← upO_self hs] at hb
          refine w_aload rfl rfl ?_
          refine w_call (Or.inr rfl) (hb) (by omega) nof_18 rfl rfl rfl rfl (by first | rfl | (show cKB[_]? = _; assumption)) rfl ?_
          refine w_aload rfl rfl (w_iload rfl rfl ?_)
          refine w_if_eq (tgt := 107) rfl (by first | assumption | exact i32_0 | (unfold i32 at *; omega)) rfl (fun _ => ?_) (fun c => absurd c (by decide))
          refine w_iconst rfl (w_putI rfl (by first | rfl | assumption) rfl (w_iconst rfl ?_))
          exact w_zreturn rfl (by first | exact Or.inl rfl | exact Or.inr rfl | omega | assumption) ⟨by first | rfl | (congr 2; omega), by exact hz⟩
        · skip
          refine w_iload rfl rfl ?_
          refine w_if_ne (tgt := 65) rfl (by first | assumption | exact i32_0 | (unfold i32 at *; omega)) rfl (fun c => absurd c (by decide)) (fun _ => ?_)
          exfalso; omega
    · skip
      refine w_aload rfl rfl (w_getIV rfl (by first | rfl | assumption) (by first | exact Or.inl rfl | exact Or.inr rfl) (k 5) (w_iconst rfl ?_))
      refine w_icmp_ge (tgt := 44) rfl (by first | assumption | exact i32_0 | (unfold i32 at *; omega)) (by first | assumption | exact i32_0 | (unfold i32 at *; omega)) rfl (fun c37 => ?_) (fun c37 => ?_)
      · skip
        refine w_iconst rfl (w_istore (ls2 := [_, _, _]) rfl rfl rfl (w_iload rfl rfl (w_iconst rfl ?_)))
        refine w_icmp_eq (tgt := 65) rfl (by first | assumption | exact i32_0 | (unfold i32 at *; omega)) (by first | assumption | exact i32_0 | (unfold i32 at *; omega)) rfl (fun c49 => ?_) (fun c49 => ?_)
        · skip
          refine w_aload rfl rfl (w_getR rfl (by first | rfl | assumption) rfl (by first | rfl | assumption) (w_aload rfl rfl (w_getIV rfl (by first | rfl | assumption) (by first | exact Or.inl rfl | exact Or.inr rfl) (k6) ?_)))
          refine w_call (Or.inr rfl) (e_of_first M isP_4) (by omega) nof_24 rfl rfl rfl rfl (by first | rfl | (show cKB[_]? = _; assumption)) rfl ?_
          refine w_iconst rfl (w_aload rfl rfl (w_getIV rfl (by first | rfl | assumption) (by first | exact Or.inl rfl | exact Or.inr rfl) (k7) (w_imul rfl (w_aload rfl rfl (w_getIV rfl (by first | rfl | assumption) (by first | exact Or.inl rfl | exact Or.inr rfl) (k8) (w_iadd rfl (w_aload rfl rfl ?_)))))))
          refine w_getIV rfl (by first | rfl | assumption) (by first | exact Or.inl rfl | exact Or.inr rfl) (k 9) ?_
          refine w_callQ (Or.inr rfl) ((e_lowerC isT_5 hr2 hf hi9 (by omega) : EQ 3 29 [vR 5, vI ((5 * i + j : Nat) : Int), vI (r 9)] M _)) (by omega) nof_29 rfl rfl rfl rfl (by first | rfl | (show cKB[_]? = _; assumption)) (fun r91 M91 hq91 => ?_)
          obtain ⟨rfl, w1, w2⟩ := hq91
          obtain ⟨s, hs, hz⟩ := hfin _ w1 w2
          have hb := e_beginTerm M91 s
          rw [← upO_self hs] at hb
          refine w_aload rfl rfl ?_
          refine w_call (Or.inr rfl) (hb) (by omega) nof_18 rfl rfl rfl rfl (by first | rfl | (show cKB[_]? = _; assumption)) rfl ?_
          refine w_aload rfl rfl (w_iload rfl rfl ?_)
          refine w_if_eq (tgt := 107) rfl (by first | assumption | exact i32_0 | (unfold i32 at *; omega)) rfl (fun _ => ?_) (fun c => absurd c (by decide))
          refine w_iconst rfl (w_putI rfl (by first | rfl | assumption) rfl (w_iconst rfl ?_))
          exact w_zreturn rfl (by first | exact Or.inl rfl | exact Or.inr rfl | omega | assumption) ⟨by first | rfl | (congr 2; omega), by exact hz⟩
        · skip
          refine w_iload rfl rfl (w_iconst rfl ?_)
          refine w_icmp_eq (tgt := 65) rfl (by first | assumption | exact i32_0 | (unfold i32 at *; omega)) (by first | assumption | exact i32_0 | (unfold i32 at *; omega)) rfl (fun c56 => ?_) (fun c56 => ?_)
          · skip
            refine w_aload rfl rfl (w_getR rfl (by first | rfl | assumption) rfl (by first | rfl | assumption) (w_aload rfl rfl (w_getIV rfl (by first | rfl | assumption) (by first | exact Or.inl rfl | exact Or.inr rfl) (k6) ?_)))
            refine w_call (Or.inr rfl) (e_of_first M isP_4) (by omega) nof_24 rfl rfl rfl rfl (by first | rfl | (show cKB[_]? = _; assumption)) rfl ?_
            refine w_iconst rfl (w_aload rfl rfl (w_getIV rfl (by first | rfl | assumption) (by first | exact Or.inl rfl | exact Or.inr rfl) (k7) (w_imul rfl (w_aload rfl rfl (w_getIV rfl (by first | rfl | assumption) (by first | exact Or.inl rfl | exact Or.inr rfl) (k8) (w_iadd rfl (w_aload rfl rfl ?_)))))))
            refine w_getIV rfl (by first | rfl | assumption) (by first | exact Or.inl rfl | exact Or.inr rfl) (k 9) ?_
            refine w_callQ (Or.inr rfl) ((e_lowerC isT_5 hr2 hf hi9 (by omega) : EQ 3 29 [vR 5, vI ((5 * i + j : Nat) : Int), vI (r 9)] M _)) (by omega) nof_29 rfl rfl rfl rfl (by first | rfl | (show cKB[_]? = _; assumption)) (fun r91 M91 hq91 => ?_)
            obtain ⟨rfl, w1, w2⟩ := hq91
            obtain ⟨s, hs, hz⟩ := hfin _ w1 w2
            have hb := e_beginTerm M91 s
            rw [← upO_self hs] at hb
            refine w_aload rfl rfl ?_
            refine w_call (Or.inr rfl) (hb) (by omega) nof_18 rfl rfl rfl rfl (by first | rfl | (show cKB[_]? = _; assumption)) rfl ?_
            refine w_aload rfl rfl (w_iload rfl rfl ?_)
            refine w_if_eq (tgt := 107) rfl (by first | assumption | exact i32_0 | (unfold i32 at *; omega)) rfl (fun _ => ?_) (fun c => absurd c (by decide))
            refine w_iconst rfl (w_putI rfl (by first | rfl | assumption) rfl (w_iconst rfl ?_))
            exact w_zreturn rfl (by first | exact Or.inl rfl | exact Or.inr rfl | omega | assumption) ⟨by first | rfl | (congr 2; omega), by exact hz⟩
          · skip
            refine w_iload rfl rfl ?_
            refine w_if_ne (tgt := 65) rfl (by first | assumption | exact i32_0 | (unfold i32 at *; omega)) rfl (fun c => absurd c (by decide)) (fun _ => ?_)
            exfalso; omega
      · skip
        exfalso; omega
  · skip
    exfalso; omega
theorem e_fol_01 {M : mM} {r : Nat → Int} {f g : Cv} {kind : Int} (hr : RdM r f g M) (hi : RdI r) (hf : Cok 999 f) (hg : Cok 999 g) (h6 : r 6 = 0) (hkk : kind = 59) (h5 : r 5 < 24) : EQ 4 28 [vR 3, vI kind] M (fun q M1 => q = some (vI 1) ∧ RdM (sR (rdNew r) 1 0) (folL r f g).1 (folL r f g).2 M1 ∧ RdF M M1) := by
  obtain ⟨hi1, -, -, hi9, -, hi5, -⟩ := hi
  obtain ⟨hr1, hr2, hr3⟩ := hr
  have e1 : (folL r f g).1 = lowC f (5 * r 7 + r 8).toNat (r 9) := if_pos h6
  have e2 : (folL r f g).2 = g := if_pos h6
  rw [e1, e2]
  have k (j : Nat) : M 3 j = r j := by rw [hr1]
  obtain ⟨i, hi7⟩ : ∃ i : Nat, r 7 = i := ⟨(r 7).toNat, by omega⟩
  obtain ⟨j, hi8⟩ : ∃ j : Nat, r 8 = j := ⟨(r 8).toNat, by omega⟩
  have ep : (5 * r 7 + r 8).toNat = 5 * i + j := by omega
  rw [ep]
  have k7 : M 3 7 = (i : Int) := (k 7).trans hi7
  have k8 : M 3 8 = (j : Int) := (k 8).trans hi8
  have k6 : M 3 6 = 0 := (k 6).trans h6
  refine q_in (ls := [vR 3, vI kind, vN]) mq_28 (ml_28 rfl) rfl fun D hD => ?_
  have hfin : ∀ N : mM, cur 5 (lowC f (5 * i + j) (r 9)) N → (∀ b, b ≠ 5 → b ≠ 5 + 1 → N b = M b) → ∃ s : Nat → Int, N 3 = s ∧ RdM (sR (rdNew r) 1 0) (lowC f (5 * i + j) (r 9)) g (upI (upO N 3 (rdNew s)) 3 1 0) ∧ RdF M (upI (upO N 3 (rdNew s)) 3 1 0) := fun N q1 q2 => by
    refine ⟨r, by rw [q2 3 (by decide) (by decide), hr1], ⟨?_, ?_, ?_⟩, fun c c1 c2 => ?_⟩
    · rw [upI_upO]; funext j; exact upO_at _ _ _ _
    · rw [upI_upO]; exact cur_fr q1 (fun k => upO_ne _ _ _ (by decide))
    · rw [upI_upO]; exact cur_fr hr3 (fun k => (upO_ne _ _ _ (by decide)).trans (by rw [q2 _ (by decide) (by decide)]))
    · rw [upI_upO]; funext k; exact (upO_ne _ _ _ c1).trans (by rw [q2 c (by omega) (by omega)])
  refine w_iload rfl rfl (w_iconst rfl ?_)
  refine w_icmp_ne (tgt := 25) rfl (by first | assumption | exact i32_0 | (unfold i32 at *; omega)) (by first | assumption | exact i32_0 | (unfold i32 at *; omega)) rfl (fun c3 => ?_) (fun c3 => ?_)
  · skip
    refine w_iload rfl rfl (w_iconst rfl ?_)
    refine w_icmp_ne (tgt := 44) rfl (by first | assumption | exact i32_0 | (unfold i32 at *; omega)) (by first | assumption | exact i32_0 | (unfold i32 at *; omega)) rfl (fun c28 => ?_) (fun c28 => ?_)
    · skip
      exfalso; omega
    · skip
      refine w_aload rfl rfl (w_getIV rfl (by first | rfl | assumption) (by first | exact Or.inl rfl | exact Or.inr rfl) (k 5) (w_iconst rfl ?_))
      refine w_icmp_ge (tgt := 44) rfl (by first | assumption | exact i32_0 | (unfold i32 at *; omega)) (by first | assumption | exact i32_0 | (unfold i32 at *; omega)) rfl (fun c37 => ?_) (fun c37 => ?_)
      · skip
        exfalso; omega
      · skip
        refine w_iconst rfl (w_goto (tgt := 45) rfl rfl (w_istore (ls2 := [_, _, _]) rfl rfl rfl (w_iload rfl rfl (w_iconst rfl ?_))))
        refine w_icmp_eq (tgt := 65) rfl (by first | assumption | exact i32_0 | (unfold i32 at *; omega)) (by first | assumption | exact i32_0 | (unfold i32 at *; omega)) rfl (fun c49 => ?_) (fun c49 => ?_)
        · skip
          refine w_aload rfl rfl (w_getR rfl (by first | rfl | assumption) rfl (by first | rfl | assumption) (w_aload rfl rfl (w_getIV rfl (by first | rfl | assumption) (by first | exact Or.inl rfl | exact Or.inr rfl) (k6) ?_)))
          refine w_call (Or.inr rfl) (e_of_first M isP_4) (by omega) nof_24 rfl rfl rfl rfl (by first | rfl | (show cKB[_]? = _; assumption)) rfl ?_
          refine w_iconst rfl (w_aload rfl rfl (w_getIV rfl (by first | rfl | assumption) (by first | exact Or.inl rfl | exact Or.inr rfl) (k7) (w_imul rfl (w_aload rfl rfl (w_getIV rfl (by first | rfl | assumption) (by first | exact Or.inl rfl | exact Or.inr rfl) (k8) (w_iadd rfl (w_aload rfl rfl ?_)))))))
          refine w_getIV rfl (by first | rfl | assumption) (by first | exact Or.inl rfl | exact Or.inr rfl) (k 9) ?_
          refine w_callQ (Or.inr rfl) ((e_lowerC isT_5 hr2 hf hi9 (by omega) : EQ 3 29 [vR 5, vI ((5 * i + j : Nat) : Int), vI (r 9)] M _)) (by omega) nof_29 rfl rfl rfl rfl (by first | rfl | (show cKB[_]? = _; assumption)) (fun r91 M91 hq91 => ?_)
          obtain ⟨rfl, w1, w2⟩ := hq91
          obtain ⟨s, hs, hz⟩ := hfin _ w1 w2
          have hb := e_beginTerm M91 s
          rw [← upO_self hs] at hb
          refine w_aload rfl rfl ?_
          refine w_call (Or.inr rfl) (hb) (by omega) nof_18 rfl rfl rfl rfl (by first | rfl | (show cKB[_]? = _; assumption)) rfl ?_
          refine w_aload rfl rfl (w_iload rfl rfl ?_)
          refine w_if_eq (tgt := 107) rfl (by first | assumption | exact i32_0 | (unfold i32 at *; omega)) rfl (fun c => absurd c (by decide)) (fun _ => ?_)
          refine w_iconst rfl (w_goto (tgt := 108) rfl rfl (w_putI rfl (by first | rfl | assumption) rfl (w_iconst rfl ?_)))
          exact w_zreturn rfl (by first | exact Or.inl rfl | exact Or.inr rfl | omega | assumption) ⟨by first | rfl | (congr 2; omega), by exact hz⟩
        · skip
          refine w_iload rfl rfl (w_iconst rfl ?_)
          refine w_icmp_eq (tgt := 65) rfl (by first | assumption | exact i32_0 | (unfold i32 at *; omega)) (by first | assumption | exact i32_0 | (unfold i32 at *; omega)) rfl (fun c56 => ?_) (fun c56 => ?_)
          · skip
            refine w_aload rfl rfl (w_getR rfl (by first | rfl | assumption) rfl (by first | rfl | assumption) (w_aload rfl rfl (w_getIV rfl (by first | rfl | assumption) (by first | exact Or.inl rfl | exact Or.inr rfl) (k6) ?_)))
            refine w_call (Or.inr rfl) (e_of_first M isP_4) (by omega) nof_24 rfl rfl rfl rfl (by first | rfl | (show cKB[_]? = _; assumption)) rfl ?_
            refine w_iconst rfl (w_aload rfl rfl (w_getIV rfl (by first | rfl | assumption) (by first | exact Or.inl rfl | exact Or.inr rfl) (k7) (w_imul rfl (w_aload rfl rfl (w_getIV rfl (by first | rfl | assumption) (by first | exact Or.inl rfl | exact Or.inr rfl) (k8) (w_iadd rfl (w_aload rfl rfl ?_)))))))
            refine w_getIV rfl (by first | rfl | assumption) (by first | exact Or.inl rfl | exact Or.inr rfl) (k 9) ?_
            refine w_callQ (Or.inr rfl) ((e_lowerC isT_5 hr2 hf hi9 (by omega) : EQ 3 29 [vR 5, vI ((5 * i + j : Nat) : Int), vI (r 9)] M _)) (by omega) nof_29 rfl rfl rfl rfl (by first | rfl | (show cKB[_]? = _; assumption)) (fun r91 M91 hq91 => ?_)
            obtain ⟨rfl, w1, w2⟩ := hq91
            obtain ⟨s, hs, hz⟩ := hfin _ w1 w2
            have hb := e_beginTerm M91 s
            rw [← upO_self hs] at hb
            refine w_aload rfl rfl ?_
            refine w_call (Or.inr rfl) (hb) (by omega) nof_18 rfl rfl rfl rfl (by first | rfl | (show cKB[_]? = _; assumption)) rfl ?_
            refine w_aload rfl rfl (w_iload rfl rfl ?_)
            refine w_if_eq (tgt := 107) rfl (by first | assumption | exact i32_0 | (unfold i32 at *; omega)) rfl (fun c => absurd c (by decide)) (fun _ => ?_)
            refine w_iconst rfl (w_goto (tgt := 108) rfl rfl (w_putI rfl (by first | rfl | assumption) rfl (w_iconst rfl ?_)))
            exact w_zreturn rfl (by first | exact Or.inl rfl | exact Or.inr rfl | omega | assumption) ⟨by first | rfl | (congr 2; omega), by exact hz⟩
          · skip
            refine w_iload rfl rfl ?_
            refine w_if_ne (tgt := 65) rfl (by first | assumption | exact i32_0 | (unfold i32 at *; omega)) rfl (fun _ => ?_) (fun c => absurd c (by decide))
            refine w_aload rfl rfl (w_getR rfl (by first | rfl | assumption) rfl (by first | rfl | assumption) (w_aload rfl rfl (w_getIV rfl (by first | rfl | assumption) (by first | exact Or.inl rfl | exact Or.inr rfl) (k6) ?_)))
            refine w_call (Or.inr rfl) (e_of_first M isP_4) (by omega) nof_24 rfl rfl rfl rfl (by first | rfl | (show cKB[_]? = _; assumption)) rfl ?_
            refine w_iconst rfl (w_aload rfl rfl (w_getIV rfl (by first | rfl | assumption) (by first | exact Or.inl rfl | exact Or.inr rfl) (k7) (w_imul rfl (w_aload rfl rfl (w_getIV rfl (by first | rfl | assumption) (by first | exact Or.inl rfl | exact Or.inr rfl) (k8) (w_iadd rfl (w_aload rfl rfl ?_)))))))
            refine w_getIV rfl (by first | rfl | assumption) (by first | exact Or.inl rfl | exact Or.inr rfl) (k 9) ?_
            refine w_callQ (Or.inr rfl) ((e_lowerC isT_5 hr2 hf hi9 (by omega) : EQ 3 29 [vR 5, vI ((5 * i + j : Nat) : Int), vI (r 9)] M _)) (by omega) nof_29 rfl rfl rfl rfl (by first | rfl | (show cKB[_]? = _; assumption)) (fun r91 M91 hq91 => ?_)
            obtain ⟨rfl, w1, w2⟩ := hq91
            obtain ⟨s, hs, hz⟩ := hfin _ w1 w2
            have hb := e_beginTerm M91 s
            rw [← upO_self hs] at hb
            refine w_aload rfl rfl ?_
            refine w_call (Or.inr rfl) (hb) (by omega) nof_18 rfl rfl rfl rfl (by first | rfl | (show cKB[_]? = _; assumption)) rfl ?_
            refine w_aload rfl rfl (w_iload rfl rfl ?_)
            refine w_if_eq (tgt := 107) rfl (by first | assumption | exact i32_0 | (unfold i32 at *; omega)) rfl (fun c => absurd c (by decide)) (fun _ => ?_)
            refine w_iconst rfl (w_goto (tgt := 108) rfl rfl (w_putI rfl (by first | rfl | assumption) rfl (w_iconst rfl ?_)))
            exact w_zreturn rfl (by first | exact Or.inl rfl | exact Or.inr rfl | omega | assumption) ⟨by first | rfl | (congr 2; omega), by exact hz⟩
  · skip
    exfalso; omega
theorem e_fol_10 {M : mM} {r : Nat → Int} {f g : Cv} {kind : Int} (hr : RdM r f g M) (hi : RdI r) (hf : Cok 999 f) (hg : Cok 999 g) (h6 : r 6 = 1) (hkk : kind = 44 ∨ kind = 257) : EQ 4 28 [vR 3, vI kind] M (fun q M1 => q = some (vI 1) ∧ RdM (sR (rdNew r) 1 2) (folL r f g).1 (folL r f g).2 M1 ∧ RdF M M1) := by
  obtain ⟨hi1, -, -, hi9, -, hi5, -⟩ := hi
  obtain ⟨hr1, hr2, hr3⟩ := hr
  have e1 : (folL r f g).1 = f := if_neg (by omega)
  have e2 : (folL r f g).2 = lowC g (5 * r 7 + r 8).toNat (r 9) := if_neg (by omega)
  rw [e1, e2]
  have k (j : Nat) : M 3 j = r j := by rw [hr1]
  obtain ⟨i, hi7⟩ : ∃ i : Nat, r 7 = i := ⟨(r 7).toNat, by omega⟩
  obtain ⟨j, hi8⟩ : ∃ j : Nat, r 8 = j := ⟨(r 8).toNat, by omega⟩
  have ep : (5 * r 7 + r 8).toNat = 5 * i + j := by omega
  rw [ep]
  have k7 : M 3 7 = (i : Int) := (k 7).trans hi7
  have k8 : M 3 8 = (j : Int) := (k 8).trans hi8
  have k6 : M 3 6 = 1 := (k 6).trans h6
  refine q_in (ls := [vR 3, vI kind, vN]) mq_28 (ml_28 rfl) rfl fun D hD => ?_
  have hfin : ∀ N : mM, cur 7 (lowC g (5 * i + j) (r 9)) N → (∀ b, b ≠ 7 → b ≠ 7 + 1 → N b = M b) → ∃ s : Nat → Int, N 3 = s ∧ RdM (sR (rdNew r) 1 2) f (lowC g (5 * i + j) (r 9)) (upI (upO N 3 (rdNew s)) 3 1 2) ∧ RdF M (upI (upO N 3 (rdNew s)) 3 1 2) := fun N q1 q2 => by
    refine ⟨r, by rw [q2 3 (by decide) (by decide), hr1], ⟨?_, ?_, ?_⟩, fun c c1 c2 => ?_⟩
    · rw [upI_upO]; funext j; exact upO_at _ _ _ _
    · rw [upI_upO]; exact cur_fr hr2 (fun k => (upO_ne _ _ _ (by decide)).trans (by rw [q2 _ (by decide) (by decide)]))
    · rw [upI_upO]; exact cur_fr q1 (fun k => upO_ne _ _ _ (by decide))
    · rw [upI_upO]; funext k; exact (upO_ne _ _ _ c1).trans (by rw [q2 c (by omega) (by omega)])
  refine w_iload rfl rfl (w_iconst rfl ?_)
  refine w_icmp_ne (tgt := 25) rfl (by first | assumption | exact i32_0 | (unfold i32 at *; omega)) (by first | assumption | exact i32_0 | (unfold i32 at *; omega)) rfl (fun c3 => ?_) (fun c3 => ?_)
  · skip
    refine w_iload rfl rfl (w_iconst rfl ?_)
    refine w_icmp_ne (tgt := 44) rfl (by first | assumption | exact i32_0 | (unfold i32 at *; omega)) (by first | assumption | exact i32_0 | (unfold i32 at *; omega)) rfl (fun c28 => ?_) (fun c28 => ?_)
    · skip
      refine w_iconst rfl (w_istore (ls2 := [_, _, _]) rfl rfl rfl (w_iload rfl rfl (w_iconst rfl ?_)))
      refine w_icmp_eq (tgt := 65) rfl (by first | assumption | exact i32_0 | (unfold i32 at *; omega)) (by first | assumption | exact i32_0 | (unfold i32 at *; omega)) rfl (fun c49 => ?_) (fun c49 => ?_)
      · skip
        refine w_aload rfl rfl (w_getR rfl (by first | rfl | assumption) rfl (by first | rfl | assumption) (w_aload rfl rfl (w_getIV rfl (by first | rfl | assumption) (by first | exact Or.inl rfl | exact Or.inr rfl) (k6) ?_)))
        refine w_call (Or.inr rfl) (e_of_second M isP_4) (by omega) nof_24 rfl rfl rfl rfl (by first | rfl | (show cKB[_]? = _; assumption)) rfl ?_
        refine w_iconst rfl (w_aload rfl rfl (w_getIV rfl (by first | rfl | assumption) (by first | exact Or.inl rfl | exact Or.inr rfl) (k7) (w_imul rfl (w_aload rfl rfl (w_getIV rfl (by first | rfl | assumption) (by first | exact Or.inl rfl | exact Or.inr rfl) (k8) (w_iadd rfl (w_aload rfl rfl ?_)))))))
        refine w_getIV rfl (by first | rfl | assumption) (by first | exact Or.inl rfl | exact Or.inr rfl) (k 9) ?_
        refine w_callQ (Or.inr rfl) ((e_lowerC isT_7 hr3 hg hi9 (by omega) : EQ 3 29 [vR 7, vI ((5 * i + j : Nat) : Int), vI (r 9)] M _)) (by omega) nof_29 rfl rfl rfl rfl (by first | rfl | (show cKB[_]? = _; assumption)) (fun r91 M91 hq91 => ?_)
        obtain ⟨rfl, w1, w2⟩ := hq91
        obtain ⟨s, hs, hz⟩ := hfin _ w1 w2
        have hb := e_beginTerm M91 s
        rw [← upO_self hs] at hb
        refine w_aload rfl rfl ?_
        refine w_call (Or.inr rfl) (hb) (by omega) nof_18 rfl rfl rfl rfl (by first | rfl | (show cKB[_]? = _; assumption)) rfl ?_
        refine w_aload rfl rfl (w_iload rfl rfl ?_)
        refine w_if_eq (tgt := 107) rfl (by first | assumption | exact i32_0 | (unfold i32 at *; omega)) rfl (fun _ => ?_) (fun c => absurd c (by decide))
        refine w_iconst rfl (w_putI rfl (by first | rfl | assumption) rfl (w_iconst rfl ?_))
        exact w_zreturn rfl (by first | exact Or.inl rfl | exact Or.inr rfl | omega | assumption) ⟨by first | rfl | (congr 2; omega), by exact hz⟩
      · skip
        refine w_iload rfl rfl (w_iconst rfl ?_)
        refine w_icmp_eq (tgt := 65) rfl (by first | assumption | exact i32_0 | (unfold i32 at *; omega)) (by first | assumption | exact i32_0 | (unfold i32 at *; omega)) rfl (fun c56 => ?_) (fun c56 => ?_)
        · skip
          refine w_aload rfl rfl (w_getR rfl (by first | rfl | assumption) rfl (by first | rfl | assumption) (w_aload rfl rfl (w_getIV rfl (by first | rfl | assumption) (by first | exact Or.inl rfl | exact Or.inr rfl) (k6) ?_)))
          refine w_call (Or.inr rfl) (e_of_second M isP_4) (by omega) nof_24 rfl rfl rfl rfl (by first | rfl | (show cKB[_]? = _; assumption)) rfl ?_
          refine w_iconst rfl (w_aload rfl rfl (w_getIV rfl (by first | rfl | assumption) (by first | exact Or.inl rfl | exact Or.inr rfl) (k7) (w_imul rfl (w_aload rfl rfl (w_getIV rfl (by first | rfl | assumption) (by first | exact Or.inl rfl | exact Or.inr rfl) (k8) (w_iadd rfl (w_aload rfl rfl ?_)))))))
          refine w_getIV rfl (by first | rfl | assumption) (by first | exact Or.inl rfl | exact Or.inr rfl) (k 9) ?_
          refine w_callQ (Or.inr rfl) ((e_lowerC isT_7 hr3 hg hi9 (by omega) : EQ 3 29 [vR 7, vI ((5 * i + j : Nat) : Int), vI (r 9)] M _)) (by omega) nof_29 rfl rfl rfl rfl (by first | rfl | (show cKB[_]? = _; assumption)) (fun r91 M91 hq91 => ?_)
          obtain ⟨rfl, w1, w2⟩ := hq91
          obtain ⟨s, hs, hz⟩ := hfin _ w1 w2
          have hb := e_beginTerm M91 s
          rw [← upO_self hs] at hb
          refine w_aload rfl rfl ?_
          refine w_call (Or.inr rfl) (hb) (by omega) nof_18 rfl rfl rfl rfl (by first | rfl | (show cKB[_]? = _; assumption)) rfl ?_
          refine w_aload rfl rfl (w_iload rfl rfl ?_)
          refine w_if_eq (tgt := 107) rfl (by first | assumption | exact i32_0 | (unfold i32 at *; omega)) rfl (fun _ => ?_) (fun c => absurd c (by decide))
          refine w_iconst rfl (w_putI rfl (by first | rfl | assumption) rfl (w_iconst rfl ?_))
          exact w_zreturn rfl (by first | exact Or.inl rfl | exact Or.inr rfl | omega | assumption) ⟨by first | rfl | (congr 2; omega), by exact hz⟩
        · skip
          refine w_iload rfl rfl ?_
          refine w_if_ne (tgt := 65) rfl (by first | assumption | exact i32_0 | (unfold i32 at *; omega)) rfl (fun c => absurd c (by decide)) (fun _ => ?_)
          exfalso; omega
    · skip
      refine w_aload rfl rfl (w_getIV rfl (by first | rfl | assumption) (by first | exact Or.inl rfl | exact Or.inr rfl) (k 5) (w_iconst rfl ?_))
      refine w_icmp_ge (tgt := 44) rfl (by first | assumption | exact i32_0 | (unfold i32 at *; omega)) (by first | assumption | exact i32_0 | (unfold i32 at *; omega)) rfl (fun c37 => ?_) (fun c37 => ?_)
      · skip
        refine w_iconst rfl (w_istore (ls2 := [_, _, _]) rfl rfl rfl (w_iload rfl rfl (w_iconst rfl ?_)))
        refine w_icmp_eq (tgt := 65) rfl (by first | assumption | exact i32_0 | (unfold i32 at *; omega)) (by first | assumption | exact i32_0 | (unfold i32 at *; omega)) rfl (fun c49 => ?_) (fun c49 => ?_)
        · skip
          refine w_aload rfl rfl (w_getR rfl (by first | rfl | assumption) rfl (by first | rfl | assumption) (w_aload rfl rfl (w_getIV rfl (by first | rfl | assumption) (by first | exact Or.inl rfl | exact Or.inr rfl) (k6) ?_)))
          refine w_call (Or.inr rfl) (e_of_second M isP_4) (by omega) nof_24 rfl rfl rfl rfl (by first | rfl | (show cKB[_]? = _; assumption)) rfl ?_
          refine w_iconst rfl (w_aload rfl rfl (w_getIV rfl (by first | rfl | assumption) (by first | exact Or.inl rfl | exact Or.inr rfl) (k7) (w_imul rfl (w_aload rfl rfl (w_getIV rfl (by first | rfl | assumption) (by first | exact Or.inl rfl | exact Or.inr rfl) (k8) (w_iadd rfl (w_aload rfl rfl ?_)))))))
          refine w_getIV rfl (by first | rfl | assumption) (by first | exact Or.inl rfl | exact Or.inr rfl) (k 9) ?_
          refine w_callQ (Or.inr rfl) ((e_lowerC isT_7 hr3 hg hi9 (by omega) : EQ 3 29 [vR 7, vI ((5 * i + j : Nat) : Int), vI (r 9)] M _)) (by omega) nof_29 rfl rfl rfl rfl (by first | rfl | (show cKB[_]? = _; assumption)) (fun r91 M91 hq91 => ?_)
          obtain ⟨rfl, w1, w2⟩ := hq91
          obtain ⟨s, hs, hz⟩ := hfin _ w1 w2
          have hb := e_beginTerm M91 s
          rw [← upO_self hs] at hb
          refine w_aload rfl rfl ?_
          refine w_call (Or.inr rfl) (hb) (by omega) nof_18 rfl rfl rfl rfl (by first | rfl | (show cKB[_]? = _; assumption)) rfl ?_
          refine w_aload rfl rfl (w_iload rfl rfl ?_)
          refine w_if_eq (tgt := 107) rfl (by first | assumption | exact i32_0 | (unfold i32 at *; omega)) rfl (fun _ => ?_) (fun c => absurd c (by decide))
          refine w_iconst rfl (w_putI rfl (by first | rfl | assumption) rfl (w_iconst rfl ?_))
          exact w_zreturn rfl (by first | exact Or.inl rfl | exact Or.inr rfl | omega | assumption) ⟨by first | rfl | (congr 2; omega), by exact hz⟩
        · skip
          refine w_iload rfl rfl (w_iconst rfl ?_)
          refine w_icmp_eq (tgt := 65) rfl (by first | assumption | exact i32_0 | (unfold i32 at *; omega)) (by first | assumption | exact i32_0 | (unfold i32 at *; omega)) rfl (fun c56 => ?_) (fun c56 => ?_)
          · skip
            refine w_aload rfl rfl (w_getR rfl (by first | rfl | assumption) rfl (by first | rfl | assumption) (w_aload rfl rfl (w_getIV rfl (by first | rfl | assumption) (by first | exact Or.inl rfl | exact Or.inr rfl) (k6) ?_)))
            refine w_call (Or.inr rfl) (e_of_second M isP_4) (by omega) nof_24 rfl rfl rfl rfl (by first | rfl | (show cKB[_]? = _; assumption)) rfl ?_
            refine w_iconst rfl (w_aload rfl rfl (w_getIV rfl (by first | rfl | assumption) (by first | exact Or.inl rfl | exact Or.inr rfl) (k7) (w_imul rfl (w_aload rfl rfl (w_getIV rfl (by first | rfl | assumption) (by first | exact Or.inl rfl | exact Or.inr rfl) (k8) (w_iadd rfl (w_aload rfl rfl ?_)))))))
            refine w_getIV rfl (by first | rfl | assumption) (by first | exact Or.inl rfl | exact Or.inr rfl) (k 9) ?_
            refine w_callQ (Or.inr rfl) ((e_lowerC isT_7 hr3 hg hi9 (by omega) : EQ 3 29 [vR 7, vI ((5 * i + j : Nat) : Int), vI (r 9)] M _)) (by omega) nof_29 rfl rfl rfl rfl (by first | rfl | (show cKB[_]? = _; assumption)) (fun r91 M91 hq91 => ?_)
            obtain ⟨rfl, w1, w2⟩ := hq91
            obtain ⟨s, hs, hz⟩ := hfin _ w1 w2
            have hb := e_beginTerm M91 s
            rw [← upO_self hs] at hb
            refine w_aload rfl rfl ?_
            refine w_call (Or.inr rfl) (hb) (by omega) nof_18 rfl rfl rfl rfl (by first | rfl | (show cKB[_]? = _; assumption)) rfl ?_
            refine w_aload rfl rfl (w_iload rfl rfl ?_)
            refine w_if_eq (tgt := 107) rfl (by first | assumption | exact i32_0 | (unfold i32 at *; omega)) rfl (fun _ => ?_) (fun c => absurd c (by decide))
            refine w_iconst rfl (w_putI rfl (by first | rfl | assumption) rfl (w_iconst rfl ?_))
            exact w_zreturn rfl (by first | exact Or.inl rfl | exact Or.inr rfl | omega | assumption) ⟨by first | rfl | (congr 2; omega), by exact hz⟩
          · skip
            refine w_iload rfl rfl ?_
            refine w_if_ne (tgt := 65) rfl (by first | assumption | exact i32_0 | (unfold i32 at *; omega)) rfl (fun c => absurd c (by decide)) (fun _ => ?_)
            exfalso; omega
      · skip
        exfalso; omega
  · skip
    exfalso; omega
theorem e_fol_11 {M : mM} {r : Nat → Int} {f g : Cv} {kind : Int} (hr : RdM r f g M) (hi : RdI r) (hf : Cok 999 f) (hg : Cok 999 g) (h6 : r 6 = 1) (hkk : kind = 59) (h5 : r 5 < 24) : EQ 4 28 [vR 3, vI kind] M (fun q M1 => q = some (vI 1) ∧ RdM (sR (rdNew r) 1 0) (folL r f g).1 (folL r f g).2 M1 ∧ RdF M M1) := by
  obtain ⟨hi1, -, -, hi9, -, hi5, -⟩ := hi
  obtain ⟨hr1, hr2, hr3⟩ := hr
  have e1 : (folL r f g).1 = f := if_neg (by omega)
  have e2 : (folL r f g).2 = lowC g (5 * r 7 + r 8).toNat (r 9) := if_neg (by omega)
  rw [e1, e2]
  have k (j : Nat) : M 3 j = r j := by rw [hr1]
  obtain ⟨i, hi7⟩ : ∃ i : Nat, r 7 = i := ⟨(r 7).toNat, by omega⟩
  obtain ⟨j, hi8⟩ : ∃ j : Nat, r 8 = j := ⟨(r 8).toNat, by omega⟩
  have ep : (5 * r 7 + r 8).toNat = 5 * i + j := by omega
  rw [ep]
  have k7 : M 3 7 = (i : Int) := (k 7).trans hi7
  have k8 : M 3 8 = (j : Int) := (k 8).trans hi8
  have k6 : M 3 6 = 1 := (k 6).trans h6
  refine q_in (ls := [vR 3, vI kind, vN]) mq_28 (ml_28 rfl) rfl fun D hD => ?_
  have hfin : ∀ N : mM, cur 7 (lowC g (5 * i + j) (r 9)) N → (∀ b, b ≠ 7 → b ≠ 7 + 1 → N b = M b) → ∃ s : Nat → Int, N 3 = s ∧ RdM (sR (rdNew r) 1 0) f (lowC g (5 * i + j) (r 9)) (upI (upO N 3 (rdNew s)) 3 1 0) ∧ RdF M (upI (upO N 3 (rdNew s)) 3 1 0) := fun N q1 q2 => by
    refine ⟨r, by rw [q2 3 (by decide) (by decide), hr1], ⟨?_, ?_, ?_⟩, fun c c1 c2 => ?_⟩
    · rw [upI_upO]; funext j; exact upO_at _ _ _ _
    · rw [upI_upO]; exact cur_fr hr2 (fun k => (upO_ne _ _ _ (by decide)).trans (by rw [q2 _ (by decide) (by decide)]))
    · rw [upI_upO]; exact cur_fr q1 (fun k => upO_ne _ _ _ (by decide))
    · rw [upI_upO]; funext k; exact (upO_ne _ _ _ c1).trans (by rw [q2 c (by omega) (by omega)])
  refine w_iload rfl rfl (w_iconst rfl ?_)
  refine w_icmp_ne (tgt := 25) rfl (by first | assumption | exact i32_0 | (unfold i32 at *; omega)) (by first | assumption | exact i32_0 | (unfold i32 at *; omega)) rfl (fun c3 => ?_) (fun c3 => ?_)
  · skip
    refine w_iload rfl rfl (w_iconst rfl ?_)
    refine w_icmp_ne (tgt := 44) rfl (by first | assumption | exact i32_0 | (unfold i32 at *; omega)) (by first | assumption | exact i32_0 | (unfold i32 at *; omega)) rfl (fun c28 => ?_) (fun c28 => ?_)
    · skip
      exfalso; omega
    · skip
      refine w_aload rfl rfl (w_getIV rfl (by first | rfl | assumption) (by first | exact Or.inl rfl | exact Or.inr rfl) (k 5) (w_iconst rfl ?_))
      refine w_icmp_ge (tgt := 44) rfl (by first | assumption | exact i32_0 | (unfold i32 at *; omega)) (by first | assumption | exact i32_0 | (unfold i32 at *; omega)) rfl (fun c37 => ?_) (fun c37 => ?_)
      · skip
        exfalso; omega
      · skip
        refine w_iconst rfl (w_goto (tgt := 45) rfl rfl (w_istore (ls2 := [_, _, _]) rfl rfl rfl (w_iload rfl rfl (w_iconst rfl ?_))))
        refine w_icmp_eq (tgt := 65) rfl (by first | assumption | exact i32_0 | (unfold i32 at *; omega)) (by first | assumption | exact i32_0 | (unfold i32 at *; omega)) rfl (fun c49 => ?_) (fun c49 => ?_)
        · skip
          refine w_aload rfl rfl (w_getR rfl (by first | rfl | assumption) rfl (by first | rfl | assumption) (w_aload rfl rfl (w_getIV rfl (by first | rfl | assumption) (by first | exact Or.inl rfl | exact Or.inr rfl) (k6) ?_)))
          refine w_call (Or.inr rfl) (e_of_second M isP_4) (by omega) nof_24 rfl rfl rfl rfl (by first | rfl | (show cKB[_]? = _; assumption)) rfl ?_
          refine w_iconst rfl (w_aload rfl rfl (w_getIV rfl (by first | rfl | assumption) (by first | exact Or.inl rfl | exact Or.inr rfl) (k7) (w_imul rfl (w_aload rfl rfl (w_getIV rfl (by first | rfl | assumption) (by first | exact Or.inl rfl | exact Or.inr rfl) (k8) (w_iadd rfl (w_aload rfl rfl ?_)))))))
          refine w_getIV rfl (by first | rfl | assumption) (by first | exact Or.inl rfl | exact Or.inr rfl) (k 9) ?_
          refine w_callQ (Or.inr rfl) ((e_lowerC isT_7 hr3 hg hi9 (by omega) : EQ 3 29 [vR 7, vI ((5 * i + j : Nat) : Int), vI (r 9)] M _)) (by omega) nof_29 rfl rfl rfl rfl (by first | rfl | (show cKB[_]? = _; assumption)) (fun r91 M91 hq91 => ?_)
          obtain ⟨rfl, w1, w2⟩ := hq91
          obtain ⟨s, hs, hz⟩ := hfin _ w1 w2
          have hb := e_beginTerm M91 s
          rw [← upO_self hs] at hb
          refine w_aload rfl rfl ?_
          refine w_call (Or.inr rfl) (hb) (by omega) nof_18 rfl rfl rfl rfl (by first | rfl | (show cKB[_]? = _; assumption)) rfl ?_
          refine w_aload rfl rfl (w_iload rfl rfl ?_)
          refine w_if_eq (tgt := 107) rfl (by first | assumption | exact i32_0 | (unfold i32 at *; omega)) rfl (fun c => absurd c (by decide)) (fun _ => ?_)
          refine w_iconst rfl (w_goto (tgt := 108) rfl rfl (w_putI rfl (by first | rfl | assumption) rfl (w_iconst rfl ?_)))
          exact w_zreturn rfl (by first | exact Or.inl rfl | exact Or.inr rfl | omega | assumption) ⟨by first | rfl | (congr 2; omega), by exact hz⟩
        · skip
          refine w_iload rfl rfl (w_iconst rfl ?_)
          refine w_icmp_eq (tgt := 65) rfl (by first | assumption | exact i32_0 | (unfold i32 at *; omega)) (by first | assumption | exact i32_0 | (unfold i32 at *; omega)) rfl (fun c56 => ?_) (fun c56 => ?_)
          · skip
            refine w_aload rfl rfl (w_getR rfl (by first | rfl | assumption) rfl (by first | rfl | assumption) (w_aload rfl rfl (w_getIV rfl (by first | rfl | assumption) (by first | exact Or.inl rfl | exact Or.inr rfl) (k6) ?_)))
            refine w_call (Or.inr rfl) (e_of_second M isP_4) (by omega) nof_24 rfl rfl rfl rfl (by first | rfl | (show cKB[_]? = _; assumption)) rfl ?_
            refine w_iconst rfl (w_aload rfl rfl (w_getIV rfl (by first | rfl | assumption) (by first | exact Or.inl rfl | exact Or.inr rfl) (k7) (w_imul rfl (w_aload rfl rfl (w_getIV rfl (by first | rfl | assumption) (by first | exact Or.inl rfl | exact Or.inr rfl) (k8) (w_iadd rfl (w_aload rfl rfl ?_)))))))
            refine w_getIV rfl (by first | rfl | assumption) (by first | exact Or.inl rfl | exact Or.inr rfl) (k 9) ?_
            refine w_callQ (Or.inr rfl) ((e_lowerC isT_7 hr3 hg hi9 (by omega) : EQ 3 29 [vR 7, vI ((5 * i + j : Nat) : Int), vI (r 9)] M _)) (by omega) nof_29 rfl rfl rfl rfl (by first | rfl | (show cKB[_]? = _; assumption)) (fun r91 M91 hq91 => ?_)
            obtain ⟨rfl, w1, w2⟩ := hq91
            obtain ⟨s, hs, hz⟩ := hfin _ w1 w2
            have hb := e_beginTerm M91 s
            rw [← upO_self hs] at hb
            refine w_aload rfl rfl ?_
            refine w_call (Or.inr rfl) (hb) (by omega) nof_18 rfl rfl rfl rfl (by first | rfl | (show cKB[_]? = _; assumption)) rfl ?_
            refine w_aload rfl rfl (w_iload rfl rfl ?_)
            refine w_if_eq (tgt := 107) rfl (by first | assumption | exact i32_0 | (unfold i32 at *; omega)) rfl (fun c => absurd c (by decide)) (fun _ => ?_)
            refine w_iconst rfl (w_goto (tgt := 108) rfl rfl (w_putI rfl (by first | rfl | assumption) rfl (w_iconst rfl ?_)))
            exact w_zreturn rfl (by first | exact Or.inl rfl | exact Or.inr rfl | omega | assumption) ⟨by first | rfl | (congr 2; omega), by exact hz⟩
          · skip
            refine w_iload rfl rfl ?_
            refine w_if_ne (tgt := 65) rfl (by first | assumption | exact i32_0 | (unfold i32 at *; omega)) rfl (fun _ => ?_) (fun c => absurd c (by decide))
            refine w_aload rfl rfl (w_getR rfl (by first | rfl | assumption) rfl (by first | rfl | assumption) (w_aload rfl rfl (w_getIV rfl (by first | rfl | assumption) (by first | exact Or.inl rfl | exact Or.inr rfl) (k6) ?_)))
            refine w_call (Or.inr rfl) (e_of_second M isP_4) (by omega) nof_24 rfl rfl rfl rfl (by first | rfl | (show cKB[_]? = _; assumption)) rfl ?_
            refine w_iconst rfl (w_aload rfl rfl (w_getIV rfl (by first | rfl | assumption) (by first | exact Or.inl rfl | exact Or.inr rfl) (k7) (w_imul rfl (w_aload rfl rfl (w_getIV rfl (by first | rfl | assumption) (by first | exact Or.inl rfl | exact Or.inr rfl) (k8) (w_iadd rfl (w_aload rfl rfl ?_)))))))
            refine w_getIV rfl (by first | rfl | assumption) (by first | exact Or.inl rfl | exact Or.inr rfl) (k 9) ?_
            refine w_callQ (Or.inr rfl) ((e_lowerC isT_7 hr3 hg hi9 (by omega) : EQ 3 29 [vR 7, vI ((5 * i + j : Nat) : Int), vI (r 9)] M _)) (by omega) nof_29 rfl rfl rfl rfl (by first | rfl | (show cKB[_]? = _; assumption)) (fun r91 M91 hq91 => ?_)
            obtain ⟨rfl, w1, w2⟩ := hq91
            obtain ⟨s, hs, hz⟩ := hfin _ w1 w2
            have hb := e_beginTerm M91 s
            rw [← upO_self hs] at hb
            refine w_aload rfl rfl ?_
            refine w_call (Or.inr rfl) (hb) (by omega) nof_18 rfl rfl rfl rfl (by first | rfl | (show cKB[_]? = _; assumption)) rfl ?_
            refine w_aload rfl rfl (w_iload rfl rfl ?_)
            refine w_if_eq (tgt := 107) rfl (by first | assumption | exact i32_0 | (unfold i32 at *; omega)) rfl (fun c => absurd c (by decide)) (fun _ => ?_)
            refine w_iconst rfl (w_goto (tgt := 108) rfl rfl (w_putI rfl (by first | rfl | assumption) rfl (w_iconst rfl ?_)))
            exact w_zreturn rfl (by first | exact Or.inl rfl | exact Or.inr rfl | omega | assumption) ⟨by first | rfl | (congr 2; omega), by exact hz⟩
  · skip
    exfalso; omega
