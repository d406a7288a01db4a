/-! ===== a token accepted ===== -/
def RdX (M1 : mM) : Prop := ∃ s f g, RdM s f g M1 ∧ (s 6 = 0 ∨ s 6 = 1) ∧ Cok 999 f ∧ Cok 999 g
def accQ (M : mM) (o : Option ((Nat → Int) × Cv × Cv)) : mP := fun q M1 => match o with
  | some s => q = some (vI 1) ∧ RdM s.1 s.2.1 s.2.2 M1 ∧ RdF M M1
  | none => q = some (vI 0) ∧ RdX M1 ∧ RdF M M1
theorem rdLet6 (kind power : Int) (r : Nat → Int) : ((rdLet kind power r).getD r) 6 = r 6 := by
  unfold rdLet
  split
  · rfl
  · split
    · rfl
    · rfl
theorem rdPart6 (kind dd nn : Int) (r : Nat → Int) : (rdPart kind dd nn r).2 6 = r 6 := by
  unfold rdPart
  split
  · rfl
  · split
    · rfl
    · exact rdLet6 kind 1 r
theorem RdX_of {M : mM} {r : Nat → Int} {f g : Cv} (h : RdM r f g M) (h6 : r 6 = 0 ∨ r 6 = 1) (hf : Cok 999 f) (hg : Cok 999 g) : RdX M := ⟨r, f, g, h, h6, hf, hg⟩
theorem RdF_rfl (M : mM) : RdF M M := fun _ _ _ => rfl
theorem RdF_tr {M M1 M2 : mM} (h : RdF M M1) (h2 : RdF M1 M2) : RdF M M2 := fun a q1 q2 => (h2 a q1 q2).trans (h a q1 q2)
theorem RdM_upO {r : Nat → Int} {f g : Cv} {M : mM} (s : Nat → Int) (h : RdM r f g M) : RdM s f g (upO M 3 s) ∧ RdF M (upO M 3 s) :=
  ⟨⟨funext fun j => upO_at M 3 s j, cur_fr h.2.1 (fun k => upO_ne M s k (by decide)), cur_fr h.2.2 (fun k => upO_ne M s k (by decide))⟩, fun a q _ => funext fun k => upO_ne M s k q⟩
theorem e_fol {M : mM} {r : Nat → Int} {f g : Cv} {kind : Int} (hr : RdM r f g M) (hi : RdI r) (hf : Cok 999 f) (hg : Cok 999 g) (hk : 0 ≤ kind ∧ kind ≤ 257) : EQ 4 28 [vR 3, vI kind] M (accQ M (folF kind r f g)) := by
  have hi6 := hi.2.2.1.2.2.2.2.2
  by_cases h1 : kind = 43
  · subst h1
    have hu : RdM (sR r 1 2) f g (upI M 3 1 2) ∧ RdF M (upI M 3 1 2) := by
      have := RdM_upO (sR r 1 2) hr
      rw [← upI_upO, ← upO_self hr.1] at this
      exact this
    have hb := e_fol_plus hr hi
    by_cases h : r 10 < 3
    · rw [show folF 43 r f g = _ from (if_pos rfl).trans (if_pos h)]
      rw [if_pos h] at hb
      exact (hb.up (by decide)).q ⟨rfl, hu⟩
    · rw [show folF 43 r f g = _ from (if_pos rfl).trans (if_neg h)]
      rw [if_neg h] at hb
      exact (hb.up (by decide)).q ⟨rfl, RdX_of hu.1 hi6 hf hg, hu.2⟩
  · by_cases h2 : kind = 59 ∧ r 5 < 24
    · rw [show folF kind r f g = _ from (if_neg h1).trans (if_pos h2)]
      rcases hi6 with h6 | h6
      · exact (e_fol_01 hr hi hf hg h6 h2.1 h2.2).imp (fun _ _ h => h)
      · exact (e_fol_11 hr hi hf hg h6 h2.1 h2.2).imp (fun _ _ h => h)
    · by_cases h3 : kind = 44 ∨ kind = 257
      · rw [show folF kind r f g = _ from (if_neg h1).trans ((if_neg h2).trans (if_pos h3))]
        rcases hi6 with h6 | h6
        · exact (e_fol_00 hr hi hf hg h6 h3).imp (fun _ _ h => h)
        · exact (e_fol_10 hr hi hf hg h6 h3).imp (fun _ _ h => h)
      · rw [show folF kind r f g = _ from (if_neg h1).trans ((if_neg h2).trans (if_neg h3))]
        exact ((e_fol_bad hr hi hk h1 h2 h3).up (by decide)).q ⟨rfl, RdX_of hr hi6 hf hg, RdF_rfl M⟩
def clF (nn : Int) (f g : Cv) : Cv × Cv := (if nn = 0 then (fun _ => none) else f, if nn = 0 then g else fun _ => none)
theorem e_beginClause1 {M : mM} {r : Nat → Int} {f g : Cv} {nn : Int} (hr : RdM r f g M) (hi : RdI r) (h5 : M 1 5 = 1) (h6 : M 1 6 = nn) (hnn : 0 ≤ nn ∧ nn ≤ 1) : EQ 3 23 [vR 3, vI 256] M (fun q M1 => q = some (vI 1) ∧ RdM (rdCl nn r) (clF nn f g).1 (clF nn f g).2 M1 ∧ RdF M M1) := by
  obtain ⟨-, -, ⟨-, -, -, h3, h4, -⟩, -⟩ := hi
  have hn : nn = 0 ∨ nn = 1 := by omega
  rcases hn with rfl | rfl
  · rcases h3 with h3 | h3
    · rcases h4 with h4 | h4
      · exact e_bc_000 hr h6 h5 h3 h4
      · exact e_bc_001 hr h6 h5 h3 h4
    · rcases h4 with h4 | h4
      · exact e_bc_010 hr h6 h5 h3 h4
      · exact e_bc_011 hr h6 h5 h3 h4
  · rcases h3 with h3 | h3
    · rcases h4 with h4 | h4
      · exact e_bc_100 hr h6 h5 h3 h4
      · exact e_bc_101 hr h6 h5 h3 h4
    · rcases h4 with h4 | h4
      · exact e_bc_110 hr h6 h5 h3 h4
      · exact e_bc_111 hr h6 h5 h3 h4
def accF (kind dd nn : Int) (r : Nat → Int) (f g : Cv) : Option ((Nat → Int) × Cv × Cv) :=
  if r 1 = 0 then (if kind = 256 ∧ dd = 1 ∧ nn ≤ 1 then some (rdCl nn r, clF nn f g) else none)
  else if r 1 = 1 then (if kind = 58 then some (sR r 1 2, f, g) else none)
  else if r 1 = 2 then (if (rdPart kind dd nn r).1 = true then some ((rdPart kind dd nn r).2, f, g) else none)
  else if r 1 = 3 then (if kind = 256 ∧ dd ≤ 3 then some (rdNum (-nn) r, f, g) else none)
  else if r 1 = 4 then (if kind = 120 ∨ kind = 121 then (rdLet kind (r 14) r).map (fun s => (s, f, g)) else if r 13 = 0 then folF kind (rdNum (r 14) r) f g else none)
  else folF kind r f g
theorem RdI_num {r : Nat → Int} {n : Int} (h : RdI r) (h1 : r 1 ≠ 5) (hn : -999 ≤ n ∧ n ≤ 999) : RdI (rdNum n r) := by
  obtain ⟨a1, a2, ⟨b1, b2, b3, b4, b5, b6⟩, a4, a5, a6, a7⟩ := h
  exact ⟨a1, ⟨show 0 ≤ r 10 + 1 by omega, show r 10 + 1 ≤ 3 by omega, fun q => absurd rfl q⟩, ⟨b1, b2, Or.inr rfl, b4, b5, b6⟩, hn, a5, ⟨a6.1, a6.2.1, fun q => absurd (show (5 : Int) = 0 from q) (by decide)⟩, ⟨show (0 : Int) ≤ 5 by decide, show (5 : Int) ≤ 5 by decide⟩⟩
theorem e_acc0 {M : mM} {r : Nat → Int} {f g : Cv} {kind dd nn : Int} (hr : RdM r f g M) (hi : RdI r) (hf : Cok 999 f) (hg : Cok 999 g) (hk : 0 ≤ kind ∧ kind ≤ 257) (h5 : M 1 5 = dd) (h6 : M 1 6 = nn) (hdd : 0 ≤ dd ∧ dd ≤ 200) (hnn : 0 ≤ nn ∧ nn ≤ 999) (h1 : r 1 = 0) : EQ 5 22 [vR 3, vI kind] M (accQ M (accF kind dd nn r f g)) := by
  have k1 : M 3 1 = 0 := by rw [hr.1]; exact h1
  by_cases h : kind = 256 ∧ dd = 1 ∧ nn ≤ 1
  · rw [show accF kind dd nn r f g = _ from (if_pos h1).trans (if_pos h)]
    refine EQ.imp (Q := fun q M1 => q = some (vI 1) ∧ RdM (rdCl nn r) (clF nn f g).1 (clF nn f g).2 M1 ∧ RdF M M1) ?_ (fun _ _ h => h)
    refine q_in (ls := [vR 3, vI kind]) mq_22 (ml_22 rfl) rfl fun D hD => ?_
    obtain ⟨rfl, rfl, hn1⟩ := h
    refine w_aload rfl rfl (w_getIV rfl (by first | rfl | assumption) (by first | exact Or.inl rfl | exact Or.inr rfl) (k1) ?_)
    skip
    · skip
      refine w_tsw (tgt := 40) rfl (by first | assumption | exact i32_0 | (unfold i32 at *; omega)) (by rfl) ?_
      refine w_aload rfl rfl (w_iload rfl rfl ?_)
      refine w_callQ (Or.inr rfl) (e_beginClause1 hr hi h5 h6 (by omega)) (by omega) nof_23 rfl rfl rfl rfl (by first | rfl | (show cKB[_]? = _; assumption)) (fun r42 M42 hq42 => ?_)
      obtain ⟨rfl, w⟩ := hq42
      exact w_zreturn rfl (by first | exact Or.inl rfl | exact Or.inr rfl | omega | assumption) ⟨by first | rfl | (congr 2; omega), by exact w⟩
  · rw [show accF kind dd nn r f g = _ from (if_pos h1).trans (if_neg h)]
    refine EQ.imp (Q := fun q M1 => q = some (vI 0) ∧ RdX M1 ∧ RdF M M1) ?_ (fun _ _ h => h)
    refine q_in (ls := [vR 3, vI kind]) mq_22 (ml_22 rfl) rfl fun D hD => ?_
    refine w_aload rfl rfl (w_getIV rfl (by first | rfl | assumption) (by first | exact Or.inl rfl | exact Or.inr rfl) (k1) ?_)
    skip
    · skip
      refine w_tsw (tgt := 40) rfl (by first | assumption | exact i32_0 | (unfold i32 at *; omega)) (by rfl) ?_
      refine w_aload rfl rfl (w_iload rfl rfl ?_)
      refine w_call (Or.inr rfl) (e_beginClause0 hr.1 hk h5 h6 hdd hnn h) (by omega) nof_23 rfl rfl rfl rfl (by first | rfl | (show cKB[_]? = _; assumption)) rfl ?_
      exact w_zreturn rfl (by first | exact Or.inl rfl | exact Or.inr rfl | omega | assumption) ⟨by first | rfl | (congr 2; omega), by exact ⟨RdX_of hr hi.2.2.1.2.2.2.2.2 hf hg, RdF_rfl M⟩⟩
theorem e_acc1 {M : mM} {r : Nat → Int} {f g : Cv} {kind dd nn : Int} (hr : RdM r f g M) (hi : RdI r) (hf : Cok 999 f) (hg : Cok 999 g) (hk : 0 ≤ kind ∧ kind ≤ 257) (h1 : r 1 = 1) : EQ 5 22 [vR 3, vI kind] M (accQ M (accF kind dd nn r f g)) := by
  have k1 : M 3 1 = 1 := by rw [hr.1]; exact h1
  have hu : RdM (sR r 1 2) f g (upI M 3 1 2) ∧ RdF M (upI M 3 1 2) := by
    have := RdM_upO (sR r 1 2) hr
    rw [← upI_upO, ← upO_self hr.1] at this
    exact this
  by_cases h : kind = 58
  · rw [show accF kind dd nn r f g = _ from (if_neg (by omega)).trans ((if_pos h1).trans (if_pos h))]
    refine EQ.imp (Q := fun q M1 => q = some (vI 1) ∧ RdM (sR r 1 2) f g M1 ∧ RdF M M1) ?_ (fun _ _ h => h)
    refine q_in (ls := [vR 3, vI kind]) mq_22 (ml_22 rfl) rfl fun D hD => ?_
    refine w_aload rfl rfl (w_getIV rfl (by first | rfl | assumption) (by first | exact Or.inl rfl | exact Or.inr rfl) (k1) ?_)
    skip
    · skip
      refine w_tsw (tgt := 46) rfl (by first | assumption | exact i32_0 | (unfold i32 at *; omega)) (by rfl) ?_
      refine w_aload rfl rfl (w_iconst rfl (w_putI rfl (by first | rfl | assumption) rfl (w_iload rfl rfl (w_iconst rfl ?_))))
      refine w_icmp_ne (tgt := 61) rfl (by first | assumption | exact i32_0 | (unfold i32 at *; omega)) (by first | assumption | exact i32_0 | (unfold i32 at *; omega)) rfl (fun c54 => ?_) (fun c54 => ?_)
      · skip
        exfalso; omega
      · skip
        refine w_iconst rfl (w_goto (tgt := 62) rfl rfl ?_)
        exact w_zreturn rfl (by first | exact Or.inl rfl | exact Or.inr rfl | omega | assumption) ⟨by first | rfl | (congr 2; omega), by exact hu⟩
  · rw [show accF kind dd nn r f g = _ from (if_neg (by omega)).trans ((if_pos h1).trans (if_neg h))]
    refine EQ.imp (Q := fun q M1 => q = some (vI 0) ∧ RdX M1 ∧ RdF M M1) ?_ (fun _ _ h => h)
    refine q_in (ls := [vR 3, vI kind]) mq_22 (ml_22 rfl) rfl fun D hD => ?_
    refine w_aload rfl rfl (w_getIV rfl (by first | rfl | assumption) (by first | exact Or.inl rfl | exact Or.inr rfl) (k1) ?_)
    skip
    · skip
      refine w_tsw (tgt := 46) rfl (by first | assumption | exact i32_0 | (unfold i32 at *; omega)) (by rfl) ?_
      refine w_aload rfl rfl (w_iconst rfl (w_putI rfl (by first | rfl | assumption) rfl (w_iload rfl rfl (w_iconst rfl ?_))))
      refine w_icmp_ne (tgt := 61) rfl (by first | assumption | exact i32_0 | (unfold i32 at *; omega)) (by first | assumption | exact i32_0 | (unfold i32 at *; omega)) rfl (fun c54 => ?_) (fun c54 => ?_)
      · skip
        refine w_iconst rfl ?_
        exact w_zreturn rfl (by first | exact Or.inl rfl | exact Or.inr rfl | omega | assumption) ⟨by first | rfl | (congr 2; omega), by exact ⟨RdX_of hu.1 hi.2.2.1.2.2.2.2.2 hf hg, hu.2⟩⟩
      · skip
        exfalso; omega
theorem e_acc2 {M : mM} {r : Nat → Int} {f g : Cv} {kind dd nn : Int} (hr : RdM r f g M) (hi : RdI r) (hf : Cok 999 f) (hg : Cok 999 g) (hk : 0 ≤ kind ∧ kind ≤ 257) (h5 : M 1 5 = dd) (h6 : M 1 6 = nn) (hdd : 0 ≤ dd ∧ dd ≤ 200) (h1 : r 1 = 2) : EQ 5 22 [vR 3, vI kind] M (accQ M (accF kind dd nn r f g)) := by
  have k1 : M 3 1 = 2 := by rw [hr.1]; exact h1
  have hb := e_beginPart M hi hk h5 h6 hdd
  rw [← upO_self hr.1] at hb
  have hu := RdM_upO (rdPart kind dd nn r).2 hr
  by_cases h : (rdPart kind dd nn r).1 = true
  · rw [if_pos h] at hb
    rw [show accF kind dd nn r f g = _ from (if_neg (by omega)).trans ((if_neg (by omega)).trans ((if_pos h1).trans (if_pos h)))]
    refine EQ.imp (Q := fun q M1 => q = some (vI 1) ∧ RdM (rdPart kind dd nn r).2 f g M1 ∧ RdF M M1) ?_ (fun _ _ h => h)
    refine q_in (ls := [vR 3, vI kind]) mq_22 (ml_22 rfl) rfl fun D hD => ?_
    refine w_aload rfl rfl (w_getIV rfl (by first | rfl | assumption) (by first | exact Or.inl rfl | exact Or.inr rfl) (k1) ?_)
    skip
    · skip
      refine w_tsw (tgt := 63) rfl (by first | assumption | exact i32_0 | (unfold i32 at *; omega)) (by rfl) ?_
      refine w_aload rfl rfl (w_iload rfl rfl ?_)
      refine w_call (Or.inr rfl) (hb) (by omega) nof_25 rfl rfl rfl rfl (by first | rfl | (show cKB[_]? = _; assumption)) rfl ?_
      exact w_zreturn rfl (by first | exact Or.inl rfl | exact Or.inr rfl | omega | assumption) ⟨by first | rfl | (congr 2; omega), by exact hu⟩
  · rw [if_neg h] at hb
    rw [show accF kind dd nn r f g = _ from (if_neg (by omega)).trans ((if_neg (by omega)).trans ((if_pos h1).trans (if_neg h)))]
    refine EQ.imp (Q := fun q M1 => q = some (vI 0) ∧ RdX M1 ∧ RdF M M1) ?_ (fun _ _ h => h)
    refine q_in (ls := [vR 3, vI kind]) mq_22 (ml_22 rfl) rfl fun D hD => ?_
    refine w_aload rfl rfl (w_getIV rfl (by first | rfl | assumption) (by first | exact Or.inl rfl | exact Or.inr rfl) (k1) ?_)
    skip
    · skip
      refine w_tsw (tgt := 63) rfl (by first | assumption | exact i32_0 | (unfold i32 at *; omega)) (by rfl) ?_
      refine w_aload rfl rfl (w_iload rfl rfl ?_)
      refine w_call (Or.inr rfl) (hb) (by omega) nof_25 rfl rfl rfl rfl (by first | rfl | (show cKB[_]? = _; assumption)) rfl ?_
      exact w_zreturn rfl (by first | exact Or.inl rfl | exact Or.inr rfl | omega | assumption) ⟨by first | rfl | (congr 2; omega), by exact ⟨RdX_of hu.1 (by rw [rdPart6]; exact hi.2.2.1.2.2.2.2.2) hf hg, hu.2⟩⟩
theorem e_acc3 {M : mM} {r : Nat → Int} {f g : Cv} {kind dd nn : Int} (hr : RdM r f g M) (hi : RdI r) (hf : Cok 999 f) (hg : Cok 999 g) (hk : 0 ≤ kind ∧ kind ≤ 257) (h5 : M 1 5 = dd) (h6 : M 1 6 = nn) (hdd : 0 ≤ dd ∧ dd ≤ 200) (h1 : r 1 = 3) : EQ 5 22 [vR 3, vI kind] M (accQ M (accF kind dd nn r f g)) := by
  have k1 : M 3 1 = 3 := by rw [hr.1]; exact h1
  have hb := e_takeNumber M r (-nn)
  rw [← upO_self hr.1] at hb
  have hu := RdM_upO (rdNum (-nn) r) hr
  by_cases h : kind = 256 ∧ dd ≤ 3
  · rw [show accF kind dd nn r f g = _ from (if_neg (by omega)).trans ((if_neg (by omega)).trans ((if_neg (by omega)).trans ((if_pos h1).trans (if_pos h))))]
    refine EQ.imp (Q := fun q M1 => q = some (vI 1) ∧ RdM (rdNum (-nn) r) f g M1 ∧ RdF M M1) ?_ (fun _ _ h => h)
    refine q_in (ls := [vR 3, vI kind]) mq_22 (ml_22 rfl) rfl fun D hD => ?_
    refine w_aload rfl rfl (w_getIV rfl (by first | rfl | assumption) (by first | exact Or.inl rfl | exact Or.inr rfl) (k1) ?_)
    skip
    · skip
      refine w_tsw (tgt := 69) rfl (by first | assumption | exact i32_0 | (unfold i32 at *; omega)) (by rfl) ?_
      refine w_iload rfl rfl (w_iconst rfl ?_)
      refine w_icmp_ne (tgt := 106) rfl (by first | assumption | exact i32_0 | (unfold i32 at *; omega)) (by first | assumption | exact i32_0 | (unfold i32 at *; omega)) rfl (fun c73 => ?_) (fun c73 => ?_)
      · skip
        exfalso; omega
      · skip
        refine w_aload rfl rfl (w_getR rfl (by first | rfl | assumption) rfl (by first | rfl | assumption) (w_getIV rfl (by first | rfl | assumption) (by first | exact Or.inl rfl | exact Or.inr rfl) (h5) (w_iconst rfl ?_)))
        refine w_icmp_gt (tgt := 106) rfl (by first | assumption | exact i32_0 | (unfold i32 at *; omega)) (by first | assumption | exact i32_0 | (unfold i32 at *; omega)) rfl (fun c84 => ?_) (fun c84 => ?_)
        · skip
          exfalso; omega
        · skip
          refine w_aload rfl rfl (w_aload rfl rfl (w_getR rfl (by first | rfl | assumption) rfl (by first | rfl | assumption) (w_getIV rfl (by first | rfl | assumption) (by first | exact Or.inl rfl | exact Or.inr rfl) (h6) (w_ineg rfl ?_))))
          refine w_call (Or.inr rfl) (hb) (by omega) nof_27 rfl rfl rfl rfl (by first | rfl | (show cKB[_]? = _; assumption)) rfl ?_
          refine w_if_eq (tgt := 106) rfl (by first | assumption | exact i32_0 | (unfold i32 at *; omega)) rfl (fun c => absurd c (by decide)) (fun _ => ?_)
          refine w_iconst rfl (w_goto (tgt := 107) rfl rfl ?_)
          exact w_zreturn rfl (by first | exact Or.inl rfl | exact Or.inr rfl | omega | assumption) ⟨by first | rfl | (congr 2; omega), by exact hu⟩
  · rw [show accF kind dd nn r f g = _ from (if_neg (by omega)).trans ((if_neg (by omega)).trans ((if_neg (by omega)).trans ((if_pos h1).trans (if_neg h))))]
    refine EQ.imp (Q := fun q M1 => q = some (vI 0) ∧ RdX M1 ∧ RdF M M1) ?_ (fun _ _ h => h)
    refine q_in (ls := [vR 3, vI kind]) mq_22 (ml_22 rfl) rfl fun D hD => ?_
    refine w_aload rfl rfl (w_getIV rfl (by first | rfl | assumption) (by first | exact Or.inl rfl | exact Or.inr rfl) (k1) ?_)
    skip
    · skip
      refine w_tsw (tgt := 69) rfl (by first | assumption | exact i32_0 | (unfold i32 at *; omega)) (by rfl) ?_
      refine w_iload rfl rfl (w_iconst rfl ?_)
      refine w_icmp_ne (tgt := 106) rfl (by first | assumption | exact i32_0 | (unfold i32 at *; omega)) (by first | assumption | exact i32_0 | (unfold i32 at *; omega)) rfl (fun c73 => ?_) (fun c73 => ?_)
      · skip
        refine w_iconst rfl ?_
        exact w_zreturn rfl (by first | exact Or.inl rfl | exact Or.inr rfl | omega | assumption) ⟨by first | rfl | (congr 2; omega), by exact ⟨RdX_of hr hi.2.2.1.2.2.2.2.2 hf hg, RdF_rfl M⟩⟩
      · skip
        refine w_aload rfl rfl (w_getR rfl (by first | rfl | assumption) rfl (by first | rfl | assumption) (w_getIV rfl (by first | rfl | assumption) (by first | exact Or.inl rfl | exact Or.inr rfl) (h5) (w_iconst rfl ?_)))
        refine w_icmp_gt (tgt := 106) rfl (by first | assumption | exact i32_0 | (unfold i32 at *; omega)) (by first | assumption | exact i32_0 | (unfold i32 at *; omega)) rfl (fun c84 => ?_) (fun c84 => ?_)
        · skip
          refine w_iconst rfl ?_
          exact w_zreturn rfl (by first | exact Or.inl rfl | exact Or.inr rfl | omega | assumption) ⟨by first | rfl | (congr 2; omega), by exact ⟨RdX_of hr hi.2.2.1.2.2.2.2.2 hf hg, RdF_rfl M⟩⟩
        · skip
          exfalso; omega
theorem e_acc4 {M : mM} {r : Nat → Int} {f g : Cv} {kind dd nn : Int} (hr : RdM r f g M) (hi : RdI r) (hf : Cok 999 f) (hg : Cok 999 g) (hk : 0 ≤ kind ∧ kind ≤ 257) (h1 : r 1 = 4) : EQ 5 22 [vR 3, vI kind] M (accQ M (accF kind dd nn r f g)) := by
  have k1 : M 3 1 = 4 := by rw [hr.1]; exact h1
  have k14 : M 3 14 = r 14 := by rw [hr.1]
  have k13 : M 3 13 = r 13 := by rw [hr.1]
  have hi14 := hi.2.2.2.2.1
  have hi13 := hi.2.2.1.2.2.1
  by_cases h : kind = 120 ∨ kind = 121
  · have hb := e_takeLetter M hi hk (power := r 14) hi14
    rw [← upO_self hr.1] at hb
    have hu := RdM_upO ((rdLet kind (r 14) r).getD r) hr
    rw [show accF kind dd nn r f g = _ from (if_neg (by omega)).trans ((if_neg (by omega)).trans ((if_neg (by omega)).trans ((if_neg (by omega)).trans ((if_pos h1).trans (if_pos h)))))]
    cases e : rdLet kind (r 14) r with
    | none =>
      rw [e] at hb hu
      refine EQ.imp (Q := fun q M1 => q = some (vI 0) ∧ RdX M1 ∧ RdF M M1) ?_ (fun _ _ h => h)
      refine q_in (ls := [vR 3, vI kind]) mq_22 (ml_22 rfl) rfl fun D hD => ?_
      refine w_aload rfl rfl (w_getIV rfl (by first | rfl | assumption) (by first | exact Or.inl rfl | exact Or.inr rfl) (k1) ?_)
      skip
      · skip
        refine w_tsw (tgt := 108) rfl (by first | assumption | exact i32_0 | (unfold i32 at *; omega)) (by rfl) ?_
        refine w_iload rfl rfl (w_iconst rfl ?_)
        refine w_icmp_eq (tgt := 120) rfl (by first | assumption | exact i32_0 | (unfold i32 at *; omega)) (by first | assumption | exact i32_0 | (unfold i32 at *; omega)) rfl (fun c111 => ?_) (fun c111 => ?_)
        · skip
          refine w_aload rfl rfl (w_iload rfl rfl (w_aload rfl rfl (w_getIV rfl (by first | rfl | assumption) (by first | exact Or.inl rfl | exact Or.inr rfl) (k14) ?_)))
          refine w_call (Or.inr rfl) (hb) (by omega) nof_26 rfl rfl rfl rfl (by first | rfl | (show cKB[_]? = _; assumption)) rfl ?_
          exact w_zreturn rfl (by exact Or.inl rfl) ⟨by first | rfl | (congr 2; omega), by exact ⟨RdX_of hu.1 hi.2.2.1.2.2.2.2.2 hf hg, hu.2⟩⟩
        · skip
          refine w_iload rfl rfl (w_iconst rfl ?_)
          refine w_icmp_ne (tgt := 130) rfl (by first | assumption | exact i32_0 | (unfold i32 at *; omega)) (by first | assumption | exact i32_0 | (unfold i32 at *; omega)) rfl (fun c117 => ?_) (fun c117 => ?_)
          · skip
            exfalso; omega
          · skip
            refine w_aload rfl rfl (w_iload rfl rfl (w_aload rfl rfl (w_getIV rfl (by first | rfl | assumption) (by first | exact Or.inl rfl | exact Or.inr rfl) (k14) ?_)))
            refine w_call (Or.inr rfl) (hb) (by omega) nof_26 rfl rfl rfl rfl (by first | rfl | (show cKB[_]? = _; assumption)) rfl ?_
            exact w_zreturn rfl (by exact Or.inl rfl) ⟨by first | rfl | (congr 2; omega), by exact ⟨RdX_of hu.1 hi.2.2.1.2.2.2.2.2 hf hg, hu.2⟩⟩
    | some s =>
      rw [e] at hb hu
      refine EQ.imp (Q := fun q M1 => q = some (vI 1) ∧ RdM s f g M1 ∧ RdF M M1) ?_ (fun _ _ h => h)
      refine q_in (ls := [vR 3, vI kind]) mq_22 (ml_22 rfl) rfl fun D hD => ?_
      refine w_aload rfl rfl (w_getIV rfl (by first | rfl | assumption) (by first | exact Or.inl rfl | exact Or.inr rfl) (k1) ?_)
      skip
      · skip
        refine w_tsw (tgt := 108) rfl (by first | assumption | exact i32_0 | (unfold i32 at *; omega)) (by rfl) ?_
        refine w_iload rfl rfl (w_iconst rfl ?_)
        refine w_icmp_eq (tgt := 120) rfl (by first | assumption | exact i32_0 | (unfold i32 at *; omega)) (by first | assumption | exact i32_0 | (unfold i32 at *; omega)) rfl (fun c111 => ?_) (fun c111 => ?_)
        · skip
          refine w_aload rfl rfl (w_iload rfl rfl (w_aload rfl rfl (w_getIV rfl (by first | rfl | assumption) (by first | exact Or.inl rfl | exact Or.inr rfl) (k14) ?_)))
          refine w_call (Or.inr rfl) (hb) (by omega) nof_26 rfl rfl rfl rfl (by first | rfl | (show cKB[_]? = _; assumption)) rfl ?_
          exact w_zreturn rfl (by exact Or.inr rfl) ⟨by first | rfl | (congr 2; omega), by exact hu⟩
        · skip
          refine w_iload rfl rfl (w_iconst rfl ?_)
          refine w_icmp_ne (tgt := 130) rfl (by first | assumption | exact i32_0 | (unfold i32 at *; omega)) (by first | assumption | exact i32_0 | (unfold i32 at *; omega)) rfl (fun c117 => ?_) (fun c117 => ?_)
          · skip
            exfalso; omega
          · skip
            refine w_aload rfl rfl (w_iload rfl rfl (w_aload rfl rfl (w_getIV rfl (by first | rfl | assumption) (by first | exact Or.inl rfl | exact Or.inr rfl) (k14) ?_)))
            refine w_call (Or.inr rfl) (hb) (by omega) nof_26 rfl rfl rfl rfl (by first | rfl | (show cKB[_]? = _; assumption)) rfl ?_
            exact w_zreturn rfl (by exact Or.inr rfl) ⟨by first | rfl | (congr 2; omega), by exact hu⟩
  · by_cases h3 : r 13 = 0
    · rw [show accF kind dd nn r f g = _ from (if_neg (by omega)).trans ((if_neg (by omega)).trans ((if_neg (by omega)).trans ((if_neg (by omega)).trans ((if_pos h1).trans ((if_neg h).trans (if_pos h3))))))]
      have hb := e_takeNumber M r (r 14)
      rw [← upO_self hr.1] at hb
      have hu := RdM_upO (rdNum (r 14) r) hr
      have hq := e_fol hu.1 (RdI_num hi (by omega) (by omega)) hf hg hk
      generalize upO M 3 (rdNum (r 14) r) = N at hb hu hq
      cases e : folF kind (rdNum (r 14) r) f g with
      | none =>
        rw [e] at hq
        refine EQ.imp (Q := fun q M1 => q = some (vI 0) ∧ RdX M1 ∧ RdF M M1) ?_ (fun _ _ h => h)
        refine q_in (ls := [vR 3, vI kind]) mq_22 (ml_22 rfl) rfl fun D hD => ?_
        refine w_aload rfl rfl (w_getIV rfl (by first | rfl | assumption) (by first | exact Or.inl rfl | exact Or.inr rfl) (k1) ?_)
        skip
        · skip
          refine w_tsw (tgt := 108) rfl (by first | assumption | exact i32_0 | (unfold i32 at *; omega)) (by rfl) ?_
          refine w_iload rfl rfl (w_iconst rfl ?_)
          refine w_icmp_eq (tgt := 120) rfl (by first | assumption | exact i32_0 | (unfold i32 at *; omega)) (by first | assumption | exact i32_0 | (unfold i32 at *; omega)) rfl (fun c111 => ?_) (fun c111 => ?_)
          · skip
            exfalso; omega
          · skip
            refine w_iload rfl rfl (w_iconst rfl ?_)
            refine w_icmp_ne (tgt := 130) rfl (by first | assumption | exact i32_0 | (unfold i32 at *; omega)) (by first | assumption | exact i32_0 | (unfold i32 at *; omega)) rfl (fun c117 => ?_) (fun c117 => ?_)
            · skip
              refine w_aload rfl rfl (w_getIV rfl (by first | rfl | assumption) (by first | exact Or.inl rfl | exact Or.inr rfl) (k13) ?_)
              refine w_if_ne (tgt := 160) rfl (by first | assumption | exact i32_0 | (unfold i32 at *; omega)) rfl (fun c134 => ?_) (fun c134 => ?_)
              · exfalso; omega
              · skip
                refine w_aload rfl rfl (w_aload rfl rfl (w_getIV rfl (by first | rfl | assumption) (by first | exact Or.inl rfl | exact Or.inr rfl) (k14) ?_))
                refine w_call (Or.inr rfl) (hb) (by omega) nof_27 rfl rfl rfl rfl (by first | rfl | (show cKB[_]? = _; assumption)) rfl ?_
                refine w_if_eq (tgt := 160) rfl (by first | assumption | exact i32_0 | (unfold i32 at *; omega)) rfl (fun c => absurd c (by decide)) (fun _ => ?_)
                refine w_aload rfl rfl (w_iload rfl rfl ?_)
                refine w_callQ (Or.inr rfl) (hq) (by omega) nof_28 rfl rfl rfl rfl (by first | rfl | (show cKB[_]? = _; assumption)) (fun r150 M150 hq150 => ?_)
                obtain ⟨rfl, w⟩ := hq150
                refine w_if_eq (tgt := 160) rfl (by first | assumption | exact i32_0 | (unfold i32 at *; omega)) rfl (fun _ => ?_) (fun c => absurd c (by decide))
                refine w_iconst rfl ?_
                exact w_zreturn rfl (by first | exact Or.inl rfl | exact Or.inr rfl | omega | assumption) ⟨by first | rfl | (congr 2; omega), by exact ⟨w.1, RdF_tr hu.2 w.2⟩⟩
            · skip
              exfalso; omega
      | some s =>
        rw [e] at hq
        refine EQ.imp (Q := fun q M1 => q = some (vI 1) ∧ RdM s.1 s.2.1 s.2.2 M1 ∧ RdF M M1) ?_ (fun _ _ h => h)
        refine q_in (ls := [vR 3, vI kind]) mq_22 (ml_22 rfl) rfl fun D hD => ?_
        refine w_aload rfl rfl (w_getIV rfl (by first | rfl | assumption) (by first | exact Or.inl rfl | exact Or.inr rfl) (k1) ?_)
        skip
        · skip
          refine w_tsw (tgt := 108) rfl (by first | assumption | exact i32_0 | (unfold i32 at *; omega)) (by rfl) ?_
          refine w_iload rfl rfl (w_iconst rfl ?_)
          refine w_icmp_eq (tgt := 120) rfl (by first | assumption | exact i32_0 | (unfold i32 at *; omega)) (by first | assumption | exact i32_0 | (unfold i32 at *; omega)) rfl (fun c111 => ?_) (fun c111 => ?_)
          · skip
            exfalso; omega
          · skip
            refine w_iload rfl rfl (w_iconst rfl ?_)
            refine w_icmp_ne (tgt := 130) rfl (by first | assumption | exact i32_0 | (unfold i32 at *; omega)) (by first | assumption | exact i32_0 | (unfold i32 at *; omega)) rfl (fun c117 => ?_) (fun c117 => ?_)
            · skip
              refine w_aload rfl rfl (w_getIV rfl (by first | rfl | assumption) (by first | exact Or.inl rfl | exact Or.inr rfl) (k13) ?_)
              refine w_if_ne (tgt := 160) rfl (by first | assumption | exact i32_0 | (unfold i32 at *; omega)) rfl (fun c134 => ?_) (fun c134 => ?_)
              · skip
                exfalso; omega
              · skip
                refine w_aload rfl rfl (w_aload rfl rfl (w_getIV rfl (by first | rfl | assumption) (by first | exact Or.inl rfl | exact Or.inr rfl) (k14) ?_))
                refine w_call (Or.inr rfl) (hb) (by omega) nof_27 rfl rfl rfl rfl (by first | rfl | (show cKB[_]? = _; assumption)) rfl ?_
                refine w_if_eq (tgt := 160) rfl (by first | assumption | exact i32_0 | (unfold i32 at *; omega)) rfl (fun c => absurd c (by decide)) (fun _ => ?_)
                refine w_aload rfl rfl (w_iload rfl rfl ?_)
                refine w_callQ (Or.inr rfl) (hq) (by omega) nof_28 rfl rfl rfl rfl (by first | rfl | (show cKB[_]? = _; assumption)) (fun r150 M150 hq150 => ?_)
                obtain ⟨rfl, w, w2⟩ := hq150
                refine w_if_eq (tgt := 160) rfl (by first | assumption | exact i32_0 | (unfold i32 at *; omega)) rfl (fun c => absurd c (by decide)) (fun _ => ?_)
                refine w_iconst rfl (w_goto (tgt := 161) rfl rfl ?_)
                exact w_zreturn rfl (by first | exact Or.inl rfl | exact Or.inr rfl | omega | assumption) ⟨by first | rfl | (congr 2; omega), by exact ⟨w, RdF_tr hu.2 w2⟩⟩
            · skip
              exfalso; omega
    · rw [show accF kind dd nn r f g = _ from (if_neg (by omega)).trans ((if_neg (by omega)).trans ((if_neg (by omega)).trans ((if_neg (by omega)).trans ((if_pos h1).trans ((if_neg h).trans (if_neg h3))))))]
      refine EQ.imp (Q := fun q M1 => q = some (vI 0) ∧ RdX M1 ∧ RdF M M1) ?_ (fun _ _ h => h)
      refine q_in (ls := [vR 3, vI kind]) mq_22 (ml_22 rfl) rfl fun D hD => ?_
      refine w_aload rfl rfl (w_getIV rfl (by first | rfl | assumption) (by first | exact Or.inl rfl | exact Or.inr rfl) (k1) ?_)
      skip
      · skip
        refine w_tsw (tgt := 108) rfl (by first | assumption | exact i32_0 | (unfold i32 at *; omega)) (by rfl) ?_
        refine w_iload rfl rfl (w_iconst rfl ?_)
        refine w_icmp_eq (tgt := 120) rfl (by first | assumption | exact i32_0 | (unfold i32 at *; omega)) (by first | assumption | exact i32_0 | (unfold i32 at *; omega)) rfl (fun c111 => ?_) (fun c111 => ?_)
        · skip
          exfalso; omega
        · skip
          refine w_iload rfl rfl (w_iconst rfl ?_)
          refine w_icmp_ne (tgt := 130) rfl (by first | assumption | exact i32_0 | (unfold i32 at *; omega)) (by first | assumption | exact i32_0 | (unfold i32 at *; omega)) rfl (fun c117 => ?_) (fun c117 => ?_)
          · skip
            refine w_aload rfl rfl (w_getIV rfl (by first | rfl | assumption) (by first | exact Or.inl rfl | exact Or.inr rfl) (k13) ?_)
            refine w_if_ne (tgt := 160) rfl (by first | assumption | exact i32_0 | (unfold i32 at *; omega)) rfl (fun c134 => ?_) (fun c134 => ?_)
            · skip
              refine w_iconst rfl ?_
              exact w_zreturn rfl (by first | exact Or.inl rfl | exact Or.inr rfl | omega | assumption) ⟨by first | rfl | (congr 2; omega), by exact ⟨RdX_of hr hi.2.2.1.2.2.2.2.2 hf hg, RdF_rfl M⟩⟩
            · skip
              exfalso; omega
          · skip
            exfalso; omega
theorem e_acc5 {M : mM} {r : Nat → Int} {f g : Cv} {kind dd nn : Int} (hr : RdM r f g M) (hi : RdI r) (hf : Cok 999 f) (hg : Cok 999 g) (hk : 0 ≤ kind ∧ kind ≤ 257) (h1 : r 1 = 5) : EQ 5 22 [vR 3, vI kind] M (accQ M (accF kind dd nn r f g)) := by
  have k1 : M 3 1 = 5 := by rw [hr.1]; exact h1
  rw [show accF kind dd nn r f g = _ from (if_neg (by omega)).trans ((if_neg (by omega)).trans ((if_neg (by omega)).trans ((if_neg (by omega)).trans (if_neg (by omega)))))]
  have hq := e_fol hr hi hf hg hk
  cases e : folF kind r f g with
  | none =>
    rw [e] at hq
    refine EQ.imp (Q := fun q M1 => q = some (vI 0) ∧ RdX M1 ∧ RdF M M1) ?_ (fun _ _ h => h)
    refine q_in (ls := [vR 3, vI kind]) mq_22 (ml_22 rfl) rfl fun D hD => ?_
    refine w_aload rfl rfl (w_getIV rfl (by first | rfl | assumption) (by first | exact Or.inl rfl | exact Or.inr rfl) (k1) ?_)
    skip
    · skip
      refine w_tsw (tgt := 162) rfl (by first | assumption | exact i32_0 | (unfold i32 at *; omega)) (by rfl) ?_
      refine w_aload rfl rfl (w_iload rfl rfl ?_)
      refine w_callQ (Or.inr rfl) (hq) (by omega) nof_28 rfl rfl rfl rfl (by first | rfl | (show cKB[_]? = _; assumption)) (fun r164 M164 hq164 => ?_)
      obtain ⟨rfl, w⟩ := hq164
      exact w_zreturn rfl (by first | exact Or.inl rfl | exact Or.inr rfl | omega | assumption) ⟨by first | rfl | (congr 2; omega), by exact w⟩
  | some s =>
    rw [e] at hq
    refine EQ.imp (Q := fun q M1 => q = some (vI 1) ∧ RdM s.1 s.2.1 s.2.2 M1 ∧ RdF M M1) ?_ (fun _ _ h => h)
    refine q_in (ls := [vR 3, vI kind]) mq_22 (ml_22 rfl) rfl fun D hD => ?_
    refine w_aload rfl rfl (w_getIV rfl (by first | rfl | assumption) (by first | exact Or.inl rfl | exact Or.inr rfl) (k1) ?_)
    skip
    · skip
      refine w_tsw (tgt := 162) rfl (by first | assumption | exact i32_0 | (unfold i32 at *; omega)) (by rfl) ?_
      refine w_aload rfl rfl (w_iload rfl rfl ?_)
      refine w_callQ (Or.inr rfl) (hq) (by omega) nof_28 rfl rfl rfl rfl (by first | rfl | (show cKB[_]? = _; assumption)) (fun r164 M164 hq164 => ?_)
      obtain ⟨rfl, w⟩ := hq164
      exact w_zreturn rfl (by first | exact Or.inl rfl | exact Or.inr rfl | omega | assumption) ⟨by first | rfl | (congr 2; omega), by exact w⟩
theorem e_accept {M : mM} {r : Nat → Int} {f g : Cv} {kind dd nn : Int} (hr : RdM r f g M) (hi : RdI r) (hf : Cok 999 f) (hg : Cok 999 g) (hk : 0 ≤ kind ∧ kind ≤ 257) (h5 : M 1 5 = dd) (h6 : M 1 6 = nn) (hdd : 0 ≤ dd ∧ dd ≤ 200) (hnn : 0 ≤ nn ∧ nn ≤ 999) : EQ 5 22 [vR 3, vI kind] M (accQ M (accF kind dd nn r f g)) := by
  have h1 := hi.2.2.2.2.2.2
  by_cases q0 : r 1 = 0
  · exact e_acc0 hr hi hf hg hk h5 h6 hdd hnn q0
  · by_cases q1 : r 1 = 1
    · exact e_acc1 hr hi hf hg hk q1
    · by_cases q2 : r 1 = 2
      · exact e_acc2 hr hi hf hg hk h5 h6 hdd q2
      · by_cases q3 : r 1 = 3
        · exact e_acc3 hr hi hf hg hk h5 h6 hdd q3
        · by_cases q4 : r 1 = 4
          · exact e_acc4 hr hi hf hg hk q4
          · exact e_acc5 hr hi hf hg hk (by omega)
