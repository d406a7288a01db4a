/-! ===== a part read by the model, and what may stand behind it ===== -/
def endB (l : List Int) (r : Nat → Int) : Bool := decide (tKind l = 257 ∨ (tKind l = 43 ∧ r 10 < 3) ∨ tKind l = 44 ∨ (tKind l = 59 ∧ r 5 < 24))
theorem kind_end {b l : List Int} {M : mM} (h : PosM b l M) : (tKind l = 257 ↔ l = []) := by
  obtain ⟨q, hq, e, hql⟩ := PosM_at h
  constructor
  · intro hk
    cases l with
    | nil => rfl
    | cons x t =>
      exfalso
      obtain ⟨g1, g2, g3⟩ := drop_cons e.symm
      have := (h.1.2.2 q x g2).2
      have hk : (if dig x = true then (256 : Int) else x) = 257 := hk
      split at hk <;> omega
  · intro hl; rw [hl]; rfl
theorem m_ends {b l : List Int} {M : mM} {r : Nat → Int} (h : PosM b l M) (hF : FldM 0 r M) (hi : RdI r) : E 2 162 [vR 155] M (some (vI (if endB l r = true then 1 else 0))) M := by
  obtain ⟨-, ⟨-, -, f16⟩, f7, -⟩ := id hF
  have b10 := hi.2.1
  have b5 := hi.2.2.2.2.2.1
  have ke := kind_end h
  obtain ⟨q, hq, e, hql⟩ := PosM_at h
  have f4 := h.1.1
  have hb200 := h.1.2.1
  have f5 := h.2.2.1
  have hll : l.length ≤ b.length := by rw [e, List.length_drop]; omega
  have hnil : l = [] ↔ l.length = 0 := List.length_eq_zero_iff.symm
  have hp := m_isHere h (c := 43) (by decide)
  have hcm := m_isHere h (c := 44) (by decide)
  have hsc := m_isHere h (c := 59) (by decide)
  have kp := here_kind (l := l) (c := 43) (by decide) (by decide) (by decide)
  have kc := here_kind (l := l) (c := 44) (by decide) (by decide) (by decide)
  have ks := here_kind (l := l) (c := 59) (by decide) (by decide) (by decide)
  rw [Int.add_zero] at f16
  have hE : endB l r = decide (tKind l = 257 ∨ (tKind l = 43 ∧ r 10 < 3) ∨ tKind l = 44 ∨ (tKind l = 59 ∧ r 5 < 24)) := rfl
  refine e_in (ls := [vR 155]) mq_162 (ml_162 rfl) rfl fun D hD => ?_
  by_cases k257 : tKind l = 257
  · have hl := ke.mp k257
    have hl0 := hnil.mp hl
    rw [hE, decide_eq_true (Or.inl k257), if_pos rfl]
    refine w_aload rfl rfl (w_getIV rfl (by first | rfl | assumption) (by first | exact Or.inl rfl | exact Or.inr rfl) (f5) (w_aload rfl rfl (w_getIV rfl (by first | rfl | assumption) (by first | exact Or.inl rfl | exact Or.inr rfl) (f4) ?_)))
    refine w_icmp_eq (tgt := 55) rfl (by first | assumption | exact i32_0 | (unfold i32 at *; omega)) (by first | assumption | exact i32_0 | (unfold i32 at *; omega)) rfl (fun c8 => ?_) (fun c8 => ?_)
    · skip
      refine w_iconst rfl (w_goto (tgt := 60) rfl rfl ?_)
      exact w_zreturn rfl (by first | exact Or.inl rfl | exact Or.inr rfl | omega | assumption) ⟨by first | rfl | (congr 2; omega), by rfl⟩
    · exfalso; omega
  · have hl : l.length ≠ 0 := fun z => k257 (ke.mpr (hnil.mpr z))
    by_cases k43 : tKind l = 43
    · rw [if_pos (kp.mpr k43)] at hp
      rw [if_neg (fun z => by have := kc.mp z; omega)] at hcm
      rw [if_neg (fun z => by have := ks.mp z; omega)] at hsc
      by_cases r3 : r 10 < 3
      · rw [hE, decide_eq_true (Or.inr (Or.inl ⟨k43, r3⟩)), if_pos rfl]
        refine w_aload rfl rfl (w_getIV rfl (by first | rfl | assumption) (by first | exact Or.inl rfl | exact Or.inr rfl) (f5) (w_aload rfl rfl (w_getIV rfl (by first | rfl | assumption) (by first | exact Or.inl rfl | exact Or.inr rfl) (f4) ?_)))
        refine w_icmp_eq (tgt := 55) rfl (by first | assumption | exact i32_0 | (unfold i32 at *; omega)) (by first | assumption | exact i32_0 | (unfold i32 at *; omega)) rfl (fun c8 => ?_) (fun c8 => ?_)
        · exfalso; omega
        · skip
          refine w_aload rfl rfl (w_iconst rfl ?_)
          refine w_call (Or.inr rfl) ((hp)) (by omega) nof_157 rfl rfl rfl rfl (by first | rfl | (show cKB[_]? = _; assumption)) rfl ?_
          refine w_if_eq (tgt := 28) rfl (by first | assumption | exact i32_0 | (unfold i32 at *; omega)) rfl (fun c => absurd c (by decide)) (fun _ => ?_)
          refine w_aload rfl rfl (w_getIV rfl (by first | rfl | assumption) (by first | exact Or.inl rfl | exact Or.inr rfl) (f16) (w_iconst rfl ?_))
          refine w_icmp_lt (tgt := 55) rfl (by first | assumption | exact i32_0 | (unfold i32 at *; omega)) (by first | assumption | exact i32_0 | (unfold i32 at *; omega)) rfl (fun c25 => ?_) (fun c25 => ?_)
          · skip
            refine w_iconst rfl (w_goto (tgt := 60) rfl rfl ?_)
            exact w_zreturn rfl (by first | exact Or.inl rfl | exact Or.inr rfl | omega | assumption) ⟨by first | rfl | (congr 2; omega), by rfl⟩
          · exfalso; omega
      · rw [hE, decide_eq_false (by omega), if_neg (by decide)]
        refine w_aload rfl rfl (w_getIV rfl (by first | rfl | assumption) (by first | exact Or.inl rfl | exact Or.inr rfl) (f5) (w_aload rfl rfl (w_getIV rfl (by first | rfl | assumption) (by first | exact Or.inl rfl | exact Or.inr rfl) (f4) ?_)))
        refine w_icmp_eq (tgt := 55) rfl (by first | assumption | exact i32_0 | (unfold i32 at *; omega)) (by first | assumption | exact i32_0 | (unfold i32 at *; omega)) rfl (fun c8 => ?_) (fun c8 => ?_)
        · exfalso; omega
        · skip
          refine w_aload rfl rfl (w_iconst rfl ?_)
          refine w_call (Or.inr rfl) ((hp)) (by omega) nof_157 rfl rfl rfl rfl (by first | rfl | (show cKB[_]? = _; assumption)) rfl ?_
          refine w_if_eq (tgt := 28) rfl (by first | assumption | exact i32_0 | (unfold i32 at *; omega)) rfl (fun c => absurd c (by decide)) (fun _ => ?_)
          refine w_aload rfl rfl (w_getIV rfl (by first | rfl | assumption) (by first | exact Or.inl rfl | exact Or.inr rfl) (f16) (w_iconst rfl ?_))
          refine w_icmp_lt (tgt := 55) rfl (by first | assumption | exact i32_0 | (unfold i32 at *; omega)) (by first | assumption | exact i32_0 | (unfold i32 at *; omega)) rfl (fun c25 => ?_) (fun c25 => ?_)
          · exfalso; omega
          · skip
            refine w_aload rfl rfl (w_iconst rfl ?_)
            refine w_call (Or.inr rfl) ((hcm)) (by omega) nof_157 rfl rfl rfl rfl (by first | rfl | (show cKB[_]? = _; assumption)) rfl ?_
            refine w_if_ne (tgt := 55) rfl (by first | assumption | exact i32_0 | (unfold i32 at *; omega)) rfl (fun c => absurd c (by decide)) (fun _ => ?_)
            refine w_aload rfl rfl (w_iconst rfl ?_)
            refine w_call (Or.inr rfl) ((hsc)) (by omega) nof_157 rfl rfl rfl rfl (by first | rfl | (show cKB[_]? = _; assumption)) rfl ?_
            refine w_if_eq (tgt := 59) rfl (by first | assumption | exact i32_0 | (unfold i32 at *; omega)) rfl (fun _ => ?_) (fun c => absurd c (by decide))
            refine w_iconst rfl ?_
            exact w_zreturn rfl (by first | exact Or.inl rfl | exact Or.inr rfl | omega | assumption) ⟨by first | rfl | (congr 2; omega), by rfl⟩
    · rw [if_neg (fun z => k43 (kp.mp z))] at hp
      by_cases k44 : tKind l = 44
      · rw [if_pos (kc.mpr k44)] at hcm
        rw [hE, decide_eq_true (Or.inr (Or.inr (Or.inl k44))), if_pos rfl]
        refine w_aload rfl rfl (w_getIV rfl (by first | rfl | assumption) (by first | exact Or.inl rfl | exact Or.inr rfl) (f5) (w_aload rfl rfl (w_getIV rfl (by first | rfl | assumption) (by first | exact Or.inl rfl | exact Or.inr rfl) (f4) ?_)))
        refine w_icmp_eq (tgt := 55) rfl (by first | assumption | exact i32_0 | (unfold i32 at *; omega)) (by first | assumption | exact i32_0 | (unfold i32 at *; omega)) rfl (fun c8 => ?_) (fun c8 => ?_)
        · exfalso; omega
        · skip
          refine w_aload rfl rfl (w_iconst rfl ?_)
          refine w_call (Or.inr rfl) ((hp)) (by omega) nof_157 rfl rfl rfl rfl (by first | rfl | (show cKB[_]? = _; assumption)) rfl ?_
          refine w_if_eq (tgt := 28) rfl (by first | assumption | exact i32_0 | (unfold i32 at *; omega)) rfl (fun _ => ?_) (fun c => absurd c (by decide))
          refine w_aload rfl rfl (w_iconst rfl ?_)
          refine w_call (Or.inr rfl) ((hcm)) (by omega) nof_157 rfl rfl rfl rfl (by first | rfl | (show cKB[_]? = _; assumption)) rfl ?_
          refine w_if_ne (tgt := 55) rfl (by first | assumption | exact i32_0 | (unfold i32 at *; omega)) rfl (fun _ => ?_) (fun c => absurd c (by decide))
          refine w_iconst rfl (w_goto (tgt := 60) rfl rfl ?_)
          exact w_zreturn rfl (by first | exact Or.inl rfl | exact Or.inr rfl | omega | assumption) ⟨by first | rfl | (congr 2; omega), by rfl⟩
      · rw [if_neg (fun z => k44 (kc.mp z))] at hcm
        by_cases k59 : tKind l = 59
        · rw [if_pos (ks.mpr k59)] at hsc
          by_cases r24 : r 5 < 24
          · rw [hE, decide_eq_true (Or.inr (Or.inr (Or.inr ⟨k59, r24⟩))), if_pos rfl]
            refine w_aload rfl rfl (w_getIV rfl (by first | rfl | assumption) (by first | exact Or.inl rfl | exact Or.inr rfl) (f5) (w_aload rfl rfl (w_getIV rfl (by first | rfl | assumption) (by first | exact Or.inl rfl | exact Or.inr rfl) (f4) ?_)))
            refine w_icmp_eq (tgt := 55) rfl (by first | assumption | exact i32_0 | (unfold i32 at *; omega)) (by first | assumption | exact i32_0 | (unfold i32 at *; omega)) rfl (fun c8 => ?_) (fun c8 => ?_)
            · exfalso; omega
            · skip
              refine w_aload rfl rfl (w_iconst rfl ?_)
              refine w_call (Or.inr rfl) ((hp)) (by omega) nof_157 rfl rfl rfl rfl (by first | rfl | (show cKB[_]? = _; assumption)) rfl ?_
              refine w_if_eq (tgt := 28) rfl (by first | assumption | exact i32_0 | (unfold i32 at *; omega)) rfl (fun _ => ?_) (fun c => absurd c (by decide))
              refine w_aload rfl rfl (w_iconst rfl ?_)
              refine w_call (Or.inr rfl) ((hcm)) (by omega) nof_157 rfl rfl rfl rfl (by first | rfl | (show cKB[_]? = _; assumption)) rfl ?_
              refine w_if_ne (tgt := 55) rfl (by first | assumption | exact i32_0 | (unfold i32 at *; omega)) rfl (fun c => absurd c (by decide)) (fun _ => ?_)
              refine w_aload rfl rfl (w_iconst rfl ?_)
              refine w_call (Or.inr rfl) ((hsc)) (by omega) nof_157 rfl rfl rfl rfl (by first | rfl | (show cKB[_]? = _; assumption)) rfl ?_
              refine w_if_eq (tgt := 59) rfl (by first | assumption | exact i32_0 | (unfold i32 at *; omega)) rfl (fun c => absurd c (by decide)) (fun _ => ?_)
              refine w_aload rfl rfl (w_getIV rfl (by first | rfl | assumption) (by first | exact Or.inl rfl | exact Or.inr rfl) (f7) (w_iconst rfl ?_))
              refine w_icmp_ge (tgt := 59) rfl (by first | assumption | exact i32_0 | (unfold i32 at *; omega)) (by first | assumption | exact i32_0 | (unfold i32 at *; omega)) rfl (fun c52 => ?_) (fun c52 => ?_)
              · exfalso; omega
              · skip
                refine w_iconst rfl (w_goto (tgt := 60) rfl rfl ?_)
                exact w_zreturn rfl (by first | exact Or.inl rfl | exact Or.inr rfl | omega | assumption) ⟨by first | rfl | (congr 2; omega), by rfl⟩
          · rw [hE, decide_eq_false (by omega), if_neg (by decide)]
            refine w_aload rfl rfl (w_getIV rfl (by first | rfl | assumption) (by first | exact Or.inl rfl | exact Or.inr rfl) (f5) (w_aload rfl rfl (w_getIV rfl (by first | rfl | assumption) (by first | exact Or.inl rfl | exact Or.inr rfl) (f4) ?_)))
            refine w_icmp_eq (tgt := 55) rfl (by first | assumption | exact i32_0 | (unfold i32 at *; omega)) (by first | assumption | exact i32_0 | (unfold i32 at *; omega)) rfl (fun c8 => ?_) (fun c8 => ?_)
            · exfalso; omega
            · skip
              refine w_aload rfl rfl (w_iconst rfl ?_)
              refine w_call (Or.inr rfl) ((hp)) (by omega) nof_157 rfl rfl rfl rfl (by first | rfl | (show cKB[_]? = _; assumption)) rfl ?_
              refine w_if_eq (tgt := 28) rfl (by first | assumption | exact i32_0 | (unfold i32 at *; omega)) rfl (fun _ => ?_) (fun c => absurd c (by decide))
              refine w_aload rfl rfl (w_iconst rfl ?_)
              refine w_call (Or.inr rfl) ((hcm)) (by omega) nof_157 rfl rfl rfl rfl (by first | rfl | (show cKB[_]? = _; assumption)) rfl ?_
              refine w_if_ne (tgt := 55) rfl (by first | assumption | exact i32_0 | (unfold i32 at *; omega)) rfl (fun c => absurd c (by decide)) (fun _ => ?_)
              refine w_aload rfl rfl (w_iconst rfl ?_)
              refine w_call (Or.inr rfl) ((hsc)) (by omega) nof_157 rfl rfl rfl rfl (by first | rfl | (show cKB[_]? = _; assumption)) rfl ?_
              refine w_if_eq (tgt := 59) rfl (by first | assumption | exact i32_0 | (unfold i32 at *; omega)) rfl (fun c => absurd c (by decide)) (fun _ => ?_)
              refine w_aload rfl rfl (w_getIV rfl (by first | rfl | assumption) (by first | exact Or.inl rfl | exact Or.inr rfl) (f7) (w_iconst rfl ?_))
              refine w_icmp_ge (tgt := 59) rfl (by first | assumption | exact i32_0 | (unfold i32 at *; omega)) (by first | assumption | exact i32_0 | (unfold i32 at *; omega)) rfl (fun c52 => ?_) (fun c52 => ?_)
              · skip
                refine w_iconst rfl ?_
                exact w_zreturn rfl (by first | exact Or.inl rfl | exact Or.inr rfl | omega | assumption) ⟨by first | rfl | (congr 2; omega), by rfl⟩
              · exfalso; omega
        · rw [if_neg (fun z => k59 (ks.mp z))] at hsc
          rw [hE, decide_eq_false (by omega), if_neg (by decide)]
          refine w_aload rfl rfl (w_getIV rfl (by first | rfl | assumption) (by first | exact Or.inl rfl | exact Or.inr rfl) (f5) (w_aload rfl rfl (w_getIV rfl (by first | rfl | assumption) (by first | exact Or.inl rfl | exact Or.inr rfl) (f4) ?_)))
          refine w_icmp_eq (tgt := 55) rfl (by first | assumption | exact i32_0 | (unfold i32 at *; omega)) (by first | assumption | exact i32_0 | (unfold i32 at *; omega)) rfl (fun c8 => ?_) (fun c8 => ?_)
          · exfalso; omega
          · skip
            refine w_aload rfl rfl (w_iconst rfl ?_)
            refine w_call (Or.inr rfl) ((hp)) (by omega) nof_157 rfl rfl rfl rfl (by first | rfl | (show cKB[_]? = _; assumption)) rfl ?_
            refine w_if_eq (tgt := 28) rfl (by first | assumption | exact i32_0 | (unfold i32 at *; omega)) rfl (fun _ => ?_) (fun c => absurd c (by decide))
            refine w_aload rfl rfl (w_iconst rfl ?_)
            refine w_call (Or.inr rfl) ((hcm)) (by omega) nof_157 rfl rfl rfl rfl (by first | rfl | (show cKB[_]? = _; assumption)) rfl ?_
            refine w_if_ne (tgt := 55) rfl (by first | assumption | exact i32_0 | (unfold i32 at *; omega)) rfl (fun c => absurd c (by decide)) (fun _ => ?_)
            refine w_aload rfl rfl (w_iconst rfl ?_)
            refine w_call (Or.inr rfl) ((hsc)) (by omega) nof_157 rfl rfl rfl rfl (by first | rfl | (show cKB[_]? = _; assumption)) rfl ?_
            refine w_if_eq (tgt := 59) rfl (by first | assumption | exact i32_0 | (unfold i32 at *; omega)) rfl (fun _ => ?_) (fun c => absurd c (by decide))
            refine w_iconst rfl ?_
            exact w_zreturn rfl (by first | exact Or.inl rfl | exact Or.inr rfl | omega | assumption) ⟨by first | rfl | (congr 2; omega), by rfl⟩
theorem kind_digits {l : List Int} (h : tKind l = 256) (hb : ∀ x t, l = x :: t → x ≤ 255) : 1 ≤ (dgs l).length := by
  cases l with
  | nil => cases h
  | cons x t =>
    have h : (if dig x = true then (256 : Int) else x) = 256 := h
    by_cases hd : dig x = true
    · rw [dgs, if_pos hd, List.length_cons]; omega
    · rw [if_neg hd] at h; have := hb x t rfl; omega
theorem digits_kind {l : List Int} (h : 1 ≤ (dgs l).length) : tKind l = 256 ∧ l ≠ [] := by
  cases l with
  | nil => exact absurd h (by decide)
  | cons x t =>
    by_cases hd : dig x = true
    · exact ⟨if_pos hd, fun z => by cases z⟩
    · rw [dgs, if_neg hd] at h; exact absurd h (by decide)
def same4 (r s : Nat → Int) : Prop := r 3 = s 3 ∧ r 4 = s 4 ∧ r 5 = s 5 ∧ r 6 = s 6
/-- what reading a part did -/
def PtQ (b l : List Int) (r : Nat → Int) (M : mM) : mP := fun q N => ∃ (m : List Int) (s : Nat → Int), PosM b m N ∧ PaF M N ∧ m.length ≤ l.length ∧ ((q = some (vI 0) ∧ ∀ f g, rn b l r f g = Sum.inl ((b.length - m.length : Nat) : Int)) ∨ (q = some (vI 1) ∧ FldM 0 s N ∧ RdI s ∧ s 1 = 5 ∧ same4 s r ∧ m.length < l.length ∧ ∀ f g, rn b l r f g = rn b m s f g))
theorem rdLet_same {k p : Int} {r s : Nat → Int} (h : rdLet k p r = some s) : same4 s r ∧ s 1 = 5 := by
  unfold rdLet at h
  split at h
  · cases h; exact ⟨⟨rfl, rfl, rfl, rfl⟩, rfl⟩
  · split at h
    · cases h; exact ⟨⟨rfl, rfl, rfl, rfl⟩, rfl⟩
    · cases h
theorem m_readsPart {b l : List Int} {M : mM} {r : Nat → Int} (h : PosM b l M) (hF : FldM 0 r M) (hi : RdI r) (h1 : r 1 = 2) : EQ 5 159 [vR 155] M (PtQ b l r M) := by
  have hs := h.2.1.2
  obtain ⟨⟨f10, f11, f12, f13⟩, ⟨f14, f15, f16⟩, f7, f9⟩ := id hF
  have b13 := hi.2.2.1.2.2.1
  have b10 := hi.2.1
  rw [Int.add_zero] at f16
  have hP1 : PosM b l (upI M 155 16 (r 10 + 1)) := PosM_fr h (if_neg (by omega)) (if_neg (by omega)) (if_neg (by omega)) (fun k => by rw [upI_ne _ _ _ _ (by decide)])
  have hF1 : FldM 1 r (upI M 155 16 (r 10 + 1)) := by
    unfold FldM; simp [upI, f10, f11, f12, f13, f14, f15, f7, f9]
  have hPa : PaF M (upI M 155 16 (r 10 + 1)) := ⟨fun a ha => upI_ne _ _ _ _ ha, fun k hk => if_neg (by omega)⟩
  have hbyte : ∀ (x : Int) (t : List Int), l = x :: t → x ≤ 255 := by
    intro x t hx
    obtain ⟨q, hq, e, hql⟩ := PosM_at h
    rw [hx] at e
    obtain ⟨g1, g2, g3⟩ := drop_cons e.symm
    exact ((h.1.2.2 q x g2).2).2
  generalize hM1 : upI M 155 16 (r 10 + 1) = M1 at *
  have g11 : M1 155 11 = r 13 := hF1.1.2.1
  have hmi := m_isHere hP1 (c := 45) (by decide)
  have km := here_kind (l := l) (c := 45) (by decide) (by decide) (by decide)
  have hdg := m_digits hP1
  have hlt := m_letter hP1 hF1 hi (p := 1) (by decide)
  have hdk : digN l = -1 ∨ (0 ≤ digN l ∧ digN l ≤ 999) := by
    unfold digN
    split
    · exact Or.inr (num3_rng _ (dgs_dig l))
    · exact Or.inl rfl
  refine q_in (ls := [vR 155, vN]) mq_159 (ml_159 rfl) rfl fun D hD => ?_
  -- accF at state 2
  have hacc : ∀ f g, accF (tKind l) (dgs l).length (num3 (dgs l)) r f g = if (rdPart (tKind l) (dgs l).length (num3 (dgs l)) r).1 = true then some ((rdPart (tKind l) (dgs l).length (num3 (dgs l)) r).2, f, g) else none := by
    intro f g
    unfold accF
    rw [if_neg (by omega), if_neg (by omega), if_pos h1]
  -- a letter at once, when nothing else stands here
  have byLetter : (tKind l ≠ 256 ∨ 3 < (dgs l).length) → (tKind l = 45 → r 13 ≠ 0) → Wp mc_159 D 68 [vR 155, vI (-1)] [] M1 (PtQ b l r M) := by
    intro n256 n45
    have hno : rdLet (tKind l) 1 r = none → ∀ f g, rn b l r f g = Sum.inl ((b.length - l.length : Nat) : Int) := by
      intro hn f g
      refine rn_none hs ?_
      rw [hacc f g]
      unfold rdPart
      by_cases k256 : tKind l = 256
      · rw [if_pos k256, decide_eq_false (by omega)]; rfl
      · rw [if_neg k256]
        by_cases k45 : tKind l = 45
        · rw [if_pos k45, decide_eq_false (n45 k45)]; rfl
        · rw [if_neg k45, hn]; rfl
    have hyes : ∀ s, rdLet (tKind l) 1 r = some s → (l ≠ [] ∧ ∀ f g, rn b l r f g = rn b (nxt l) s f g) := by
      intro s hsm
      have hk : tKind l = 120 ∨ tKind l = 121 := by
        unfold rdLet at hsm
        split at hsm
        · next z => exact Or.inl z.1
        · split at hsm
          · next z => exact Or.inr z.1
          · cases hsm
      have hl : l ≠ [] := fun z => by rw [z] at hk; rcases hk with hk | hk <;> cases hk
      refine ⟨hl, fun f g => ?_⟩
      have : accF (tKind l) (dgs l).length (num3 (dgs l)) r f g = some (s, f, g) := by
        have hp : rdPart (tKind l) (dgs l).length (num3 (dgs l)) r = ((rdLet (tKind l) 1 r).isSome, (rdLet (tKind l) 1 r).getD r) := by
          unfold rdPart
          rw [if_neg (by omega), if_neg (by omega)]
        rw [hacc f g, hp, hsm]
        rfl
      exact rn_some hs hl this
    cases e : rdLet (tKind l) 1 r with
    | none =>
      rw [e] at hlt
      have hlt : EQ 4 161 [vR 155, vI 1] M1 (fun q N => q = some (vI 0) ∧ N = M1) := hlt
      refine w_aload rfl rfl (w_iconst rfl ?_)
      refine w_callQ (Or.inr rfl) (hlt) (by omega) nof_161 rfl rfl rfl rfl (by first | rfl | (show cKB[_]? = _; assumption)) (fun r70 M70 hq70 => ?_)
      obtain ⟨rfl, rfl⟩ := hq70
      exact w_zreturn rfl (Or.inl rfl) ⟨l, r, hP1, hPa, Nat.le_refl _, Or.inl ⟨rfl, hno e⟩⟩
    | some s =>
      rw [e] at hlt
      have hlt : EQ 4 161 [vR 155, vI 1] M1 (fun q N => q = some (vI 1) ∧ PosM b (nxt l) N ∧ FldM 0 s N ∧ PaF M1 N) := hlt
      have hy := hyes s e
      have hsa := rdLet_same e
      have hok := rdLet_ok hi (by omega) (by decide) e
      refine w_aload rfl rfl (w_iconst rfl ?_)
      refine w_callQ (Or.inr rfl) (hlt) (by omega) nof_161 rfl rfl rfl rfl (by first | rfl | (show cKB[_]? = _; assumption)) (fun r70 M70 hq70 => ?_)
      obtain ⟨rfl, w1, w2, w3⟩ := hq70
      exact w_zreturn rfl (Or.inr rfl) ⟨nxt l, s, w1, PaF_tr hPa w3, Nat.le_of_lt (nxt_len hy.1), Or.inr ⟨rfl, w2, hok, hsa.2, hsa.1, nxt_len hy.1, hy.2⟩⟩
  by_cases k45 : tKind l = 45
  · have hl : l ≠ [] := here_ne (km.mpr k45)
    have hd1 : digN l = -1 := by
      unfold digN
      rw [if_neg]
      intro z
      have := (digits_kind z.1).1
      omega
    rw [if_pos (km.mpr k45)] at hmi
    by_cases r13 : r 13 = 0
    · rw [r13] at g11
      have hnx := m_next hP1
      -- behind the minus
      have hrun : ∀ f g, rn b l r f g = rn b (nxt l) (sR r 1 3) f g := fun f g => by
        have : accF (tKind l) (dgs l).length (num3 (dgs l)) r f g = some (sR r 1 3, f, g) := by
          have hp : rdPart (tKind l) (dgs l).length (num3 (dgs l)) r = (decide (r 13 = 0), sR r 1 3) := by
            unfold rdPart
            rw [if_neg (by omega), if_pos k45]
          rw [hacc f g, hp, decide_eq_true r13]
          rfl
        exact rn_some hs hl this
      have cont : ∀ N : mM, PosM b (nxt l) N → (∀ a, a ≠ 155 → N a = M1 a) → (∀ k, k ≠ 5 → k ≠ 6 → N 155 k = M1 155 k) → Wp mc_159 D 30 [vR 155, vN] [] N (PtQ b l r M) := by
        intro N w1 w2 w3
        have hPN : PaF M N := PaF_tr hPa ⟨w2, fun k hk => w3 k (by omega) (by omega)⟩
        have hdN := m_digits w1
        have hs2 : skp (nxt l) = nxt l := skp_skp _
        have hacc3 : ∀ f g, accF (tKind (nxt l)) (dgs (nxt l)).length (num3 (dgs (nxt l))) (sR r 1 3) f g = if tKind (nxt l) = 256 ∧ ((dgs (nxt l)).length : Int) ≤ 3 then some (rdNum (-(num3 (dgs (nxt l)))) (sR r 1 3), f, g) else none := by
          intro f g
          unfold accF
          rw [if_neg (by show ¬ (3 : Int) = 0; decide), if_neg (by show ¬ (3 : Int) = 1; decide), if_neg (by show ¬ (3 : Int) = 2; decide), if_pos (by show (3 : Int) = 3; rfl)]
        by_cases hd : 1 ≤ (dgs (nxt l)).length ∧ (dgs (nxt l)).length ≤ 3
        · have hnn := num3_rng _ (dgs_dig (nxt l))
          have hkl := digits_kind hd.1
          rw [show digN (nxt l) = num3 (dgs (nxt l)) from if_pos hd] at hdN
          have hrun2 : ∀ f g, rn b l r f g = rn b (nxt (nxt l)) (rdNum (-(num3 (dgs (nxt l)))) (sR r 1 3)) f g := fun f g => by
            rw [hrun f g]
            have : accF (tKind (nxt l)) (dgs (nxt l)).length (num3 (dgs (nxt l))) (sR r 1 3) f g = some (rdNum (-(num3 (dgs (nxt l)))) (sR r 1 3), f, g) := by
              rw [hacc3 f g, if_pos ⟨hkl.1, by omega⟩]
            exact rn_some hs2 hkl.2 this
          generalize num3 (dgs (nxt l)) = nn at *
          have hP2 : PosM b (nxt l) (upI (upI N 155 10 (-nn)) 155 11 1) := PosM_fr w1 ((if_neg (by omega)).trans (if_neg (by omega))) ((if_neg (by omega)).trans (if_neg (by omega))) ((if_neg (by omega)).trans (if_neg (by omega))) (fun k => by rw [upI_ne _ _ _ _ (by decide), upI_ne _ _ _ _ (by decide)])
          have hnx2 := m_next hP2
          have hok : RdI (rdNum (-nn) (sR r 1 3)) := by
            have hi3 : RdI (sR r 1 3) := by unfold RdI at hi ⊢; simp [sR]; omega
            exact RdI_num hi3 (by show (3 : Int) ≠ 5; decide) (by omega)
          have hfin : ∀ O : mM, PosM b (nxt (nxt l)) O → (∀ a, a ≠ 155 → O a = upI (upI N 155 10 (-nn)) 155 11 1 a) → (∀ k, k ≠ 5 → k ≠ 6 → O 155 k = upI (upI N 155 10 (-nn)) 155 11 1 155 k) → PtQ b l r M (some (vI 1)) O := by
            intro O v1 v2 v3
            have e : ∀ k, k ≠ 5 → k ≠ 6 → k ≠ 10 → k ≠ 11 → O 155 k = M1 155 k := fun k a1 a2 a3 a4 => by rw [v3 k a1 a2, ← w3 k a1 a2]; exact (if_neg (by omega)).trans (if_neg (by omega))
            have x10 : O 155 10 = -nn := by rw [v3 10 (by decide) (by decide)]; exact (if_neg (by omega)).trans (upI_same _ _ _ _)
            have x11 : O 155 11 = 1 := by rw [v3 11 (by decide) (by decide)]; exact upI_same _ _ _ _
            obtain ⟨⟨c10, c11, c12, c13⟩, ⟨c14, c15, c16⟩, c7, c9⟩ := hF1
            have hl2 := nxt_len hl
            have hl3 := nxt_len hkl.2
            refine ⟨nxt (nxt l), rdNum (-nn) (sR r 1 3), v1, PaF_tr hPN ⟨fun a ha => by rw [v2 a ha, upI_ne _ _ _ _ ha, upI_ne _ _ _ _ ha], fun k hk => by rw [v3 k (by omega) (by omega)]; exact (if_neg (by omega)).trans (if_neg (by omega))⟩, by omega, Or.inr ⟨rfl, ⟨⟨x10, x11, ?_, ?_⟩, ⟨?_, ?_, ?_⟩, ?_, ?_⟩, hok, rfl, ⟨rfl, rfl, rfl, rfl⟩, by omega, hrun2⟩⟩
            · rw [e 12 (by decide) (by decide) (by decide) (by decide)]; exact c12
            · rw [e 13 (by decide) (by decide) (by decide) (by decide)]; exact c13
            · rw [e 14 (by decide) (by decide) (by decide) (by decide)]; exact c14
            · rw [e 15 (by decide) (by decide) (by decide) (by decide)]; exact c15
            · rw [e 16 (by decide) (by decide) (by decide) (by decide), c16]; show r 10 + 1 = r 10 + 1 + 0; omega
            · rw [e 7 (by decide) (by decide) (by decide) (by decide)]; exact c7
            · rw [e 9 (by decide) (by decide) (by decide) (by decide)]; exact c9
          refine w_aload rfl rfl ?_
          refine w_call (Or.inr rfl) ((hdN)) (by omega) nof_160 rfl rfl rfl rfl (by first | rfl | (show cKB[_]? = _; assumption)) rfl ?_
          refine w_if_ge (tgt := 39) rfl (by first | assumption | exact i32_0 | (unfold i32 at *; omega)) rfl (fun c34 => ?_) (fun c34 => ?_)
          · skip
            refine w_aload rfl rfl (w_aload rfl rfl ?_)
            refine w_call (Or.inr rfl) ((hdN)) (by omega) nof_160 rfl rfl rfl rfl (by first | rfl | (show cKB[_]? = _; assumption)) rfl ?_
            refine w_ineg rfl (w_putI rfl (by first | rfl | assumption) rfl (w_aload rfl rfl (w_iconst rfl (w_putZ rfl (by first | rfl | assumption) rfl (by first | exact Or.inl rfl | exact Or.inr rfl | omega | assumption) (w_aload rfl rfl ?_)))))
            refine w_callQ (Or.inr rfl) (hnx2) (by omega) nof_154 rfl rfl rfl rfl (by first | rfl | (show cKB[_]? = _; assumption)) (fun r54 M54 hq54 => ?_)
            obtain ⟨rfl, v1, v2, v3⟩ := hq54
            refine w_iconst rfl ?_
            exact w_zreturn rfl (Or.inr rfl) (hfin _ v1 v2 v3)
          · exfalso; omega
        · rw [show digN (nxt l) = -1 from if_neg hd] at hdN
          have hno : ∀ f g, rn b l r f g = Sum.inl ((b.length - (nxt l).length : Nat) : Int) := fun f g => by
            rw [hrun f g]
            refine rn_none hs2 ?_
            rw [hacc3 f g, if_neg]
            intro z
            have hb2 : ∀ (x : Int) (t : List Int), nxt l = x :: t → x ≤ 255 := by
              intro x t hx
              obtain ⟨q, hq, e, hql⟩ := PosM_at w1
              rw [hx] at e
              obtain ⟨g1, g2, g3⟩ := drop_cons e.symm
              exact ((h.1.2.2 q x g2).2).2
            have := kind_digits z.1 hb2
            omega
          refine w_aload rfl rfl ?_
          refine w_call (Or.inr rfl) ((hdN)) (by omega) nof_160 rfl rfl rfl rfl (by first | rfl | (show cKB[_]? = _; assumption)) rfl ?_
          refine w_if_ge (tgt := 39) rfl (by first | assumption | exact i32_0 | (unfold i32 at *; omega)) rfl (fun c => absurd c (by decide)) (fun _ => ?_)
          refine w_iconst rfl ?_
          exact w_zreturn rfl (Or.inl rfl) ⟨nxt l, r, w1, hPN, Nat.le_of_lt (nxt_len hl), Or.inl ⟨rfl, hno⟩⟩
      refine w_aload rfl rfl (w_dup rfl rfl (w_getIV rfl (by first | rfl | assumption) (by first | exact Or.inl rfl | exact Or.inr rfl) (f16) (w_iconst rfl (w_iadd rfl (w_putI rfl (by first | rfl | assumption) rfl ?_)))))
      rw [hM1]
      refine w_aload rfl rfl (w_iconst rfl ?_)
      refine w_call (Or.inr rfl) ((hmi)) (by omega) nof_157 rfl rfl rfl rfl (by first | rfl | (show cKB[_]? = _; assumption)) rfl ?_
      refine w_if_eq (tgt := 59) rfl (by first | assumption | exact i32_0 | (unfold i32 at *; omega)) rfl (fun c => absurd c (by decide)) (fun _ => ?_)
      refine w_aload rfl rfl (w_getIV rfl (by first | rfl | assumption) (by first | exact Or.inl rfl | exact Or.inr rfl) (g11) ?_)
      refine w_if_ne (tgt := 59) rfl (by first | assumption | exact i32_0 | (unfold i32 at *; omega)) rfl (fun c => absurd c (by decide)) (fun _ => ?_)
      refine w_aload rfl rfl ?_
      refine w_callQ (Or.inr rfl) (hnx) (by omega) nof_154 rfl rfl rfl rfl (by first | rfl | (show cKB[_]? = _; assumption)) (fun r27 M27 hq27 => ?_)
      obtain ⟨rfl, w1, w2, w3⟩ := hq27
      exact cont _ w1 w2 w3
    · have hgo := byLetter (Or.inl (by omega)) (fun _ => r13)
      have r13b : r 13 = 1 := by omega
      rw [r13b] at g11
      rw [hd1] at hdg
      refine w_aload rfl rfl (w_dup rfl rfl (w_getIV rfl (by first | rfl | assumption) (by first | exact Or.inl rfl | exact Or.inr rfl) (f16) (w_iconst rfl (w_iadd rfl (w_putI rfl (by first | rfl | assumption) rfl ?_)))))
      rw [hM1]
      refine w_aload rfl rfl (w_iconst rfl ?_)
      refine w_call (Or.inr rfl) ((hmi)) (by omega) nof_157 rfl rfl rfl rfl (by first | rfl | (show cKB[_]? = _; assumption)) rfl ?_
      refine w_if_eq (tgt := 59) rfl (by first | assumption | exact i32_0 | (unfold i32 at *; omega)) rfl (fun c => absurd c (by decide)) (fun _ => ?_)
      refine w_aload rfl rfl (w_getIV rfl (by first | rfl | assumption) (by first | exact Or.inl rfl | exact Or.inr rfl) (g11) ?_)
      refine w_if_ne (tgt := 59) rfl (by first | assumption | exact i32_0 | (unfold i32 at *; omega)) rfl (fun _ => ?_) (fun c => absurd c (by decide))
      refine w_aload rfl rfl ?_
      refine w_call (Or.inr rfl) ((hdg)) (by omega) nof_160 rfl rfl rfl rfl (by first | rfl | (show cKB[_]? = _; assumption)) rfl ?_
      refine w_istore (ls2 := [_, _]) rfl rfl rfl (w_iload rfl rfl ?_)
      refine w_if_ge (tgt := 74) rfl (by first | assumption | exact i32_0 | (unfold i32 at *; omega)) rfl (fun c => absurd c (by decide)) (fun _ => ?_)
      exact hgo
  · rw [if_neg (fun z => k45 (km.mp z))] at hmi
    by_cases hd : 1 ≤ (dgs l).length ∧ (dgs l).length ≤ 3
    · have hnn := num3_rng _ (dgs_dig l)
      have hkl := digits_kind hd.1
      rw [show digN l = num3 (dgs l) from if_pos hd] at hdg
      have hrun : ∀ f g, rn b l r f g = rn b (nxt l) (sR (sR r 14 (num3 (dgs l))) 1 4) f g := fun f g => by
        have : accF (tKind l) (dgs l).length (num3 (dgs l)) r f g = some (sR (sR r 14 (num3 (dgs l))) 1 4, f, g) := by
          rw [hacc f g]
          unfold rdPart
          rw [if_pos hkl.1, decide_eq_true (show ((dgs l).length : Int) ≤ 3 by omega)]
          rfl
        exact rn_some hs hkl.2 this
      generalize num3 (dgs l) = nn at *
      have hi4 : RdI (sR (sR r 14 nn) 1 4) := by unfold RdI at hi ⊢; simp [sR]; omega
      have hnx := m_next hP1
      have cont : ∀ N : mM, PosM b (nxt l) N → (∀ a, a ≠ 155 → N a = M1 a) → (∀ k, k ≠ 5 → k ≠ 6 → N 155 k = M1 155 k) → Wp mc_159 D 78 [vR 155, vI nn] [] N (PtQ b l r M) := by
        intro N w1 w2 w3
        have hPN : PaF M N := PaF_tr hPa ⟨w2, fun k hk => w3 k (by omega) (by omega)⟩
        have hFN : FldM 1 r N := FldM_fr hF1 w3
        have hFN4 : FldM 1 (sR (sR r 14 nn) 1 4) N := hFN
        have hx := m_isHere w1 (c := 120) (by decide)
        have hy := m_isHere w1 (c := 121) (by decide)
        have kx := here_kind (l := nxt l) (c := 120) (by decide) (by decide) (by decide)
        have ky := here_kind (l := nxt l) (c := 121) (by decide) (by decide) (by decide)
        have hs2 : skp (nxt l) = nxt l := skp_skp _
        have hlen := nxt_len hkl.2
        have hltN := m_letter w1 hFN4 hi4 (p := nn) hnn
        have byL : (tKind (nxt l) = 120 ∨ tKind (nxt l) = 121) → Wp mc_159 D 96 [vR 155, vI nn] [] N (PtQ b l r M) := by
          intro hk
          have hl2 : nxt l ≠ [] := fun z => by rw [z] at hk; rcases hk with hk | hk <;> cases hk
          have hacc4 : ∀ f g, accF (tKind (nxt l)) (dgs (nxt l)).length (num3 (dgs (nxt l))) (sR (sR r 14 nn) 1 4) f g = (rdLet (tKind (nxt l)) nn (sR (sR r 14 nn) 1 4)).map (fun s => (s, f, g)) := by
            intro f g
            unfold accF
            rw [if_neg (by show ¬ (4 : Int) = 0; decide), if_neg (by show ¬ (4 : Int) = 1; decide), if_neg (by show ¬ (4 : Int) = 2; decide), if_neg (by show ¬ (4 : Int) = 3; decide), if_pos (by show (4 : Int) = 4; rfl), if_pos hk]
            rfl
          cases e : rdLet (tKind (nxt l)) nn (sR (sR r 14 nn) 1 4) with
          | none =>
            rw [e] at hltN
            have hltN : EQ 4 161 [vR 155, vI nn] N (fun q O => q = some (vI 0) ∧ O = N) := hltN
            have hno : ∀ f g, rn b l r f g = Sum.inl ((b.length - (nxt l).length : Nat) : Int) := fun f g => by
              rw [hrun f g]
              refine rn_none hs2 ?_
              rw [hacc4 f g, e]; rfl
            refine w_aload rfl rfl (w_iload rfl rfl ?_)
            refine w_callQ (Or.inr rfl) (hltN) (by omega) nof_161 rfl rfl rfl rfl (by first | rfl | (show cKB[_]? = _; assumption)) (fun r98 M98 hq98 => ?_)
            obtain ⟨rfl, rfl⟩ := hq98
            exact w_zreturn rfl (Or.inl rfl) ⟨nxt l, r, w1, hPN, Nat.le_of_lt hlen, Or.inl ⟨rfl, hno⟩⟩
          | some s =>
            rw [e] at hltN
            have hltN : EQ 4 161 [vR 155, vI nn] N (fun q O => q = some (vI 1) ∧ PosM b (nxt (nxt l)) O ∧ FldM 0 s O ∧ PaF N O) := hltN
            have hyes : ∀ f g, rn b l r f g = rn b (nxt (nxt l)) s f g := fun f g => by
              rw [hrun f g]
              have : accF (tKind (nxt l)) (dgs (nxt l)).length (num3 (dgs (nxt l))) (sR (sR r 14 nn) 1 4) f g = some (s, f, g) := by rw [hacc4 f g, e]; rfl
              exact rn_some hs2 hl2 this
            have hsa := rdLet_same e
            have hok := rdLet_ok hi4 (by show (4 : Int) ≠ 5; decide) hnn.1 e
            have hl3 := nxt_len hl2
            refine w_aload rfl rfl (w_iload rfl rfl ?_)
            refine w_callQ (Or.inr rfl) (hltN) (by omega) nof_161 rfl rfl rfl rfl (by first | rfl | (show cKB[_]? = _; assumption)) (fun r98 M98 hq98 => ?_)
            obtain ⟨rfl, v1, v2, v3⟩ := hq98
            exact w_zreturn rfl (Or.inr rfl) ⟨nxt (nxt l), s, v1, PaF_tr hPN v3, by omega, Or.inr ⟨rfl, v2, hok, hsa.2, hsa.1, by omega, hyes⟩⟩
        by_cases qx : hereB (nxt l) 120 = true
        · rw [if_pos qx] at hx
          have hgo := byL (Or.inl (kx.mp qx))
          refine w_aload rfl rfl (w_iconst rfl ?_)
          refine w_call (Or.inr rfl) ((hx)) (by omega) nof_157 rfl rfl rfl rfl (by first | rfl | (show cKB[_]? = _; assumption)) rfl ?_
          refine w_if_ne (tgt := 96) rfl (by first | assumption | exact i32_0 | (unfold i32 at *; omega)) rfl (fun _ => ?_) (fun c => absurd c (by decide))
          exact hgo
        · rw [if_neg qx] at hx
          by_cases qy : hereB (nxt l) 121 = true
          · rw [if_pos qy] at hy
            have hgo := byL (Or.inr (ky.mp qy))
            refine w_aload rfl rfl (w_iconst rfl ?_)
            refine w_call (Or.inr rfl) ((hx)) (by omega) nof_157 rfl rfl rfl rfl (by first | rfl | (show cKB[_]? = _; assumption)) rfl ?_
            refine w_if_ne (tgt := 96) rfl (by first | assumption | exact i32_0 | (unfold i32 at *; omega)) rfl (fun c => absurd c (by decide)) (fun _ => ?_)
            refine w_aload rfl rfl (w_iconst rfl ?_)
            refine w_call (Or.inr rfl) ((hy)) (by omega) nof_157 rfl rfl rfl rfl (by first | rfl | (show cKB[_]? = _; assumption)) rfl ?_
            refine w_if_eq (tgt := 102) rfl (by first | assumption | exact i32_0 | (unfold i32 at *; omega)) rfl (fun c => absurd c (by decide)) (fun _ => ?_)
            exact hgo
          · rw [if_neg qy] at hy
            have nxy : ¬ (tKind (nxt l) = 120 ∨ tKind (nxt l) = 121) := by
              rintro (z | z)
              · exact qx (kx.mpr z)
              · exact qy (ky.mpr z)
            have n11 : N 155 11 = r 13 := hFN.1.2.1
            have hacc4 : ∀ f g, accF (tKind (nxt l)) (dgs (nxt l)).length (num3 (dgs (nxt l))) (sR (sR r 14 nn) 1 4) f g = if r 13 = 0 then folF (tKind (nxt l)) (rdNum nn (sR (sR r 14 nn) 1 4)) f g else none := by
              intro f g
              unfold accF
              rw [if_neg (by show ¬ (4 : Int) = 0; decide), if_neg (by show ¬ (4 : Int) = 1; decide), if_neg (by show ¬ (4 : Int) = 2; decide), if_neg (by show ¬ (4 : Int) = 3; decide), if_pos (by show (4 : Int) = 4; rfl), if_neg nxy]
              rfl
            by_cases r13 : r 13 = 0
            · rw [r13] at n11
              have hyes : ∀ f g, rn b l r f g = rn b (nxt l) (rdNum nn (sR (sR r 14 nn) 1 4)) f g := fun f g => by
                rw [hrun f g]
                refine rn_eq hs2 ?_
                rw [hacc4 f g, if_pos r13]
                unfold accF
                rw [if_neg (by show ¬ (5 : Int) = 0; decide), if_neg (by show ¬ (5 : Int) = 1; decide), if_neg (by show ¬ (5 : Int) = 2; decide), if_neg (by show ¬ (5 : Int) = 3; decide), if_neg (by show ¬ (5 : Int) = 4; decide)]
              have hok := RdI_num (n := nn) hi4 (by show (4 : Int) ≠ 5; decide) (by omega)
              have hP2 : PosM b (nxt l) (upI (upI N 155 10 nn) 155 11 1) := PosM_fr w1 ((if_neg (by omega)).trans (if_neg (by omega))) ((if_neg (by omega)).trans (if_neg (by omega))) ((if_neg (by omega)).trans (if_neg (by omega))) (fun k => by rw [upI_ne _ _ _ _ (by decide), upI_ne _ _ _ _ (by decide)])
              have hF2 : FldM 0 (rdNum nn (sR (sR r 14 nn) 1 4)) (upI (upI N 155 10 nn) 155 11 1) := by
                obtain ⟨⟨c10, c11, c12, c13⟩, ⟨c14, c15, c16⟩, c7, c9⟩ := hFN
                unfold FldM
                simp [upI, rdNum, sR, c12, c13, c14, c15, c16, c7, c9]
              have hPf : PaF N (upI (upI N 155 10 nn) 155 11 1) := ⟨fun a ha => by rw [upI_ne _ _ _ _ ha, upI_ne _ _ _ _ ha], fun k hk => (if_neg (by omega)).trans (if_neg (by omega))⟩
              refine w_aload rfl rfl (w_iconst rfl ?_)
              refine w_call (Or.inr rfl) ((hx)) (by omega) nof_157 rfl rfl rfl rfl (by first | rfl | (show cKB[_]? = _; assumption)) rfl ?_
              refine w_if_ne (tgt := 96) rfl (by first | assumption | exact i32_0 | (unfold i32 at *; omega)) rfl (fun c => absurd c (by decide)) (fun _ => ?_)
              refine w_aload rfl rfl (w_iconst rfl ?_)
              refine w_call (Or.inr rfl) ((hy)) (by omega) nof_157 rfl rfl rfl rfl (by first | rfl | (show cKB[_]? = _; assumption)) rfl ?_
              refine w_if_eq (tgt := 102) rfl (by first | assumption | exact i32_0 | (unfold i32 at *; omega)) rfl (fun _ => ?_) (fun c => absurd c (by decide))
              refine w_aload rfl rfl (w_getIV rfl (by first | rfl | assumption) (by first | exact Or.inl rfl | exact Or.inr rfl) (n11) ?_)
              refine w_if_eq (tgt := 111) rfl (by first | assumption | exact i32_0 | (unfold i32 at *; omega)) rfl (fun _ => ?_) (fun c => absurd c (by decide))
              refine w_aload rfl rfl (w_iload rfl rfl (w_putI rfl (by first | rfl | assumption) rfl (w_aload rfl rfl (w_iconst rfl (w_putZ rfl (by first | rfl | assumption) rfl (by first | exact Or.inl rfl | exact Or.inr rfl | omega | assumption) ?_)))))
              refine w_iconst rfl ?_
              exact w_zreturn rfl (Or.inr rfl) ⟨nxt l, rdNum nn (sR (sR r 14 nn) 1 4), hP2, PaF_tr hPN hPf, Nat.le_of_lt hlen, Or.inr ⟨rfl, hF2, hok, rfl, ⟨rfl, rfl, rfl, rfl⟩, hlen, hyes⟩⟩
            · have hno : ∀ f g, rn b l r f g = Sum.inl ((b.length - (nxt l).length : Nat) : Int) := fun f g => by
                rw [hrun f g]
                refine rn_none hs2 ?_
                rw [hacc4 f g, if_neg r13]
              have r13b : r 13 = 1 := by omega
              rw [r13b] at n11
              refine w_aload rfl rfl (w_iconst rfl ?_)
              refine w_call (Or.inr rfl) ((hx)) (by omega) nof_157 rfl rfl rfl rfl (by first | rfl | (show cKB[_]? = _; assumption)) rfl ?_
              refine w_if_ne (tgt := 96) rfl (by first | assumption | exact i32_0 | (unfold i32 at *; omega)) rfl (fun c => absurd c (by decide)) (fun _ => ?_)
              refine w_aload rfl rfl (w_iconst rfl ?_)
              refine w_call (Or.inr rfl) ((hy)) (by omega) nof_157 rfl rfl rfl rfl (by first | rfl | (show cKB[_]? = _; assumption)) rfl ?_
              refine w_if_eq (tgt := 102) rfl (by first | assumption | exact i32_0 | (unfold i32 at *; omega)) rfl (fun _ => ?_) (fun c => absurd c (by decide))
              refine w_aload rfl rfl (w_getIV rfl (by first | rfl | assumption) (by first | exact Or.inl rfl | exact Or.inr rfl) (n11) ?_)
              refine w_if_eq (tgt := 111) rfl (by first | assumption | exact i32_0 | (unfold i32 at *; omega)) rfl (fun c => absurd c (by decide)) (fun _ => ?_)
              refine w_iconst rfl ?_
              exact w_zreturn rfl (Or.inl rfl) ⟨nxt l, r, w1, hPN, Nat.le_of_lt hlen, Or.inl ⟨rfl, hno⟩⟩
      refine w_aload rfl rfl (w_dup rfl rfl (w_getIV rfl (by first | rfl | assumption) (by first | exact Or.inl rfl | exact Or.inr rfl) (f16) (w_iconst rfl (w_iadd rfl (w_putI rfl (by first | rfl | assumption) rfl ?_)))))
      rw [hM1]
      refine w_aload rfl rfl (w_iconst rfl ?_)
      refine w_call (Or.inr rfl) ((hmi)) (by omega) nof_157 rfl rfl rfl rfl (by first | rfl | (show cKB[_]? = _; assumption)) rfl ?_
      refine w_if_eq (tgt := 59) rfl (by first | assumption | exact i32_0 | (unfold i32 at *; omega)) rfl (fun _ => ?_) (fun c => absurd c (by decide))
      refine w_aload rfl rfl ?_
      refine w_call (Or.inr rfl) ((hdg)) (by omega) nof_160 rfl rfl rfl rfl (by first | rfl | (show cKB[_]? = _; assumption)) rfl ?_
      refine w_istore (ls2 := [_, _]) rfl rfl rfl (w_iload rfl rfl ?_)
      refine w_if_ge (tgt := 74) rfl (by first | assumption | exact i32_0 | (unfold i32 at *; omega)) rfl (fun c65 => ?_) (fun c65 => ?_)
      · skip
        refine w_aload rfl rfl ?_
        refine w_callQ (Or.inr rfl) (hnx) (by omega) nof_154 rfl rfl rfl rfl (by first | rfl | (show cKB[_]? = _; assumption)) (fun r75 M75 hq75 => ?_)
        obtain ⟨rfl, w1, w2, w3⟩ := hq75
        exact cont _ w1 w2 w3
      · exfalso; omega
    · rw [show digN l = -1 from if_neg hd] at hdg
      have hgo := byLetter (by
        by_cases k256 : tKind l = 256
        · right
          have := kind_digits k256 hbyte
          omega
        · exact Or.inl k256) (fun z => absurd z k45)
      refine w_aload rfl rfl (w_dup rfl rfl (w_getIV rfl (by first | rfl | assumption) (by first | exact Or.inl rfl | exact Or.inr rfl) (f16) (w_iconst rfl (w_iadd rfl (w_putI rfl (by first | rfl | assumption) rfl ?_)))))
      rw [hM1]
      refine w_aload rfl rfl (w_iconst rfl ?_)
      refine w_call (Or.inr rfl) ((hmi)) (by omega) nof_157 rfl rfl rfl rfl (by first | rfl | (show cKB[_]? = _; assumption)) rfl ?_
      refine w_if_eq (tgt := 59) rfl (by first | assumption | exact i32_0 | (unfold i32 at *; omega)) rfl (fun _ => ?_) (fun c => absurd c (by decide))
      refine w_aload rfl rfl ?_
      refine w_call (Or.inr rfl) ((hdg)) (by omega) nof_160 rfl rfl rfl rfl (by first | rfl | (show cKB[_]? = _; assumption)) rfl ?_
      refine w_istore (ls2 := [_, _]) rfl rfl rfl (w_iload rfl rfl ?_)
      refine w_if_ge (tgt := 74) rfl (by first | assumption | exact i32_0 | (unfold i32 at *; omega)) rfl (fun c => absurd c (by decide)) (fun _ => ?_)
      exact hgo
