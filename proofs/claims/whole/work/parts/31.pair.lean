/-! ===== both polynomials, and what was ===== -/
def isP (p : Nat) : Prop := cKB[p]? = some (0, 3) ∧ cRT p 0 = some (p + 1) ∧ cRT p 1 = some (p + 3) ∧ isT (p + 1) ∧ isT (p + 3)
def cur2 (p : Nat) (f g : Cv) (M : mM) : Prop := cur (p + 1) f M ∧ cur (p + 3) g M
theorem cur2_fr {p : Nat} {f g : Cv} {M M1 : mM} (h : cur2 p f g M) (e : ∀ a, p < a → a < p + 5 → ∀ k, M1 a k = M a k) : cur2 p f g M1 := ⟨cur_fr h.1 (fun k => e _ (by omega) (by omega) k), cur_fr h.2 (fun k => e _ (by omega) (by omega) k)⟩
/-- both polynomials of a pair written -/
def Pw (p : Nat) (f g : Cv) (n : Int) (M M1 : mM) : Prop := cur2 p f g M1 ∧ (M (p + 1) 1 + 1 ≤ M1 (p + 1) 1 ∧ M1 (p + 1) 1 ≤ M (p + 1) 1 + n) ∧ (M (p + 3) 1 + 1 ≤ M1 (p + 3) 1 ∧ M1 (p + 3) 1 ≤ M (p + 3) 1 + n) ∧ ∀ a, (a ≤ p ∨ p + 5 ≤ a) → ∀ k, M1 a k = M a k
theorem e_of_first {p : Nat} (M : mM) (hp : isP p) : E 1 24 [vR p, vI 0] M (some (vR (p + 1))) M := by
  obtain ⟨h1, h2, h3, -⟩ := hp
  refine e_in (ls := [vR p, vI 0]) mq_24 (ml_24 rfl) rfl fun D hD => ?_
  refine w_iload rfl rfl ?_
  refine w_if_ne (tgt := 11) rfl (by first | assumption | exact i32_0 | (unfold i32 at *; omega)) rfl (fun c => absurd c (by decide)) (fun _ => ?_)
  refine w_aload rfl rfl (w_getR rfl (by first | rfl | assumption) rfl (by first | rfl | assumption) (w_goto (tgt := 15) rfl rfl ?_))
  exact w_areturn rfl ⟨by first | rfl | (congr 2; omega), by rfl⟩
theorem e_of_second {p : Nat} (M : mM) (hp : isP p) : E 1 24 [vR p, vI 1] M (some (vR (p + 3))) M := by
  obtain ⟨h1, h2, h3, -⟩ := hp
  refine e_in (ls := [vR p, vI 1]) mq_24 (ml_24 rfl) rfl fun D hD => ?_
  refine w_iload rfl rfl ?_
  refine w_if_ne (tgt := 11) rfl (by first | assumption | exact i32_0 | (unfold i32 at *; omega)) rfl (fun _ => ?_) (fun c => absurd c (by decide))
  refine w_aload rfl rfl (w_getR rfl (by first | rfl | assumption) rfl (by first | rfl | assumption) ?_)
  exact w_areturn rfl ⟨by first | rfl | (congr 2; omega), by rfl⟩
theorem e_ptake {p q : Nat} {f g : Cv} {M : mM} (hp : isP p) (hq : isP q) (hpq : p + 5 ≤ q ∨ q + 5 ≤ p) (hc : cur2 q f g M) : EQ 2 50 [vR p, vR q] M (fun r M1 => r = none ∧ Pw p f g 1 M M1) := by
  obtain ⟨p1, p2, p3, p4, p5⟩ := hp
  obtain ⟨q1, q2, q3, q4, q5⟩ := hq
  have p6 := p4.1; have p7 := p5.1; have q6 := q4.1; have q7 := q5.1
  refine q_in (ls := [vR p, vR q]) mq_50 (ml_50 rfl) rfl fun D hD => ?_
  have hfin : ∀ M8 M19 : mM, Tw (p + 1) f 1 M M8 → Tw (p + 3) g 1 M8 M19 → Pw p f g 1 M M19 := fun M8 M19 w1 w2 => by
    have e1 : ∀ k, M19 (p + 1) k = M8 (p + 1) k := fun k => w2.2.2.2 _ (by omega) (by omega) k
    have e2 : ∀ k, M19 (p + 1 + 1) k = M8 (p + 1 + 1) k := fun k => w2.2.2.2 _ (by omega) (by omega) k
    have e3 := w1.2.2.2 (p + 3) (by omega) (by omega) 1
    exact ⟨⟨cur_fr w1.1 e2, w2.1⟩, ⟨by rw [e1]; exact w1.2.1, by rw [e1]; exact w1.2.2.1⟩, ⟨by rw [← e3]; exact w2.2.1, by rw [← e3]; exact w2.2.2.1⟩, fun a ha k => (w2.2.2.2 a (by omega) (by omega) k).trans (w1.2.2.2 a (by omega) (by omega) k)⟩
  refine w_aload rfl rfl (w_getR rfl (by first | rfl | assumption) rfl (by first | rfl | assumption) (w_aload rfl rfl (w_getR rfl (by first | rfl | assumption) rfl (by first | rfl | assumption) ?_)))
  refine w_callQ (Or.inr rfl) (e_take p4 q4 (by omega) (by omega) (by omega) hc.1) (by omega) nof_34 rfl rfl rfl rfl (by first | rfl | (show cKB[_]? = _; assumption)) (fun r8 M8 hq8 => ?_)
  obtain ⟨rfl, w1⟩ := hq8
  have hg : cur (q + 3) g M8 := cur_fr hc.2 (fun k => w1.2.2.2 _ (by omega) (by omega) k)
  refine w_aload rfl rfl (w_getR rfl (by first | rfl | assumption) rfl (by first | rfl | assumption) (w_aload rfl rfl (w_getR rfl (by first | rfl | assumption) rfl (by first | rfl | assumption) ?_)))
  refine w_callQ (Or.inr rfl) (e_take p5 q5 (by omega) (by omega) (by omega) hg) (by omega) nof_34 rfl rfl rfl rfl (by first | rfl | (show cKB[_]? = _; assumption)) (fun r19 M19 hq19 => ?_)
  obtain ⟨rfl, w2⟩ := hq19
  exact w_return rfl ⟨rfl, by exact hfin _ _ w1 w2⟩
theorem e_psize {p : Nat} {f g : Cv} {M : mM} (hp : isP p) (hc : cur2 p f g M) (hf : Cok 999 f) (hg : Cok 999 g) : E 3 64 [vR p] M (some (vI ((cntF f : Int) + (cntF g : Int)))) M := by
  obtain ⟨p1, p2, p3, p4, p5⟩ := hp
  have p6 := p4.1; have p7 := p5.1
  refine e_in (ls := [vR p]) mq_64 (ml_64 rfl) rfl fun D hD => ?_
  refine w_aload rfl rfl (w_getR rfl (by first | rfl | assumption) rfl (by first | rfl | assumption) ?_)
  refine w_call (Or.inr rfl) (e_size p4 hc.1 (by decide) hf) (by omega) nof_41 rfl rfl rfl rfl (by first | rfl | (show cKB[_]? = _; assumption)) rfl ?_
  refine w_aload rfl rfl (w_getR rfl (by first | rfl | assumption) rfl (by first | rfl | assumption) ?_)
  refine w_call (Or.inr rfl) (e_size p5 hc.2 (by decide) hg) (by omega) nof_41 rfl rfl rfl rfl (by first | rfl | (show cKB[_]? = _; assumption)) rfl ?_
  refine w_iadd rfl ?_
  exact w_ireturn rfl ⟨by first | rfl | (congr 2; omega), by rfl⟩
theorem rows_ok : ∀ j, j < 8 → cRT 17 j = some (18 + 5 * j) ∧ cKB[18 + 5 * j]? = some (0, 3) ∧ cRT (18 + 5 * j) 0 = some (18 + 5 * j + 1) ∧ cRT (18 + 5 * j) 1 = some (18 + 5 * j + 3) ∧ (cKB[18 + 5 * j + 1]? = some (0, 8) ∧ cKB[18 + 5 * j + 1 + 1]? = some (1, 21) ∧ cRT (18 + 5 * j + 1) 0 = some (18 + 5 * j + 1 + 1)) ∧ (cKB[18 + 5 * j + 3]? = some (0, 8) ∧ cKB[18 + 5 * j + 3 + 1]? = some (1, 21) ∧ cRT (18 + 5 * j + 3) 0 = some (18 + 5 * j + 3 + 1)) := by decide +kernel
theorem isP_row (j : Nat) (h : j < 8) : isP (18 + 5 * j) := (rows_ok j h).2
theorem isP_9 : isP 9 := ⟨rfl, rfl, rfl, ⟨rfl, rfl, rfl⟩, ⟨rfl, rfl, rfl⟩⟩
theorem isP_4 : isP 4 := ⟨rfl, rfl, rfl, ⟨rfl, rfl, rfl⟩, ⟨rfl, rfl, rfl⟩⟩
theorem isP_58 : isP 58 := ⟨rfl, rfl, rfl, ⟨rfl, rfl, rfl⟩, ⟨rfl, rfl, rfl⟩⟩
theorem isP_63 : isP 63 := ⟨rfl, rfl, rfl, ⟨rfl, rfl, rfl⟩, ⟨rfl, rfl, rfl⟩⟩
theorem isT_14 : isT 14 := ⟨rfl, rfl, rfl⟩
/-- the pasts, the latest first -/
def PastR (ps : List (Cv × Cv)) (M : mM) : Prop := ∃ n : Nat, n < 8 ∧ M 16 1 = n ∧ M 16 2 = (ps.length : Int) ∧ ps.length ≤ 8 ∧ ∀ (j : Nat) (q : Cv × Cv), ps[j]? = some q → cur2 (18 + 5 * ((n + 7 - j) % 8)) q.1 q.2 M
theorem e_forget {ps : List (Cv × Cv)} {M : mM} (h : PastR ps M) : EQ 1 35 [vR 16] M (fun r M1 => r = none ∧ PastR [] M1 ∧ ∀ a, a ≠ 16 → ∀ k, M1 a k = M a k) := by
  obtain ⟨n, h1, h2, -⟩ := h
  refine q_in (ls := [vR 16]) mq_35 (ml_35 rfl) rfl fun D hD => ?_
  refine w_aload rfl rfl (w_iconst rfl (w_putI rfl (by first | rfl | assumption) rfl ?_))
  exact w_return rfl ⟨rfl, by exact ⟨⟨n, h1, by rw [← h2]; exact if_neg (fun q => by omega), upI_same M 16 2 0, by simp, fun j q hq => by cases hq⟩, fun a ha k => if_neg (fun q => ha q.1)⟩⟩
theorem e_remember {ps : List (Cv × Cv)} {f g : Cv} {M : mM} (h : PastR ps M) (hc : cur2 9 f g M) : EQ 3 49 [vR 16, vR 9] M (fun r M1 => r = none ∧ PastR (((f, g) :: ps).take 8) M1 ∧ ∀ a, (a < 16 ∨ 58 ≤ a) → ∀ k, M1 a k = M a k) := by
  obtain ⟨n, h1, h2, h3, h4, h5⟩ := h
  have hr := rows_ok n h1
  have hr1 := hr.2.1
  refine q_in (ls := [vR 16, vR 9]) mq_49 (ml_49 rfl) rfl fun D hD => ?_
  have h2' : M 16 1 = ((n : Nat) : Int) := h2
  have hfin : ∀ M10 : mM, Pw (18 + 5 * n) f g 1 M M10 → PastR (((f, g) :: ps).take 8) (upI (upI M10 16 1 (((n : Int) + 1).tmod 8)) 16 2 (min ((ps.length : Int) + 1) 8)) ∧ ∀ a, (a < 16 ∨ 58 ≤ a) → ∀ k, upI (upI M10 16 1 (((n : Int) + 1).tmod 8)) 16 2 (min ((ps.length : Int) + 1) 8) a k = M a k := fun M10 w => by
    have hfr : ∀ a, a ≠ 16 → ∀ k, upI (upI M10 16 1 (((n : Int) + 1).tmod 8)) 16 2 (min ((ps.length : Int) + 1) 8) a k = M10 a k := fun a ha k => by
      unfold upI; rw [if_neg (fun q => ha q.1), if_neg (fun q => ha q.1)]
    refine ⟨⟨(n + 1) % 8, Nat.mod_lt _ (by decide), ?_, ?_, ?_, fun j q hq => ?_⟩, fun a ha k => (hfr a (by omega) k).trans (w.2.2.2 a (by omega) k)⟩
    · show upI (upI M10 16 1 _) 16 2 _ 16 1 = _
      rw [show upI (upI M10 16 1 (((n : Int) + 1).tmod 8)) 16 2 (min ((ps.length : Int) + 1) 8) 16 1 = upI M10 16 1 (((n : Int) + 1).tmod 8) 16 1 from if_neg (fun q => by omega), upI_same]
      show (((n + 1 : Nat)) : Int).tmod ((8 : Nat) : Int) = _
      rfl
    · rw [upI_same, List.length_take, List.length_cons]; omega
    · rw [List.length_take]; omega
    · rw [List.getElem?_take] at hq
      split at hq
      · next hj8 =>
        cases j with
        | zero =>
          cases hq
          have e : ((n + 1) % 8 + 7 - 0) % 8 = n := by omega
          rw [e]
          exact cur2_fr w.1 (fun a a1 a2 k => hfr a (by omega) k)
        | succ j =>
          have hq : ps[j]? = some q := hq
          have e : ((n + 1) % 8 + 7 - (j + 1)) % 8 = (n + 7 - j) % 8 := by omega
          have hne : (n + 7 - j) % 8 ≠ n := by omega
          rw [e]
          refine cur2_fr (h5 j q hq) (fun a a1 a2 k => (hfr a (by omega) k).trans (w.2.2.2 a ?_ k))
          have : (n + 7 - j) % 8 < 8 := Nat.mod_lt _ (by decide)
          omega
      · cases hq
  refine w_aload rfl rfl (w_getIV rfl (by first | rfl | assumption | exact hr.2.1) (by first | exact Or.inl rfl | exact Or.inr rfl) (h2) ?_)
  refine w_if_lt (tgt := 19) rfl (by first | assumption | exact i32_0 | (unfold i32 at *; omega)) rfl (fun c4 => ?_) (fun c4 => ?_)
  · skip
    exfalso; omega
  · skip
    refine w_aload rfl rfl (w_getIV rfl (by first | rfl | assumption | exact hr.2.1) (by first | exact Or.inl rfl | exact Or.inr rfl) (h2) (w_aload rfl rfl (w_getR rfl (by first | rfl | assumption | exact hr.2.1) rfl (by first | rfl | exact hr.1) (w_alen rfl (by first | rfl | assumption | exact hr.2.1) (by decide) (by decide) ?_))))
    refine w_icmp_lt (tgt := 20) rfl (by first | assumption | exact i32_0 | (unfold i32 at *; omega)) (by first | assumption | exact i32_0 | (unfold i32 at *; omega)) rfl (fun c16 => ?_) (fun c16 => ?_)
    · skip
      refine w_aload rfl rfl (w_getR rfl (by first | rfl | assumption | exact hr.2.1) rfl (by first | rfl | exact hr.1) (w_aload rfl rfl (w_getIV rfl (by first | rfl | assumption | exact hr.2.1) (by first | exact Or.inl rfl | exact Or.inr rfl) (h2) (w_aaload rfl (by first | rfl | assumption | exact hr.2.1) (by first | exact Or.inl rfl | exact Or.inr rfl) (by omega) (by omega) (by first | rfl | exact hr.1) (w_aload rfl rfl ?_)))))
      refine w_callQ (Or.inr rfl) (e_ptake (isP_row n h1) isP_9 (by omega) hc) (by omega) nof_50 rfl rfl rfl rfl (by first | rfl | (show cKB[_]? = _; assumption)) (fun r30 M30 hq30 => ?_)
      obtain ⟨rfl, w⟩ := hq30
      have e15 : M30 16 1 = (n : Int) := (w.2.2.2 16 (by omega) 1).trans h2
      have e28 : upI M30 16 1 (((n : Int) + 1).tmod 8) 16 2 = (ps.length : Int) := (if_neg (fun q => by omega)).trans ((w.2.2.2 16 (by omega) 2).trans h3)
      refine w_aload rfl rfl (w_aload rfl rfl (w_getIV rfl (by first | rfl | assumption | exact hr.2.1) (by first | exact Or.inl rfl | exact Or.inr rfl) (e15) (w_iconst rfl (w_iadd rfl (w_iconst rfl (w_irem rfl (by first | assumption | exact i32_0 | (unfold i32 at *; omega)) (by first | assumption | exact i32_0 | (unfold i32 at *; omega)) (by first | decide | omega | assumption) (w_putI rfl (by first | rfl | assumption | exact hr.2.1) rfl ?_)))))))
      refine w_aload rfl rfl (w_aload rfl rfl (w_getIV rfl (by first | rfl | assumption | exact hr.2.1) (by first | exact Or.inl rfl | exact Or.inr rfl) (e28) (w_iconst rfl (w_iadd rfl (w_iconst rfl ?_)))))
      refine w_call (Or.inl rfl) (e_min ((ps.length : Int) + 1) 8 _ (by unfold i32; omega) (by unfold i32; omega)) (by omega) nof_46 rfl rfl rfl rfl trivial rfl ?_
      refine w_putI rfl (by first | rfl | assumption | exact hr.2.1) rfl ?_
      exact w_return rfl ⟨rfl, by exact hfin _ w⟩
    · skip
      exfalso; omega
theorem e_recall {p : Cv × Cv} {ps : List (Cv × Cv)} {M : mM} (h : PastR (p :: ps) M) : EQ 3 62 [vR 16, vR 9] M (fun r M1 => r = none ∧ PastR ps M1 ∧ cur2 9 p.1 p.2 M1 ∧ (M 10 1 + 1 ≤ M1 10 1 ∧ M1 10 1 ≤ M 10 1 + 1) ∧ (M 12 1 + 1 ≤ M1 12 1 ∧ M1 12 1 ≤ M 12 1 + 1) ∧ ∀ a, (a ≤ 9 ∨ (14 ≤ a ∧ a < 16) ∨ 58 ≤ a) → ∀ k, M1 a k = M a k) := by
  obtain ⟨n, h1, h2, h3, h4, h5⟩ := h
  have hm : (n + 7) % 8 < 8 := Nat.mod_lt _ (by decide)
  have hr := rows_ok _ hm
  have hr1 := hr.2.1
  refine q_in (ls := [vR 16, vR 9, vN]) mq_62 (ml_62 rfl) rfl fun D hD => ?_
  rw [List.length_cons] at h3 h4
  have h3' : M 16 2 = (ps.length : Int) + 1 := by rw [h3]; omega
  have e1 : (((n : Int) + 8 - 1).tmod 8) = (((n + 7) % 8 : Nat) : Int) := by
    rw [show (n : Int) + 8 - 1 = ((n + 7 : Nat) : Int) by omega]; rfl
  have e26 : upI M 16 1 (((n + 7) % 8 : Nat) : Int) 16 2 = (ps.length : Int) + 1 := (if_neg (fun q => by omega)).trans h3'
  have e40 : upI (upI M 16 1 (((n + 7) % 8 : Nat) : Int)) 16 2 ((ps.length : Int) + 1 - 1) 16 1 = (((n + 7) % 8 : Nat) : Int) := by
    rw [show upI (upI M 16 1 (((n + 7) % 8 : Nat) : Int)) 16 2 ((ps.length : Int) + 1 - 1) 16 1 = upI M 16 1 (((n + 7) % 8 : Nat) : Int) 16 1 from if_neg (fun q => by omega), upI_same]
  have hfr : ∀ a, a ≠ 16 → ∀ k, upI (upI M 16 1 (((n + 7) % 8 : Nat) : Int)) 16 2 ((ps.length : Int) + 1 - 1) a k = M a k := fun a ha k => by
    unfold upI; rw [if_neg (fun q => ha q.1), if_neg (fun q => ha q.1)]
  have hc0 : cur2 (18 + 5 * ((n + 7) % 8)) p.1 p.2 (upI (upI M 16 1 (((n + 7) % 8 : Nat) : Int)) 16 2 ((ps.length : Int) + 1 - 1)) := by
    have := h5 0 p rfl
    rw [Nat.sub_zero] at this
    exact cur2_fr this (fun a a1 a2 k => hfr a (by omega) k)
  have hfin : ∀ M44 : mM, Pw 9 p.1 p.2 1 (upI (upI M 16 1 (((n + 7) % 8 : Nat) : Int)) 16 2 ((ps.length : Int) + 1 - 1)) M44 → PastR ps M44 ∧ cur2 9 p.1 p.2 M44 ∧ (M 10 1 + 1 ≤ M44 10 1 ∧ M44 10 1 ≤ M 10 1 + 1) ∧ (M 12 1 + 1 ≤ M44 12 1 ∧ M44 12 1 ≤ M 12 1 + 1) ∧ ∀ a, (a ≤ 9 ∨ (14 ≤ a ∧ a < 16) ∨ 58 ≤ a) → ∀ k, M44 a k = M a k := fun M44 w => by
    have a10 := hfr 10 (by omega) 1
    have a12 := hfr 12 (by omega) 1
    have w2 := w.2.1; have w3 := w.2.2.1
    refine ⟨⟨(n + 7) % 8, hm, ?_, ?_, by omega, fun j q hq => ?_⟩, w.1, ⟨by rw [← a10]; exact w2.1, by rw [← a10]; exact w2.2⟩, ⟨by rw [← a12]; exact w3.1, by rw [← a12]; exact w3.2⟩, fun a ha k => (w.2.2.2 a (by omega) k).trans (hfr a (by omega) k)⟩
    · rw [w.2.2.2 16 (by omega) 1]; exact e40
    · rw [w.2.2.2 16 (by omega) 2, upI_same]; omega
    · have := h5 (j + 1) q hq
      rw [show (n + 7 - (j + 1)) % 8 = ((n + 7) % 8 + 7 - j) % 8 by
        have : j < ps.length := (List.getElem?_eq_some_iff.mp hq).1
        omega] at this
      have hlt : ((n + 7) % 8 + 7 - j) % 8 < 8 := Nat.mod_lt _ (by decide)
      exact cur2_fr this (fun a a1 a2 k => (w.2.2.2 a (by omega) k).trans (hfr a (by omega) k))
  refine w_aload rfl rfl (w_getIV rfl (by first | rfl | assumption) (by first | exact Or.inl rfl | exact Or.inr rfl) (h2) (w_iconst rfl (w_iadd rfl (w_iconst rfl (w_isub rfl (w_iconst rfl (w_irem rfl (by first | assumption | exact i32_0 | (unfold i32 at *; omega)) (by first | assumption | exact i32_0 | (unfold i32 at *; omega)) (by first | decide | omega | assumption) ?_)))))))
  refine w_istore (ls2 := [_, _, _]) rfl rfl rfl ?_
  rw [e1]
  refine w_aload rfl rfl (w_getIV rfl (by first | rfl | assumption) (by first | exact Or.inl rfl | exact Or.inr rfl) (h3') ?_)
  refine w_if_eq (tgt := 33) rfl (by first | assumption | exact i32_0 | (unfold i32 at *; omega)) rfl (fun c17 => ?_) (fun c17 => ?_)
  · skip
    exfalso; omega
  · skip
    refine w_iload rfl rfl ?_
    refine w_if_lt (tgt := 33) rfl (by first | assumption | exact i32_0 | (unfold i32 at *; omega)) rfl (fun c21 => ?_) (fun c21 => ?_)
    · skip
      exfalso; omega
    · skip
      refine w_iload rfl rfl (w_aload rfl rfl (w_getR rfl (by first | rfl | assumption) rfl (by first | rfl | exact hr.1) (w_alen rfl (by first | rfl | assumption) (by decide) (by decide) ?_)))
      refine w_icmp_lt (tgt := 34) rfl (by first | assumption | exact i32_0 | (unfold i32 at *; omega)) (by first | assumption | exact i32_0 | (unfold i32 at *; omega)) rfl (fun c30 => ?_) (fun c30 => ?_)
      · skip
        refine w_aload rfl rfl (w_iload rfl rfl (w_putI rfl (by first | rfl | assumption) rfl (w_aload rfl rfl (w_dup rfl rfl (w_getIV rfl (by first | rfl | assumption) (by first | exact Or.inl rfl | exact Or.inr rfl) (e26) (w_iconst rfl (w_isub rfl ?_)))))))
        refine w_putI rfl (by first | rfl | assumption) rfl (w_aload rfl rfl (w_aload rfl rfl (w_getR rfl (by first | rfl | assumption) rfl (by first | rfl | exact hr.1) (w_iload rfl rfl (w_aaload rfl (by first | rfl | assumption) (by first | exact Or.inl rfl | exact Or.inr rfl) (by omega) (by omega) (by first | rfl | exact hr.1) ?_)))))
        refine w_callQ (Or.inr rfl) (e_ptake isP_9 (isP_row _ hm) (by omega) hc0) (by omega) nof_50 rfl rfl rfl rfl (by first | rfl | (show cKB[_]? = _; assumption)) (fun r56 M56 hq56 => ?_)
        obtain ⟨rfl, w⟩ := hq56
        exact w_return rfl ⟨rfl, by exact hfin _ w⟩
      · skip
        exfalso; omega
