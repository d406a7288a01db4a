/-! ===== reading does not look at what was there ===== -/
def rrel (r q : Nat → Int) : Prop := (∀ k, (k ≠ 6 ∧ k ≠ 0 ∧ k ≠ 2) → k < 15 → r k = q k) ∧ (r 1 ≠ 0 → r 6 = q 6)
def frel (r : Nat → Int) (f g h k : Cv) : Prop := (r 3 = 1 → f = h) ∧ (r 4 = 1 → g = k) ∧ (r 1 ≠ 0 → (r 6 = 0 → r 3 = 1) ∧ (r 6 ≠ 0 → r 4 = 1))
def orel (o p : Option ((Nat → Int) × Cv × Cv)) : Prop := match o, p with
  | none, none => True
  | some a, some b => rrel a.1 b.1 ∧ frel a.1 a.2.1 a.2.2 b.2.1 b.2.2
  | _, _ => False
theorem rrel_sR {r q : Nat → Int} {k : Nat} {v : Int} (h : rrel r q) (hk : k ≠ 6) (h1 : k = 1 → r 1 ≠ 0) : rrel (sR r k v) (sR q k v) := by
  refine ⟨fun j j6 hj => ?_, fun h0 => ?_⟩
  · unfold sR
    split
    · rfl
    · exact h.1 j j6 hj
  · show sR r k v 6 = sR q k v 6
    unfold sR at h0 ⊢
    rw [if_neg (fun z => hk z.symm), if_neg (fun z => hk z.symm)]
    by_cases z : 1 = k
    · exact h.2 (h1 z.symm)
    · rw [if_neg z] at h0
      exact h.2 h0
theorem rrel_new {r q : Nat → Int} (h : rrel r q) : rrel (rdNew r) (rdNew q) := by
  unfold rdNew
  exact rrel_sR (rrel_sR (rrel_sR (rrel_sR (rrel_sR (rrel_sR (rrel_sR (rrel_sR h (by decide) (fun z => absurd z (by decide))) (by decide) (fun z => absurd z (by decide))) (by decide) (fun z => absurd z (by decide))) (by decide) (fun z => absurd z (by decide))) (by decide) (fun z => absurd z (by decide))) (by decide) (fun z => absurd z (by decide))) (by decide) (fun z => absurd z (by decide))) (by decide) (fun z => absurd z (by decide))
theorem rrel_num {r q : Nat → Int} (n : Int) (h : rrel r q) (h1 : r 1 ≠ 0) : rrel (rdNum n r) (rdNum n q) := by
  unfold rdNum
  rw [← h.1 10 (by decide) (by decide)]
  exact rrel_sR (rrel_sR (rrel_sR (rrel_sR h (by decide) (fun z => absurd z (by decide))) (by decide) (fun z => absurd z (by decide))) (by decide) (fun z => absurd z (by decide))) (by decide) (fun _ => h1)
theorem rdLet_rel {kind power : Int} {r q : Nat → Int} (h : rrel r q) (h1 : r 1 ≠ 0) : (rdLet kind power r = none ∧ rdLet kind power q = none) ∨ ∃ s t, rdLet kind power r = some s ∧ rdLet kind power q = some t ∧ rrel s t ∧ (s 3 = r 3 ∧ s 4 = r 4 ∧ s 6 = r 6) := by
  unfold rdLet
  rw [← h.1 11 (by decide) (by decide), ← h.1 8 (by decide) (by decide), ← h.1 12 (by decide) (by decide), ← h.1 7 (by decide) (by decide), ← h.1 10 (by decide) (by decide)]
  split
  · exact Or.inr ⟨_, _, rfl, rfl, rrel_sR (rrel_sR (rrel_sR (rrel_sR h (by decide) (fun z => absurd z (by decide))) (by decide) (fun z => absurd z (by decide))) (by decide) (fun z => absurd z (by decide))) (by decide) (fun _ => h1), rfl, rfl, rfl⟩
  · split
    · exact Or.inr ⟨_, _, rfl, rfl, rrel_sR (rrel_sR (rrel_sR (rrel_sR h (by decide) (fun z => absurd z (by decide))) (by decide) (fun z => absurd z (by decide))) (by decide) (fun z => absurd z (by decide))) (by decide) (fun _ => h1), rfl, rfl, rfl⟩
    · exact Or.inl ⟨rfl, rfl⟩
theorem rdPart_rel {kind dd nn : Int} {r q : Nat → Int} (h : rrel r q) (h1 : r 1 ≠ 0) : (rdPart kind dd nn r).1 = (rdPart kind dd nn q).1 ∧ ((rdPart kind dd nn r).1 = true → rrel (rdPart kind dd nn r).2 (rdPart kind dd nn q).2 ∧ ((rdPart kind dd nn r).2 3 = r 3 ∧ (rdPart kind dd nn r).2 4 = r 4 ∧ (rdPart kind dd nn r).2 6 = r 6)) := by
  unfold rdPart
  rw [← h.1 13 (by decide) (by decide)]
  split
  · exact ⟨rfl, fun _ => ⟨rrel_sR (rrel_sR h (by decide) (fun z => absurd z (by decide))) (by decide) (fun _ => h1), rfl, rfl, rfl⟩⟩
  · split
    · exact ⟨rfl, fun _ => ⟨rrel_sR h (by decide) (fun _ => h1), rfl, rfl, rfl⟩⟩
    · rcases rdLet_rel (kind := kind) (power := 1) h h1 with ⟨a, b⟩ | ⟨s, t, a, b, c, d⟩
      · rw [a, b]
        exact ⟨rfl, fun z => by cases z⟩
      · rw [a, b]
        exact ⟨rfl, fun _ => ⟨c, d⟩⟩
theorem folL_rel {r q : Nat → Int} {f g h k : Cv} (hr : rrel r q) (hf : frel r f g h k) (h1 : r 1 ≠ 0) : (r 3 = 1 → (folL r f g).1 = (folL q h k).1) ∧ (r 4 = 1 → (folL r f g).2 = (folL q h k).2) := by
  unfold folL
  rw [← hr.2 h1, ← hr.1 7 (by decide) (by decide), ← hr.1 8 (by decide) (by decide), ← hr.1 9 (by decide) (by decide)]
  exact ⟨fun z => by rw [hf.1 z], fun z => by rw [hf.2.1 z]⟩
theorem folF_rel {kind : Int} {r q : Nat → Int} {f g h k : Cv} (hr : rrel r q) (hf : frel r f g h k) (h1 : r 1 ≠ 0) : orel (folF kind r f g) (folF kind q h k) := by
  have hl := folL_rel hr hf h1
  unfold folF
  rw [← hr.1 10 (by decide) (by decide), ← hr.1 5 (by decide) (by decide)]
  split
  · split
    · exact ⟨rrel_sR hr (by decide) (fun _ => h1), hf.1, hf.2.1, fun _ => hf.2.2 h1⟩
    · trivial
  · split
    · refine ⟨?_, hl.1, hl.2, fun z => absurd rfl z⟩
      refine ⟨fun j j6 hj => ?_, fun z => absurd rfl z⟩
      show sR (rdNew r) 1 0 j = sR (rdNew q) 1 0 j
      unfold sR
      split
      · rfl
      · exact (rrel_new hr).1 j j6 hj
    · split
      · exact ⟨rrel_sR (rrel_new hr) (by decide) (fun _ => h1), hl.1, hl.2, fun _ => hf.2.2 h1⟩
      · trivial
theorem accF_rel {kind dd nn : Int} {r q : Nat → Int} {f g h k : Cv} (hi : RdI r) (hnn : 0 ≤ nn) (hr : rrel r q) (hf : frel r f g h k) : orel (accF kind dd nn r f g) (accF kind dd nn q h k) := by
  have h3b := hi.2.2.1.2.2.2.1
  have h4b := hi.2.2.1.2.2.2.2.1
  unfold accF
  rw [← hr.1 1 (by decide) (by decide), ← hr.1 14 (by decide) (by decide), ← hr.1 13 (by decide) (by decide)]
  split
  · split
    · next h0 hk =>
      have e3 : q 3 = r 3 := (hr.1 3 (by decide) (by decide)).symm
      have e4 : q 4 = r 4 := (hr.1 4 (by decide) (by decide)).symm
      have e5 : q 5 = r 5 := (hr.1 5 (by decide) (by decide)).symm
      have v3 : rdCl nn r 3 = if r 3 = 0 ∧ nn ≠ 0 then 0 else 1 := rfl
      have v4 : rdCl nn r 4 = if r 4 = 0 ∧ nn ≠ 1 then 0 else 1 := rfl
      have v6 : rdCl nn r 6 = nn := rfl
      refine ⟨⟨fun j j6 hj => ?_, fun _ => rfl⟩, ?_, ?_, fun _ => ?_⟩
      · show rdCl nn r j = rdCl nn q j
        unfold rdCl sR
        rw [e3, e4, e5]
        split
        · rfl
        · split
          · rfl
          · split
            · rfl
            · split
              · rfl
              · first | exact hr.1 j j6 hj | (rw [if_neg j6.1, if_neg j6.1]; exact hr.1 j j6 hj)
      · show rdCl nn r 3 = 1 → (if nn = 0 then (fun _ => none) else f) = (if nn = 0 then (fun _ => none) else h)
        intro z
        split
        · rfl
        · next n0 =>
          refine hf.1 ?_
          rw [v3] at z
          rcases h3b with y | y
          · rw [if_pos ⟨y, n0⟩] at z; exact absurd z (by decide)
          · exact y
      · show rdCl nn r 4 = 1 → (if nn = 0 then g else fun _ => none) = (if nn = 0 then k else fun _ => none)
        intro z
        split
        · next n0 =>
          refine hf.2.1 ?_
          rw [v4] at z
          rcases h4b with y | y
          · rw [if_pos ⟨y, by omega⟩] at z; exact absurd z (by decide)
          · exact y
        · rfl
      · show (rdCl nn r 6 = 0 → rdCl nn r 3 = 1) ∧ (rdCl nn r 6 ≠ 0 → rdCl nn r 4 = 1)
        rw [v3, v4, v6]
        exact ⟨fun z => if_neg (by omega), fun z => if_neg (by omega)⟩
    · trivial
  · next h1 =>
    split
    · split
      · exact ⟨rrel_sR hr (by decide) (fun _ => h1), hf.1, hf.2.1, fun _ => hf.2.2 h1⟩
      · trivial
    · split
      · have hp := rdPart_rel (kind := kind) (dd := dd) (nn := nn) hr h1
        rw [← hp.1]
        split
        · next hq =>
          obtain ⟨p1, p3, p4, p6⟩ := hp.2 hq
          refine ⟨p1, ?_, ?_, fun _ => ?_⟩
          · show (rdPart kind dd nn r).2 3 = 1 → _
            rw [p3]; exact hf.1
          · show (rdPart kind dd nn r).2 4 = 1 → _
            rw [p4]; exact hf.2.1
          · show ((rdPart kind dd nn r).2 6 = 0 → (rdPart kind dd nn r).2 3 = 1) ∧ ((rdPart kind dd nn r).2 6 ≠ 0 → (rdPart kind dd nn r).2 4 = 1)
            rw [p3, p4, p6]; exact hf.2.2 h1
        · trivial
      · split
        · split
          · exact ⟨rrel_num _ hr h1, hf.1, hf.2.1, fun _ => hf.2.2 h1⟩
          · trivial
        · split
          · split
            · rcases rdLet_rel (kind := kind) (power := r 14) hr h1 with ⟨a, b⟩ | ⟨s, t, a, b, c, d3, d4, d6⟩
              · rw [a, b]; trivial
              · rw [a, b]
                refine ⟨c, ?_, ?_, fun _ => ?_⟩
                · show s 3 = 1 → _
                  rw [d3]; exact hf.1
                · show s 4 = 1 → _
                  rw [d4]; exact hf.2.1
                · show (s 6 = 0 → s 3 = 1) ∧ (s 6 ≠ 0 → s 4 = 1)
                  rw [d3, d4, d6]; exact hf.2.2 h1
            · split
              · exact folF_rel (rrel_num _ hr h1) ⟨hf.1, hf.2.1, fun _ => hf.2.2 h1⟩ (by show (5 : Int) ≠ 0; decide)
              · trivial
          · exact folF_rel hr hf h1

def srel (o p : Sum Int ((Nat → Int) × Cv × Cv)) : Prop := match o, p with
  | Sum.inl a, Sum.inl b => a = b
  | Sum.inr a, Sum.inr b => rrel a.1 b.1 ∧ frel a.1 a.2.1 a.2.2 b.2.1 b.2.2
  | _, _ => False
theorem runF_rel (n : Nat) : ∀ (fuel : Nat) (l : List Int) (r q : Nat → Int) (f g h k : Cv), RdI r → Cok 999 f → Cok 999 g → rrel r q → frel r f g h k → srel (runF n fuel l r f g) (runF n fuel l q h k) := by
  intro fuel
  induction fuel with
  | zero => intro l r q f g h k _ _ _ _ _; exact rfl
  | succ fuel ih =>
    intro l r q f g h k hi hf hg hr hfr
    have hnn := num3_rng _ (dgs_dig (skp l))
    have ho := accF_rel (kind := tKind (skp l)) (dd := ((dgs (skp l)).length : Int)) (nn := num3 (dgs (skp l))) hi hnn.1 hr hfr
    have e1 : runF n (fuel + 1) l r f g = match accF (tKind (skp l)) (dgs (skp l)).length (num3 (dgs (skp l))) r f g with
      | none => Sum.inl ((n - (skp l).length : Nat) : Int)
      | some q => if skp l = [] then Sum.inr q else runF n fuel ((skp l).drop (tLen (skp l))) q.1 q.2.1 q.2.2 := rfl
    have e2 : runF n (fuel + 1) l q h k = match accF (tKind (skp l)) (dgs (skp l)).length (num3 (dgs (skp l))) q h k with
      | none => Sum.inl ((n - (skp l).length : Nat) : Int)
      | some q => if skp l = [] then Sum.inr q else runF n fuel ((skp l).drop (tLen (skp l))) q.1 q.2.1 q.2.2 := rfl
    rw [e1, e2]
    cases ea : accF (tKind (skp l)) (dgs (skp l)).length (num3 (dgs (skp l))) r f g with
    | none =>
      rw [ea] at ho
      cases eb : accF (tKind (skp l)) (dgs (skp l)).length (num3 (dgs (skp l))) q h k with
      | none => exact rfl
      | some b => rw [eb] at ho; exact ho.elim
    | some a =>
      rw [ea] at ho
      cases eb : accF (tKind (skp l)) (dgs (skp l)).length (num3 (dgs (skp l))) q h k with
      | none => rw [eb] at ho; exact ho.elim
      | some b =>
        rw [eb] at ho
        have hok := accF_ok hi hf hg hnn ea
        show srel (if skp l = [] then _ else _) (if skp l = [] then _ else _)
        by_cases hn : skp l = []
        · rw [if_pos hn, if_pos hn]; exact ho
        · rw [if_neg hn, if_neg hn]; exact ih _ _ _ _ _ _ _ hok.1 hok.2.1 hok.2.2 ho.1 ho.2
def noneC : Cv := fun _ => none
theorem Cok_none (B : Int) : Cok B noneC := fun _ _ h => by cases h
/-- the text read from a fresh start -/
def parseS (b : List Int) : Sum Int ((Nat → Int) × Cv × Cv) := runF b.length 201 b (rd0 fun _ => 0) noneC noneC
theorem runF_parse {b : List Int} {r : Nat → Int} {f g : Cv} (h6 : r 6 = 0 ∨ r 6 = 1) (hf : Cok 999 f) (hg : Cok 999 g) : srel (runF b.length 201 b (rd0 r) f g) (parseS b) := by
  refine runF_rel _ _ _ _ _ _ _ _ _ (rd0_ok h6) hf hg ⟨fun k k6 hk => ?_, fun z => absurd rfl z⟩ ⟨fun z => absurd z (by show ¬ (0 : Int) = 1; decide), fun z => absurd z (by show ¬ (0 : Int) = 1; decide), fun z => absurd rfl z⟩
  have : k = 1 ∨ k = 3 ∨ k = 4 ∨ k = 5 ∨ k = 7 ∨ k = 8 ∨ k = 9 ∨ k = 10 ∨ k = 11 ∨ k = 12 ∨ k = 13 ∨ k = 14 := by omega
  rcases this with rfl | rfl | rfl | rfl | rfl | rfl | rfl | rfl | rfl | rfl | rfl | rfl <;> rfl
