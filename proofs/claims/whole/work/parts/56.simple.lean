/-! ===== write, erase, fault, curves, term, value ===== -/
def isPlB (i j : Int) : Bool := decide (0 ≤ i ∧ 0 ≤ j ∧ i ≤ 4 ∧ j ≤ 4 - i)
theorem isPlB_iff {i j : Int} : isPlB i j = true ↔ isPl i j := decide_eq_true_iff
def isCu (a : Int) : Bool := decide (a = 0 ∨ a = 1)
theorem isCu_iff {a : Int} : isCu a = true ↔ (a = 0 ∨ a = 1) := decide_eq_true_iff
/-- only the text changed -/
theorem CI_tx {n : Nat} {s : Sta} {b : List Int} {M M1 : mM} (c : CI n s M) (h : TxR b M1) (w : ∀ a, a ≠ 1 → a ≠ 2 → ∀ k, M1 a k = M a k) : CI n (b, s.2) M1 := by
  obtain ⟨⟨c1, c2⟩, ⟨c3, c4, c5⟩, ⟨c6, c7⟩, c8, c9⟩ := c
  exact ⟨⟨h, RdX_fr c2 (fun b _ _ k => w b (by omega) (by omega) k)⟩, ⟨cur2_fr c3 (fun b _ _ k => w b (by omega) (by omega) k), c4, c5⟩, ⟨PastR_fr c6 (fun b _ _ k => w b (by omega) (by omega) k), c7⟩, CSl_fr c8 (w 0 (by omega) (by omega) 10) (w 0 (by omega) (by omega) 11) (fun b _ _ k => w b (by omega) (by omega) k), CCa_fr c9 (Nat.le_refl _) (w 10 (by omega) (by omega) 1) (w 12 (by omega) (by omega) 1) (fun b _ _ k => w b (by omega) (by omega) k)⟩
def dWrite (x : Int) (s : Sta) : Int × Sta := if x < 0 ∨ 255 < x then (-1000002, s) else if s.1.length < 200 then ((s.1.length : Int) + 1, (s.1 ++ [x], s.2)) else (-1000004, s)
theorem c_write {n : Nat} {s : Sta} {M : mM} {x : Int} (c : CI n s M) (hx : i32 x) : EQ 12 12 [vR 0, vI x] M (CQ (n + 1) M (dWrite x s).1 (dWrite x s).2) := by
  refine q_in (ls := [vR 0, vI x]) mq_12 (ml_12 rfl) rfl fun D hD => ?_
  unfold dWrite
  by_cases h : x < 0 ∨ 255 < x
  · rw [if_pos h]
    refine w_iload rfl rfl ?_
    refine w_if_lt (tgt := 11) rfl (by first | assumption | exact i32_0 | (unfold i32 at *; omega)) rfl (fun c1 => ?_) (fun c1 => ?_)
    · skip
      refine w_iconst rfl ?_
      exact w_ireturn rfl ⟨by first | rfl | (congr 2; omega), by exact CI_same c (Nat.le_succ n)⟩
    · skip
      refine w_iload rfl rfl (w_iconst rfl ?_)
      refine w_icmp_le (tgt := 14) rfl (by first | assumption | exact i32_0 | (unfold i32 at *; omega)) (by first | assumption | exact i32_0 | (unfold i32 at *; omega)) rfl (fun c8 => ?_) (fun c8 => ?_)
      · skip
        exfalso; omega
      · skip
        refine w_iconst rfl ?_
        exact w_ireturn rfl ⟨by first | rfl | (congr 2; omega), by exact CI_same c (Nat.le_succ n)⟩
  · rw [if_neg h]
    have ha := e_append x c.1.1 (by omega)
    by_cases hl : s.1.length < 200
    · rw [if_pos hl, if_pos hl] at ha
      rw [if_pos hl]
      refine w_iload rfl rfl ?_
      refine w_if_lt (tgt := 11) rfl (by first | assumption | exact i32_0 | (unfold i32 at *; omega)) rfl (fun c1 => ?_) (fun c1 => ?_)
      · skip
        exfalso; omega
      · skip
        refine w_iload rfl rfl (w_iconst rfl ?_)
        refine w_icmp_le (tgt := 14) rfl (by first | assumption | exact i32_0 | (unfold i32 at *; omega)) (by first | assumption | exact i32_0 | (unfold i32 at *; omega)) rfl (fun c8 => ?_) (fun c8 => ?_)
        · skip
          refine w_aload rfl rfl (w_getR rfl (by first | rfl | assumption) rfl (by first | rfl | assumption) (w_iload rfl rfl ?_))
          refine w_callQ (Or.inr rfl) (ha) (by omega) nof_13 rfl rfl rfl rfl (by first | rfl | (show cKB[_]? = _; assumption)) (fun r19 M19 hq19 => ?_)
          obtain ⟨rfl, w, w2⟩ := hq19
          have h11 : M19 1 1 = (s.1.length : Int) + 1 := by rw [w.1, List.length_append]; rfl
          refine w_if_eq (tgt := 35) rfl (by first | assumption | exact i32_0 | (unfold i32 at *; omega)) rfl (fun c => absurd c (by decide)) (fun _ => ?_)
          refine w_aload rfl rfl (w_getR rfl (by first | rfl | assumption) rfl (by first | rfl | assumption) (w_getIV rfl (by first | rfl | assumption) (by first | exact Or.inl rfl | exact Or.inr rfl) (h11) (w_goto (tgt := 37) rfl rfl ?_)))
          exact w_ireturn rfl ⟨by first | rfl | (congr 2; omega), by exact ⟨CI_up (CI_tx c w (fun a q1 q2 k => w2 a k q2 (Or.inl q1))) (Nat.le_succ n), fun a ha => funext fun k => w2 a k (by omega) (by omega)⟩⟩
        · skip
          exfalso; omega
    · rw [if_neg hl, if_neg hl] at ha
      rw [if_neg hl]
      refine w_iload rfl rfl ?_
      refine w_if_lt (tgt := 11) rfl (by first | assumption | exact i32_0 | (unfold i32 at *; omega)) rfl (fun c1 => ?_) (fun c1 => ?_)
      · skip
        exfalso; omega
      · skip
        refine w_iload rfl rfl (w_iconst rfl ?_)
        refine w_icmp_le (tgt := 14) rfl (by first | assumption | exact i32_0 | (unfold i32 at *; omega)) (by first | assumption | exact i32_0 | (unfold i32 at *; omega)) rfl (fun c8 => ?_) (fun c8 => ?_)
        · skip
          refine w_aload rfl rfl (w_getR rfl (by first | rfl | assumption) rfl (by first | rfl | assumption) (w_iload rfl rfl ?_))
          refine w_callQ (Or.inr rfl) (ha) (by omega) nof_13 rfl rfl rfl rfl (by first | rfl | (show cKB[_]? = _; assumption)) (fun r19 M19 hq19 => ?_)
          obtain ⟨rfl, w, w2⟩ := hq19
          refine w_if_eq (tgt := 35) rfl (by first | assumption | exact i32_0 | (unfold i32 at *; omega)) rfl (fun _ => ?_) (fun c => absurd c (by decide))
          refine w_iconst rfl ?_
          exact w_ireturn rfl ⟨by first | rfl | (congr 2; omega), by exact ⟨CI_up (CI_tx c w (fun a q1 q2 k => w2 a k q2 (Or.inl q1))) (Nat.le_succ n), fun a ha => funext fun k => w2 a k (by omega) (by omega)⟩⟩
        · skip
          exfalso; omega
theorem TxR_nil {M : mM} (h : M 1 1 = 0) : TxR [] M := ⟨h, by decide, fun k c q => by simp at q⟩
def dErase (s : Sta) : Int × Sta := ((s.1.length : Int), ([], s.2))
theorem c_erase {n : Nat} {s : Sta} {M : mM} (c : CI n s M) : EQ 12 14 [vR 0] M (CQ (n + 1) M (dErase s).1 (dErase s).2) := by
  refine q_in (ls := [vR 0, vN]) mq_14 (ml_14 rfl) rfl fun D hD => ?_
  have h11 := c.1.1.1
  refine w_aload rfl rfl (w_getR rfl (by first | rfl | assumption) rfl (by first | rfl | assumption) (w_getIV rfl (by first | rfl | assumption) (by first | exact Or.inl rfl | exact Or.inr rfl) (h11) (w_istore (ls2 := [_, _]) rfl rfl rfl (w_aload rfl rfl (w_getR rfl (by first | rfl | assumption) rfl (by first | rfl | assumption) (w_iconst rfl (w_putI rfl (by first | rfl | assumption) rfl ?_)))))))
  refine w_iload rfl rfl ?_
  exact w_ireturn rfl ⟨by first | rfl | (congr 2; omega), by exact ⟨CI_up (CI_tx c (TxR_nil (upI_same _ _ _ _)) (fun a q1 q2 k => by rw [upI_ne _ _ _ _ q1])) (Nat.le_succ n), fun a ha => upI_ne _ _ _ _ (by omega)⟩⟩
/-- the reader has read: what is in the class then -/
theorem CI_rd {n : Nat} {s : Sta} {M M1 : mM} (c : CI n s M) (h : RdX M1) (w : RdG M M1) : CI n s M1 := by
  obtain ⟨⟨c1, c2⟩, ⟨c3, c4, c5⟩, ⟨c6, c7⟩, c8, c9⟩ := c
  exact ⟨⟨TxR_fr c1 (w 1 1 (by omega) (by omega) (by omega)) (fun k => w 2 k (by omega) (by omega) (by omega)), h⟩, ⟨cur2_fr c3 (fun b _ _ k => w b k (by omega) (by omega) (by omega)), c4, c5⟩, ⟨PastR_fr c6 (fun b _ _ k => w b k (by omega) (by omega) (by omega)), c7⟩, CSl_fr c8 (w 0 10 (by omega) (by omega) (by omega)) (w 0 11 (by omega) (by omega) (by omega)) (fun b _ _ k => w b k (by omega) (by omega) (by omega)), CCa_fr c9 (Nat.le_refl _) (w 10 1 (by omega) (by omega) (by omega)) (w 12 1 (by omega) (by omega) (by omega)) (fun b _ _ k => w b k (by omega) (by omega) (by omega))⟩
def fltQ (n : Nat) (s : Sta) (M : mM) : mP := fun r M1 => CI n s M1 ∧ RdG M M1 ∧ match parseS s.1 with
  | Sum.inl p => r = some (vI p)
  | Sum.inr t => r = some (vI (-1000000)) ∧ ∃ (q : Nat → Int) (f g : Cv), RdM q f g M1 ∧ RdI q ∧ Cok 999 f ∧ Cok 999 g ∧ q 5 = t.1 5 ∧ q 3 = t.1 3 ∧ q 4 = t.1 4 ∧ (q 3 = 1 → f = t.2.1) ∧ (q 4 = 1 → g = t.2.2)
theorem e_rread {n : Nat} {s : Sta} {M : mM} (c : CI n s M) : EQ 6 16 [vR 3] M (fltQ n s M) := by
  obtain ⟨r, f, g, hr, h6, hf, hg⟩ := c.1.2
  refine (e_read c.1.1 hr h6 hf hg).imp fun q M1 h => ?_
  obtain ⟨hG, hm⟩ := h
  have hp := runF_parse (b := s.1) h6 hf hg
  unfold fltQ
  cases ea : runF s.1.length 201 s.1 (rd0 r) f g with
  | inl p =>
    rw [ea] at hm hp
    cases eb : parseS s.1 with
    | inr t => rw [eb] at hp; exact hp.elim
    | inl p2 =>
      rw [eb] at hp
      have hp : p = p2 := hp
      exact ⟨CI_rd c hm.2 hG, hG, by rw [← hp]; exact hm.1⟩
  | inr t =>
    rw [ea] at hm hp
    cases eb : parseS s.1 with
    | inl p2 => rw [eb] at hp; exact hp.elim
    | inr t2 =>
      rw [eb] at hp
      obtain ⟨h1, h2, h3, h4, h5⟩ := hm
      obtain ⟨z1, z2, z3, z4⟩ := hp
      exact ⟨CI_rd c ⟨t.1, t.2.1, t.2.2, h2, h3.2.2.1.2.2.2.2.2, h4, h5⟩ hG, hG, h1, t.1, t.2.1, t.2.2, h2, h3, h4, h5, z1.1 5 (by decide) (by decide), z1.1 3 (by decide) (by decide), z1.1 4 (by decide) (by decide), z2, z3⟩
/-- the fault position is a position -/
theorem runF_le (n : Nat) : ∀ (fuel : Nat) (l : List Int) (r : Nat → Int) (f g : Cv) (p : Int), runF n fuel l r f g = Sum.inl p → 0 ≤ p ∧ p ≤ n := by
  intro fuel
  induction fuel with
  | zero => intro l r f g p h; cases h; omega
  | succ fuel ih =>
    intro l r f g p h
    have e1 : runF n (fuel + 1) l r f g = match accF (tKind (skp l)) (dgs (skp l)).length (num3 (dgs (skp l))) r f g with
      | none => Sum.inl ((n - (skp l).length : Nat) : Int)
      | some q => if skp l = [] then Sum.inr q else runF n fuel ((skp l).drop (tLen (skp l))) q.1 q.2.1 q.2.2 := rfl
    rw [e1] at h
    cases ea : accF (tKind (skp l)) (dgs (skp l)).length (num3 (dgs (skp l))) r f g with
    | none => rw [ea] at h; cases h; omega
    | some a =>
      rw [ea] at h
      have h : (if skp l = [] then Sum.inr a else runF n fuel ((skp l).drop (tLen (skp l))) a.1 a.2.1 a.2.2) = Sum.inl p := h
      split at h
      · cases h
      · exact ih _ _ _ _ _ h
def dFault (s : Sta) : Int := match parseS s.1 with
  | Sum.inl p => p
  | Sum.inr _ => -1000000
theorem c_fault {n : Nat} {s : Sta} {M : mM} (c : CI n s M) : EQ 12 15 [vR 0] M (CQ (n + 1) M (dFault s) s) := by
  refine q_in (ls := [vR 0]) mq_15 (ml_15 rfl) rfl fun D hD => ?_
  have hr := e_rread c
  unfold fltQ at hr
  unfold dFault
  cases ea : parseS s.1 with
  | inl p =>
    rw [ea] at hr
    refine w_aload rfl rfl (w_getR rfl (by first | rfl | assumption) rfl (by first | rfl | assumption) ?_)
    refine w_callQ (Or.inr rfl) (hr) (by omega) nof_16 rfl rfl rfl rfl (by first | rfl | (show cKB[_]? = _; assumption)) (fun r4 M4 hq4 => ?_)
    obtain ⟨w1, w2, rfl⟩ := hq4
    exact w_ireturn rfl ⟨by first | rfl | (congr 2; omega), by exact ⟨CI_up w1 (Nat.le_succ n), fun a ha => funext fun k => w2 a k (by omega) (by omega) (by omega)⟩⟩
  | inr t =>
    rw [ea] at hr
    refine w_aload rfl rfl (w_getR rfl (by first | rfl | assumption) rfl (by first | rfl | assumption) ?_)
    refine w_callQ (Or.inr rfl) (hr) (by omega) nof_16 rfl rfl rfl rfl (by first | rfl | (show cKB[_]? = _; assumption)) (fun r4 M4 hq4 => ?_)
    obtain ⟨w1, w2, rfl, w3⟩ := hq4
    exact w_ireturn rfl ⟨by first | rfl | (congr 2; omega), by exact ⟨CI_up w1 (Nat.le_succ n), fun a ha => funext fun k => w2 a k (by omega) (by omega) (by omega)⟩⟩
def dTerm (a i j : Int) (s : Sta) : Int := if isCu a = true then (if isPlB i j = true then (selF a s.2.1 s.2.2.1 (plN i j)).getD (-1000000) else -1000002) else -1000001
theorem c_term {n : Nat} {s : Sta} {M : mM} {a i j : Int} (c : CI n s M) (ha : i32 a) (hi : i32 i) (hj : i32 j) : EQ 12 36 [vR 0, vI a, vI i, vI j] M (CQ (n + 1) M (dTerm a i j s) s) := by
  refine q_in (ls := [vR 0, vI a, vI i, vI j]) mq_36 (ml_36 rfl) rfl fun D hD => ?_
  unfold dTerm
  by_cases q : isCu a = true
  · rw [if_pos q]
    have q := isCu_iff.mp q
    by_cases qp : isPlB i j = true
    · rw [if_pos qp]
      have qp := isPlB_iff.mp qp
      obtain ⟨e1, e2, e3⟩ := plN_ok qp
      have hc := cur_sel (a := a) c.2.1.1
      have ht := isT_tOf a
      have ht0 := ht.1
      have hof := fun N => e_of9 N q
      generalize tOf a = t at *
      generalize selF a s.2.1 s.2.2.1 = f at *
      cases e : f (plN i j) with
      | none =>
        refine w_iload rfl rfl ?_
        refine w_call (Or.inl rfl) (e_isCurve1 M q) (by omega) nof_37 rfl rfl rfl rfl trivial rfl ?_
        refine w_if_ne (tgt := 10) rfl (by first | assumption | exact i32_0 | (unfold i32 at *; omega)) rfl (fun _ => ?_) (fun c => absurd c (by decide))
        refine w_iload rfl rfl (w_iload rfl rfl ?_)
        refine w_call (Or.inl rfl) (e_isPlace1 M qp) (by omega) nof_38 rfl rfl rfl rfl trivial rfl ?_
        refine w_if_ne (tgt := 21) rfl (by first | assumption | exact i32_0 | (unfold i32 at *; omega)) rfl (fun _ => ?_) (fun c => absurd c (by decide))
        refine w_aload rfl rfl (w_getR rfl (by first | rfl | assumption) rfl (by first | rfl | assumption) (w_iload rfl rfl ?_))
        refine w_call (Or.inr rfl) ((hof _)) (by omega) nof_24 rfl rfl rfl rfl (by first | rfl | (show cKB[_]? = _; assumption)) rfl ?_
        refine w_iconst rfl (w_iload rfl rfl (w_imul rfl (w_iload rfl rfl (w_iadd rfl ?_))))
        rw [e1]
        refine w_call (Or.inr rfl) ((e_at_n ht hc (by omega) e)) (by omega) nof_31 rfl rfl rfl rfl (by first | rfl | (show cKB[_]? = _; assumption)) rfl ?_
        exact w_ireturn rfl ⟨by first | rfl | (congr 2; omega), by exact CI_same c (Nat.le_succ n)⟩
      | some v =>
        refine w_iload rfl rfl ?_
        refine w_call (Or.inl rfl) (e_isCurve1 M q) (by omega) nof_37 rfl rfl rfl rfl trivial rfl ?_
        refine w_if_ne (tgt := 10) rfl (by first | assumption | exact i32_0 | (unfold i32 at *; omega)) rfl (fun _ => ?_) (fun c => absurd c (by decide))
        refine w_iload rfl rfl (w_iload rfl rfl ?_)
        refine w_call (Or.inl rfl) (e_isPlace1 M qp) (by omega) nof_38 rfl rfl rfl rfl trivial rfl ?_
        refine w_if_ne (tgt := 21) rfl (by first | assumption | exact i32_0 | (unfold i32 at *; omega)) rfl (fun _ => ?_) (fun c => absurd c (by decide))
        refine w_aload rfl rfl (w_getR rfl (by first | rfl | assumption) rfl (by first | rfl | assumption) (w_iload rfl rfl ?_))
        refine w_call (Or.inr rfl) ((hof _)) (by omega) nof_24 rfl rfl rfl rfl (by first | rfl | (show cKB[_]? = _; assumption)) rfl ?_
        refine w_iconst rfl (w_iload rfl rfl (w_imul rfl (w_iload rfl rfl (w_iadd rfl ?_))))
        rw [e1]
        refine w_call (Or.inr rfl) ((e_at_s ht hc e2 e)) (by omega) nof_31 rfl rfl rfl rfl (by first | rfl | (show cKB[_]? = _; assumption)) rfl ?_
        exact w_ireturn rfl ⟨by first | rfl | (congr 2; omega), by exact CI_same c (Nat.le_succ n)⟩
    · rw [if_neg qp]
      have qp : ¬ isPl i j := fun z => qp (isPlB_iff.mpr z)
      refine w_iload rfl rfl ?_
      refine w_call (Or.inl rfl) (e_isCurve1 M q) (by omega) nof_37 rfl rfl rfl rfl trivial rfl ?_
      refine w_if_ne (tgt := 10) rfl (by first | assumption | exact i32_0 | (unfold i32 at *; omega)) rfl (fun _ => ?_) (fun c => absurd c (by decide))
      refine w_iload rfl rfl (w_iload rfl rfl ?_)
      refine w_call (Or.inl rfl) (e_isPlace0 M hi hj qp) (by omega) nof_38 rfl rfl rfl rfl trivial rfl ?_
      refine w_if_ne (tgt := 21) rfl (by first | assumption | exact i32_0 | (unfold i32 at *; omega)) rfl (fun c => absurd c (by decide)) (fun _ => ?_)
      refine w_iconst rfl ?_
      exact w_ireturn rfl ⟨by first | rfl | (congr 2; omega), by exact CI_same c (Nat.le_succ n)⟩
  · rw [if_neg q]
    have q : ¬ (a = 0 ∨ a = 1) := fun z => q (isCu_iff.mpr z)
    refine w_iload rfl rfl ?_
    refine w_call (Or.inl rfl) (e_isCurve0 M ha q) (by omega) nof_37 rfl rfl rfl rfl trivial rfl ?_
    refine w_if_ne (tgt := 10) rfl (by first | assumption | exact i32_0 | (unfold i32 at *; omega)) rfl (fun c => absurd c (by decide)) (fun _ => ?_)
    refine w_iconst rfl ?_
    exact w_ireturn rfl ⟨by first | rfl | (congr 2; omega), by exact CI_same c (Nat.le_succ n)⟩
def valOK (x y d w : Int) : Bool := decide ((-9999 ≤ x ∧ x ≤ 9999) ∧ (-9999 ≤ y ∧ y ≤ 9999) ∧ (1 ≤ d ∧ d ≤ 60) ∧ 0 ≤ w ∧ w ≤ 1)
def dValue (a x y d w : Int) (s : Sta) : Int := if isCu a = true then (if valOK x y d w = true then (if cntF (selF a s.2.1 s.2.2.1) = 0 then -1000003 else if w = 0 then (minF (selF a s.2.1 s.2.2.1) x y d 21).getD 0 else (leadF (selF a s.2.1 s.2.2.1) x y d : Int)) else -1000002) else -1000001
theorem c_value {n : Nat} {s : Sta} {M : mM} {a x y d w : Int} (c : CI n s M) (ha : i32 a) (hx : i32 x) (hy : i32 y) (hd : i32 d) (hw : i32 w) : EQ 12 39 [vR 0, vI a, vI x, vI y, vI d, vI w] M (CQ (n + 1) M (dValue a x y d w s) s) := by
  refine q_in (ls := [vR 0, vI a, vI x, vI y, vI d, vI w, vN]) mq_39 (ml_39 rfl) rfl fun D hD => ?_
  unfold dValue
  by_cases q : isCu a = true
  · rw [if_pos q]
    have q := isCu_iff.mp q
    by_cases qv : valOK x y d w = true
    · rw [if_pos qv]
      obtain ⟨v1, v2, v3, v4⟩ := of_decide_eq_true qv
      have hc := cur_sel (a := a) c.2.1.1
      have hf := Cok_sel (a := a) c.2.1.2.1 c.2.1.2.2
      have ht := isT_tOf a
      have ht0 := ht.1
      have hof := fun N => e_of9 N q
      generalize tOf a = t at *
      generalize selF a s.2.1 s.2.2.1 = f at *
      have hsz := e_size ht hc (by decide) hf
      have hcl := cntF_le f
      by_cases q0 : cntF f = 0
      · rw [if_pos q0]
        rw [q0] at hsz
        refine w_iload rfl rfl ?_
        refine w_call (Or.inl rfl) (e_isCurve1 M q) (by omega) nof_37 rfl rfl rfl rfl trivial rfl ?_
        refine w_if_ne (tgt := 10) rfl (by first | assumption | exact i32_0 | (unfold i32 at *; omega)) rfl (fun _ => ?_) (fun c => absurd c (by decide))
        refine w_iload rfl rfl (w_iconst rfl ?_)
        refine w_call (Or.inl rfl) (e_isWithin1 M (by omega) v1) (by omega) nof_40 rfl rfl rfl rfl trivial rfl ?_
        refine w_if_eq (tgt := 54) rfl (by first | assumption | exact i32_0 | (unfold i32 at *; omega)) rfl (fun c => absurd c (by decide)) (fun _ => ?_)
        refine w_iload rfl rfl (w_iconst rfl ?_)
        refine w_call (Or.inl rfl) (e_isWithin1 M (by omega) v2) (by omega) nof_40 rfl rfl rfl rfl trivial rfl ?_
        refine w_if_eq (tgt := 54) rfl (by first | assumption | exact i32_0 | (unfold i32 at *; omega)) rfl (fun c => absurd c (by decide)) (fun _ => ?_)
        refine w_iload rfl rfl (w_iconst rfl ?_)
        refine w_icmp_lt (tgt := 54) rfl (by first | assumption | exact i32_0 | (unfold i32 at *; omega)) (by first | assumption | exact i32_0 | (unfold i32 at *; omega)) rfl (fun c33 => ?_) (fun c33 => ?_)
        · skip
          exfalso; omega
        · skip
          refine w_iload rfl rfl (w_iconst rfl ?_)
          refine w_icmp_gt (tgt := 54) rfl (by first | assumption | exact i32_0 | (unfold i32 at *; omega)) (by first | assumption | exact i32_0 | (unfold i32 at *; omega)) rfl (fun c40 => ?_) (fun c40 => ?_)
          · skip
            exfalso; omega
          · skip
            refine w_iload rfl rfl ?_
            refine w_if_lt (tgt := 54) rfl (by first | assumption | exact i32_0 | (unfold i32 at *; omega)) rfl (fun c45 => ?_) (fun c45 => ?_)
            · skip
              exfalso; omega
            · skip
              refine w_iload rfl rfl (w_iconst rfl ?_)
              refine w_icmp_le (tgt := 57) rfl (by first | assumption | exact i32_0 | (unfold i32 at *; omega)) (by first | assumption | exact i32_0 | (unfold i32 at *; omega)) rfl (fun c51 => ?_) (fun c51 => ?_)
              · skip
                refine w_aload rfl rfl (w_getR rfl (by first | rfl | assumption) rfl (by first | rfl | assumption) (w_iload rfl rfl ?_))
                refine w_call (Or.inr rfl) ((hof _)) (by omega) nof_24 rfl rfl rfl rfl (by first | rfl | (show cKB[_]? = _; assumption)) rfl ?_
                refine w_astore (ls2 := [_, _, _, _, _, _, _]) rfl rfl rfl (w_aload rfl rfl ?_)
                refine w_call (Or.inr rfl) (hsz) (by omega) nof_41 rfl rfl rfl rfl (by first | rfl | (show cKB[_]? = _; assumption)) rfl ?_
                refine w_if_ne (tgt := 78) rfl (by first | assumption | exact i32_0 | (unfold i32 at *; omega)) rfl (fun c => absurd c (by decide)) (fun _ => ?_)
                refine w_iconst rfl ?_
                exact w_ireturn rfl ⟨by first | rfl | (congr 2; omega), by exact CI_same c (Nat.le_succ n)⟩
              · skip
                exfalso; omega
      · rw [if_neg q0]
        have hls := e_least (M := M) ht hc hf (d := d) (x := x) (y := y) (by omega) (by omega) (by omega)
        have hld := e_leading (M := M) ht hc hf (d := d) (x := x) (y := y) (by omega) (by omega) (by omega)
        by_cases qw : w = 0
        · rw [if_pos qw]
          refine w_iload rfl rfl ?_
          refine w_call (Or.inl rfl) (e_isCurve1 M q) (by omega) nof_37 rfl rfl rfl rfl trivial rfl ?_
          refine w_if_ne (tgt := 10) rfl (by first | assumption | exact i32_0 | (unfold i32 at *; omega)) rfl (fun _ => ?_) (fun c => absurd c (by decide))
          refine w_iload rfl rfl (w_iconst rfl ?_)
          refine w_call (Or.inl rfl) (e_isWithin1 M (by omega) v1) (by omega) nof_40 rfl rfl rfl rfl trivial rfl ?_
          refine w_if_eq (tgt := 54) rfl (by first | assumption | exact i32_0 | (unfold i32 at *; omega)) rfl (fun c => absurd c (by decide)) (fun _ => ?_)
          refine w_iload rfl rfl (w_iconst rfl ?_)
          refine w_call (Or.inl rfl) (e_isWithin1 M (by omega) v2) (by omega) nof_40 rfl rfl rfl rfl trivial rfl ?_
          refine w_if_eq (tgt := 54) rfl (by first | assumption | exact i32_0 | (unfold i32 at *; omega)) rfl (fun c => absurd c (by decide)) (fun _ => ?_)
          refine w_iload rfl rfl (w_iconst rfl ?_)
          refine w_icmp_lt (tgt := 54) rfl (by first | assumption | exact i32_0 | (unfold i32 at *; omega)) (by first | assumption | exact i32_0 | (unfold i32 at *; omega)) rfl (fun c33 => ?_) (fun c33 => ?_)
          · skip
            exfalso; omega
          · skip
            refine w_iload rfl rfl (w_iconst rfl ?_)
            refine w_icmp_gt (tgt := 54) rfl (by first | assumption | exact i32_0 | (unfold i32 at *; omega)) (by first | assumption | exact i32_0 | (unfold i32 at *; omega)) rfl (fun c40 => ?_) (fun c40 => ?_)
            · skip
              exfalso; omega
            · skip
              refine w_iload rfl rfl ?_
              refine w_if_lt (tgt := 54) rfl (by first | assumption | exact i32_0 | (unfold i32 at *; omega)) rfl (fun c45 => ?_) (fun c45 => ?_)
              · skip
                exfalso; omega
              · skip
                refine w_iload rfl rfl (w_iconst rfl ?_)
                refine w_icmp_le (tgt := 57) rfl (by first | assumption | exact i32_0 | (unfold i32 at *; omega)) (by first | assumption | exact i32_0 | (unfold i32 at *; omega)) rfl (fun c51 => ?_) (fun c51 => ?_)
                · skip
                  refine w_aload rfl rfl (w_getR rfl (by first | rfl | assumption) rfl (by first | rfl | assumption) (w_iload rfl rfl ?_))
                  refine w_call (Or.inr rfl) ((hof _)) (by omega) nof_24 rfl rfl rfl rfl (by first | rfl | (show cKB[_]? = _; assumption)) rfl ?_
                  refine w_astore (ls2 := [_, _, _, _, _, _, _]) rfl rfl rfl (w_aload rfl rfl ?_)
                  refine w_call (Or.inr rfl) (hsz) (by omega) nof_41 rfl rfl rfl rfl (by first | rfl | (show cKB[_]? = _; assumption)) rfl ?_
                  refine w_if_ne (tgt := 78) rfl (by first | assumption | exact i32_0 | (unfold i32 at *; omega)) rfl (fun c72 => ?_) (fun c72 => ?_)
                  · skip
                    refine w_iload rfl rfl ?_
                    refine w_if_ne (tgt := 95) rfl (by first | assumption | exact i32_0 | (unfold i32 at *; omega)) rfl (fun c80 => ?_) (fun c80 => ?_)
                    · skip
                      exfalso; omega
                    · skip
                      refine w_aload rfl rfl (w_iload rfl rfl (w_iload rfl rfl (w_iload rfl rfl ?_)))
                      refine w_call (Or.inr rfl) (hls) (by omega) nof_44 rfl rfl rfl rfl (by first | rfl | (show cKB[_]? = _; assumption)) rfl ?_
                      refine w_goto (tgt := 104) rfl rfl ?_
                      exact w_ireturn rfl ⟨by first | rfl | (congr 2; omega), by exact CI_same c (Nat.le_succ n)⟩
                  · skip
                    exfalso; omega
                · skip
                  exfalso; omega
        · rw [if_neg qw]
          refine w_iload rfl rfl ?_
          refine w_call (Or.inl rfl) (e_isCurve1 M q) (by omega) nof_37 rfl rfl rfl rfl trivial rfl ?_
          refine w_if_ne (tgt := 10) rfl (by first | assumption | exact i32_0 | (unfold i32 at *; omega)) rfl (fun _ => ?_) (fun c => absurd c (by decide))
          refine w_iload rfl rfl (w_iconst rfl ?_)
          refine w_call (Or.inl rfl) (e_isWithin1 M (by omega) v1) (by omega) nof_40 rfl rfl rfl rfl trivial rfl ?_
          refine w_if_eq (tgt := 54) rfl (by first | assumption | exact i32_0 | (unfold i32 at *; omega)) rfl (fun c => absurd c (by decide)) (fun _ => ?_)
          refine w_iload rfl rfl (w_iconst rfl ?_)
          refine w_call (Or.inl rfl) (e_isWithin1 M (by omega) v2) (by omega) nof_40 rfl rfl rfl rfl trivial rfl ?_
          refine w_if_eq (tgt := 54) rfl (by first | assumption | exact i32_0 | (unfold i32 at *; omega)) rfl (fun c => absurd c (by decide)) (fun _ => ?_)
          refine w_iload rfl rfl (w_iconst rfl ?_)
          refine w_icmp_lt (tgt := 54) rfl (by first | assumption | exact i32_0 | (unfold i32 at *; omega)) (by first | assumption | exact i32_0 | (unfold i32 at *; omega)) rfl (fun c33 => ?_) (fun c33 => ?_)
          · skip
            exfalso; omega
          · skip
            refine w_iload rfl rfl (w_iconst rfl ?_)
            refine w_icmp_gt (tgt := 54) rfl (by first | assumption | exact i32_0 | (unfold i32 at *; omega)) (by first | assumption | exact i32_0 | (unfold i32 at *; omega)) rfl (fun c40 => ?_) (fun c40 => ?_)
            · skip
              exfalso; omega
            · skip
              refine w_iload rfl rfl ?_
              refine w_if_lt (tgt := 54) rfl (by first | assumption | exact i32_0 | (unfold i32 at *; omega)) rfl (fun c45 => ?_) (fun c45 => ?_)
              · skip
                exfalso; omega
              · skip
                refine w_iload rfl rfl (w_iconst rfl ?_)
                refine w_icmp_le (tgt := 57) rfl (by first | assumption | exact i32_0 | (unfold i32 at *; omega)) (by first | assumption | exact i32_0 | (unfold i32 at *; omega)) rfl (fun c51 => ?_) (fun c51 => ?_)
                · skip
                  refine w_aload rfl rfl (w_getR rfl (by first | rfl | assumption) rfl (by first | rfl | assumption) (w_iload rfl rfl ?_))
                  refine w_call (Or.inr rfl) ((hof _)) (by omega) nof_24 rfl rfl rfl rfl (by first | rfl | (show cKB[_]? = _; assumption)) rfl ?_
                  refine w_astore (ls2 := [_, _, _, _, _, _, _]) rfl rfl rfl (w_aload rfl rfl ?_)
                  refine w_call (Or.inr rfl) (hsz) (by omega) nof_41 rfl rfl rfl rfl (by first | rfl | (show cKB[_]? = _; assumption)) rfl ?_
                  refine w_if_ne (tgt := 78) rfl (by first | assumption | exact i32_0 | (unfold i32 at *; omega)) rfl (fun c72 => ?_) (fun c72 => ?_)
                  · skip
                    refine w_iload rfl rfl ?_
                    refine w_if_ne (tgt := 95) rfl (by first | assumption | exact i32_0 | (unfold i32 at *; omega)) rfl (fun c80 => ?_) (fun c80 => ?_)
                    · skip
                      refine w_aload rfl rfl (w_iload rfl rfl (w_iload rfl rfl (w_iload rfl rfl ?_)))
                      refine w_call (Or.inr rfl) (hld) (by omega) nof_47 rfl rfl rfl rfl (by first | rfl | (show cKB[_]? = _; assumption)) rfl ?_
                      exact w_ireturn rfl ⟨by first | rfl | (congr 2; omega), by exact CI_same c (Nat.le_succ n)⟩
                    · skip
                      exfalso; omega
                  · skip
                    exfalso; omega
                · skip
                  exfalso; omega
    · rw [if_neg qv]
      have qv := of_decide_eq_false (Bool.eq_false_iff.mpr qv)
      by_cases v1 : -9999 ≤ x ∧ x ≤ 9999
      · by_cases v2 : -9999 ≤ y ∧ y ≤ 9999
        · skip
          refine w_iload rfl rfl ?_
          refine w_call (Or.inl rfl) (e_isCurve1 M q) (by omega) nof_37 rfl rfl rfl rfl trivial rfl ?_
          refine w_if_ne (tgt := 10) rfl (by first | assumption | exact i32_0 | (unfold i32 at *; omega)) rfl (fun _ => ?_) (fun c => absurd c (by decide))
          refine w_iload rfl rfl (w_iconst rfl ?_)
          refine w_call (Or.inl rfl) (e_isWithin1 M (by omega) v1) (by omega) nof_40 rfl rfl rfl rfl trivial rfl ?_
          refine w_if_eq (tgt := 54) rfl (by first | assumption | exact i32_0 | (unfold i32 at *; omega)) rfl (fun c => absurd c (by decide)) (fun _ => ?_)
          refine w_iload rfl rfl (w_iconst rfl ?_)
          refine w_call (Or.inl rfl) (e_isWithin1 M (by omega) v2) (by omega) nof_40 rfl rfl rfl rfl trivial rfl ?_
          refine w_if_eq (tgt := 54) rfl (by first | assumption | exact i32_0 | (unfold i32 at *; omega)) rfl (fun c => absurd c (by decide)) (fun _ => ?_)
          refine w_iload rfl rfl (w_iconst rfl ?_)
          refine w_icmp_lt (tgt := 54) rfl (by first | assumption | exact i32_0 | (unfold i32 at *; omega)) (by first | assumption | exact i32_0 | (unfold i32 at *; omega)) rfl (fun c33 => ?_) (fun c33 => ?_)
          · skip
            refine w_iconst rfl ?_
            exact w_ireturn rfl ⟨by first | rfl | (congr 2; omega), by exact CI_same c (Nat.le_succ n)⟩
          · skip
            refine w_iload rfl rfl (w_iconst rfl ?_)
            refine w_icmp_gt (tgt := 54) rfl (by first | assumption | exact i32_0 | (unfold i32 at *; omega)) (by first | assumption | exact i32_0 | (unfold i32 at *; omega)) rfl (fun c40 => ?_) (fun c40 => ?_)
            · skip
              refine w_iconst rfl ?_
              exact w_ireturn rfl ⟨by first | rfl | (congr 2; omega), by exact CI_same c (Nat.le_succ n)⟩
            · skip
              refine w_iload rfl rfl ?_
              refine w_if_lt (tgt := 54) rfl (by first | assumption | exact i32_0 | (unfold i32 at *; omega)) rfl (fun c45 => ?_) (fun c45 => ?_)
              · skip
                refine w_iconst rfl ?_
                exact w_ireturn rfl ⟨by first | rfl | (congr 2; omega), by exact CI_same c (Nat.le_succ n)⟩
              · skip
                refine w_iload rfl rfl (w_iconst rfl ?_)
                refine w_icmp_le (tgt := 57) rfl (by first | assumption | exact i32_0 | (unfold i32 at *; omega)) (by first | assumption | exact i32_0 | (unfold i32 at *; omega)) rfl (fun c51 => ?_) (fun c51 => ?_)
                · skip
                  exfalso; omega
                · skip
                  refine w_iconst rfl ?_
                  exact w_ireturn rfl ⟨by first | rfl | (congr 2; omega), by exact CI_same c (Nat.le_succ n)⟩
        · skip
          refine w_iload rfl rfl ?_
          refine w_call (Or.inl rfl) (e_isCurve1 M q) (by omega) nof_37 rfl rfl rfl rfl trivial rfl ?_
          refine w_if_ne (tgt := 10) rfl (by first | assumption | exact i32_0 | (unfold i32 at *; omega)) rfl (fun _ => ?_) (fun c => absurd c (by decide))
          refine w_iload rfl rfl (w_iconst rfl ?_)
          refine w_call (Or.inl rfl) (e_isWithin1 M (by omega) v1) (by omega) nof_40 rfl rfl rfl rfl trivial rfl ?_
          refine w_if_eq (tgt := 54) rfl (by first | assumption | exact i32_0 | (unfold i32 at *; omega)) rfl (fun c => absurd c (by decide)) (fun _ => ?_)
          refine w_iload rfl rfl (w_iconst rfl ?_)
          refine w_call (Or.inl rfl) (e_isWithin0 M hy (by omega) v2) (by omega) nof_40 rfl rfl rfl rfl trivial rfl ?_
          refine w_if_eq (tgt := 54) rfl (by first | assumption | exact i32_0 | (unfold i32 at *; omega)) rfl (fun _ => ?_) (fun c => absurd c (by decide))
          refine w_iconst rfl ?_
          exact w_ireturn rfl ⟨by first | rfl | (congr 2; omega), by exact CI_same c (Nat.le_succ n)⟩
      · skip
        refine w_iload rfl rfl ?_
        refine w_call (Or.inl rfl) (e_isCurve1 M q) (by omega) nof_37 rfl rfl rfl rfl trivial rfl ?_
        refine w_if_ne (tgt := 10) rfl (by first | assumption | exact i32_0 | (unfold i32 at *; omega)) rfl (fun _ => ?_) (fun c => absurd c (by decide))
        refine w_iload rfl rfl (w_iconst rfl ?_)
        refine w_call (Or.inl rfl) (e_isWithin0 M hx (by omega) v1) (by omega) nof_40 rfl rfl rfl rfl trivial rfl ?_
        refine w_if_eq (tgt := 54) rfl (by first | assumption | exact i32_0 | (unfold i32 at *; omega)) rfl (fun _ => ?_) (fun c => absurd c (by decide))
        refine w_iconst rfl ?_
        exact w_ireturn rfl ⟨by first | rfl | (congr 2; omega), by exact CI_same c (Nat.le_succ n)⟩
  · rw [if_neg q]
    have q : ¬ (a = 0 ∨ a = 1) := fun z => q (isCu_iff.mpr z)
    refine w_iload rfl rfl ?_
    refine w_call (Or.inl rfl) (e_isCurve0 M ha q) (by omega) nof_37 rfl rfl rfl rfl trivial rfl ?_
    refine w_if_ne (tgt := 10) rfl (by first | assumption | exact i32_0 | (unfold i32 at *; omega)) rfl (fun c => absurd c (by decide)) (fun _ => ?_)
    refine w_iconst rfl ?_
    exact w_ireturn rfl ⟨by first | rfl | (congr 2; omega), by exact CI_same c (Nat.le_succ n)⟩
