/-! ===== undo, keep, back, curves ===== -/
/-- both curves changed -/
theorem CI_both {n : Nat} {s : Sta} {f g : Cv} {ps : List (Cv × Cv)} {M M1 : mM} (c : CI n s M) (hc : cur2 9 f g M1) (hf : Cok 999 f) (hg : Cok 999 g) (e1 : M 10 1 + 1 ≤ M1 10 1 ∧ M1 10 1 ≤ M 10 1 + 1) (e2 : M 12 1 + 1 ≤ M1 12 1 ∧ M1 12 1 ≤ M 12 1 + 1) (hp : PastR ps M1) (hps : PasOK ps) (w : ∀ a, (a ≤ 9 ∨ (14 ≤ a ∧ a < 16) ∨ 58 ≤ a) → ∀ k, M1 a k = M a k) : CI (n + 1) (s.1, f, g, ps, s.2.2.2.2) M1 := by
  obtain ⟨⟨c1, c2⟩, ⟨c3, c4, c5⟩, ⟨c6, c7⟩, c8, c9⟩ := c
  exact ⟨⟨TxR_fr c1 (w 1 (by omega) 1) (fun k => w 2 (by omega) k), RdX_fr c2 (fun b _ _ k => w b (by omega) k)⟩, ⟨hc, hf, hg⟩, ⟨hp, hps⟩, CSl_fr c8 (w 0 (by omega) 10) (w 0 (by omega) 11) (fun b _ _ k => w b (by omega) k), CCa_2 c9 e1 e2 (fun b _ _ k => w b (by omega) k)⟩
def dUndo (s : Sta) : Int × Sta := match s.2.2.2.1 with
  | [] => (-1000003, s)
  | p :: ps => ((ps.length : Int), (s.1, p.1, p.2, ps, s.2.2.2.2))
theorem c_undo {n : Nat} {s : Sta} {M : mM} (c : CI n s M) : EQ 12 61 [vR 0] M (CQ (n + 1) M (dUndo s).1 (dUndo s).2) := by
  refine q_in (ls := [vR 0]) mq_61 (ml_61 rfl) rfl fun D hD => ?_
  have hp := c.2.2.1.1
  have hps := c.2.2.1.2
  unfold dUndo
  cases e : s.2.2.2.1 with
  | nil =>
    rw [e] at hp
    have h2 : M 16 2 = 0 := by obtain ⟨n, h1, h2, h3, -⟩ := hp; exact h3
    refine w_aload rfl rfl (w_getR rfl (by first | rfl | assumption) rfl (by first | rfl | assumption) (w_getIV rfl (by first | rfl | assumption) (by first | exact Or.inl rfl | exact Or.inr rfl) (h2) ?_))
    refine w_if_ne (tgt := 13) rfl (by first | assumption | exact i32_0 | (unfold i32 at *; omega)) rfl (fun c => absurd c (by decide)) (fun _ => ?_)
    refine w_iconst rfl ?_
    exact w_ireturn rfl ⟨by first | rfl | (congr 2; omega), by exact CI_same c (Nat.le_succ n)⟩
  | cons p ps =>
    rw [e] at hp hps
    have hp2 := hp
    obtain ⟨n0, h1, h2, h3, h4, -⟩ := hp2
    have h3 : M 16 2 = (ps.length : Int) + 1 := h3
    have hl : ps.length + 1 ≤ 8 := h4
    have hre := e_recall hp
    have hq := hps p List.mem_cons_self
    have hps2 : PasOK ps := fun q hq => hps q (List.mem_cons_of_mem _ hq)
    refine w_aload rfl rfl (w_getR rfl (by first | rfl | assumption) rfl (by first | rfl | assumption) (w_getIV rfl (by first | rfl | assumption) (by first | exact Or.inl rfl | exact Or.inr rfl) (h3) ?_))
    refine w_if_ne (tgt := 13) rfl (by first | assumption | exact i32_0 | (unfold i32 at *; omega)) rfl (fun c7 => ?_) (fun c7 => ?_)
    · skip
      refine w_aload rfl rfl (w_getR rfl (by first | rfl | assumption) rfl (by first | rfl | assumption) (w_aload rfl rfl (w_getR rfl (by first | rfl | assumption) rfl (by first | rfl | assumption) ?_)))
      refine w_callQ (Or.inr rfl) (hre) (by omega) nof_62 rfl rfl rfl rfl (by first | rfl | (show cKB[_]? = _; assumption)) (fun r21 M21 hq21 => ?_)
      obtain ⟨rfl, w1, w2, w3, w4, w5⟩ := hq21
      have h28 : M21 16 2 = (ps.length : Int) := by obtain ⟨n1, -, -, z, -⟩ := w1; exact z
      refine w_aload rfl rfl (w_getR rfl (by first | rfl | assumption) rfl (by first | rfl | assumption) (w_getIV rfl (by first | rfl | assumption) (by first | exact Or.inl rfl | exact Or.inr rfl) (h28) ?_))
      exact w_ireturn rfl ⟨by first | rfl | (congr 2; omega), by exact ⟨CI_both c w2 hq.1 hq.2 w3 w4 w1 hps2 w5, fun b hb => funext fun k => w5 b (by omega) k⟩⟩
    · exfalso; omega
def dKeep (k : Int) (s : Sta) : Int × Sta := if k = 0 then ((cntF s.2.1 : Int) + (cntF s.2.2.1 : Int), (s.1, s.2.1, s.2.2.1, s.2.2.2.1, some (s.2.1, s.2.2.1), s.2.2.2.2.2)) else if k = 1 then ((cntF s.2.1 : Int) + (cntF s.2.2.1 : Int), (s.1, s.2.1, s.2.2.1, s.2.2.2.1, s.2.2.2.2.1, some (s.2.1, s.2.2.1))) else (-1000002, s)
theorem c_keep {n : Nat} {s : Sta} {M : mM} {k : Int} (c : CI n s M) (hk : i32 k) : EQ 12 63 [vR 0, vI k] M (CQ (n + 1) M (dKeep k s).1 (dKeep k s).2) := by
  refine q_in (ls := [vR 0, vI k]) mq_63 (ml_63 rfl) rfl fun D hD => ?_
  unfold dKeep
  have hc := c.2.1.1
  have hf := c.2.1.2.1
  have hg := c.2.1.2.2
  obtain ⟨⟨c1, c2⟩, ⟨c3, c4, c5⟩, ⟨c6, c7⟩, c8, c9⟩ := id c
  by_cases k0 : k = 0
  · rw [if_pos k0]
    have htk := e_ptake isP_58 isP_9 (by decide) hc
    have fin : ∀ N : mM, Pw 58 s.2.1 s.2.2.1 1 M N → (CI (n + 1) (s.1, s.2.1, s.2.2.1, s.2.2.2.1, some (s.2.1, s.2.2.1), s.2.2.2.2.2) (upI N 0 10 1) ∧ ∀ a, 155 ≤ a → (upI N 0 10 1) a = M a) ∧ cur2 9 s.2.1 s.2.2.1 (upI N 0 10 1) := by
      intro N w
      have w4 : ∀ a, a ≠ 0 → (a < 58 ∨ 63 ≤ a) → ∀ k, upI N 0 10 1 a k = M a k := fun a h0 h1 k => by rw [upI_ne _ _ _ _ h0]; exact w.2.2.2 a (by omega) k
      have wS : ∀ a, a ≠ 0 → ∀ k, upI N 0 10 1 a k = N a k := fun a h0 k => by rw [upI_ne _ _ _ _ h0]
      have h9 : cur2 9 s.2.1 s.2.2.1 (upI N 0 10 1) := cur2_fr hc (fun b _ _ k => w4 b (by omega) (by omega) k)
      refine ⟨⟨⟨⟨TxR_fr c1 (w4 1 (by omega) (by omega) 1) (fun k => w4 2 (by omega) (by omega) k), RdX_fr c2 (fun b _ _ k => w4 b (by omega) (by omega) k)⟩, ⟨h9, c4, c5⟩, ⟨PastR_fr c6 (fun b _ _ k => w4 b (by omega) (by omega) k), c7⟩, ⟨upI_same _ _ _ _, ?_, ?_, ?_⟩, CCa_fr c9 (Nat.le_succ n) (w4 10 (by omega) (by omega) 1) (w4 12 (by omega) (by omega) 1) (fun b _ _ k => w4 b (by omega) (by omega) k)⟩, fun b hb => funext fun k => w4 b (by omega) (by omega) k⟩, h9⟩
      · rw [show upI N 0 10 1 0 11 = N 0 11 from if_neg (by omega), w.2.2.2 0 (by omega) 11]; exact c8.2.1
      · intro q hq
        cases hq
        exact ⟨cur2_fr w.1 (fun b _ _ k => wS b (by omega) k), hf, hg⟩
      · intro q hq
        exact ⟨cur2_fr (c8.2.2.2 q hq).1 (fun b _ _ k => w4 b (by omega) (by omega) k), (c8.2.2.2 q hq).2⟩
    refine w_iload rfl rfl ?_
    refine w_if_eq (tgt := 12) rfl (by first | assumption | exact i32_0 | (unfold i32 at *; omega)) rfl (fun c1 => ?_) (fun c1 => ?_)
    · skip
      refine w_iload rfl rfl ?_
      refine w_if_ne (tgt := 35) rfl (by first | assumption | exact i32_0 | (unfold i32 at *; omega)) rfl (fun c13 => ?_) (fun c13 => ?_)
      · skip
        exfalso; omega
      · skip
        refine w_aload rfl rfl (w_getR rfl (by first | rfl | assumption) rfl (by first | rfl | assumption) (w_aload rfl rfl (w_getR rfl (by first | rfl | assumption) rfl (by first | rfl | assumption) ?_)))
        refine w_callQ (Or.inr rfl) (htk) (by omega) nof_50 rfl rfl rfl rfl (by first | rfl | (show cKB[_]? = _; assumption)) (fun r24 M24 hq24 => ?_)
        obtain ⟨rfl, w⟩ := hq24
        have hfin := fin M24 w
        refine w_aload rfl rfl (w_iconst rfl (w_putZ rfl (by first | rfl | assumption) rfl (by first | exact Or.inl rfl | exact Or.inr rfl | omega | assumption) (w_goto (tgt := 51) rfl rfl (w_aload rfl rfl (w_getR rfl (by first | rfl | assumption) rfl (by first | rfl | assumption) ?_)))))
        refine w_call (Or.inr rfl) ((e_psize isP_9 hfin.2 hf hg)) (by omega) nof_64 rfl rfl rfl rfl (by first | rfl | (show cKB[_]? = _; assumption)) rfl ?_
        exact w_ireturn rfl ⟨by first | rfl | (congr 2; omega), by exact hfin.1⟩
    · skip
      refine w_iload rfl rfl (w_iconst rfl ?_)
      refine w_icmp_eq (tgt := 12) rfl (by first | assumption | exact i32_0 | (unfold i32 at *; omega)) (by first | assumption | exact i32_0 | (unfold i32 at *; omega)) rfl (fun c6 => ?_) (fun c6 => ?_)
      · skip
        refine w_iload rfl rfl ?_
        refine w_if_ne (tgt := 35) rfl (by first | assumption | exact i32_0 | (unfold i32 at *; omega)) rfl (fun c13 => ?_) (fun c13 => ?_)
        · skip
          exfalso; omega
        · skip
          refine w_aload rfl rfl (w_getR rfl (by first | rfl | assumption) rfl (by first | rfl | assumption) (w_aload rfl rfl (w_getR rfl (by first | rfl | assumption) rfl (by first | rfl | assumption) ?_)))
          refine w_callQ (Or.inr rfl) (htk) (by omega) nof_50 rfl rfl rfl rfl (by first | rfl | (show cKB[_]? = _; assumption)) (fun r24 M24 hq24 => ?_)
          obtain ⟨rfl, w⟩ := hq24
          have hfin := fin M24 w
          refine w_aload rfl rfl (w_iconst rfl (w_putZ rfl (by first | rfl | assumption) rfl (by first | exact Or.inl rfl | exact Or.inr rfl | omega | assumption) (w_goto (tgt := 51) rfl rfl (w_aload rfl rfl (w_getR rfl (by first | rfl | assumption) rfl (by first | rfl | assumption) ?_)))))
          refine w_call (Or.inr rfl) ((e_psize isP_9 hfin.2 hf hg)) (by omega) nof_64 rfl rfl rfl rfl (by first | rfl | (show cKB[_]? = _; assumption)) rfl ?_
          exact w_ireturn rfl ⟨by first | rfl | (congr 2; omega), by exact hfin.1⟩
      · skip
        exfalso; omega
  · rw [if_neg k0]
    by_cases k1 : k = 1
    · rw [if_pos k1]
      have htk := e_ptake isP_63 isP_9 (by decide) hc
      have fin : ∀ N : mM, Pw 63 s.2.1 s.2.2.1 1 M N → (CI (n + 1) (s.1, s.2.1, s.2.2.1, s.2.2.2.1, s.2.2.2.2.1, some (s.2.1, s.2.2.1)) (upI N 0 11 1) ∧ ∀ a, 155 ≤ a → (upI N 0 11 1) a = M a) ∧ cur2 9 s.2.1 s.2.2.1 (upI N 0 11 1) := by
        intro N w
        have w4 : ∀ a, a ≠ 0 → (a < 63 ∨ 68 ≤ a) → ∀ k, upI N 0 11 1 a k = M a k := fun a h0 h1 k => by rw [upI_ne _ _ _ _ h0]; exact w.2.2.2 a (by omega) k
        have wS : ∀ a, a ≠ 0 → ∀ k, upI N 0 11 1 a k = N a k := fun a h0 k => by rw [upI_ne _ _ _ _ h0]
        have h9 : cur2 9 s.2.1 s.2.2.1 (upI N 0 11 1) := cur2_fr hc (fun b _ _ k => w4 b (by omega) (by omega) k)
        refine ⟨⟨⟨⟨TxR_fr c1 (w4 1 (by omega) (by omega) 1) (fun k => w4 2 (by omega) (by omega) k), RdX_fr c2 (fun b _ _ k => w4 b (by omega) (by omega) k)⟩, ⟨h9, c4, c5⟩, ⟨PastR_fr c6 (fun b _ _ k => w4 b (by omega) (by omega) k), c7⟩, ⟨?_, upI_same _ _ _ _, ?_, ?_⟩, CCa_fr c9 (Nat.le_succ n) (w4 10 (by omega) (by omega) 1) (w4 12 (by omega) (by omega) 1) (fun b _ _ k => w4 b (by omega) (by omega) k)⟩, fun b hb => funext fun k => w4 b (by omega) (by omega) k⟩, h9⟩
        · rw [show upI N 0 11 1 0 10 = N 0 10 from if_neg (by omega), w.2.2.2 0 (by omega) 10]; exact c8.1
        · intro q hq
          exact ⟨cur2_fr (c8.2.2.1 q hq).1 (fun b _ _ k => w4 b (by omega) (by omega) k), (c8.2.2.1 q hq).2⟩
        · intro q hq
          cases hq
          exact ⟨cur2_fr w.1 (fun b _ _ k => wS b (by omega) k), hf, hg⟩
      refine w_iload rfl rfl ?_
      refine w_if_eq (tgt := 12) rfl (by first | assumption | exact i32_0 | (unfold i32 at *; omega)) rfl (fun c1 => ?_) (fun c1 => ?_)
      · skip
        refine w_iload rfl rfl ?_
        refine w_if_ne (tgt := 35) rfl (by first | assumption | exact i32_0 | (unfold i32 at *; omega)) rfl (fun c13 => ?_) (fun c13 => ?_)
        · skip
          refine w_aload rfl rfl (w_getR rfl (by first | rfl | assumption) rfl (by first | rfl | assumption) (w_aload rfl rfl (w_getR rfl (by first | rfl | assumption) rfl (by first | rfl | assumption) ?_)))
          refine w_callQ (Or.inr rfl) (htk) (by omega) nof_50 rfl rfl rfl rfl (by first | rfl | (show cKB[_]? = _; assumption)) (fun r43 M43 hq43 => ?_)
          obtain ⟨rfl, w⟩ := hq43
          have hfin := fin M43 w
          refine w_aload rfl rfl (w_iconst rfl (w_putZ rfl (by first | rfl | assumption) rfl (by first | exact Or.inl rfl | exact Or.inr rfl | omega | assumption) (w_aload rfl rfl (w_getR rfl (by first | rfl | assumption) rfl (by first | rfl | assumption) ?_))))
          refine w_call (Or.inr rfl) ((e_psize isP_9 hfin.2 hf hg)) (by omega) nof_64 rfl rfl rfl rfl (by first | rfl | (show cKB[_]? = _; assumption)) rfl ?_
          exact w_ireturn rfl ⟨by first | rfl | (congr 2; omega), by exact hfin.1⟩
        · skip
          exfalso; omega
      · skip
        refine w_iload rfl rfl (w_iconst rfl ?_)
        refine w_icmp_eq (tgt := 12) rfl (by first | assumption | exact i32_0 | (unfold i32 at *; omega)) (by first | assumption | exact i32_0 | (unfold i32 at *; omega)) rfl (fun c6 => ?_) (fun c6 => ?_)
        · skip
          refine w_iload rfl rfl ?_
          refine w_if_ne (tgt := 35) rfl (by first | assumption | exact i32_0 | (unfold i32 at *; omega)) rfl (fun c13 => ?_) (fun c13 => ?_)
          · skip
            refine w_aload rfl rfl (w_getR rfl (by first | rfl | assumption) rfl (by first | rfl | assumption) (w_aload rfl rfl (w_getR rfl (by first | rfl | assumption) rfl (by first | rfl | assumption) ?_)))
            refine w_callQ (Or.inr rfl) (htk) (by omega) nof_50 rfl rfl rfl rfl (by first | rfl | (show cKB[_]? = _; assumption)) (fun r43 M43 hq43 => ?_)
            obtain ⟨rfl, w⟩ := hq43
            have hfin := fin M43 w
            refine w_aload rfl rfl (w_iconst rfl (w_putZ rfl (by first | rfl | assumption) rfl (by first | exact Or.inl rfl | exact Or.inr rfl | omega | assumption) (w_aload rfl rfl (w_getR rfl (by first | rfl | assumption) rfl (by first | rfl | assumption) ?_))))
            refine w_call (Or.inr rfl) ((e_psize isP_9 hfin.2 hf hg)) (by omega) nof_64 rfl rfl rfl rfl (by first | rfl | (show cKB[_]? = _; assumption)) rfl ?_
            exact w_ireturn rfl ⟨by first | rfl | (congr 2; omega), by exact hfin.1⟩
          · skip
            exfalso; omega
        · skip
          exfalso; omega
    · rw [if_neg k1]
      refine w_iload rfl rfl ?_
      refine w_if_eq (tgt := 12) rfl (by first | assumption | exact i32_0 | (unfold i32 at *; omega)) rfl (fun c1 => ?_) (fun c1 => ?_)
      · skip
        exfalso; omega
      · skip
        refine w_iload rfl rfl (w_iconst rfl ?_)
        refine w_icmp_eq (tgt := 12) rfl (by first | assumption | exact i32_0 | (unfold i32 at *; omega)) (by first | assumption | exact i32_0 | (unfold i32 at *; omega)) rfl (fun c6 => ?_) (fun c6 => ?_)
        · skip
          exfalso; omega
        · skip
          refine w_iconst rfl ?_
          exact w_ireturn rfl ⟨by first | rfl | (congr 2; omega), by exact CI_same c (Nat.le_succ n)⟩
def backS (o : Option (Cv × Cv)) (s : Sta) : Int × Sta := match o with
  | none => (-1000003, s)
  | some q => ((cntF q.1 : Int) + (cntF q.2 : Int), (s.1, q.1, q.2, [], s.2.2.2.2))
def dBack (k : Int) (s : Sta) : Int × Sta := if k = 0 then backS s.2.2.2.2.1 s else if k = 1 then backS s.2.2.2.2.2 s else (-1000002, s)
theorem c_back {n : Nat} {s : Sta} {M : mM} {k : Int} (c : CI n s M) (hk : i32 k) : EQ 12 65 [vR 0, vI k] M (CQ (n + 1) M (dBack k s).1 (dBack k s).2) := by
  refine q_in (ls := [vR 0, vI k]) mq_65 (ml_65 rfl) rfl fun D hD => ?_
  unfold dBack
  have c8 := c.2.2.2.1
  have fin : ∀ (q : Cv × Cv) (N N2 : mM), Cok 999 q.1 ∧ Cok 999 q.2 → Pw 9 q.1 q.2 1 M N → PastR [] N2 → (∀ a, a ≠ 16 → ∀ k, N2 a k = N a k) → CI (n + 1) (s.1, q.1, q.2, [], s.2.2.2.2) N2 ∧ ∀ a, 155 ≤ a → N2 a = M a := by
    intro q N N2 hq w p e
    have w4 : ∀ a, (a ≤ 9 ∨ (14 ≤ a ∧ a < 16) ∨ 58 ≤ a) → ∀ k, N2 a k = M a k := fun a h k => by rw [e a (by omega) k]; exact w.2.2.2 a (by omega) k
    exact ⟨CI_both c (cur2_fr w.1 (fun b _ _ k => e b (by omega) k)) hq.1 hq.2 (by rw [e 10 (by omega) 1]; exact w.2.1) (by rw [e 12 (by omega) 1]; exact w.2.2.1) p (fun z hz => by cases hz) w4, fun b hb => funext fun k => w4 b (by omega) k⟩
  by_cases k0 : k = 0
  · rw [if_pos k0]
    have c10 := c8.1
    cases e : s.2.2.2.2.1 with
    | none =>
      rw [e] at c10
      have c10 : M 0 10 = 0 := c10
      refine w_iload rfl rfl ?_
      refine w_if_eq (tgt := 12) rfl (by first | assumption | exact i32_0 | (unfold i32 at *; omega)) rfl (fun c1 => ?_) (fun c1 => ?_)
      · skip
        refine w_iload rfl rfl ?_
        refine w_if_ne (tgt := 26) rfl (by first | assumption | exact i32_0 | (unfold i32 at *; omega)) rfl (fun c13 => ?_) (fun c13 => ?_)
        · skip
          exfalso; omega
        · skip
          refine w_aload rfl rfl (w_getIV rfl (by first | rfl | assumption) (by first | exact Or.inl rfl | exact Or.inr rfl) (c10) ?_)
          refine w_if_ne (tgt := 36) rfl (by first | assumption | exact i32_0 | (unfold i32 at *; omega)) rfl (fun c => absurd c (by decide)) (fun _ => ?_)
          refine w_goto (tgt := 33) rfl rfl (w_iconst rfl ?_)
          exact w_ireturn rfl ⟨by first | rfl | (congr 2; omega), by exact CI_same c (Nat.le_succ n)⟩
      · skip
        refine w_iload rfl rfl (w_iconst rfl ?_)
        refine w_icmp_eq (tgt := 12) rfl (by first | assumption | exact i32_0 | (unfold i32 at *; omega)) (by first | assumption | exact i32_0 | (unfold i32 at *; omega)) rfl (fun c6 => ?_) (fun c6 => ?_)
        · skip
          refine w_iload rfl rfl ?_
          refine w_if_ne (tgt := 26) rfl (by first | assumption | exact i32_0 | (unfold i32 at *; omega)) rfl (fun c13 => ?_) (fun c13 => ?_)
          · skip
            exfalso; omega
          · skip
            refine w_aload rfl rfl (w_getIV rfl (by first | rfl | assumption) (by first | exact Or.inl rfl | exact Or.inr rfl) (c10) ?_)
            refine w_if_ne (tgt := 36) rfl (by first | assumption | exact i32_0 | (unfold i32 at *; omega)) rfl (fun c => absurd c (by decide)) (fun _ => ?_)
            refine w_goto (tgt := 33) rfl rfl (w_iconst rfl ?_)
            exact w_ireturn rfl ⟨by first | rfl | (congr 2; omega), by exact CI_same c (Nat.le_succ n)⟩
        · skip
          exfalso; omega
    | some q =>
      rw [e] at c10
      have c10 : M 0 10 = 1 := c10
      have hq := c8.2.2.1 q e
      have htk := e_ptake isP_9 isP_58 (by decide) hq.1
      refine w_iload rfl rfl ?_
      refine w_if_eq (tgt := 12) rfl (by first | assumption | exact i32_0 | (unfold i32 at *; omega)) rfl (fun c1 => ?_) (fun c1 => ?_)
      · skip
        refine w_iload rfl rfl ?_
        refine w_if_ne (tgt := 26) rfl (by first | assumption | exact i32_0 | (unfold i32 at *; omega)) rfl (fun c13 => ?_) (fun c13 => ?_)
        · skip
          exfalso; omega
        · skip
          refine w_aload rfl rfl (w_getIV rfl (by first | rfl | assumption) (by first | exact Or.inl rfl | exact Or.inr rfl) (c10) ?_)
          refine w_if_ne (tgt := 36) rfl (by first | assumption | exact i32_0 | (unfold i32 at *; omega)) rfl (fun _ => ?_) (fun c => absurd c (by decide))
          refine w_aload rfl rfl (w_getR rfl (by first | rfl | assumption) rfl (by first | rfl | assumption) (w_iload rfl rfl ?_))
          refine w_if_ne (tgt := 51) rfl (by first | assumption | exact i32_0 | (unfold i32 at *; omega)) rfl (fun c41 => ?_) (fun c41 => ?_)
          · skip
            exfalso; omega
          · skip
            refine w_aload rfl rfl (w_getR rfl (by first | rfl | assumption) rfl (by first | rfl | assumption) (w_goto (tgt := 55) rfl rfl ?_))
            refine w_callQ (Or.inr rfl) (htk) (by omega) nof_50 rfl rfl rfl rfl (by first | rfl | (show cKB[_]? = _; assumption)) (fun r55 M55 hq55 => ?_)
            obtain ⟨rfl, w⟩ := hq55
            have hfo := e_forget (PastR_fr c.2.2.1.1 (M1 := M55) (fun a _ _ k => w.2.2.2 a (by omega) k))
            refine w_aload rfl rfl (w_getR rfl (by first | rfl | assumption) rfl (by first | rfl | assumption) ?_)
            refine w_callQ (Or.inr rfl) (hfo) (by omega) nof_35 rfl rfl rfl rfl (by first | rfl | (show cKB[_]? = _; assumption)) (fun r62 M62 hq62 => ?_)
            obtain ⟨rfl, w1, w2⟩ := hq62
            have hfin := fin q M55 M62 hq.2 w w1 w2
            refine w_aload rfl rfl (w_getR rfl (by first | rfl | assumption) rfl (by first | rfl | assumption) ?_)
            refine w_call (Or.inr rfl) ((e_psize isP_9 hfin.1.2.1.1 hq.2.1 hq.2.2)) (by omega) nof_64 rfl rfl rfl rfl (by first | rfl | (show cKB[_]? = _; assumption)) rfl ?_
            exact w_ireturn rfl ⟨by first | rfl | (congr 2; omega), by exact hfin⟩
      · skip
        refine w_iload rfl rfl (w_iconst rfl ?_)
        refine w_icmp_eq (tgt := 12) rfl (by first | assumption | exact i32_0 | (unfold i32 at *; omega)) (by first | assumption | exact i32_0 | (unfold i32 at *; omega)) rfl (fun c6 => ?_) (fun c6 => ?_)
        · skip
          refine w_iload rfl rfl ?_
          refine w_if_ne (tgt := 26) rfl (by first | assumption | exact i32_0 | (unfold i32 at *; omega)) rfl (fun c13 => ?_) (fun c13 => ?_)
          · skip
            exfalso; omega
          · skip
            refine w_aload rfl rfl (w_getIV rfl (by first | rfl | assumption) (by first | exact Or.inl rfl | exact Or.inr rfl) (c10) ?_)
            refine w_if_ne (tgt := 36) rfl (by first | assumption | exact i32_0 | (unfold i32 at *; omega)) rfl (fun _ => ?_) (fun c => absurd c (by decide))
            refine w_aload rfl rfl (w_getR rfl (by first | rfl | assumption) rfl (by first | rfl | assumption) (w_iload rfl rfl ?_))
            refine w_if_ne (tgt := 51) rfl (by first | assumption | exact i32_0 | (unfold i32 at *; omega)) rfl (fun c41 => ?_) (fun c41 => ?_)
            · skip
              exfalso; omega
            · skip
              refine w_aload rfl rfl (w_getR rfl (by first | rfl | assumption) rfl (by first | rfl | assumption) (w_goto (tgt := 55) rfl rfl ?_))
              refine w_callQ (Or.inr rfl) (htk) (by omega) nof_50 rfl rfl rfl rfl (by first | rfl | (show cKB[_]? = _; assumption)) (fun r55 M55 hq55 => ?_)
              obtain ⟨rfl, w⟩ := hq55
              have hfo := e_forget (PastR_fr c.2.2.1.1 (M1 := M55) (fun a _ _ k => w.2.2.2 a (by omega) k))
              refine w_aload rfl rfl (w_getR rfl (by first | rfl | assumption) rfl (by first | rfl | assumption) ?_)
              refine w_callQ (Or.inr rfl) (hfo) (by omega) nof_35 rfl rfl rfl rfl (by first | rfl | (show cKB[_]? = _; assumption)) (fun r62 M62 hq62 => ?_)
              obtain ⟨rfl, w1, w2⟩ := hq62
              have hfin := fin q M55 M62 hq.2 w w1 w2
              refine w_aload rfl rfl (w_getR rfl (by first | rfl | assumption) rfl (by first | rfl | assumption) ?_)
              refine w_call (Or.inr rfl) ((e_psize isP_9 hfin.1.2.1.1 hq.2.1 hq.2.2)) (by omega) nof_64 rfl rfl rfl rfl (by first | rfl | (show cKB[_]? = _; assumption)) rfl ?_
              exact w_ireturn rfl ⟨by first | rfl | (congr 2; omega), by exact hfin⟩
        · skip
          exfalso; omega
  · rw [if_neg k0]
    by_cases k1 : k = 1
    · rw [if_pos k1]
      have c10 := c8.2.1
      cases e : s.2.2.2.2.2 with
      | none =>
        rw [e] at c10
        have c10 : M 0 11 = 0 := c10
        refine w_iload rfl rfl ?_
        refine w_if_eq (tgt := 12) rfl (by first | assumption | exact i32_0 | (unfold i32 at *; omega)) rfl (fun c1 => ?_) (fun c1 => ?_)
        · skip
          refine w_iload rfl rfl ?_
          refine w_if_ne (tgt := 26) rfl (by first | assumption | exact i32_0 | (unfold i32 at *; omega)) rfl (fun c13 => ?_) (fun c13 => ?_)
          · skip
            refine w_aload rfl rfl (w_getIV rfl (by first | rfl | assumption) (by first | exact Or.inl rfl | exact Or.inr rfl) (c10) ?_)
            refine w_if_ne (tgt := 36) rfl (by first | assumption | exact i32_0 | (unfold i32 at *; omega)) rfl (fun c => absurd c (by decide)) (fun _ => ?_)
            refine w_iconst rfl ?_
            exact w_ireturn rfl ⟨by first | rfl | (congr 2; omega), by exact CI_same c (Nat.le_succ n)⟩
          · skip
            exfalso; omega
        · skip
          refine w_iload rfl rfl (w_iconst rfl ?_)
          refine w_icmp_eq (tgt := 12) rfl (by first | assumption | exact i32_0 | (unfold i32 at *; omega)) (by first | assumption | exact i32_0 | (unfold i32 at *; omega)) rfl (fun c6 => ?_) (fun c6 => ?_)
          · skip
            refine w_iload rfl rfl ?_
            refine w_if_ne (tgt := 26) rfl (by first | assumption | exact i32_0 | (unfold i32 at *; omega)) rfl (fun c13 => ?_) (fun c13 => ?_)
            · skip
              refine w_aload rfl rfl (w_getIV rfl (by first | rfl | assumption) (by first | exact Or.inl rfl | exact Or.inr rfl) (c10) ?_)
              refine w_if_ne (tgt := 36) rfl (by first | assumption | exact i32_0 | (unfold i32 at *; omega)) rfl (fun c => absurd c (by decide)) (fun _ => ?_)
              refine w_iconst rfl ?_
              exact w_ireturn rfl ⟨by first | rfl | (congr 2; omega), by exact CI_same c (Nat.le_succ n)⟩
            · skip
              exfalso; omega
          · skip
            exfalso; omega
      | some q =>
        rw [e] at c10
        have c10 : M 0 11 = 1 := c10
        have hq := c8.2.2.2 q e
        have htk := e_ptake isP_9 isP_63 (by decide) hq.1
        refine w_iload rfl rfl ?_
        refine w_if_eq (tgt := 12) rfl (by first | assumption | exact i32_0 | (unfold i32 at *; omega)) rfl (fun c1 => ?_) (fun c1 => ?_)
        · skip
          refine w_iload rfl rfl ?_
          refine w_if_ne (tgt := 26) rfl (by first | assumption | exact i32_0 | (unfold i32 at *; omega)) rfl (fun c13 => ?_) (fun c13 => ?_)
          · skip
            refine w_aload rfl rfl (w_getIV rfl (by first | rfl | assumption) (by first | exact Or.inl rfl | exact Or.inr rfl) (c10) ?_)
            refine w_if_ne (tgt := 36) rfl (by first | assumption | exact i32_0 | (unfold i32 at *; omega)) rfl (fun _ => ?_) (fun c => absurd c (by decide))
            refine w_aload rfl rfl (w_getR rfl (by first | rfl | assumption) rfl (by first | rfl | assumption) (w_iload rfl rfl ?_))
            refine w_if_ne (tgt := 51) rfl (by first | assumption | exact i32_0 | (unfold i32 at *; omega)) rfl (fun c41 => ?_) (fun c41 => ?_)
            · skip
              refine w_aload rfl rfl (w_getR rfl (by first | rfl | assumption) rfl (by first | rfl | assumption) ?_)
              refine w_callQ (Or.inr rfl) (htk) (by omega) nof_50 rfl rfl rfl rfl (by first | rfl | (show cKB[_]? = _; assumption)) (fun r55 M55 hq55 => ?_)
              obtain ⟨rfl, w⟩ := hq55
              have hfo := e_forget (PastR_fr c.2.2.1.1 (M1 := M55) (fun a _ _ k => w.2.2.2 a (by omega) k))
              refine w_aload rfl rfl (w_getR rfl (by first | rfl | assumption) rfl (by first | rfl | assumption) ?_)
              refine w_callQ (Or.inr rfl) (hfo) (by omega) nof_35 rfl rfl rfl rfl (by first | rfl | (show cKB[_]? = _; assumption)) (fun r62 M62 hq62 => ?_)
              obtain ⟨rfl, w1, w2⟩ := hq62
              have hfin := fin q M55 M62 hq.2 w w1 w2
              refine w_aload rfl rfl (w_getR rfl (by first | rfl | assumption) rfl (by first | rfl | assumption) ?_)
              refine w_call (Or.inr rfl) ((e_psize isP_9 hfin.1.2.1.1 hq.2.1 hq.2.2)) (by omega) nof_64 rfl rfl rfl rfl (by first | rfl | (show cKB[_]? = _; assumption)) rfl ?_
              exact w_ireturn rfl ⟨by first | rfl | (congr 2; omega), by exact hfin⟩
            · skip
              exfalso; omega
          · skip
            exfalso; omega
        · skip
          refine w_iload rfl rfl (w_iconst rfl ?_)
          refine w_icmp_eq (tgt := 12) rfl (by first | assumption | exact i32_0 | (unfold i32 at *; omega)) (by first | assumption | exact i32_0 | (unfold i32 at *; omega)) rfl (fun c6 => ?_) (fun c6 => ?_)
          · skip
            refine w_iload rfl rfl ?_
            refine w_if_ne (tgt := 26) rfl (by first | assumption | exact i32_0 | (unfold i32 at *; omega)) rfl (fun c13 => ?_) (fun c13 => ?_)
            · skip
              refine w_aload rfl rfl (w_getIV rfl (by first | rfl | assumption) (by first | exact Or.inl rfl | exact Or.inr rfl) (c10) ?_)
              refine w_if_ne (tgt := 36) rfl (by first | assumption | exact i32_0 | (unfold i32 at *; omega)) rfl (fun _ => ?_) (fun c => absurd c (by decide))
              refine w_aload rfl rfl (w_getR rfl (by first | rfl | assumption) rfl (by first | rfl | assumption) (w_iload rfl rfl ?_))
              refine w_if_ne (tgt := 51) rfl (by first | assumption | exact i32_0 | (unfold i32 at *; omega)) rfl (fun c41 => ?_) (fun c41 => ?_)
              · skip
                refine w_aload rfl rfl (w_getR rfl (by first | rfl | assumption) rfl (by first | rfl | assumption) ?_)
                refine w_callQ (Or.inr rfl) (htk) (by omega) nof_50 rfl rfl rfl rfl (by first | rfl | (show cKB[_]? = _; assumption)) (fun r55 M55 hq55 => ?_)
                obtain ⟨rfl, w⟩ := hq55
                have hfo := e_forget (PastR_fr c.2.2.1.1 (M1 := M55) (fun a _ _ k => w.2.2.2 a (by omega) k))
                refine w_aload rfl rfl (w_getR rfl (by first | rfl | assumption) rfl (by first | rfl | assumption) ?_)
                refine w_callQ (Or.inr rfl) (hfo) (by omega) nof_35 rfl rfl rfl rfl (by first | rfl | (show cKB[_]? = _; assumption)) (fun r62 M62 hq62 => ?_)
                obtain ⟨rfl, w1, w2⟩ := hq62
                have hfin := fin q M55 M62 hq.2 w w1 w2
                refine w_aload rfl rfl (w_getR rfl (by first | rfl | assumption) rfl (by first | rfl | assumption) ?_)
                refine w_call (Or.inr rfl) ((e_psize isP_9 hfin.1.2.1.1 hq.2.1 hq.2.2)) (by omega) nof_64 rfl rfl rfl rfl (by first | rfl | (show cKB[_]? = _; assumption)) rfl ?_
                exact w_ireturn rfl ⟨by first | rfl | (congr 2; omega), by exact hfin⟩
              · skip
                exfalso; omega
            · skip
              exfalso; omega
          · skip
            exfalso; omega
    · rw [if_neg k1]
      refine w_iload rfl rfl ?_
      refine w_if_eq (tgt := 12) rfl (by first | assumption | exact i32_0 | (unfold i32 at *; omega)) rfl (fun c1 => ?_) (fun c1 => ?_)
      · skip
        exfalso; omega
      · skip
        refine w_iload rfl rfl (w_iconst rfl ?_)
        refine w_icmp_eq (tgt := 12) rfl (by first | assumption | exact i32_0 | (unfold i32 at *; omega)) (by first | assumption | exact i32_0 | (unfold i32 at *; omega)) rfl (fun c6 => ?_) (fun c6 => ?_)
        · skip
          exfalso; omega
        · skip
          refine w_iconst rfl ?_
          exact w_ireturn rfl ⟨by first | rfl | (congr 2; omega), by exact CI_same c (Nat.le_succ n)⟩
def dCurves (s : Sta) : Int × Sta := match parseS s.1 with
  | Sum.inl _ => (-1000003, s)
  | Sum.inr t => (t.1 5, ([], if t.1 3 = 1 then t.2.1 else s.2.1, if t.1 4 = 1 then t.2.2 else s.2.2.1, [], none, none))
theorem c_curves {n : Nat} {s : Sta} {M : mM} (c : CI n s M) : EQ 12 33 [vR 0] M (CQ (n + 2) M (dCurves s).1 (dCurves s).2) := by
  refine q_in (ls := [vR 0]) mq_33 (ml_33 rfl) rfl fun D hD => ?_
  have hr := e_rread c
  unfold fltQ at hr
  unfold dCurves
  cases ea : parseS s.1 with
  | inl p =>
    rw [ea] at hr
    have hpb := runF_le _ _ _ _ _ _ _ ea
    have hl := c.1.1.2.1
    refine w_aload rfl rfl (w_getR rfl (by first | rfl | assumption) rfl (by first | rfl | assumption) ?_)
    refine w_callQ (Or.inr rfl) (hr) (by omega) nof_16 rfl rfl rfl rfl (by first | rfl | (show cKB[_]? = _; assumption)) (fun r4 M4 hq4 => ?_)
    obtain ⟨w1, w2, rfl⟩ := hq4
    refine w_iconst rfl ?_
    refine w_icmp_eq (tgt := 15) rfl (by first | assumption | exact i32_0 | (unfold i32 at *; omega)) (by first | assumption | exact i32_0 | (unfold i32 at *; omega)) rfl (fun c9 => ?_) (fun c9 => ?_)
    · skip
      exfalso; omega
    · skip
      refine w_iconst rfl ?_
      exact w_ireturn rfl ⟨by first | rfl | (congr 2; omega), by exact ⟨CI_up w1 (by omega), fun a ha => funext fun k => w2 a k (by omega) (by omega) (by omega)⟩⟩
  | inr t =>
    rw [ea] at hr
    -- the end: text emptied, nothing saved
    have tail : ∀ (m : Nat) (f g : Cv) (N : mM), m ≤ n + 2 → CI m (s.1, f, g, s.2.2.2) N → N 3 5 = t.1 5 → (∀ a, 155 ≤ a → N a = M a) → Wp mc_33 D 75 [vR 0] [] N (CQ (n + 2) M (t.1 5) ([], f, g, [], none, none)) := by
      intro m f g N hm cN h5 hF
      have hfo := e_forget (M := upI (upI (upI N 1 1 0) 0 10 0) 0 11 0) (PastR_fr cN.2.2.1.1 (fun a _ _ k => by rw [upI_ne _ _ _ _ (by omega), upI_ne _ _ _ _ (by omega), upI_ne _ _ _ _ (by omega)]))
      have fin : ∀ N2 : mM, PastR [] N2 → (∀ a, a ≠ 16 → ∀ k, N2 a k = upI (upI (upI N 1 1 0) 0 10 0) 0 11 0 a k) → CI (n + 2) ([], f, g, [], none, none) N2 ∧ ∀ a, 155 ≤ a → N2 a = M a := by
        intro N2 w1 w2
        have w4 : ∀ a, a ≠ 0 → a ≠ 1 → a ≠ 16 → ∀ k, N2 a k = N a k := fun a h0 h1 h2 k => by rw [w2 a h2 k, upI_ne _ _ _ _ h0, upI_ne _ _ _ _ h0, upI_ne _ _ _ _ h1]
        have n11 : N2 1 1 = 0 := by rw [w2 1 (by decide) 1, upI_ne _ _ _ _ (by decide), upI_ne _ _ _ _ (by decide)]; exact upI_same _ _ _ _
        have n010 : N2 0 10 = 0 := by rw [w2 0 (by decide) 10]; exact (if_neg (by omega)).trans (upI_same _ _ _ _)
        have n011 : N2 0 11 = 0 := by rw [w2 0 (by decide) 11]; exact upI_same _ _ _ _
        obtain ⟨⟨c1, c2⟩, ⟨c3, c4, c5⟩, ⟨c6, c7⟩, c8, c9⟩ := cN
        exact ⟨⟨⟨TxR_nil n11, RdX_fr c2 (fun b _ _ k => w4 b (by omega) (by omega) (by omega) k)⟩, ⟨cur2_fr c3 (fun b _ _ k => w4 b (by omega) (by omega) (by omega) k), c4, c5⟩, ⟨w1, fun z hz => by cases hz⟩, ⟨n010, n011, fun q hq => (by cases hq), fun q hq => (by cases hq)⟩, CCa_fr c9 hm (w4 10 (by omega) (by omega) (by omega) 1) (w4 12 (by omega) (by omega) (by omega) 1) (fun b _ _ k => w4 b (by omega) (by omega) (by omega) k)⟩, fun b hb => by rw [← hF b hb]; exact funext fun k => w4 b (by omega) (by omega) (by omega) k⟩
      refine w_aload rfl rfl (w_getR rfl (by first | rfl | assumption) rfl (by first | rfl | assumption) (w_iconst rfl (w_putI rfl (by first | rfl | assumption) rfl (w_aload rfl rfl (w_iconst rfl (w_putZ rfl (by first | rfl | assumption) rfl (by first | exact Or.inl rfl | exact Or.inr rfl | omega | assumption) (w_aload rfl rfl ?_)))))))
      refine w_iconst rfl (w_putZ rfl (by first | rfl | assumption) rfl (by first | exact Or.inl rfl | exact Or.inr rfl | omega | assumption) (w_aload rfl rfl (w_getR rfl (by first | rfl | assumption) rfl (by first | rfl | assumption) ?_)))
      refine w_callQ (Or.inr rfl) (hfo) (by omega) nof_35 rfl rfl rfl rfl (by first | rfl | (show cKB[_]? = _; assumption)) (fun r97 M97 hq97 => ?_)
      obtain ⟨rfl, w1, w2⟩ := hq97
      have h104 : M97 3 5 = t.1 5 := by rw [w2 3 (by decide) 5, upI_ne _ _ _ _ (by decide), upI_ne _ _ _ _ (by decide), upI_ne _ _ _ _ (by decide)]; exact h5
      refine w_aload rfl rfl (w_getR rfl (by first | rfl | assumption) rfl (by first | rfl | assumption) (w_getIV rfl (by first | rfl | assumption) (by first | exact Or.inl rfl | exact Or.inr rfl) (h104) ?_))
      exact w_ireturn rfl ⟨by first | rfl | (congr 2; omega), by exact fin M97 w1 w2⟩
    -- the second curve
    have second : ∀ (m : Nat) (f : Cv) (q : Nat → Int) (f2 g2 : Cv) (N : mM), m ≤ n + 1 → CI m (s.1, f, s.2.2.1, s.2.2.2) N → RdM q f2 g2 N → RdI q → Cok 999 g2 → q 5 = t.1 5 → q 4 = t.1 4 → (q 4 = 1 → g2 = t.2.2) → (∀ a, 155 ≤ a → N a = M a) → Wp mc_33 D 45 [vR 0] [] N (CQ (n + 2) M (t.1 5) ([], f, if t.1 4 = 1 then t.2.2 else s.2.2.1, [], none, none)) := by
      intro m f q f2 g2 N hm cN hq hi hg2 q5 q4 qg hF
      have n4 : N 3 4 = t.1 4 := by rw [hq.1, q4]
      have n5 : N 3 5 = t.1 5 := by rw [hq.1, q5]
      have hb := hi.2.2.1.2.2.2.2.1
      by_cases z : t.1 4 = 1
      · rw [if_pos z]
        have hg := qg (q4.trans z)
        subst hg
        have htk := e_take (t := 12) (o := 7) isT_12 isT_7 (by decide) (by decide) (by decide) hq.2.2
        refine w_aload rfl rfl (w_getR rfl (by first | rfl | assumption) rfl (by first | rfl | assumption) (w_getIV rfl (by first | rfl | assumption) (by first | exact Or.inl rfl | exact Or.inr rfl) (n4) ?_))
        refine w_if_eq (tgt := 75) rfl (by first | assumption | exact i32_0 | (unfold i32 at *; omega)) rfl (fun c52 => ?_) (fun c52 => ?_)
        · exfalso; omega
        · skip
          refine w_aload rfl rfl (w_getR rfl (by first | rfl | assumption) rfl (by first | rfl | assumption) (w_getR rfl (by first | rfl | assumption) rfl (by first | rfl | assumption) (w_aload rfl rfl (w_getR rfl (by first | rfl | assumption) rfl (by first | rfl | assumption) (w_getR rfl (by first | rfl | assumption) rfl (by first | rfl | assumption) (w_getR rfl (by first | rfl | assumption) rfl (by first | rfl | assumption) ?_))))))
          refine w_callQ (Or.inr rfl) (htk) (by omega) nof_34 rfl rfl rfl rfl (by first | rfl | (show cKB[_]? = _; assumption)) (fun r72 M72 hq72 => ?_)
          obtain ⟨rfl, w⟩ := hq72
          have c2 := CI_set (a := 1) cN (Or.inr rfl) hg2 w
          exact tail (m + 1) f t.2.2 M72 (by omega) c2.1 (by rw [w.2.2.2 3 (by decide) (by decide) 5]; exact n5) (fun a ha => (c2.2 a ha).trans (hF a ha))
      · rw [if_neg z]
        have z0 : t.1 4 = 0 := by omega
        rw [z0] at n4
        refine w_aload rfl rfl (w_getR rfl (by first | rfl | assumption) rfl (by first | rfl | assumption) (w_getIV rfl (by first | rfl | assumption) (by first | exact Or.inl rfl | exact Or.inr rfl) (n4) ?_))
        refine w_if_eq (tgt := 75) rfl (by first | assumption | exact i32_0 | (unfold i32 at *; omega)) rfl (fun _ => ?_) (fun c => absurd c (by decide))
        exact tail m f s.2.2.1 N (by omega) cN n5 hF
    have first : ∀ (q : Nat → Int) (f2 g2 : Cv) (N : mM), CI n s N → RdM q f2 g2 N → RdI q → Cok 999 f2 → Cok 999 g2 → q 5 = t.1 5 → q 3 = t.1 3 → q 4 = t.1 4 → (q 3 = 1 → f2 = t.2.1) → (q 4 = 1 → g2 = t.2.2) → (∀ a, 155 ≤ a → N a = M a) → Wp mc_33 D 15 [vR 0] [] N (CQ (n + 2) M (t.1 5) ([], if t.1 3 = 1 then t.2.1 else s.2.1, if t.1 4 = 1 then t.2.2 else s.2.2.1, [], none, none)) := by
      intro q f2 g2 N cN hq hi hf2 hg2 q5 q3 q4 qf qg hF
      have n3 : N 3 3 = t.1 3 := by rw [hq.1, q3]
      have hb := hi.2.2.1.2.2.2.1
      by_cases z : t.1 3 = 1
      · rw [if_pos z]
        have hf := qf (q3.trans z)
        subst hf
        have htk := e_take (t := 10) (o := 5) isT_10 isT_5 (by decide) (by decide) (by decide) hq.2.1
        refine w_aload rfl rfl (w_getR rfl (by first | rfl | assumption) rfl (by first | rfl | assumption) (w_getIV rfl (by first | rfl | assumption) (by first | exact Or.inl rfl | exact Or.inr rfl) (n3) ?_))
        refine w_if_eq (tgt := 45) rfl (by first | assumption | exact i32_0 | (unfold i32 at *; omega)) rfl (fun c22 => ?_) (fun c22 => ?_)
        · exfalso; omega
        · skip
          refine w_aload rfl rfl (w_getR rfl (by first | rfl | assumption) rfl (by first | rfl | assumption) (w_getR rfl (by first | rfl | assumption) rfl (by first | rfl | assumption) (w_aload rfl rfl (w_getR rfl (by first | rfl | assumption) rfl (by first | rfl | assumption) (w_getR rfl (by first | rfl | assumption) rfl (by first | rfl | assumption) (w_getR rfl (by first | rfl | assumption) rfl (by first | rfl | assumption) ?_))))))
          refine w_callQ (Or.inr rfl) (htk) (by omega) nof_34 rfl rfl rfl rfl (by first | rfl | (show cKB[_]? = _; assumption)) (fun r42 M42 hq42 => ?_)
          obtain ⟨rfl, w⟩ := hq42
          have c2 := CI_set (a := 0) cN (Or.inl rfl) hf2 w
          exact second (n + 1) t.2.1 q t.2.1 g2 M42 (Nat.le_refl _) c2.1 ⟨by rw [← hq.1]; exact funext fun k => w.2.2.2 3 (by decide) (by decide) k, cur_fr hq.2.1 (fun k => w.2.2.2 6 (by decide) (by decide) k), cur_fr hq.2.2 (fun k => w.2.2.2 8 (by decide) (by decide) k)⟩ hi hg2 q5 q4 qg (fun a ha => (c2.2 a ha).trans (hF a ha))
      · rw [if_neg z]
        have z0 : t.1 3 = 0 := by omega
        rw [z0] at n3
        refine w_aload rfl rfl (w_getR rfl (by first | rfl | assumption) rfl (by first | rfl | assumption) (w_getIV rfl (by first | rfl | assumption) (by first | exact Or.inl rfl | exact Or.inr rfl) (n3) ?_))
        refine w_if_eq (tgt := 45) rfl (by first | assumption | exact i32_0 | (unfold i32 at *; omega)) rfl (fun _ => ?_) (fun c => absurd c (by decide))
        exact second n s.2.1 q f2 g2 N (Nat.le_succ n) cN hq hi hg2 q5 q4 qg hF
    refine w_aload rfl rfl (w_getR rfl (by first | rfl | assumption) rfl (by first | rfl | assumption) ?_)
    refine w_callQ (Or.inr rfl) (hr) (by omega) nof_16 rfl rfl rfl rfl (by first | rfl | (show cKB[_]? = _; assumption)) (fun r4 M4 hq4 => ?_)
    obtain ⟨w1, w2, rfl, q, f2, g2, z1, z2, z3, z4, z5, z6, z7, z8, z9⟩ := hq4
    refine w_iconst rfl ?_
    refine w_icmp_eq (tgt := 15) rfl (by first | assumption | exact i32_0 | (unfold i32 at *; omega)) (by first | assumption | exact i32_0 | (unfold i32 at *; omega)) rfl (fun c9 => ?_) (fun c9 => ?_)
    · skip
      exact first q f2 g2 M4 w1 z1 z2 z3 z4 z5 z6 z7 z8 z9 (fun a ha => funext fun k => w2 a k (by omega) (by omega) (by omega))
    · skip
      exact absurd rfl c9
