/-! ===== the class's state ===== -/
abbrev Sta := List Int × Cv × Cv × List (Cv × Cv) × Option (Cv × Cv) × Option (Cv × Cv)
def keptI (o : Option (Cv × Cv)) : Int := if o.isSome = true then 1 else 0
def CSl (k0 k1 : Option (Cv × Cv)) (M : mM) : Prop := M 0 10 = keptI k0 ∧ M 0 11 = keptI k1 ∧ (∀ q, k0 = some q → cur2 58 q.1 q.2 M ∧ Cok 999 q.1 ∧ Cok 999 q.2) ∧ (∀ q, k1 = some q → cur2 63 q.1 q.2 M ∧ Cok 999 q.1 ∧ Cok 999 q.2)
theorem CSl_fr {k0 k1 : Option (Cv × Cv)} {M M1 : mM} (h : CSl k0 k1 M) (e1 : M1 0 10 = M 0 10) (e2 : M1 0 11 = M 0 11) (e : ∀ a, 58 ≤ a → a < 68 → ∀ k, M1 a k = M a k) : CSl k0 k1 M1 := ⟨e1.trans h.1, e2.trans h.2.1, fun q hq => ⟨cur2_fr (h.2.2.1 q hq).1 (fun a _ _ k => e a (by omega) (by omega) k), (h.2.2.1 q hq).2⟩, fun q hq => ⟨cur2_fr (h.2.2.2 q hq).1 (fun a _ _ k => e a (by omega) (by omega) k), (h.2.2.2 q hq).2⟩⟩
def CCa (n : Nat) (f g : Cv) (M : mM) : Prop := ((1 ≤ M 10 1 ∧ M 10 1 ≤ n) ∧ (1 ≤ M 12 1 ∧ M 12 1 ≤ n)) ∧ ((-1 ≤ M 68 1 ∧ M 68 1 ≤ M 10 1) ∧ (-1 ≤ M 108 1 ∧ M 108 1 ≤ M 12 1) ∧ (-1 ≤ M 148 2 ∧ M 148 2 ≤ M 10 1) ∧ (-1 ≤ M 148 3 ∧ M 148 3 ≤ M 12 1)) ∧ (M 68 1 = M 10 1 → ShV 68 f M) ∧ (M 108 1 = M 12 1 → ShV 108 g M) ∧ (M 148 2 = M 10 1 → M 148 3 = M 12 1 → PtR 149 (meetF f g) M)
theorem CCa_fr {n m : Nat} {f g : Cv} {M M1 : mM} (h : CCa n f g M) (hnm : n ≤ m) (e1 : M1 10 1 = M 10 1) (e2 : M1 12 1 = M 12 1) (e : ∀ a, 68 ≤ a → a < 155 → ∀ k, M1 a k = M a k) : CCa m f g M1 := by
  obtain ⟨h1, h2, h3, h4, h5⟩ := h
  have a1 := e 68 (by omega) (by omega) 1
  have a2 := e 108 (by omega) (by omega) 1
  have a3 := e 148 (by omega) (by omega) 2
  have a4 := e 148 (by omega) (by omega) 3
  unfold CCa
  rw [a1, a2, a3, a4, e1, e2]
  exact ⟨by omega, h2, fun z => ShV_fr (h3 z) (fun a k q1 q2 _ _ => e a (by omega) (by omega) k), fun z => ShV_fr (h4 z) (fun a k q1 q2 _ _ => e a (by omega) (by omega) k), fun z1 z2 => PtR_fr (h5 z1 z2) (fun a q1 q2 k => e a (by omega) (by omega) k)⟩
/-- curve 0 changed -/
theorem CCa_0 {n : Nat} {f g h : Cv} {M M1 : mM} (c : CCa n f g M) (e1 : M 10 1 + 1 ≤ M1 10 1 ∧ M1 10 1 ≤ M 10 1 + 1) (e2 : M1 12 1 = M 12 1) (e : ∀ a, 68 ≤ a → a < 155 → ∀ k, M1 a k = M a k) : CCa (n + 1) h g M1 := by
  obtain ⟨h1, h2, h3, h4, h5⟩ := c
  have a1 := e 68 (by omega) (by omega) 1
  have a2 := e 108 (by omega) (by omega) 1
  have a3 := e 148 (by omega) (by omega) 2
  have a4 := e 148 (by omega) (by omega) 3
  unfold CCa
  rw [a1, a2, a3, a4, e2]
  exact ⟨by omega, by omega, fun z => by omega, fun z => ShV_fr (h4 z) (fun a k q1 q2 _ _ => e a (by omega) (by omega) k), fun z1 z2 => by omega⟩
theorem CCa_1 {n : Nat} {f g h : Cv} {M M1 : mM} (c : CCa n f g M) (e1 : M1 10 1 = M 10 1) (e2 : M 12 1 + 1 ≤ M1 12 1 ∧ M1 12 1 ≤ M 12 1 + 1) (e : ∀ a, 68 ≤ a → a < 155 → ∀ k, M1 a k = M a k) : CCa (n + 1) f h M1 := by
  obtain ⟨h1, h2, h3, h4, h5⟩ := c
  have a1 := e 68 (by omega) (by omega) 1
  have a2 := e 108 (by omega) (by omega) 1
  have a3 := e 148 (by omega) (by omega) 2
  have a4 := e 148 (by omega) (by omega) 3
  unfold CCa
  rw [a1, a2, a3, a4, e1]
  exact ⟨by omega, by omega, fun z => ShV_fr (h3 z) (fun a k q1 q2 _ _ => e a (by omega) (by omega) k), fun z => by omega, fun z1 z2 => by omega⟩
theorem CCa_2 {n : Nat} {f g h h2 : Cv} {M M1 : mM} (c : CCa n f g M) (e1 : M 10 1 + 1 ≤ M1 10 1 ∧ M1 10 1 ≤ M 10 1 + 1) (e2 : M 12 1 + 1 ≤ M1 12 1 ∧ M1 12 1 ≤ M 12 1 + 1) (e : ∀ a, 68 ≤ a → a < 155 → ∀ k, M1 a k = M a k) : CCa (n + 1) h h2 M1 := by
  obtain ⟨h1, h2, h3, h4, h5⟩ := c
  have a1 := e 68 (by omega) (by omega) 1
  have a2 := e 108 (by omega) (by omega) 1
  have a3 := e 148 (by omega) (by omega) 2
  have a4 := e 148 (by omega) (by omega) 3
  unfold CCa
  rw [a1, a2, a3, a4]
  exact ⟨by omega, by omega, fun z => by omega, fun z => by omega, fun z1 z2 => by omega⟩
def PasOK (ps : List (Cv × Cv)) : Prop := ∀ q ∈ ps, Cok 999 q.1 ∧ Cok 999 q.2
theorem PastR_fr {ps : List (Cv × Cv)} {M M1 : mM} (h : PastR ps M) (e : ∀ a, 16 ≤ a → a < 58 → ∀ k, M1 a k = M a k) : PastR ps M1 := by
  obtain ⟨n, h1, h2, h3, h4, h5⟩ := h
  exact ⟨n, h1, by rw [e 16 (by omega) (by omega)]; exact h2, by rw [e 16 (by omega) (by omega)]; exact h3, h4, fun j q hq => cur2_fr (h5 j q hq) (fun a _ _ k => e a (by omega) (by omega) k)⟩
theorem RdX_fr {M M1 : mM} (h : RdX M) (e : ∀ a, 3 ≤ a → a < 9 → ∀ k, M1 a k = M a k) : RdX M1 := by
  obtain ⟨s, f, g, ⟨h1, h2, h3⟩, h4⟩ := h
  exact ⟨s, f, g, ⟨by rw [← h1]; exact funext fun k => e 3 (by omega) (by omega) k, cur_fr h2 (fun k => e 6 (by omega) (by omega) k), cur_fr h3 (fun k => e 8 (by omega) (by omega) k)⟩, h4⟩
def CI (n : Nat) (s : Sta) (M : mM) : Prop := (TxR s.1 M ∧ RdX M) ∧ (cur2 9 s.2.1 s.2.2.1 M ∧ Cok 999 s.2.1 ∧ Cok 999 s.2.2.1) ∧ (PastR s.2.2.2.1 M ∧ PasOK s.2.2.2.1) ∧ CSl s.2.2.2.2.1 s.2.2.2.2.2 M ∧ CCa n s.2.1 s.2.2.1 M
def CQ (n : Nat) (M : mM) (ans : Int) (s : Sta) : mP := fun r M1 => r = some (vI ans) ∧ CI n s M1 ∧ ∀ a, 155 ≤ a → M1 a = M a
def CQL (n : Nat) (M : mM) (ans : Int) (s : Sta) : mP := fun r M1 => r = some (vL ans) ∧ CI n s M1 ∧ ∀ a, 155 ≤ a → M1 a = M a
theorem CI_up {n m : Nat} {s : Sta} {M : mM} (h : CI n s M) (hnm : n ≤ m) : CI m s M := ⟨h.1, h.2.1, h.2.2.1, h.2.2.2.1, CCa_fr h.2.2.2.2 hnm rfl rfl (fun _ _ _ _ => rfl)⟩
theorem CI_same {n m : Nat} {s : Sta} {M : mM} (h : CI n s M) (hnm : n ≤ m) : CI m s M ∧ ∀ a, 155 ≤ a → M a = M a := ⟨CI_up h hnm, fun _ _ => rfl⟩
/-! arguments -/
theorem e_isCurve0 {a : Int} (M : mM) (ha : i32 a) (h : ¬ (a = 0 ∨ a = 1)) : E 1 37 [vI a] M (some (vI 0)) M := by
  refine e_in (ls := [vI a]) mq_37 (ml_37 rfl) rfl fun D hD => ?_
  refine w_iload rfl rfl ?_
  refine w_if_eq (tgt := 9) rfl (by first | assumption | exact i32_0 | (unfold i32 at *; omega)) rfl (fun c1 => ?_) (fun c1 => ?_)
  · skip
    exfalso; omega
  · skip
    refine w_iload rfl rfl (w_iconst rfl ?_)
    refine w_icmp_ne (tgt := 13) rfl (by first | assumption | exact i32_0 | (unfold i32 at *; omega)) (by first | assumption | exact i32_0 | (unfold i32 at *; omega)) rfl (fun c6 => ?_) (fun c6 => ?_)
    · skip
      refine w_iconst rfl ?_
      exact w_zreturn rfl (by first | exact Or.inl rfl | exact Or.inr rfl | omega | assumption) ⟨by first | rfl | (congr 2; omega), by rfl⟩
    · skip
      exfalso; omega
theorem e_isCurve1 {a : Int} (M : mM) (h : a = 0 ∨ a = 1) : E 1 37 [vI a] M (some (vI 1)) M := by
  have ha : i32 a := by unfold i32; omega
  refine e_in (ls := [vI a]) mq_37 (ml_37 rfl) rfl fun D hD => ?_
  refine w_iload rfl rfl ?_
  refine w_if_eq (tgt := 9) rfl (by first | assumption | exact i32_0 | (unfold i32 at *; omega)) rfl (fun c1 => ?_) (fun c1 => ?_)
  · skip
    refine w_iconst rfl (w_goto (tgt := 14) rfl rfl ?_)
    exact w_zreturn rfl (by first | exact Or.inl rfl | exact Or.inr rfl | omega | assumption) ⟨by first | rfl | (congr 2; omega), by rfl⟩
  · skip
    refine w_iload rfl rfl (w_iconst rfl ?_)
    refine w_icmp_ne (tgt := 13) rfl (by first | assumption | exact i32_0 | (unfold i32 at *; omega)) (by first | assumption | exact i32_0 | (unfold i32 at *; omega)) rfl (fun c6 => ?_) (fun c6 => ?_)
    · skip
      exfalso; omega
    · skip
      refine w_iconst rfl (w_goto (tgt := 14) rfl rfl ?_)
      exact w_zreturn rfl (by first | exact Or.inl rfl | exact Or.inr rfl | omega | assumption) ⟨by first | rfl | (congr 2; omega), by rfl⟩
theorem e_isWithin0 {a b : Int} (M : mM) (ha : i32 a) (hb : 0 ≤ b ∧ b ≤ 10000) (h : ¬ (-b ≤ a ∧ a ≤ b)) : E 1 40 [vI a, vI b] M (some (vI 0)) M := by
  refine e_in (ls := [vI a, vI b]) mq_40 (ml_40 rfl) rfl fun D hD => ?_
  refine w_iload rfl rfl (w_iload rfl rfl (w_ineg rfl ?_))
  refine w_icmp_lt (tgt := 15) rfl (by first | assumption | exact i32_0 | (unfold i32 at *; omega)) (by first | assumption | exact i32_0 | (unfold i32 at *; omega)) rfl (fun c3 => ?_) (fun c3 => ?_)
  · skip
    refine w_iconst rfl ?_
    exact w_zreturn rfl (by first | exact Or.inl rfl | exact Or.inr rfl | omega | assumption) ⟨by first | rfl | (congr 2; omega), by rfl⟩
  · skip
    refine w_iload rfl rfl (w_iload rfl rfl ?_)
    refine w_icmp_gt (tgt := 15) rfl (by first | assumption | exact i32_0 | (unfold i32 at *; omega)) (by first | assumption | exact i32_0 | (unfold i32 at *; omega)) rfl (fun c8 => ?_) (fun c8 => ?_)
    · skip
      refine w_iconst rfl ?_
      exact w_zreturn rfl (by first | exact Or.inl rfl | exact Or.inr rfl | omega | assumption) ⟨by first | rfl | (congr 2; omega), by rfl⟩
    · skip
      exfalso; omega
theorem e_isWithin1 {a b : Int} (M : mM) (hb : 0 ≤ b ∧ b ≤ 10000) (h : -b ≤ a ∧ a ≤ b) : E 1 40 [vI a, vI b] M (some (vI 1)) M := by
  refine e_in (ls := [vI a, vI b]) mq_40 (ml_40 rfl) rfl fun D hD => ?_
  refine w_iload rfl rfl (w_iload rfl rfl (w_ineg rfl ?_))
  refine w_icmp_lt (tgt := 15) rfl (by first | assumption | exact i32_0 | (unfold i32 at *; omega)) (by first | assumption | exact i32_0 | (unfold i32 at *; omega)) rfl (fun c3 => ?_) (fun c3 => ?_)
  · skip
    exfalso; omega
  · skip
    refine w_iload rfl rfl (w_iload rfl rfl ?_)
    refine w_icmp_gt (tgt := 15) rfl (by first | assumption | exact i32_0 | (unfold i32 at *; omega)) (by first | assumption | exact i32_0 | (unfold i32 at *; omega)) rfl (fun c8 => ?_) (fun c8 => ?_)
    · skip
      exfalso; omega
    · skip
      refine w_iconst rfl (w_goto (tgt := 16) rfl rfl ?_)
      exact w_zreturn rfl (by first | exact Or.inl rfl | exact Or.inr rfl | omega | assumption) ⟨by first | rfl | (congr 2; omega), by rfl⟩
theorem e_isPlace0 {i j : Int} (M : mM) (hi : i32 i) (hj : i32 j) (h : ¬ isPl i j) : E 1 38 [vI i, vI j] M (some (vI 0)) M := by
  unfold isPl at h
  have := e_isPlace i j M hi hj
  rw [if_neg h] at this; exact this
theorem e_isPlace1 {i j : Int} (M : mM) (h : isPl i j) : E 1 38 [vI i, vI j] M (some (vI 1)) M := by
  unfold isPl at h
  have := e_isPlace i j M (by unfold i32; omega) (by unfold i32; omega)
  rw [if_pos h] at this; exact this
def plN (i j : Int) : Nat := (5 * i + j).toNat
theorem plN_ok {i j : Int} (h : isPl i j) : 5 * i + j = (plN i j : Int) ∧ plN i j < 21 ∧ plN i j / 5 + plN i j % 5 ≤ 4 := by
  unfold isPl at h; unfold plN; omega
def tOf (a : Int) : Nat := if a = 0 then 10 else 12
def selF (a : Int) (f g : Cv) : Cv := if a = 0 then f else g
theorem isT_tOf (a : Int) : isT (tOf a) := by
  unfold tOf; split
  · exact isT_10
  · exact isT_12
theorem e_of9 {a : Int} (M : mM) (h : a = 0 ∨ a = 1) : E 1 24 [vR 9, vI a] M (some (vR (tOf a))) M := by
  rcases h with rfl | rfl
  · exact e_of_first M isP_9
  · exact e_of_second M isP_9
theorem cur_sel {a : Int} {f g : Cv} {M : mM} (h : cur2 9 f g M) : cur (tOf a) (selF a f g) M := by
  unfold tOf selF
  split
  · exact h.1
  · exact h.2
theorem Cok_sel {a : Int} {f g : Cv} {B : Int} (hf : Cok B f) (hg : Cok B g) : Cok B (selF a f g) := by
  unfold selF; split
  · exact hf
  · exact hg
def setS (a : Int) (h : Cv) (s : Sta) : Sta := if a = 0 then (s.1, h, s.2.2) else (s.1, s.2.1, h, s.2.2.2)
/-- one curve changed, all else kept -/
theorem CI_set {n : Nat} {s : Sta} {a : Int} {h : Cv} {M M1 : mM} (c : CI n s M) (ha : a = 0 ∨ a = 1) (hh : Cok 999 h) (w : Tw (tOf a) h 1 M M1) : CI (n + 1) (setS a h s) M1 ∧ ∀ a, 155 ≤ a → M1 a = M a := by
  obtain ⟨⟨c1, c2⟩, ⟨c3, c4, c5⟩, ⟨c6, c7⟩, c8, c9⟩ := c
  obtain ⟨w1, w2, w3, w4⟩ := w
  have ht : tOf a = 10 ∨ tOf a = 12 := by unfold tOf; split <;> simp
  refine ⟨?_, fun b hb => funext fun k => w4 b (by omega) (by omega) k⟩
  rcases ha with rfl | rfl
  · have e10 : tOf 0 = 10 := rfl
    rw [e10] at w1 w2 w3 w4
    exact ⟨⟨TxR_fr c1 (w4 1 (by omega) (by omega) 1) (fun k => w4 2 (by omega) (by omega) k), RdX_fr c2 (fun b _ _ k => w4 b (by omega) (by omega) k)⟩, ⟨⟨w1, cur_fr c3.2 (fun k => w4 13 (by omega) (by omega) k)⟩, hh, c5⟩, ⟨PastR_fr c6 (fun b _ _ k => w4 b (by omega) (by omega) k), c7⟩, CSl_fr c8 (w4 0 (by omega) (by omega) 10) (w4 0 (by omega) (by omega) 11) (fun b _ _ k => w4 b (by omega) (by omega) k), CCa_0 c9 ⟨w2, w3⟩ (w4 12 (by omega) (by omega) 1) (fun b _ _ k => w4 b (by omega) (by omega) k)⟩
  · have e12 : tOf 1 = 12 := rfl
    rw [e12] at w1 w2 w3 w4
    exact ⟨⟨TxR_fr c1 (w4 1 (by omega) (by omega) 1) (fun k => w4 2 (by omega) (by omega) k), RdX_fr c2 (fun b _ _ k => w4 b (by omega) (by omega) k)⟩, ⟨⟨cur_fr c3.1 (fun k => w4 11 (by omega) (by omega) k), w1⟩, c4, hh⟩, ⟨PastR_fr c6 (fun b _ _ k => w4 b (by omega) (by omega) k), c7⟩, CSl_fr c8 (w4 0 (by omega) (by omega) 10) (w4 0 (by omega) (by omega) 11) (fun b _ _ k => w4 b (by omega) (by omega) k), CCa_1 c9 (w4 10 (by omega) (by omega) 1) ⟨w2, w3⟩ (fun b _ _ k => w4 b (by omega) (by omega) k)⟩
/-- the draft changed -/
theorem CI_dr {n : Nat} {s : Sta} {M M1 : mM} (c : CI n s M) (w : ∀ a, a ≠ 14 → a ≠ 14 + 1 → ∀ k, M1 a k = M a k) : CI n s M1 := by
  obtain ⟨⟨c1, c2⟩, ⟨c3, c4, c5⟩, ⟨c6, c7⟩, c8, c9⟩ := c
  exact ⟨⟨TxR_fr c1 (w 1 (by omega) (by omega) 1) (fun k => w 2 (by omega) (by omega) k), RdX_fr c2 (fun b _ _ k => w b (by omega) (by omega) k)⟩, ⟨cur2_fr c3 (fun b _ _ k => w b (by omega) (by omega) k), c4, c5⟩, ⟨PastR_fr c6 (fun b _ _ k => w b (by omega) (by omega) k), c7⟩, CSl_fr c8 (w 0 (by omega) (by omega) 10) (w 0 (by omega) (by omega) 11) (fun b _ _ k => w b (by omega) (by omega) k), CCa_fr c9 (Nat.le_refl _) (w 10 (by omega) (by omega) 1) (w 12 (by omega) (by omega) 1) (fun b _ _ k => w b (by omega) (by omega) k)⟩
/-- the past changed -/
theorem CI_pa {n : Nat} {s : Sta} {ps : List (Cv × Cv)} {M M1 : mM} (c : CI n s M) (hp : PastR ps M1) (hps : PasOK ps) (w : ∀ a, (a < 16 ∨ 58 ≤ a) → ∀ k, M1 a k = M a k) : CI n (s.1, s.2.1, s.2.2.1, ps, s.2.2.2.2) M1 := by
  obtain ⟨⟨c1, c2⟩, ⟨c3, c4, c5⟩, ⟨c6, c7⟩, c8, c9⟩ := c
  exact ⟨⟨TxR_fr c1 (w 1 (by omega) 1) (fun k => w 2 (by omega) k), RdX_fr c2 (fun b _ _ k => w b (by omega) k)⟩, ⟨cur2_fr c3 (fun b _ _ k => w b (by omega) k), c4, c5⟩, ⟨hp, hps⟩, CSl_fr c8 (w 0 (by omega) 10) (w 0 (by omega) 11) (fun b _ _ k => w b (by omega) k), CCa_fr c9 (Nat.le_refl _) (w 10 (by omega) 1) (w 12 (by omega) 1) (fun b _ _ k => w b (by omega) k)⟩
def remS (s : Sta) : Sta := (s.1, s.2.1, s.2.2.1, ((s.2.1, s.2.2.1) :: s.2.2.2.1).take 8, s.2.2.2.2)
theorem PasOK_rem {s : Sta} {n : Nat} {M : mM} (c : CI n s M) : PasOK (((s.2.1, s.2.2.1) :: s.2.2.2.1).take 8) := by
  intro q hq
  rcases List.mem_cons.mp (List.mem_of_mem_take hq) with z | z
  · rw [z]; exact c.2.1.2
  · exact c.2.2.1.2 q z
theorem e_rem {n : Nat} {s : Sta} {M : mM} (c : CI n s M) : EQ 3 49 [vR 16, vR 9] M (fun r M1 => r = none ∧ CI n (remS s) M1 ∧ ∀ a, (a < 16 ∨ 58 ≤ a) → ∀ k, M1 a k = M a k) :=
  (e_remember c.2.2.1.1 c.2.1.1).imp fun r M1 h => ⟨h.1, CI_pa c h.2.1 (PasOK_rem c) h.2.2, h.2.2⟩
