/-! ===== the run from a token on; the model's parts ===== -/
theorem tLen_pos {l : List Int} (h : l ≠ []) : 1 ≤ tLen l := by
  cases l with
  | nil => exact absurd rfl h
  | cons c t =>
    show 1 ≤ (if dig c = true then (dgs (c :: t)).length else 1)
    by_cases hd : dig c = true
    · rw [if_pos hd, dgs, if_pos hd, List.length_cons]; omega
    · rw [if_neg hd]; omega
theorem nxt_len {l : List Int} (h : l ≠ []) : (nxt l).length < l.length := by
  have h1 := skp_len (l.drop (tLen l))
  have h2 := tLen_pos h
  have h3 := tLen_le l
  rw [List.length_drop] at h1
  have : 0 < l.length := List.length_pos_iff.mpr h
  unfold nxt; omega
theorem runF_fuel (n : Nat) : ∀ (k m : Nat) (l : List Int) (r : Nat → Int) (f g : Cv), l.length < k → l.length < m → runF n k l r f g = runF n m l r f g := by
  intro k
  induction k with
  | zero => intro m l r f g h; omega
  | succ k ih =>
    intro m l r f g h1 h2
    cases m with
    | zero => omega
    | succ m =>
      show (match accF (tKind (skp l)) (dgs (skp l)).length (num3 (dgs (skp l))) r f g with
        | none => Sum.inl ((n - (skp l).length : Nat) : Int)
        | some q => if skp l = [] then Sum.inr q else runF n k ((skp l).drop (tLen (skp l))) q.1 q.2.1 q.2.2) = (match accF (tKind (skp l)) (dgs (skp l)).length (num3 (dgs (skp l))) r f g with
        | none => Sum.inl ((n - (skp l).length : Nat) : Int)
        | some q => if skp l = [] then Sum.inr q else runF n m ((skp l).drop (tLen (skp l))) q.1 q.2.1 q.2.2)
      cases accF (tKind (skp l)) (dgs (skp l)).length (num3 (dgs (skp l))) r f g with
      | none => rfl
      | some q =>
        show (if skp l = [] then _ else _) = (if skp l = [] then _ else _)
        by_cases hn : skp l = []
        · rw [if_pos hn, if_pos hn]
        · rw [if_neg hn, if_neg hn]
          have h3 := skp_len l
          have h4 := tLen_pos hn
          have h5 : 0 < (skp l).length := List.length_pos_iff.mpr hn
          exact ih _ _ _ _ _ (by rw [List.length_drop]; omega) (by rw [List.length_drop]; omega)
theorem runF_skp (n k : Nat) (l : List Int) (r : Nat → Int) (f g : Cv) : runF n k (skp l) r f g = runF n k l r f g := by
  cases k with
  | zero => rfl
  | succ k =>
    show (match accF (tKind (skp (skp l))) (dgs (skp (skp l))).length (num3 (dgs (skp (skp l)))) r f g with
        | none => Sum.inl ((n - (skp (skp l)).length : Nat) : Int)
        | some q => if skp (skp l) = [] then Sum.inr q else runF n k ((skp (skp l)).drop (tLen (skp (skp l)))) q.1 q.2.1 q.2.2) = _
    rw [skp_skp]
    rfl
def rn (b l : List Int) (r : Nat → Int) (f g : Cv) : Sum Int ((Nat → Int) × Cv × Cv) := runF b.length (l.length + 1) l r f g
theorem rn_none {b l : List Int} {r : Nat → Int} {f g : Cv} (hs : skp l = l) (h : accF (tKind l) (dgs l).length (num3 (dgs l)) r f g = none) : rn b l r f g = Sum.inl ((b.length - l.length : Nat) : Int) := by
  unfold rn
  show (match accF (tKind (skp l)) (dgs (skp l)).length (num3 (dgs (skp l))) r f g with
    | none => Sum.inl ((b.length - (skp l).length : Nat) : Int)
    | some q => if skp l = [] then Sum.inr q else runF b.length l.length ((skp l).drop (tLen (skp l))) q.1 q.2.1 q.2.2) = _
  rw [hs, h]
theorem rn_end {b : List Int} {r : Nat → Int} {f g : Cv} {q : (Nat → Int) × Cv × Cv} (h : accF 257 0 0 r f g = some q) : rn b [] r f g = Sum.inr q := by
  unfold rn
  show (match accF 257 0 0 r f g with
    | none => Sum.inl ((b.length - 0 : Nat) : Int)
    | some q => if ([] : List Int) = [] then Sum.inr q else runF b.length 0 [] q.1 q.2.1 q.2.2) = _
  rw [h]; rfl
theorem rn_some {b l : List Int} {r : Nat → Int} {f g : Cv} {q : (Nat → Int) × Cv × Cv} (hs : skp l = l) (hl : l ≠ []) (h : accF (tKind l) (dgs l).length (num3 (dgs l)) r f g = some q) : rn b l r f g = rn b (nxt l) q.1 q.2.1 q.2.2 := by
  unfold rn
  show (match accF (tKind (skp l)) (dgs (skp l)).length (num3 (dgs (skp l))) r f g with
    | none => Sum.inl ((b.length - (skp l).length : Nat) : Int)
    | some q => if skp l = [] then Sum.inr q else runF b.length l.length ((skp l).drop (tLen (skp l))) q.1 q.2.1 q.2.2) = _
  rw [hs, h]
  show (if l = [] then _ else _) = _
  rw [if_neg hl, ← runF_skp]
  have := nxt_len hl
  exact runF_fuel _ _ _ _ _ _ _ this (Nat.lt_succ_self _)
theorem rn_eq {b l : List Int} {r r2 : Nat → Int} {f g : Cv} (hs : skp l = l) (h : accF (tKind l) (dgs l).length (num3 (dgs l)) r f g = accF (tKind l) (dgs l).length (num3 (dgs l)) r2 f g) : rn b l r f g = rn b l r2 f g := by
  unfold rn
  show (match accF (tKind (skp l)) (dgs (skp l)).length (num3 (dgs (skp l))) r f g with
    | none => Sum.inl ((b.length - (skp l).length : Nat) : Int)
    | some q => if skp l = [] then Sum.inr q else runF b.length l.length ((skp l).drop (tLen (skp l))) q.1 q.2.1 q.2.2) = (match accF (tKind (skp l)) (dgs (skp l)).length (num3 (dgs (skp l))) r2 f g with
    | none => Sum.inl ((b.length - (skp l).length : Nat) : Int)
    | some q => if skp l = [] then Sum.inr q else runF b.length l.length ((skp l).drop (tLen (skp l))) q.1 q.2.1 q.2.2)
  rw [hs, h]
/-- a byte that is no digit and what is here -/
theorem here_kind {l : List Int} {c : Int} (hc : dig c = false) (h256 : c ≠ 256) (h257 : c ≠ 257) : (hereB l c = true ↔ tKind l = c) := by
  cases l with
  | nil => exact ⟨fun z => (by cases z), fun z => absurd z.symm h257⟩
  | cons x t =>
    show (decide (x = c) = true ↔ (if dig x = true then (256 : Int) else x) = c)
    rw [decide_eq_true_eq]
    by_cases hd : dig x = true
    · rw [if_pos hd]
      refine ⟨fun z => ?_, fun z => absurd z.symm h256⟩
      rw [z, hc] at hd; cases hd
    · rw [if_neg hd]
theorem here_ne {l : List Int} {c : Int} (h : hereB l c = true) : l ≠ [] := fun z => by rw [z] at h; cases h
def FldM (d : Int) (r : Nat → Int) (M : mM) : Prop := (M 155 10 = r 9 ∧ M 155 11 = r 13 ∧ M 155 12 = r 7 ∧ M 155 13 = r 11) ∧ (M 155 14 = r 8 ∧ M 155 15 = r 12 ∧ M 155 16 = r 10 + d) ∧ M 155 7 = r 5 ∧ M 155 9 = r 6
def PaF (M N : mM) : Prop := (∀ a, a ≠ 155 → N a = M a) ∧ ∀ k, (k < 5 ∨ 16 < k ∨ k = 7 ∨ k = 8 ∨ k = 9) → N 155 k = M 155 k
theorem PaF_rfl (M : mM) : PaF M M := ⟨fun _ _ => rfl, fun _ _ => rfl⟩
theorem PaF_tr {M N O : mM} (h : PaF M N) (h2 : PaF N O) : PaF M O := ⟨fun a ha => (h2.1 a ha).trans (h.1 a ha), fun k hk => (h2.2 k hk).trans (h.2 k hk)⟩
theorem FldM_fr {d : Int} {r : Nat → Int} {M N : mM} (h : FldM d r M) (e : ∀ k, k ≠ 5 → k ≠ 6 → N 155 k = M 155 k) : FldM d r N := by
  unfold FldM at h ⊢
  rw [e 10 (by decide) (by decide), e 11 (by decide) (by decide), e 12 (by decide) (by decide), e 13 (by decide) (by decide), e 14 (by decide) (by decide), e 15 (by decide) (by decide), e 16 (by decide) (by decide), e 7 (by decide) (by decide), e 9 (by decide) (by decide)]
  exact h
theorem rdLet_x {r : Nat → Int} {p : Int} (h : r 11 = 0 ∧ p + r 8 ≤ 4) : rdLet 120 p r = some (sR (sR (sR (sR r 11 1) 7 p) 10 (r 10 + 1)) 1 5) := by
  unfold rdLet; rw [if_pos ⟨rfl, h.1, h.2⟩]
theorem rdLet_y {r : Nat → Int} {p : Int} (h : r 12 = 0 ∧ r 7 + p ≤ 4) : rdLet 121 p r = some (sR (sR (sR (sR r 12 1) 8 p) 10 (r 10 + 1)) 1 5) := by
  unfold rdLet; rw [if_neg (fun z => absurd z.1 (by decide)), if_pos ⟨rfl, h.1, h.2⟩]
theorem rdLet_no {r : Nat → Int} {k p : Int} (h1 : ¬ (k = 120 ∧ r 11 = 0 ∧ p + r 8 ≤ 4)) (h2 : ¬ (k = 121 ∧ r 12 = 0 ∧ r 7 + p ≤ 4)) : rdLet k p r = none := by
  unfold rdLet; rw [if_neg h1, if_neg h2]
def LtQ (b l : List Int) (o : Option (Nat → Int)) (M : mM) : mP := fun q N => match o with
  | none => q = some (vI 0) ∧ N = M
  | some s => q = some (vI 1) ∧ PosM b (nxt l) N ∧ FldM 0 s N ∧ PaF M N
theorem m_letter {b l : List Int} {M : mM} {r : Nat → Int} {p : Int} (h : PosM b l M) (hF : FldM 1 r M) (hi : RdI r) (hp : 0 ≤ p ∧ p ≤ 999) : EQ 4 161 [vR 155, vI p] M (LtQ b l (rdLet (tKind l) p r) M) := by
  obtain ⟨⟨f10, f11, f12, f13⟩, ⟨f14, f15, f16⟩, f7, f9⟩ := id hF
  obtain ⟨⟨i7, i8, i78⟩, -, ⟨b11, b12, -⟩, -⟩ := hi
  have hx := m_isHere h (c := 120) (by decide)
  have hy := m_isHere h (c := 121) (by decide)
  have kx := here_kind (l := l) (c := 120) (by decide) (by decide) (by decide)
  have ky := here_kind (l := l) (c := 121) (by decide) (by decide) (by decide)
  refine q_in (ls := [vR 155, vI p, vN, vN]) mq_161 (ml_161 rfl) rfl fun D hD => ?_
  by_cases qx : hereB l 120 = true
  · have hk := kx.mp qx
    rw [hk]
    have qy : ¬ hereB l 121 = true := fun z => by have := ky.mp z; omega
    rw [if_pos qx] at hx
    rw [if_neg qy] at hy
    by_cases r11 : r 11 = 0
    · rw [r11] at f13
      by_cases hle : p + r 8 ≤ 4
      · rw [rdLet_x ⟨r11, hle⟩]
        have hin := m_in1 (v := p + r 8) (l := 0) (m := 4) M (by unfold i64; omega) (by unfold i64; omega) (by unfold i64; omega) (by omega)
        have hP2 : PosM b l (upI (upI M 155 13 1) 155 12 p) := PosM_fr h ((if_neg (by omega)).trans (if_neg (by omega))) ((if_neg (by omega)).trans (if_neg (by omega))) ((if_neg (by omega)).trans (if_neg (by omega))) (fun k => by rw [upI_ne _ _ _ _ (by decide), upI_ne _ _ _ _ (by decide)])
        have hnx := m_next hP2
        have hfin : ∀ N : mM, PosM b (nxt l) N → (∀ a, a ≠ 155 → N a = upI (upI M 155 13 1) 155 12 p a) → (∀ k, k ≠ 5 → k ≠ 6 → N 155 k = upI (upI M 155 13 1) 155 12 p 155 k) → PosM b (nxt l) N ∧ FldM 0 (sR (sR (sR (sR r 11 1) 7 p) 10 (r 10 + 1)) 1 5) N ∧ PaF M N := by
          intro N w1 w2 w3
          refine ⟨w1, ?_, fun a ha => by rw [w2 a ha, upI_ne _ _ _ _ ha, upI_ne _ _ _ _ ha], fun k hk => by rw [w3 k (by omega) (by omega)]; exact (if_neg (by omega)).trans (if_neg (by omega))⟩
          unfold FldM
          rw [w3 10 (by decide) (by decide), w3 11 (by decide) (by decide), w3 12 (by decide) (by decide), w3 13 (by decide) (by decide), w3 14 (by decide) (by decide), w3 15 (by decide) (by decide), w3 16 (by decide) (by decide), w3 7 (by decide) (by decide), w3 9 (by decide) (by decide)]
          simp [upI, sR, f10, f11, f14, f15, f16, f7, f9]
        refine w_aload rfl rfl (w_iconst rfl ?_)
        refine w_call (Or.inr rfl) ((hx)) (by omega) nof_157 rfl rfl rfl rfl (by first | rfl | (show cKB[_]? = _; assumption)) rfl ?_
        refine w_if_eq (tgt := 37) rfl (by first | assumption | exact i32_0 | (unfold i32 at *; omega)) rfl (fun c => absurd c (by decide)) (fun _ => ?_)
        refine w_aload rfl rfl (w_getIV rfl (by first | rfl | assumption) (by first | exact Or.inl rfl | exact Or.inr rfl) (f13) ?_)
        refine w_if_ne (tgt := 37) rfl (by first | assumption | exact i32_0 | (unfold i32 at *; omega)) rfl (fun c => absurd c (by decide)) (fun _ => ?_)
        refine w_iload rfl rfl (w_aload rfl rfl (w_getIV rfl (by first | rfl | assumption) (by first | exact Or.inl rfl | exact Or.inr rfl) (f14) (w_iadd rfl (w_i2l rfl (by first | assumption | exact i32_0 | (unfold i32 at *; omega)) (w_lconst rfl (w_lconst rfl ?_))))))
        refine w_call (Or.inl rfl) ((hin)) (by omega) nof_150 rfl rfl rfl rfl trivial rfl ?_
        refine w_if_eq (tgt := 37) rfl (by first | assumption | exact i32_0 | (unfold i32 at *; omega)) rfl (fun c => absurd c (by decide)) (fun _ => ?_)
        refine w_iconst rfl (w_goto (tgt := 38) rfl rfl (w_istore (ls2 := [_, _, _, _]) rfl rfl rfl (w_aload rfl rfl (w_iconst rfl ?_))))
        refine w_call (Or.inr rfl) ((hy)) (by omega) nof_157 rfl rfl rfl rfl (by first | rfl | (show cKB[_]? = _; assumption)) rfl ?_
        refine w_if_eq (tgt := 76) rfl (by first | assumption | exact i32_0 | (unfold i32 at *; omega)) rfl (fun _ => ?_) (fun c => absurd c (by decide))
        refine w_iconst rfl (w_istore (ls2 := [_, _, _, _]) rfl rfl rfl (w_iload rfl rfl ?_))
        refine w_if_eq (tgt := 95) rfl (by first | assumption | exact i32_0 | (unfold i32 at *; omega)) rfl (fun c => absurd c (by decide)) (fun _ => ?_)
        refine w_aload rfl rfl (w_iconst rfl (w_putZ rfl (by first | rfl | assumption) rfl (by first | exact Or.inl rfl | exact Or.inr rfl | omega | assumption) (w_aload rfl rfl (w_iload rfl rfl (w_putI rfl (by first | rfl | assumption) rfl (w_goto (tgt := 109) rfl rfl (w_iload rfl rfl ?_)))))))
        refine w_if_ne (tgt := 117) rfl (by first | assumption | exact i32_0 | (unfold i32 at *; omega)) rfl (fun _ => ?_) (fun c => absurd c (by decide))
        refine w_aload rfl rfl ?_
        refine w_callQ (Or.inr rfl) (hnx) (by omega) nof_154 rfl rfl rfl rfl (by first | rfl | (show cKB[_]? = _; assumption)) (fun r118 M118 hq118 => ?_)
        obtain ⟨rfl, w1, w2, w3⟩ := hq118
        refine w_iload rfl rfl ?_
        refine w_if_ne (tgt := 129) rfl (by first | assumption | exact i32_0 | (unfold i32 at *; omega)) rfl (fun _ => ?_) (fun c => absurd c (by decide))
        refine w_iconst rfl (w_goto (tgt := 134) rfl rfl ?_)
        exact w_zreturn rfl (by first | exact Or.inl rfl | exact Or.inr rfl | omega | assumption) ⟨by first | rfl | (congr 2; omega), by exact hfin _ w1 w2 w3⟩
      · rw [rdLet_no (fun z => hle z.2.2) (fun z => absurd z.1 (by decide))]
        have hin := m_in0 (v := p + r 8) (l := 0) (m := 4) M (by unfold i64; omega) (by unfold i64; omega) (by unfold i64; omega) (by omega)
        refine w_aload rfl rfl (w_iconst rfl ?_)
        refine w_call (Or.inr rfl) ((hx)) (by omega) nof_157 rfl rfl rfl rfl (by first | rfl | (show cKB[_]? = _; assumption)) rfl ?_
        refine w_if_eq (tgt := 37) rfl (by first | assumption | exact i32_0 | (unfold i32 at *; omega)) rfl (fun c => absurd c (by decide)) (fun _ => ?_)
        refine w_aload rfl rfl (w_getIV rfl (by first | rfl | assumption) (by first | exact Or.inl rfl | exact Or.inr rfl) (f13) ?_)
        refine w_if_ne (tgt := 37) rfl (by first | assumption | exact i32_0 | (unfold i32 at *; omega)) rfl (fun c => absurd c (by decide)) (fun _ => ?_)
        refine w_iload rfl rfl (w_aload rfl rfl (w_getIV rfl (by first | rfl | assumption) (by first | exact Or.inl rfl | exact Or.inr rfl) (f14) (w_iadd rfl (w_i2l rfl (by first | assumption | exact i32_0 | (unfold i32 at *; omega)) (w_lconst rfl (w_lconst rfl ?_))))))
        refine w_call (Or.inl rfl) ((hin)) (by omega) nof_150 rfl rfl rfl rfl trivial rfl ?_
        refine w_if_eq (tgt := 37) rfl (by first | assumption | exact i32_0 | (unfold i32 at *; omega)) rfl (fun _ => ?_) (fun c => absurd c (by decide))
        refine w_iconst rfl (w_istore (ls2 := [_, _, _, _]) rfl rfl rfl (w_aload rfl rfl (w_iconst rfl ?_)))
        refine w_call (Or.inr rfl) ((hy)) (by omega) nof_157 rfl rfl rfl rfl (by first | rfl | (show cKB[_]? = _; assumption)) rfl ?_
        refine w_if_eq (tgt := 76) rfl (by first | assumption | exact i32_0 | (unfold i32 at *; omega)) rfl (fun _ => ?_) (fun c => absurd c (by decide))
        refine w_iconst rfl (w_istore (ls2 := [_, _, _, _]) rfl rfl rfl (w_iload rfl rfl ?_))
        refine w_if_eq (tgt := 95) rfl (by first | assumption | exact i32_0 | (unfold i32 at *; omega)) rfl (fun _ => ?_) (fun c => absurd c (by decide))
        refine w_iload rfl rfl ?_
        refine w_if_eq (tgt := 109) rfl (by first | assumption | exact i32_0 | (unfold i32 at *; omega)) rfl (fun _ => ?_) (fun c => absurd c (by decide))
        refine w_iload rfl rfl ?_
        refine w_if_ne (tgt := 117) rfl (by first | assumption | exact i32_0 | (unfold i32 at *; omega)) rfl (fun c => absurd c (by decide)) (fun _ => ?_)
        refine w_iload rfl rfl ?_
        refine w_if_eq (tgt := 121) rfl (by first | assumption | exact i32_0 | (unfold i32 at *; omega)) rfl (fun _ => ?_) (fun c => absurd c (by decide))
        refine w_iload rfl rfl ?_
        refine w_if_ne (tgt := 129) rfl (by first | assumption | exact i32_0 | (unfold i32 at *; omega)) rfl (fun c => absurd c (by decide)) (fun _ => ?_)
        refine w_iload rfl rfl ?_
        refine w_if_eq (tgt := 133) rfl (by first | assumption | exact i32_0 | (unfold i32 at *; omega)) rfl (fun _ => ?_) (fun c => absurd c (by decide))
        refine w_iconst rfl ?_
        exact w_zreturn rfl (by first | exact Or.inl rfl | exact Or.inr rfl | omega | assumption) ⟨by first | rfl | (congr 2; omega), by rfl⟩
    · have r11 : r 11 = 1 := by omega
      rw [r11] at f13
      rw [rdLet_no (fun z => by have := z.2.1; omega) (fun z => absurd z.1 (by decide))]
      refine w_aload rfl rfl (w_iconst rfl ?_)
      refine w_call (Or.inr rfl) ((hx)) (by omega) nof_157 rfl rfl rfl rfl (by first | rfl | (show cKB[_]? = _; assumption)) rfl ?_
      refine w_if_eq (tgt := 37) rfl (by first | assumption | exact i32_0 | (unfold i32 at *; omega)) rfl (fun c => absurd c (by decide)) (fun _ => ?_)
      refine w_aload rfl rfl (w_getIV rfl (by first | rfl | assumption) (by first | exact Or.inl rfl | exact Or.inr rfl) (f13) ?_)
      refine w_if_ne (tgt := 37) rfl (by first | assumption | exact i32_0 | (unfold i32 at *; omega)) rfl (fun _ => ?_) (fun c => absurd c (by decide))
      refine w_iconst rfl (w_istore (ls2 := [_, _, _, _]) rfl rfl rfl (w_aload rfl rfl (w_iconst rfl ?_)))
      refine w_call (Or.inr rfl) ((hy)) (by omega) nof_157 rfl rfl rfl rfl (by first | rfl | (show cKB[_]? = _; assumption)) rfl ?_
      refine w_if_eq (tgt := 76) rfl (by first | assumption | exact i32_0 | (unfold i32 at *; omega)) rfl (fun _ => ?_) (fun c => absurd c (by decide))
      refine w_iconst rfl (w_istore (ls2 := [_, _, _, _]) rfl rfl rfl (w_iload rfl rfl ?_))
      refine w_if_eq (tgt := 95) rfl (by first | assumption | exact i32_0 | (unfold i32 at *; omega)) rfl (fun _ => ?_) (fun c => absurd c (by decide))
      refine w_iload rfl rfl ?_
      refine w_if_eq (tgt := 109) rfl (by first | assumption | exact i32_0 | (unfold i32 at *; omega)) rfl (fun _ => ?_) (fun c => absurd c (by decide))
      refine w_iload rfl rfl ?_
      refine w_if_ne (tgt := 117) rfl (by first | assumption | exact i32_0 | (unfold i32 at *; omega)) rfl (fun c => absurd c (by decide)) (fun _ => ?_)
      refine w_iload rfl rfl ?_
      refine w_if_eq (tgt := 121) rfl (by first | assumption | exact i32_0 | (unfold i32 at *; omega)) rfl (fun _ => ?_) (fun c => absurd c (by decide))
      refine w_iload rfl rfl ?_
      refine w_if_ne (tgt := 129) rfl (by first | assumption | exact i32_0 | (unfold i32 at *; omega)) rfl (fun c => absurd c (by decide)) (fun _ => ?_)
      refine w_iload rfl rfl ?_
      refine w_if_eq (tgt := 133) rfl (by first | assumption | exact i32_0 | (unfold i32 at *; omega)) rfl (fun _ => ?_) (fun c => absurd c (by decide))
      refine w_iconst rfl ?_
      exact w_zreturn rfl (by first | exact Or.inl rfl | exact Or.inr rfl | omega | assumption) ⟨by first | rfl | (congr 2; omega), by rfl⟩
  · rw [if_neg qx] at hx
    have nk : tKind l ≠ 120 := fun z => qx (kx.mpr z)
    by_cases qy : hereB l 121 = true
    · have hk := ky.mp qy
      rw [hk]
      rw [if_pos qy] at hy
      by_cases r12 : r 12 = 0
      · rw [r12] at f15
        by_cases hle : r 7 + p ≤ 4
        · rw [rdLet_y ⟨r12, hle⟩]
          have hin := m_in1 (v := p + r 7) (l := 0) (m := 4) M (by unfold i64; omega) (by unfold i64; omega) (by unfold i64; omega) (by omega)
          have hP2 : PosM b l (upI (upI M 155 15 1) 155 14 p) := PosM_fr h ((if_neg (by omega)).trans (if_neg (by omega))) ((if_neg (by omega)).trans (if_neg (by omega))) ((if_neg (by omega)).trans (if_neg (by omega))) (fun k => by rw [upI_ne _ _ _ _ (by decide), upI_ne _ _ _ _ (by decide)])
          have hnx := m_next hP2
          have hfin : ∀ N : mM, PosM b (nxt l) N → (∀ a, a ≠ 155 → N a = upI (upI M 155 15 1) 155 14 p a) → (∀ k, k ≠ 5 → k ≠ 6 → N 155 k = upI (upI M 155 15 1) 155 14 p 155 k) → PosM b (nxt l) N ∧ FldM 0 (sR (sR (sR (sR r 12 1) 8 p) 10 (r 10 + 1)) 1 5) N ∧ PaF M N := by
            intro N w1 w2 w3
            refine ⟨w1, ?_, fun a ha => by rw [w2 a ha, upI_ne _ _ _ _ ha, upI_ne _ _ _ _ ha], fun k hk => by rw [w3 k (by omega) (by omega)]; exact (if_neg (by omega)).trans (if_neg (by omega))⟩
            unfold FldM
            rw [w3 10 (by decide) (by decide), w3 11 (by decide) (by decide), w3 12 (by decide) (by decide), w3 13 (by decide) (by decide), w3 14 (by decide) (by decide), w3 15 (by decide) (by decide), w3 16 (by decide) (by decide), w3 7 (by decide) (by decide), w3 9 (by decide) (by decide)]
            simp [upI, sR, f10, f11, f12, f13, f16, f7, f9]
          refine w_aload rfl rfl (w_iconst rfl ?_)
          refine w_call (Or.inr rfl) ((hx)) (by omega) nof_157 rfl rfl rfl rfl (by first | rfl | (show cKB[_]? = _; assumption)) rfl ?_
          refine w_if_eq (tgt := 37) rfl (by first | assumption | exact i32_0 | (unfold i32 at *; omega)) rfl (fun _ => ?_) (fun c => absurd c (by decide))
          refine w_iconst rfl (w_istore (ls2 := [_, _, _, _]) rfl rfl rfl (w_aload rfl rfl (w_iconst rfl ?_)))
          refine w_call (Or.inr rfl) ((hy)) (by omega) nof_157 rfl rfl rfl rfl (by first | rfl | (show cKB[_]? = _; assumption)) rfl ?_
          refine w_if_eq (tgt := 76) rfl (by first | assumption | exact i32_0 | (unfold i32 at *; omega)) rfl (fun c => absurd c (by decide)) (fun _ => ?_)
          refine w_aload rfl rfl (w_getIV rfl (by first | rfl | assumption) (by first | exact Or.inl rfl | exact Or.inr rfl) (f15) ?_)
          refine w_if_ne (tgt := 76) rfl (by first | assumption | exact i32_0 | (unfold i32 at *; omega)) rfl (fun c => absurd c (by decide)) (fun _ => ?_)
          refine w_iload rfl rfl (w_aload rfl rfl (w_getIV rfl (by first | rfl | assumption) (by first | exact Or.inl rfl | exact Or.inr rfl) (f12) (w_iadd rfl (w_i2l rfl (by first | assumption | exact i32_0 | (unfold i32 at *; omega)) (w_lconst rfl (w_lconst rfl ?_))))))
          refine w_call (Or.inl rfl) ((hin)) (by omega) nof_150 rfl rfl rfl rfl trivial rfl ?_
          refine w_if_eq (tgt := 76) rfl (by first | assumption | exact i32_0 | (unfold i32 at *; omega)) rfl (fun c => absurd c (by decide)) (fun _ => ?_)
          refine w_iconst rfl (w_goto (tgt := 77) rfl rfl (w_istore (ls2 := [_, _, _, _]) rfl rfl rfl (w_iload rfl rfl ?_)))
          refine w_if_eq (tgt := 95) rfl (by first | assumption | exact i32_0 | (unfold i32 at *; omega)) rfl (fun _ => ?_) (fun c => absurd c (by decide))
          refine w_iload rfl rfl ?_
          refine w_if_eq (tgt := 109) rfl (by first | assumption | exact i32_0 | (unfold i32 at *; omega)) rfl (fun c => absurd c (by decide)) (fun _ => ?_)
          refine w_aload rfl rfl (w_iconst rfl (w_putZ rfl (by first | rfl | assumption) rfl (by first | exact Or.inl rfl | exact Or.inr rfl | omega | assumption) (w_aload rfl rfl (w_iload rfl rfl (w_putI rfl (by first | rfl | assumption) rfl (w_iload rfl rfl ?_))))))
          refine w_if_ne (tgt := 117) rfl (by first | assumption | exact i32_0 | (unfold i32 at *; omega)) rfl (fun c => absurd c (by decide)) (fun _ => ?_)
          refine w_iload rfl rfl ?_
          refine w_if_eq (tgt := 121) rfl (by first | assumption | exact i32_0 | (unfold i32 at *; omega)) rfl (fun c => absurd c (by decide)) (fun _ => ?_)
          refine w_aload rfl rfl ?_
          refine w_callQ (Or.inr rfl) (hnx) (by omega) nof_154 rfl rfl rfl rfl (by first | rfl | (show cKB[_]? = _; assumption)) (fun r118 M118 hq118 => ?_)
          obtain ⟨rfl, w1, w2, w3⟩ := hq118
          refine w_iload rfl rfl ?_
          refine w_if_ne (tgt := 129) rfl (by first | assumption | exact i32_0 | (unfold i32 at *; omega)) rfl (fun c => absurd c (by decide)) (fun _ => ?_)
          refine w_iload rfl rfl ?_
          refine w_if_eq (tgt := 133) rfl (by first | assumption | exact i32_0 | (unfold i32 at *; omega)) rfl (fun c => absurd c (by decide)) (fun _ => ?_)
          refine w_iconst rfl (w_goto (tgt := 134) rfl rfl ?_)
          exact w_zreturn rfl (by first | exact Or.inl rfl | exact Or.inr rfl | omega | assumption) ⟨by first | rfl | (congr 2; omega), by exact hfin _ w1 w2 w3⟩
        · rw [rdLet_no (fun z => absurd z.1 (by decide)) (fun z => hle z.2.2)]
          have hin := m_in0 (v := p + r 7) (l := 0) (m := 4) M (by unfold i64; omega) (by unfold i64; omega) (by unfold i64; omega) (by omega)
          refine w_aload rfl rfl (w_iconst rfl ?_)
          refine w_call (Or.inr rfl) ((hx)) (by omega) nof_157 rfl rfl rfl rfl (by first | rfl | (show cKB[_]? = _; assumption)) rfl ?_
          refine w_if_eq (tgt := 37) rfl (by first | assumption | exact i32_0 | (unfold i32 at *; omega)) rfl (fun _ => ?_) (fun c => absurd c (by decide))
          refine w_iconst rfl (w_istore (ls2 := [_, _, _, _]) rfl rfl rfl (w_aload rfl rfl (w_iconst rfl ?_)))
          refine w_call (Or.inr rfl) ((hy)) (by omega) nof_157 rfl rfl rfl rfl (by first | rfl | (show cKB[_]? = _; assumption)) rfl ?_
          refine w_if_eq (tgt := 76) rfl (by first | assumption | exact i32_0 | (unfold i32 at *; omega)) rfl (fun c => absurd c (by decide)) (fun _ => ?_)
          refine w_aload rfl rfl (w_getIV rfl (by first | rfl | assumption) (by first | exact Or.inl rfl | exact Or.inr rfl) (f15) ?_)
          refine w_if_ne (tgt := 76) rfl (by first | assumption | exact i32_0 | (unfold i32 at *; omega)) rfl (fun c => absurd c (by decide)) (fun _ => ?_)
          refine w_iload rfl rfl (w_aload rfl rfl (w_getIV rfl (by first | rfl | assumption) (by first | exact Or.inl rfl | exact Or.inr rfl) (f12) (w_iadd rfl (w_i2l rfl (by first | assumption | exact i32_0 | (unfold i32 at *; omega)) (w_lconst rfl (w_lconst rfl ?_))))))
          refine w_call (Or.inl rfl) ((hin)) (by omega) nof_150 rfl rfl rfl rfl trivial rfl ?_
          refine w_if_eq (tgt := 76) rfl (by first | assumption | exact i32_0 | (unfold i32 at *; omega)) rfl (fun _ => ?_) (fun c => absurd c (by decide))
          refine w_iconst rfl (w_istore (ls2 := [_, _, _, _]) rfl rfl rfl (w_iload rfl rfl ?_))
          refine w_if_eq (tgt := 95) rfl (by first | assumption | exact i32_0 | (unfold i32 at *; omega)) rfl (fun _ => ?_) (fun c => absurd c (by decide))
          refine w_iload rfl rfl ?_
          refine w_if_eq (tgt := 109) rfl (by first | assumption | exact i32_0 | (unfold i32 at *; omega)) rfl (fun _ => ?_) (fun c => absurd c (by decide))
          refine w_iload rfl rfl ?_
          refine w_if_ne (tgt := 117) rfl (by first | assumption | exact i32_0 | (unfold i32 at *; omega)) rfl (fun c => absurd c (by decide)) (fun _ => ?_)
          refine w_iload rfl rfl ?_
          refine w_if_eq (tgt := 121) rfl (by first | assumption | exact i32_0 | (unfold i32 at *; omega)) rfl (fun _ => ?_) (fun c => absurd c (by decide))
          refine w_iload rfl rfl ?_
          refine w_if_ne (tgt := 129) rfl (by first | assumption | exact i32_0 | (unfold i32 at *; omega)) rfl (fun c => absurd c (by decide)) (fun _ => ?_)
          refine w_iload rfl rfl ?_
          refine w_if_eq (tgt := 133) rfl (by first | assumption | exact i32_0 | (unfold i32 at *; omega)) rfl (fun _ => ?_) (fun c => absurd c (by decide))
          refine w_iconst rfl ?_
          exact w_zreturn rfl (by first | exact Or.inl rfl | exact Or.inr rfl | omega | assumption) ⟨by first | rfl | (congr 2; omega), by rfl⟩
      · have r12 : r 12 = 1 := by omega
        rw [r12] at f15
        rw [rdLet_no (fun z => absurd z.1 (by decide)) (fun z => by have := z.2.1; omega)]
        refine w_aload rfl rfl (w_iconst rfl ?_)
        refine w_call (Or.inr rfl) ((hx)) (by omega) nof_157 rfl rfl rfl rfl (by first | rfl | (show cKB[_]? = _; assumption)) rfl ?_
        refine w_if_eq (tgt := 37) rfl (by first | assumption | exact i32_0 | (unfold i32 at *; omega)) rfl (fun _ => ?_) (fun c => absurd c (by decide))
        refine w_iconst rfl (w_istore (ls2 := [_, _, _, _]) rfl rfl rfl (w_aload rfl rfl (w_iconst rfl ?_)))
        refine w_call (Or.inr rfl) ((hy)) (by omega) nof_157 rfl rfl rfl rfl (by first | rfl | (show cKB[_]? = _; assumption)) rfl ?_
        refine w_if_eq (tgt := 76) rfl (by first | assumption | exact i32_0 | (unfold i32 at *; omega)) rfl (fun c => absurd c (by decide)) (fun _ => ?_)
        refine w_aload rfl rfl (w_getIV rfl (by first | rfl | assumption) (by first | exact Or.inl rfl | exact Or.inr rfl) (f15) ?_)
        refine w_if_ne (tgt := 76) rfl (by first | assumption | exact i32_0 | (unfold i32 at *; omega)) rfl (fun _ => ?_) (fun c => absurd c (by decide))
        refine w_iconst rfl (w_istore (ls2 := [_, _, _, _]) rfl rfl rfl (w_iload rfl rfl ?_))
        refine w_if_eq (tgt := 95) rfl (by first | assumption | exact i32_0 | (unfold i32 at *; omega)) rfl (fun _ => ?_) (fun c => absurd c (by decide))
        refine w_iload rfl rfl ?_
        refine w_if_eq (tgt := 109) rfl (by first | assumption | exact i32_0 | (unfold i32 at *; omega)) rfl (fun _ => ?_) (fun c => absurd c (by decide))
        refine w_iload rfl rfl ?_
        refine w_if_ne (tgt := 117) rfl (by first | assumption | exact i32_0 | (unfold i32 at *; omega)) rfl (fun c => absurd c (by decide)) (fun _ => ?_)
        refine w_iload rfl rfl ?_
        refine w_if_eq (tgt := 121) rfl (by first | assumption | exact i32_0 | (unfold i32 at *; omega)) rfl (fun _ => ?_) (fun c => absurd c (by decide))
        refine w_iload rfl rfl ?_
        refine w_if_ne (tgt := 129) rfl (by first | assumption | exact i32_0 | (unfold i32 at *; omega)) rfl (fun c => absurd c (by decide)) (fun _ => ?_)
        refine w_iload rfl rfl ?_
        refine w_if_eq (tgt := 133) rfl (by first | assumption | exact i32_0 | (unfold i32 at *; omega)) rfl (fun _ => ?_) (fun c => absurd c (by decide))
        refine w_iconst rfl ?_
        exact w_zreturn rfl (by first | exact Or.inl rfl | exact Or.inr rfl | omega | assumption) ⟨by first | rfl | (congr 2; omega), by rfl⟩
    · rw [if_neg qy] at hy
      have nk2 : tKind l ≠ 121 := fun z => qy (ky.mpr z)
      rw [rdLet_no (fun z => nk z.1) (fun z => nk2 z.1)]
      refine w_aload rfl rfl (w_iconst rfl ?_)
      refine w_call (Or.inr rfl) ((hx)) (by omega) nof_157 rfl rfl rfl rfl (by first | rfl | (show cKB[_]? = _; assumption)) rfl ?_
      refine w_if_eq (tgt := 37) rfl (by first | assumption | exact i32_0 | (unfold i32 at *; omega)) rfl (fun _ => ?_) (fun c => absurd c (by decide))
      refine w_iconst rfl (w_istore (ls2 := [_, _, _, _]) rfl rfl rfl (w_aload rfl rfl (w_iconst rfl ?_)))
      refine w_call (Or.inr rfl) ((hy)) (by omega) nof_157 rfl rfl rfl rfl (by first | rfl | (show cKB[_]? = _; assumption)) rfl ?_
      refine w_if_eq (tgt := 76) rfl (by first | assumption | exact i32_0 | (unfold i32 at *; omega)) rfl (fun _ => ?_) (fun c => absurd c (by decide))
      refine w_iconst rfl (w_istore (ls2 := [_, _, _, _]) rfl rfl rfl (w_iload rfl rfl ?_))
      refine w_if_eq (tgt := 95) rfl (by first | assumption | exact i32_0 | (unfold i32 at *; omega)) rfl (fun _ => ?_) (fun c => absurd c (by decide))
      refine w_iload rfl rfl ?_
      refine w_if_eq (tgt := 109) rfl (by first | assumption | exact i32_0 | (unfold i32 at *; omega)) rfl (fun _ => ?_) (fun c => absurd c (by decide))
      refine w_iload rfl rfl ?_
      refine w_if_ne (tgt := 117) rfl (by first | assumption | exact i32_0 | (unfold i32 at *; omega)) rfl (fun c => absurd c (by decide)) (fun _ => ?_)
      refine w_iload rfl rfl ?_
      refine w_if_eq (tgt := 121) rfl (by first | assumption | exact i32_0 | (unfold i32 at *; omega)) rfl (fun _ => ?_) (fun c => absurd c (by decide))
      refine w_iload rfl rfl ?_
      refine w_if_ne (tgt := 129) rfl (by first | assumption | exact i32_0 | (unfold i32 at *; omega)) rfl (fun c => absurd c (by decide)) (fun _ => ?_)
      refine w_iload rfl rfl ?_
      refine w_if_eq (tgt := 133) rfl (by first | assumption | exact i32_0 | (unfold i32 at *; omega)) rfl (fun _ => ?_) (fun c => absurd c (by decide))
      refine w_iconst rfl ?_
      exact w_zreturn rfl (by first | exact Or.inl rfl | exact Or.inr rfl | omega | assumption) ⟨by first | rfl | (congr 2; omega), by rfl⟩
