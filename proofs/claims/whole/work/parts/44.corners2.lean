/-! ===== all corners ===== -/
def cornD (f : Cv) (a b : Nat) (L : List Pt) : Nat → List Pt
  | 0 => L
  | n + 1 => if b < n then cornStep f a b n (cornD f a b L n) else cornD f a b L n
def cornB (f : Cv) (N a : Nat) (L : List Pt) : Nat → List Pt
  | 0 => L
  | n + 1 => if a < n then cornD f a n (cornB f N a L n) N else cornB f N a L n
def cornA (f : Cv) (N : Nat) : Nat → List Pt
  | 0 => []
  | n + 1 => cornB f N n (cornA f N n) N
def cornF (f : Cv) : List Pt := cornA f 21 21
theorem cornStep_no {f : Cv} {a b d : Nat} {L : List Pt} (h : ¬ (hasF f a = true ∧ hasF f b = true ∧ hasF f d = true)) : cornStep f a b d L = L := by
  unfold cornStep isCorn
  rw [if_neg]
  simp only [Bool.and_eq_true]
  intro q
  exact h ⟨q.1, q.2.1, q.2.2.1⟩
theorem cornD_lo (f : Cv) (a b : Nat) (L : List Pt) : ∀ n, n ≤ b + 1 → cornD f a b L n = L
  | 0, _ => rfl
  | n + 1, h => by unfold cornD; rw [if_neg (by omega)]; exact cornD_lo f a b L n (by omega)
theorem cornB_lo (f : Cv) (N a : Nat) (L : List Pt) : ∀ n, n ≤ a + 1 → cornB f N a L n = L
  | 0, _ => rfl
  | n + 1, h => by unfold cornB; rw [if_neg (by omega)]; exact cornB_lo f N a L n (by omega)
theorem hasF_no {f : Cv} {p : Nat} (hf : Cok 999 f) (h : 21 ≤ p) : ¬ hasF f p = true := by
  intro q
  have := (hf p _ (hasF_some q)).1
  omega
theorem cornD_hi {f : Cv} (hf : Cok 999 f) (a b : Nat) (L : List Pt) : ∀ n, cornD f a b L (21 + n) = cornD f a b L 21
  | 0 => rfl
  | n + 1 => by
    show (if b < 21 + n then cornStep f a b (21 + n) (cornD f a b L (21 + n)) else cornD f a b L (21 + n)) = _
    rw [cornD_hi hf a b L n]
    split
    · exact cornStep_no fun q => hasF_no hf (by omega) q.2.2
    · rfl
theorem cornD_id {f : Cv} {a b : Nat} {L : List Pt} (h : ¬ (hasF f a = true ∧ hasF f b = true)) : ∀ n, cornD f a b L n = L
  | 0 => rfl
  | n + 1 => by
    unfold cornD
    rw [cornD_id h n]
    split
    · exact cornStep_no fun q => h ⟨q.1, q.2.1⟩
    · rfl
theorem cornB_25 {f : Cv} (hf : Cok 999 f) (a : Nat) (L : List Pt) : ∀ n, cornB f 25 a L n = cornB f 21 a L n
  | 0 => rfl
  | n + 1 => by
    unfold cornB
    rw [cornB_25 hf a L n, cornD_hi hf a n _ 4]
theorem cornB_hi {f : Cv} (hf : Cok 999 f) (N a : Nat) (L : List Pt) : ∀ n, cornB f N a L (21 + n) = cornB f N a L 21
  | 0 => rfl
  | n + 1 => by
    show (if a < 21 + n then cornD f a (21 + n) (cornB f N a L (21 + n)) N else cornB f N a L (21 + n)) = _
    rw [cornB_hi hf N a L n]
    split
    · exact cornD_id (fun q => hasF_no hf (by omega) q.2) N
    · rfl
theorem cornB_id {f : Cv} {N a : Nat} {L : List Pt} (h : ¬ hasF f a = true) : ∀ n, cornB f N a L n = L
  | 0 => rfl
  | n + 1 => by
    unfold cornB
    rw [cornB_id h n]
    split
    · exact cornD_id (fun q => h q.1) N
    · rfl
theorem cornA_25 {f : Cv} (hf : Cok 999 f) : ∀ n, cornA f 25 n = cornA f 21 n
  | 0 => rfl
  | n + 1 => by
    unfold cornA
    rw [cornA_25 hf n, cornB_25 hf, cornB_hi hf 21 n _ 4]
theorem cornF_25 {f : Cv} (hf : Cok 999 f) : cornA f 25 25 = cornF f := by
  rw [cornA_25 hf]
  show cornB f 21 24 (cornB f 21 23 (cornB f 21 22 (cornB f 21 21 (cornA f 21 21) 21) 21) 21) 21 = _
  rw [cornB_id (hasF_no hf (by decide)), cornB_id (hasF_no hf (by decide)), cornB_id (hasF_no hf (by decide)), cornB_id (hasF_no hf (by decide))]
  rfl
theorem e_hasX {t k : Nat} {f : Cv} {M : mM} (ht : isT t) (hc : cur t f M) (hf : Cok 999 f) (hk : k < 1000) : E 2 30 [vR t, vI k] M (some (vI (if hasF f k = true then 1 else 0))) M := by
  by_cases h : hasF f k = true
  · rw [if_pos h]; exact e_has1 ht hc (by decide) hf (hasF_some h)
  · rw [if_neg h]
    have : f k = none := by
      cases e : f k with
      | none => rfl
      | some c => exact absurd (by unfold hasF; rw [e]; rfl) h
    exact e_has0 ht hc hk this
def CoQ (s : Nat) (f : Cv) (M : mM) : mP := fun r M1 => r = none ∧ PtR (s + 1) (cornF f) M1 ∧ ∀ c, (c < s + 1 ∨ s + 1 + 5 < c) → M1 c = M c
theorem e_findCorners {s t : Nat} {f : Cv} {M : mM} (hs : isS s t) (hc : cur t f M) (hf : Cok 999 f) : EQ 5 69 [vR s] M (CoQ s f M) := by
  have hss := hs
  obtain ⟨⟨k0, k1, k2, k3, k4, k5⟩, -, ht, hp, hts, -⟩ := hs
  have ht0 := ht.1
  have hp0 : cKB[s + 1]? = some (0, 5) := hp.1.1
  have hcN : ∀ N : mM, (∀ c, (c < s + 1 ∨ s + 1 + 5 < c) → N c = M c) → cur t f N := fun N h => cur_fr hc (fun k => by rw [h (t + 1) (by omega)])
  refine q_in (ls := [vR s, vN, vN, vN]) mq_69 (ml_69 rfl) rfl fun D hD => ?_
  have loopD : ∀ (a b : Nat) (acc : List Pt), a < 21 → b < 21 → (∀ N : mM, PtR (s + 1) (cornD f a b acc 21) N → (∀ c, (c < s + 1 ∨ s + 1 + 5 < c) → N c = M c) → Wp mc_69 D 81 [vR s, vI a, vI b, vI (21 : Nat)] [] N (CoQ s f M)) → ∀ (m n : Nat) (N : mM), 21 - n = m → b < n → n ≤ 21 → PtR (s + 1) (cornD f a b acc n) N → (∀ c, (c < s + 1 ∨ s + 1 + 5 < c) → N c = M c) → Wp mc_69 D 29 [vR s, vI a, vI b, vI n] [] N (CoQ s f M) := by
    intro a b acc ha hb hout m
    induction m with
    | zero =>
      intro n N hm hbn hn hP hF
      obtain rfl : n = 21 := by omega
      have hgo := hout N hP hF
      refine w_iload rfl rfl (w_iconst rfl ?_)
      refine w_icmp_ge (tgt := 81) rfl (by first | assumption | exact i32_0 | (unfold i32 at *; omega)) (by first | assumption | exact i32_0 | (unfold i32 at *; omega)) rfl (fun c32 => ?_) (fun c32 => ?_)
      · skip
        exact hgo
      · skip
        exfalso; omega
    | succ m ih =>
      intro n N hm hbn hn hP hF
      have hcn := hcN N hF
      have hD1 : cornD f a b acc (n + 1) = cornStep f a b n (cornD f a b acc n) := if_pos hbn
      have ihn := fun N2 => ih (n + 1) N2 (by omega) (by omega) (by omega)
      rw [hD1] at ihn
      have xa := e_hasX ht hcn hf (k := a) (by omega)
      have xb := e_hasX ht hcn hf (k := b) (by omega)
      have xc := e_hasX ht hcn hf (k := n) (by omega)
      by_cases qa : hasF f a = true
      · rw [if_pos qa] at xa
        by_cases qb : hasF f b = true
        · rw [if_pos qb] at xb
          by_cases qn : hasF f n = true
          · rw [if_pos qn] at xc
            have ht4 := e_tryCorner hss hcn hf hP qa qb qn
            refine w_iload rfl rfl (w_iconst rfl ?_)
            refine w_icmp_ge (tgt := 81) rfl (by first | assumption | exact i32_0 | (unfold i32 at *; omega)) (by first | assumption | exact i32_0 | (unfold i32 at *; omega)) rfl (fun c32 => ?_) (fun c32 => ?_)
            · skip
              exfalso; omega
            · skip
              refine w_aload rfl rfl (w_getR rfl (by first | rfl | assumption) rfl (by first | rfl | assumption) (w_iload rfl rfl ?_))
              refine w_call (Or.inr rfl) ((xa)) (by omega) nof_30 rfl rfl rfl rfl (by first | rfl | (show cKB[_]? = _; assumption)) rfl ?_
              refine w_if_eq (tgt := 75) rfl (by first | assumption | exact i32_0 | (unfold i32 at *; omega)) rfl (fun c => absurd c (by decide)) (fun _ => ?_)
              refine w_aload rfl rfl (w_getR rfl (by first | rfl | assumption) rfl (by first | rfl | assumption) (w_iload rfl rfl ?_))
              refine w_call (Or.inr rfl) ((xb)) (by omega) nof_30 rfl rfl rfl rfl (by first | rfl | (show cKB[_]? = _; assumption)) rfl ?_
              refine w_if_eq (tgt := 75) rfl (by first | assumption | exact i32_0 | (unfold i32 at *; omega)) rfl (fun c => absurd c (by decide)) (fun _ => ?_)
              refine w_aload rfl rfl (w_getR rfl (by first | rfl | assumption) rfl (by first | rfl | assumption) (w_iload rfl rfl ?_))
              refine w_call (Or.inr rfl) ((xc)) (by omega) nof_30 rfl rfl rfl rfl (by first | rfl | (show cKB[_]? = _; assumption)) rfl ?_
              refine w_if_eq (tgt := 75) rfl (by first | assumption | exact i32_0 | (unfold i32 at *; omega)) rfl (fun c => absurd c (by decide)) (fun _ => ?_)
              refine w_aload rfl rfl (w_iload rfl rfl (w_iload rfl rfl (w_iload rfl rfl ?_)))
              refine w_callQ (Or.inr rfl) (ht4) (by omega) nof_71 rfl rfl rfl rfl (by first | rfl | (show cKB[_]? = _; assumption)) (fun r72 M72 hq72 => ?_)
              obtain ⟨rfl, w1, w2⟩ := hq72
              refine w_iinc (ls2 := [_, _, _, _]) rfl rfl rfl (w_goto (tgt := 29) rfl rfl ?_)
              exact ihn _ w1 (fun c hc => (w2 c hc).trans (hF c hc))
          · rw [if_neg qn] at xc
            rw [cornStep_no (fun q => qn q.2.2)] at ihn
            have hgo := ihn N hP hF
            refine w_iload rfl rfl (w_iconst rfl ?_)
            refine w_icmp_ge (tgt := 81) rfl (by first | assumption | exact i32_0 | (unfold i32 at *; omega)) (by first | assumption | exact i32_0 | (unfold i32 at *; omega)) rfl (fun c32 => ?_) (fun c32 => ?_)
            · skip
              exfalso; omega
            · skip
              refine w_aload rfl rfl (w_getR rfl (by first | rfl | assumption) rfl (by first | rfl | assumption) (w_iload rfl rfl ?_))
              refine w_call (Or.inr rfl) ((xa)) (by omega) nof_30 rfl rfl rfl rfl (by first | rfl | (show cKB[_]? = _; assumption)) rfl ?_
              refine w_if_eq (tgt := 75) rfl (by first | assumption | exact i32_0 | (unfold i32 at *; omega)) rfl (fun c => absurd c (by decide)) (fun _ => ?_)
              refine w_aload rfl rfl (w_getR rfl (by first | rfl | assumption) rfl (by first | rfl | assumption) (w_iload rfl rfl ?_))
              refine w_call (Or.inr rfl) ((xb)) (by omega) nof_30 rfl rfl rfl rfl (by first | rfl | (show cKB[_]? = _; assumption)) rfl ?_
              refine w_if_eq (tgt := 75) rfl (by first | assumption | exact i32_0 | (unfold i32 at *; omega)) rfl (fun c => absurd c (by decide)) (fun _ => ?_)
              refine w_aload rfl rfl (w_getR rfl (by first | rfl | assumption) rfl (by first | rfl | assumption) (w_iload rfl rfl ?_))
              refine w_call (Or.inr rfl) ((xc)) (by omega) nof_30 rfl rfl rfl rfl (by first | rfl | (show cKB[_]? = _; assumption)) rfl ?_
              refine w_if_eq (tgt := 75) rfl (by first | assumption | exact i32_0 | (unfold i32 at *; omega)) rfl (fun _ => ?_) (fun c => absurd c (by decide))
              refine w_iinc (ls2 := [_, _, _, _]) rfl rfl rfl (w_goto (tgt := 29) rfl rfl ?_)
              exact hgo
        · rw [if_neg qb] at xb
          rw [cornStep_no (fun q => qb q.2.1)] at ihn
          have hgo := ihn N hP hF
          refine w_iload rfl rfl (w_iconst rfl ?_)
          refine w_icmp_ge (tgt := 81) rfl (by first | assumption | exact i32_0 | (unfold i32 at *; omega)) (by first | assumption | exact i32_0 | (unfold i32 at *; omega)) rfl (fun c32 => ?_) (fun c32 => ?_)
          · skip
            exfalso; omega
          · skip
            refine w_aload rfl rfl (w_getR rfl (by first | rfl | assumption) rfl (by first | rfl | assumption) (w_iload rfl rfl ?_))
            refine w_call (Or.inr rfl) ((xa)) (by omega) nof_30 rfl rfl rfl rfl (by first | rfl | (show cKB[_]? = _; assumption)) rfl ?_
            refine w_if_eq (tgt := 75) rfl (by first | assumption | exact i32_0 | (unfold i32 at *; omega)) rfl (fun c => absurd c (by decide)) (fun _ => ?_)
            refine w_aload rfl rfl (w_getR rfl (by first | rfl | assumption) rfl (by first | rfl | assumption) (w_iload rfl rfl ?_))
            refine w_call (Or.inr rfl) ((xb)) (by omega) nof_30 rfl rfl rfl rfl (by first | rfl | (show cKB[_]? = _; assumption)) rfl ?_
            refine w_if_eq (tgt := 75) rfl (by first | assumption | exact i32_0 | (unfold i32 at *; omega)) rfl (fun _ => ?_) (fun c => absurd c (by decide))
            refine w_iinc (ls2 := [_, _, _, _]) rfl rfl rfl (w_goto (tgt := 29) rfl rfl ?_)
            exact hgo
      · rw [if_neg qa] at xa
        rw [cornStep_no (fun q => qa q.1)] at ihn
        have hgo := ihn N hP hF
        refine w_iload rfl rfl (w_iconst rfl ?_)
        refine w_icmp_ge (tgt := 81) rfl (by first | assumption | exact i32_0 | (unfold i32 at *; omega)) (by first | assumption | exact i32_0 | (unfold i32 at *; omega)) rfl (fun c32 => ?_) (fun c32 => ?_)
        · skip
          exfalso; omega
        · skip
          refine w_aload rfl rfl (w_getR rfl (by first | rfl | assumption) rfl (by first | rfl | assumption) (w_iload rfl rfl ?_))
          refine w_call (Or.inr rfl) ((xa)) (by omega) nof_30 rfl rfl rfl rfl (by first | rfl | (show cKB[_]? = _; assumption)) rfl ?_
          refine w_if_eq (tgt := 75) rfl (by first | assumption | exact i32_0 | (unfold i32 at *; omega)) rfl (fun _ => ?_) (fun c => absurd c (by decide))
          refine w_iinc (ls2 := [_, _, _, _]) rfl rfl rfl (w_goto (tgt := 29) rfl rfl ?_)
          exact hgo
  have loopB : ∀ (a : Nat) (acc : List Pt), a < 21 → (∀ (N : mM) (v : mV), PtR (s + 1) (cornB f 21 a acc 21) N → (∀ c, (c < s + 1 ∨ s + 1 + 5 < c) → N c = M c) → Wp mc_69 D 87 [vR s, vI a, vI (21 : Nat), v] [] N (CoQ s f M)) → ∀ (m n : Nat) (N : mM) (v : mV), 21 - n = m → a < n → n ≤ 21 → PtR (s + 1) (cornB f 21 a acc n) N → (∀ c, (c < s + 1 ∨ s + 1 + 5 < c) → N c = M c) → Wp mc_69 D 19 [vR s, vI a, vI n, v] [] N (CoQ s f M) := by
    intro a acc ha hout m
    induction m with
    | zero =>
      intro n N v hm hbn hn hP hF
      obtain rfl : n = 21 := by omega
      have hgo := hout N v hP hF
      refine w_iload rfl rfl (w_iconst rfl ?_)
      refine w_icmp_ge (tgt := 87) rfl (by first | assumption | exact i32_0 | (unfold i32 at *; omega)) (by first | assumption | exact i32_0 | (unfold i32 at *; omega)) rfl (fun c22 => ?_) (fun c22 => ?_)
      · skip
        exact hgo
      · skip
        exfalso; omega
    | succ m ih =>
      intro n N v hm hbn hn hP hF
      have hD1 : cornB f 21 a acc (n + 1) = cornD f a n (cornB f 21 a acc n) 21 := if_pos hbn
      have ihn := fun N2 v => ih (n + 1) N2 v (by omega) (by omega) (by omega)
      rw [hD1] at ihn
      have hgo := loopD a n (cornB f 21 a acc n) ha (by omega) (fun N2 w1 w2 => by
        have hgo := ihn N2 (vI (21 : Nat)) w1 w2
        refine w_iinc (ls2 := [_, _, _, _]) rfl rfl rfl (w_goto (tgt := 19) rfl rfl ?_)
        exact hgo) (21 - (n + 1)) (n + 1) N rfl (by omega) (by omega) (by rw [cornD_lo f a n _ (n + 1) (by omega)]; exact hP) hF
      refine w_iload rfl rfl (w_iconst rfl ?_)
      refine w_icmp_ge (tgt := 87) rfl (by first | assumption | exact i32_0 | (unfold i32 at *; omega)) (by first | assumption | exact i32_0 | (unfold i32 at *; omega)) rfl (fun c22 => ?_) (fun c22 => ?_)
      · skip
        exfalso; omega
      · skip
        refine w_iload rfl rfl (w_iconst rfl (w_iadd rfl (w_istore (ls2 := [_, _, _, _]) rfl rfl rfl ?_)))
        exact hgo
  have loopA : ∀ (m n : Nat) (N : mM) (v w : mV), 21 - n = m → n ≤ 21 → PtR (s + 1) (cornA f 21 n) N → (∀ c, (c < s + 1 ∨ s + 1 + 5 < c) → N c = M c) → Wp mc_69 D 9 [vR s, vI n, v, w] [] N (CoQ s f M) := by
    intro m
    induction m with
    | zero =>
      intro n N v w hm hn hP hF
      obtain rfl : n = 21 := by omega
      refine w_iload rfl rfl (w_iconst rfl ?_)
      refine w_icmp_ge (tgt := 93) rfl (by first | assumption | exact i32_0 | (unfold i32 at *; omega)) (by first | assumption | exact i32_0 | (unfold i32 at *; omega)) rfl (fun c12 => ?_) (fun c12 => ?_)
      · skip
        exact w_return rfl ⟨rfl, by exact ⟨hP, hF⟩⟩
      · skip
        exfalso; omega
    | succ m ih =>
      intro n N v w hm hn hP hF
      have ihn := fun N2 v w => ih (n + 1) N2 v w (by omega) (by omega)
      have hgo := fun w => loopB n (cornA f 21 n) (by omega) (fun N2 v w1 w2 => by
        have hgo := ihn N2 (vI (21 : Nat)) v w1 w2
        refine w_iinc (ls2 := [_, _, _, _]) rfl rfl rfl (w_goto (tgt := 9) rfl rfl ?_)
        exact hgo) (21 - (n + 1)) (n + 1) N w rfl (by omega) (by omega) (by rw [cornB_lo f 21 n _ (n + 1) (by omega)]; exact hP) hF
      refine w_iload rfl rfl (w_iconst rfl ?_)
      refine w_icmp_ge (tgt := 93) rfl (by first | assumption | exact i32_0 | (unfold i32 at *; omega)) (by first | assumption | exact i32_0 | (unfold i32 at *; omega)) rfl (fun c12 => ?_) (fun c12 => ?_)
      · skip
        exfalso; omega
      · skip
        refine w_iload rfl rfl (w_iconst rfl (w_iadd rfl (w_istore (ls2 := [_, _, _, _]) rfl rfl rfl ?_)))
        exact hgo _
  have hgo := loopA 21 0 (upI M (s + 1) 5 0) vN vN rfl (by omega) (PtR_nil (upI_same _ _ _ _)) (fun c hc => upI_ne _ _ _ _ (by omega))
  refine w_aload rfl rfl (w_getR rfl (by first | rfl | assumption) rfl (by first | rfl | assumption) ?_)
  refine w_call (Or.inr rfl) ((e_pclear hp)) (by omega) nof_70 rfl rfl rfl rfl (by first | rfl | (show cKB[_]? = _; assumption)) rfl ?_
  refine w_iconst rfl (w_istore (ls2 := [_, _, _, _]) rfl rfl rfl ?_)
  exact hgo
