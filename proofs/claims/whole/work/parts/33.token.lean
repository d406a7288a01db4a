/-! ===== the tokens ===== -/
/-- of a text that begins with no blank: the first token's kind and length -/
def tKind (s : List Int) : Int := match s with | [] => 257 | c :: _ => if dig c then 256 else c
def tLen (s : List Int) : Nat := match s with | [] => 0 | c :: t => if dig c then (dgs (c :: t)).length else 1
theorem dgs_len (l : List Int) : (dgs l).length ≤ l.length := by
  induction l with
  | nil => exact Nat.le_refl _
  | cons c l ih => unfold dgs; split
                   · simp; omega
                   · exact Nat.zero_le _
theorem tLen_le (s : List Int) : tLen s ≤ s.length := by
  cases s with
  | nil => exact Nat.le_refl _
  | cons c l =>
    show (if dig c = true then (dgs (c :: l)).length else 1) ≤ _
    split
    · exact dgs_len _
    · exact Nat.succ_le_succ (Nat.zero_le _)
/-- the text's token fields after a token was found with s ahead of it -/
def TkR (b s : List Int) (M : mM) : Prop := M 1 2 = ((b.length - s.length + tLen s : Nat) : Int) ∧ M 1 3 = tKind s ∧ M 1 4 = ((b.length - s.length : Nat) : Int) ∧ M 1 5 = ((dgs s).length : Int) ∧ M 1 6 = num3 (dgs s)
theorem e_next {b : List Int} {p : Nat} {M : mM} (h : TxR b M) (hp : M 1 2 = (p : Int)) (hpl : p ≤ b.length) : EQ 3 19 [vR 1] M (fun r M1 => r = none ∧ TkR b (skp (b.drop p)) M1 ∧ ∀ a k, (a ≠ 1 ∨ k < 2) → M1 a k = M a k) := by
  obtain ⟨h1, h2, h3⟩ := h
  refine q_in (ls := [vR 1]) mq_19 (ml_19 rfl) rfl fun D hD => ?_
  have loop : ∀ (l : List Int) (q : Nat) (N : mM), b.drop q = l → q ≤ b.length → N 1 2 = (q : Int) → skp (b.drop p) = skp l → (∀ a k, (a ≠ 1 ∨ k ≠ 2) → N a k = M a k) → Wp mc_19 D 0 [vR 1] [] N (fun r M1 => r = none ∧ TkR b (skp (b.drop p)) M1 ∧ ∀ a k, (a ≠ 1 ∨ k < 2) → M1 a k = M a k) := by
    intro l
    induction l with
    | nil =>
      intro q N hl hq e2 hs hf
      have hq2 : q = b.length := by
        have := congrArg List.length hl
        rw [List.length_drop] at this
        simp at this; omega
      subst hq2
      have e1 : N 1 1 = (b.length : Int) := by rw [hf 1 1 (by omega)]; exact h1
      rw [hs]
      have hfin : TkR b (skp []) (upI (upI (upI (upI N 1 4 b.length) 1 5 0) 1 6 0) 1 3 257) ∧ ∀ a k, (a ≠ 1 ∨ k < 2) → upI (upI (upI (upI N 1 4 b.length) 1 5 0) 1 6 0) 1 3 257 a k = M a k := by
        refine ⟨⟨?_, ?_, ?_, ?_, ?_⟩, fun a k ha => ?_⟩
        · unfold upI; rw [if_neg (fun q => by omega), if_neg (fun q => by omega), if_neg (fun q => by omega), if_neg (fun q => by omega)]; exact e2
        · exact upI_same _ _ _ _
        · unfold upI; rw [if_neg (fun q => by omega), if_neg (fun q => by omega), if_neg (fun q => by omega), if_pos ⟨rfl, rfl⟩]; rfl
        · unfold upI; rw [if_neg (fun q => by omega), if_neg (fun q => by omega), if_pos ⟨rfl, rfl⟩]; rfl
        · unfold upI; rw [if_neg (fun q => by omega), if_pos ⟨rfl, rfl⟩]; rfl
        · unfold upI; rw [if_neg (fun q => by omega), if_neg (fun q => by omega), if_neg (fun q => by omega), if_neg (fun q => by omega)]; exact hf a k (by omega)
      have g2 : upI (upI (upI N 1 4 b.length) 1 5 0) 1 6 0 1 2 = (b.length : Int) := by unfold upI; rw [if_neg (fun q => by omega), if_neg (fun q => by omega), if_neg (fun q => by omega)]; exact e2
      have g1 : upI (upI (upI N 1 4 b.length) 1 5 0) 1 6 0 1 1 = (b.length : Int) := by unfold upI; rw [if_neg (fun q => by omega), if_neg (fun q => by omega), if_neg (fun q => by omega)]; exact e1
      refine w_aload rfl rfl (w_getIV rfl (by first | rfl | assumption) (by first | exact Or.inl rfl | exact Or.inr rfl) (e2) (w_aload rfl rfl (w_getIV rfl (by first | rfl | assumption) (by first | exact Or.inl rfl | exact Or.inr rfl) (e1) ?_)))
      refine w_icmp_ge (tgt := 50) rfl (by first | assumption | exact i32_0 | (unfold i32 at *; omega)) (by first | assumption | exact i32_0 | (unfold i32 at *; omega)) rfl (fun c8 => ?_) (fun c8 => ?_)
      · skip
        refine w_aload rfl rfl (w_aload rfl rfl (w_getIV rfl (by first | rfl | assumption) (by first | exact Or.inl rfl | exact Or.inr rfl) (e2) (w_putI rfl (by first | rfl | assumption) rfl (w_aload rfl rfl (w_iconst rfl (w_putI rfl (by first | rfl | assumption) rfl (w_aload rfl rfl ?_)))))))
        refine w_iconst rfl (w_putI rfl (by first | rfl | assumption) rfl (w_aload rfl rfl (w_getIV rfl (by first | rfl | assumption) (by first | exact Or.inl rfl | exact Or.inr rfl) (g2) (w_aload rfl rfl (w_getIV rfl (by first | rfl | assumption) (by first | exact Or.inl rfl | exact Or.inr rfl) (g1) ?_)))))
        refine w_icmp_ge (tgt := 91) rfl (by first | assumption | exact i32_0 | (unfold i32 at *; omega)) (by first | assumption | exact i32_0 | (unfold i32 at *; omega)) rfl (fun c76 => ?_) (fun c76 => ?_)
        · skip
          refine w_aload rfl rfl (w_iconst rfl (w_putI rfl (by first | rfl | assumption) rfl (w_goto (tgt := 153) rfl rfl ?_)))
          exact w_return rfl ⟨rfl, by exact hfin⟩
        · skip
          exfalso; omega
      · skip
        exfalso; omega
    | cons c l ih =>
      intro q N hl hq e2 hs hf
      obtain ⟨g1, g2, g3⟩ := drop_cons hl
      obtain ⟨g4, g5⟩ := h3 q c g2
      have e1 : N 1 1 = (b.length : Int) := by rw [hf 1 1 (by omega)]; exact h1
      have e4 : N 2 q = c := by rw [hf 2 q (by omega)]; exact g4
      by_cases hc : c = 32
      · have hsk : skp (c :: l) = skp l := if_pos hc
        have ih2 := ih (q + 1) (upI N 1 2 ((q : Int) + 1)) g3 g1 (upI_same _ _ _ _) (hs.trans hsk) (fun a k ha => (if_neg (fun q => by omega)).trans (hf a k ha))
        refine w_aload rfl rfl (w_getIV rfl (by first | rfl | assumption) (by first | exact Or.inl rfl | exact Or.inr rfl) (e2) (w_aload rfl rfl (w_getIV rfl (by first | rfl | assumption) (by first | exact Or.inl rfl | exact Or.inr rfl) (e1) ?_)))
        refine w_icmp_ge (tgt := 50) rfl (by first | assumption | exact i32_0 | (unfold i32 at *; omega)) (by first | assumption | exact i32_0 | (unfold i32 at *; omega)) rfl (fun c8 => ?_) (fun c8 => ?_)
        · skip
          exfalso; omega
        · skip
          refine w_aload rfl rfl (w_getIV rfl (by first | rfl | assumption) (by first | exact Or.inl rfl | exact Or.inr rfl) (e2) (w_aload rfl rfl (w_getR rfl (by first | rfl | assumption) rfl (by first | rfl | assumption) (w_alen rfl (by first | rfl | assumption) (by decide) (by decide) ?_))))
          refine w_icmp_ge (tgt := 50) rfl (by first | assumption | exact i32_0 | (unfold i32 at *; omega)) (by first | assumption | exact i32_0 | (unfold i32 at *; omega)) rfl (fun c20 => ?_) (fun c20 => ?_)
          · skip
            exfalso; omega
          · skip
            refine w_aload rfl rfl (w_getR rfl (by first | rfl | assumption) rfl (by first | rfl | assumption) (w_aload rfl rfl (w_getIV rfl (by first | rfl | assumption) (by first | exact Or.inl rfl | exact Or.inr rfl) (e2) (w_ialoadV rfl (by first | rfl | assumption) (by omega) (by omega) (e4) (w_iconst rfl ?_)))))
            refine w_icmp_ne (tgt := 50) rfl (by first | assumption | exact i32_0 | (unfold i32 at *; omega)) (by first | assumption | exact i32_0 | (unfold i32 at *; omega)) rfl (fun c34 => ?_) (fun c34 => ?_)
            · skip
              exfalso; omega
            · skip
              refine w_aload rfl rfl (w_dup rfl rfl (w_getIV rfl (by first | rfl | assumption) (by first | exact Or.inl rfl | exact Or.inr rfl) (e2) (w_iconst rfl (w_iadd rfl (w_putI rfl (by first | rfl | assumption) rfl (w_goto (tgt := 0) rfl rfl ?_))))))
              exact ih2
      · have hsk : skp (c :: l) = c :: l := if_neg hc
        rw [hs, hsk]
        have hlen : b.length - (c :: l).length = q := by
          rw [← hl, List.length_drop]; omega
        have hg : ∀ v : Int, ∀ a k, (a ≠ 1 ∨ (k ≠ 4 ∧ k ≠ 5 ∧ k ≠ 6)) → upI (upI (upI N 1 4 q) 1 5 0) 1 6 0 a k = N a k := fun v a k ha => by unfold upI; rw [if_neg (fun q => by omega), if_neg (fun q => by omega), if_neg (fun q => by omega)]
        have k2 : upI (upI (upI N 1 4 q) 1 5 0) 1 6 0 1 2 = (q : Int) := (hg 0 1 2 (by omega)).trans e2
        have k1 : upI (upI (upI N 1 4 q) 1 5 0) 1 6 0 1 1 = (b.length : Int) := (hg 0 1 1 (by omega)).trans e1
        have kb : upI (upI (upI N 1 4 q) 1 5 0) 1 6 0 2 q = c := (hg 0 2 q (by omega)).trans e4
        have k4 : upI (upI (upI N 1 4 q) 1 5 0) 1 6 0 1 4 = (q : Int) := by unfold upI; rw [if_neg (fun q => by omega), if_neg (fun q => by omega), if_pos ⟨rfl, rfl⟩]
        have k5 : upI (upI (upI N 1 4 q) 1 5 0) 1 6 0 1 5 = 0 := by unfold upI; rw [if_neg (fun q => by omega), if_pos ⟨rfl, rfl⟩]
        have k6 : upI (upI (upI N 1 4 q) 1 5 0) 1 6 0 1 6 = 0 := upI_same _ _ _ _
        have kf : ∀ a k, (a ≠ 1 ∨ k < 2) → upI (upI (upI N 1 4 q) 1 5 0) 1 6 0 a k = M a k := fun a k ha => (hg 0 a k (by omega)).trans (hf a k (by omega))
        by_cases hd : dig c = true
        · generalize hN2 : upI (upI (upI N 1 4 q) 1 5 0) 1 6 0 = N2 at k1 k2 kb k4 k5 k6 kf
          have t1 : TxR b (upI N2 1 3 256) := ⟨by rw [show upI N2 1 3 256 1 1 = N2 1 1 from if_neg (fun q => by omega)]; exact k1, h2, fun k d hk => ⟨by rw [show upI N2 1 3 256 2 k = N2 2 k from if_neg (fun q => by omega), kf 2 k (by omega)]; exact (h3 k d hk).1, (h3 k d hk).2⟩⟩
          have t2 : upI N2 1 3 256 1 2 = (q : Int) := (if_neg (fun q => by omega)).trans k2
          have t5 : upI N2 1 3 256 1 5 = 0 := (if_neg (fun q => by omega)).trans k5
          have t6 : upI N2 1 3 256 1 6 = 0 := (if_neg (fun q => by omega)).trans k6
          have hk : tKind (c :: l) = 256 := if_pos hd
          have htl : tLen (c :: l) = (dgs (c :: l)).length := if_pos hd
          have hcall := e_nextDigits t1 t2 t5 t6 hq
          rw [hl] at hcall
          refine w_aload rfl rfl (w_getIV rfl (by first | rfl | assumption) (by first | exact Or.inl rfl | exact Or.inr rfl) (e2) (w_aload rfl rfl (w_getIV rfl (by first | rfl | assumption) (by first | exact Or.inl rfl | exact Or.inr rfl) (e1) ?_)))
          refine w_icmp_ge (tgt := 50) rfl (by first | assumption | exact i32_0 | (unfold i32 at *; omega)) (by first | assumption | exact i32_0 | (unfold i32 at *; omega)) rfl (fun c8 => ?_) (fun c8 => ?_)
          · skip
            refine w_aload rfl rfl (w_aload rfl rfl (w_getIV rfl (by first | rfl | assumption) (by first | exact Or.inl rfl | exact Or.inr rfl) (e2) (w_putI rfl (by first | rfl | assumption) rfl (w_aload rfl rfl (w_iconst rfl (w_putI rfl (by first | rfl | assumption) rfl (w_aload rfl rfl ?_)))))))
            refine w_iconst rfl (w_putI rfl (by first | rfl | assumption) rfl ?_)
            rw [hN2]
            refine w_aload rfl rfl (w_getIV rfl (by first | rfl | assumption) (by first | exact Or.inl rfl | exact Or.inr rfl) (k2) (w_aload rfl rfl (w_getIV rfl (by first | rfl | assumption) (by first | exact Or.inl rfl | exact Or.inr rfl) (k1) ?_)))
            refine w_icmp_ge (tgt := 91) rfl (by first | assumption | exact i32_0 | (unfold i32 at *; omega)) (by first | assumption | exact i32_0 | (unfold i32 at *; omega)) rfl (fun c76 => ?_) (fun c76 => ?_)
            · skip
              exfalso; omega
            · skip
              refine w_aload rfl rfl (w_getIV rfl (by first | rfl | assumption) (by first | exact Or.inl rfl | exact Or.inr rfl) (k2) (w_aload rfl rfl (w_getR rfl (by first | rfl | assumption) rfl (by first | rfl | assumption) (w_alen rfl (by first | rfl | assumption) (by decide) (by decide) ?_))))
              refine w_icmp_lt (tgt := 101) rfl (by first | assumption | exact i32_0 | (unfold i32 at *; omega)) (by first | assumption | exact i32_0 | (unfold i32 at *; omega)) rfl (fun c88 => ?_) (fun c88 => ?_)
              · skip
                refine w_aload rfl rfl (w_getR rfl (by first | rfl | assumption) rfl (by first | rfl | assumption) (w_aload rfl rfl (w_getIV rfl (by first | rfl | assumption) (by first | exact Or.inl rfl | exact Or.inr rfl) (k2) (w_ialoadV rfl (by first | rfl | assumption) (by omega) (by omega) (kb) ?_))))
                refine w_call (Or.inl rfl) (e_isDig1 c _ g5 hd) (by omega) nof_20 rfl rfl rfl rfl trivial rfl ?_
                refine w_if_eq (tgt := 130) rfl (by first | assumption | exact i32_0 | (unfold i32 at *; omega)) rfl (fun c => absurd c (by decide)) (fun _ => ?_)
                refine w_aload rfl rfl (w_iconst rfl (w_putI rfl (by first | rfl | assumption) rfl (w_aload rfl rfl ?_)))
                refine w_callQ (Or.inr rfl) (hcall) (by omega) nof_21 rfl rfl rfl rfl (by first | rfl | (show cKB[_]? = _; assumption)) (fun r124 M124 hq124 => ?_)
                obtain ⟨rfl, w2, w5, w6, wf⟩ := hq124
                refine w_goto (tgt := 153) rfl rfl ?_
                exact w_return rfl ⟨rfl, by exact ⟨⟨by rw [hlen, htl]; exact w2, by rw [hk, wf 1 3 (by omega)]; exact upI_same _ _ _ _, by rw [hlen, wf 1 4 (by omega)]; exact (if_neg (fun q => by omega)).trans k4, w5, w6⟩, fun a k ha => (wf a k (by omega)).trans ((if_neg (fun q => by omega)).trans (kf a k ha))⟩⟩
              · skip
                exfalso; omega
          · skip
            refine w_aload rfl rfl (w_getIV rfl (by first | rfl | assumption) (by first | exact Or.inl rfl | exact Or.inr rfl) (e2) (w_aload rfl rfl (w_getR rfl (by first | rfl | assumption) rfl (by first | rfl | assumption) (w_alen rfl (by first | rfl | assumption) (by decide) (by decide) ?_))))
            refine w_icmp_ge (tgt := 50) rfl (by first | assumption | exact i32_0 | (unfold i32 at *; omega)) (by first | assumption | exact i32_0 | (unfold i32 at *; omega)) rfl (fun c20 => ?_) (fun c20 => ?_)
            · skip
              refine w_aload rfl rfl (w_aload rfl rfl (w_getIV rfl (by first | rfl | assumption) (by first | exact Or.inl rfl | exact Or.inr rfl) (e2) (w_putI rfl (by first | rfl | assumption) rfl (w_aload rfl rfl (w_iconst rfl (w_putI rfl (by first | rfl | assumption) rfl (w_aload rfl rfl ?_)))))))
              refine w_iconst rfl (w_putI rfl (by first | rfl | assumption) rfl ?_)
              rw [hN2]
              refine w_aload rfl rfl (w_getIV rfl (by first | rfl | assumption) (by first | exact Or.inl rfl | exact Or.inr rfl) (k2) (w_aload rfl rfl (w_getIV rfl (by first | rfl | assumption) (by first | exact Or.inl rfl | exact Or.inr rfl) (k1) ?_)))
              refine w_icmp_ge (tgt := 91) rfl (by first | assumption | exact i32_0 | (unfold i32 at *; omega)) (by first | assumption | exact i32_0 | (unfold i32 at *; omega)) rfl (fun c76 => ?_) (fun c76 => ?_)
              · skip
                exfalso; omega
              · skip
                refine w_aload rfl rfl (w_getIV rfl (by first | rfl | assumption) (by first | exact Or.inl rfl | exact Or.inr rfl) (k2) (w_aload rfl rfl (w_getR rfl (by first | rfl | assumption) rfl (by first | rfl | assumption) (w_alen rfl (by first | rfl | assumption) (by decide) (by decide) ?_))))
                refine w_icmp_lt (tgt := 101) rfl (by first | assumption | exact i32_0 | (unfold i32 at *; omega)) (by first | assumption | exact i32_0 | (unfold i32 at *; omega)) rfl (fun c88 => ?_) (fun c88 => ?_)
                · skip
                  refine w_aload rfl rfl (w_getR rfl (by first | rfl | assumption) rfl (by first | rfl | assumption) (w_aload rfl rfl (w_getIV rfl (by first | rfl | assumption) (by first | exact Or.inl rfl | exact Or.inr rfl) (k2) (w_ialoadV rfl (by first | rfl | assumption) (by omega) (by omega) (kb) ?_))))
                  refine w_call (Or.inl rfl) (e_isDig1 c _ g5 hd) (by omega) nof_20 rfl rfl rfl rfl trivial rfl ?_
                  refine w_if_eq (tgt := 130) rfl (by first | assumption | exact i32_0 | (unfold i32 at *; omega)) rfl (fun c => absurd c (by decide)) (fun _ => ?_)
                  refine w_aload rfl rfl (w_iconst rfl (w_putI rfl (by first | rfl | assumption) rfl (w_aload rfl rfl ?_)))
                  refine w_callQ (Or.inr rfl) (hcall) (by omega) nof_21 rfl rfl rfl rfl (by first | rfl | (show cKB[_]? = _; assumption)) (fun r124 M124 hq124 => ?_)
                  obtain ⟨rfl, w2, w5, w6, wf⟩ := hq124
                  refine w_goto (tgt := 153) rfl rfl ?_
                  exact w_return rfl ⟨rfl, by exact ⟨⟨by rw [hlen, htl]; exact w2, by rw [hk, wf 1 3 (by omega)]; exact upI_same _ _ _ _, by rw [hlen, wf 1 4 (by omega)]; exact (if_neg (fun q => by omega)).trans k4, w5, w6⟩, fun a k ha => (wf a k (by omega)).trans ((if_neg (fun q => by omega)).trans (kf a k ha))⟩⟩
                · skip
                  exfalso; omega
            · skip
              refine w_aload rfl rfl (w_getR rfl (by first | rfl | assumption) rfl (by first | rfl | assumption) (w_aload rfl rfl (w_getIV rfl (by first | rfl | assumption) (by first | exact Or.inl rfl | exact Or.inr rfl) (e2) (w_ialoadV rfl (by first | rfl | assumption) (by omega) (by omega) (e4) (w_iconst rfl ?_)))))
              refine w_icmp_ne (tgt := 50) rfl (by first | assumption | exact i32_0 | (unfold i32 at *; omega)) (by first | assumption | exact i32_0 | (unfold i32 at *; omega)) rfl (fun c34 => ?_) (fun c34 => ?_)
              · skip
                refine w_aload rfl rfl (w_aload rfl rfl (w_getIV rfl (by first | rfl | assumption) (by first | exact Or.inl rfl | exact Or.inr rfl) (e2) (w_putI rfl (by first | rfl | assumption) rfl (w_aload rfl rfl (w_iconst rfl (w_putI rfl (by first | rfl | assumption) rfl (w_aload rfl rfl ?_)))))))
                refine w_iconst rfl (w_putI rfl (by first | rfl | assumption) rfl ?_)
                rw [hN2]
                refine w_aload rfl rfl (w_getIV rfl (by first | rfl | assumption) (by first | exact Or.inl rfl | exact Or.inr rfl) (k2) (w_aload rfl rfl (w_getIV rfl (by first | rfl | assumption) (by first | exact Or.inl rfl | exact Or.inr rfl) (k1) ?_)))
                refine w_icmp_ge (tgt := 91) rfl (by first | assumption | exact i32_0 | (unfold i32 at *; omega)) (by first | assumption | exact i32_0 | (unfold i32 at *; omega)) rfl (fun c76 => ?_) (fun c76 => ?_)
                · skip
                  exfalso; omega
                · skip
                  refine w_aload rfl rfl (w_getIV rfl (by first | rfl | assumption) (by first | exact Or.inl rfl | exact Or.inr rfl) (k2) (w_aload rfl rfl (w_getR rfl (by first | rfl | assumption) rfl (by first | rfl | assumption) (w_alen rfl (by first | rfl | assumption) (by decide) (by decide) ?_))))
                  refine w_icmp_lt (tgt := 101) rfl (by first | assumption | exact i32_0 | (unfold i32 at *; omega)) (by first | assumption | exact i32_0 | (unfold i32 at *; omega)) rfl (fun c88 => ?_) (fun c88 => ?_)
                  · skip
                    refine w_aload rfl rfl (w_getR rfl (by first | rfl | assumption) rfl (by first | rfl | assumption) (w_aload rfl rfl (w_getIV rfl (by first | rfl | assumption) (by first | exact Or.inl rfl | exact Or.inr rfl) (k2) (w_ialoadV rfl (by first | rfl | assumption) (by omega) (by omega) (kb) ?_))))
                    refine w_call (Or.inl rfl) (e_isDig1 c _ g5 hd) (by omega) nof_20 rfl rfl rfl rfl trivial rfl ?_
                    refine w_if_eq (tgt := 130) rfl (by first | assumption | exact i32_0 | (unfold i32 at *; omega)) rfl (fun c => absurd c (by decide)) (fun _ => ?_)
                    refine w_aload rfl rfl (w_iconst rfl (w_putI rfl (by first | rfl | assumption) rfl (w_aload rfl rfl ?_)))
                    refine w_callQ (Or.inr rfl) (hcall) (by omega) nof_21 rfl rfl rfl rfl (by first | rfl | (show cKB[_]? = _; assumption)) (fun r124 M124 hq124 => ?_)
                    obtain ⟨rfl, w2, w5, w6, wf⟩ := hq124
                    refine w_goto (tgt := 153) rfl rfl ?_
                    exact w_return rfl ⟨rfl, by exact ⟨⟨by rw [hlen, htl]; exact w2, by rw [hk, wf 1 3 (by omega)]; exact upI_same _ _ _ _, by rw [hlen, wf 1 4 (by omega)]; exact (if_neg (fun q => by omega)).trans k4, w5, w6⟩, fun a k ha => (wf a k (by omega)).trans ((if_neg (fun q => by omega)).trans (kf a k ha))⟩⟩
                  · skip
                    exfalso; omega
              · skip
                exfalso; omega
        · generalize hN2 : upI (upI (upI N 1 4 q) 1 5 0) 1 6 0 = N2 at k1 k2 kb k4 k5 k6 kf
          have hk : tKind (c :: l) = c := if_neg hd
          have htl : tLen (c :: l) = 1 := if_neg hd
          have hdg : dgs (c :: l) = [] := if_neg hd
          have t2 : upI N2 1 3 c 1 2 = (q : Int) := (if_neg (fun q => by omega)).trans k2
          have hfin : TkR b (c :: l) (upI (upI N2 1 3 c) 1 2 ((q : Int) + 1)) ∧ ∀ a k, (a ≠ 1 ∨ k < 2) → upI (upI N2 1 3 c) 1 2 ((q : Int) + 1) a k = M a k := by
            refine ⟨⟨?_, ?_, ?_, ?_, ?_⟩, fun a k ha => ?_⟩
            · rw [hlen, htl]; exact upI_same _ _ _ _
            · rw [hk]; exact (if_neg (fun q => by omega)).trans (upI_same _ _ _ _)
            · rw [hlen]; unfold upI; rw [if_neg (fun q => by omega), if_neg (fun q => by omega)]; exact k4
            · rw [hdg]; unfold upI; rw [if_neg (fun q => by omega), if_neg (fun q => by omega)]; exact k5
            · rw [hdg]; unfold upI; rw [if_neg (fun q => by omega), if_neg (fun q => by omega)]; exact k6
            · unfold upI; rw [if_neg (fun q => by omega), if_neg (fun q => by omega)]; exact kf a k ha
          refine w_aload rfl rfl (w_getIV rfl (by first | rfl | assumption) (by first | exact Or.inl rfl | exact Or.inr rfl) (e2) (w_aload rfl rfl (w_getIV rfl (by first | rfl | assumption) (by first | exact Or.inl rfl | exact Or.inr rfl) (e1) ?_)))
          refine w_icmp_ge (tgt := 50) rfl (by first | assumption | exact i32_0 | (unfold i32 at *; omega)) (by first | assumption | exact i32_0 | (unfold i32 at *; omega)) rfl (fun c8 => ?_) (fun c8 => ?_)
          · skip
            refine w_aload rfl rfl (w_aload rfl rfl (w_getIV rfl (by first | rfl | assumption) (by first | exact Or.inl rfl | exact Or.inr rfl) (e2) (w_putI rfl (by first | rfl | assumption) rfl (w_aload rfl rfl (w_iconst rfl (w_putI rfl (by first | rfl | assumption) rfl (w_aload rfl rfl ?_)))))))
            refine w_iconst rfl (w_putI rfl (by first | rfl | assumption) rfl ?_)
            rw [hN2]
            refine w_aload rfl rfl (w_getIV rfl (by first | rfl | assumption) (by first | exact Or.inl rfl | exact Or.inr rfl) (k2) (w_aload rfl rfl (w_getIV rfl (by first | rfl | assumption) (by first | exact Or.inl rfl | exact Or.inr rfl) (k1) ?_)))
            refine w_icmp_ge (tgt := 91) rfl (by first | assumption | exact i32_0 | (unfold i32 at *; omega)) (by first | assumption | exact i32_0 | (unfold i32 at *; omega)) rfl (fun c76 => ?_) (fun c76 => ?_)
            · skip
              exfalso; omega
            · skip
              refine w_aload rfl rfl (w_getIV rfl (by first | rfl | assumption) (by first | exact Or.inl rfl | exact Or.inr rfl) (k2) (w_aload rfl rfl (w_getR rfl (by first | rfl | assumption) rfl (by first | rfl | assumption) (w_alen rfl (by first | rfl | assumption) (by decide) (by decide) ?_))))
              refine w_icmp_lt (tgt := 101) rfl (by first | assumption | exact i32_0 | (unfold i32 at *; omega)) (by first | assumption | exact i32_0 | (unfold i32 at *; omega)) rfl (fun c88 => ?_) (fun c88 => ?_)
              · skip
                refine w_aload rfl rfl (w_getR rfl (by first | rfl | assumption) rfl (by first | rfl | assumption) (w_aload rfl rfl (w_getIV rfl (by first | rfl | assumption) (by first | exact Or.inl rfl | exact Or.inr rfl) (k2) (w_ialoadV rfl (by first | rfl | assumption) (by omega) (by omega) (kb) ?_))))
                refine w_call (Or.inl rfl) (e_isDig0 c _ g5 hd) (by omega) nof_20 rfl rfl rfl rfl trivial rfl ?_
                refine w_if_eq (tgt := 130) rfl (by first | assumption | exact i32_0 | (unfold i32 at *; omega)) rfl (fun _ => ?_) (fun c => absurd c (by decide))
                refine w_aload rfl rfl (w_aload rfl rfl (w_getR rfl (by first | rfl | assumption) rfl (by first | rfl | assumption) (w_aload rfl rfl (w_getIV rfl (by first | rfl | assumption) (by first | exact Or.inl rfl | exact Or.inr rfl) (k2) (w_ialoadV rfl (by first | rfl | assumption) (by omega) (by omega) (kb) (w_putI rfl (by first | rfl | assumption) rfl (w_aload rfl rfl ?_)))))))
                refine w_dup rfl rfl (w_getIV rfl (by first | rfl | assumption) (by first | exact Or.inl rfl | exact Or.inr rfl) (t2) (w_iconst rfl (w_iadd rfl (w_putI rfl (by first | rfl | assumption) rfl ?_))))
                exact w_return rfl ⟨rfl, by exact hfin⟩
              · skip
                exfalso; omega
          · skip
            refine w_aload rfl rfl (w_getIV rfl (by first | rfl | assumption) (by first | exact Or.inl rfl | exact Or.inr rfl) (e2) (w_aload rfl rfl (w_getR rfl (by first | rfl | assumption) rfl (by first | rfl | assumption) (w_alen rfl (by first | rfl | assumption) (by decide) (by decide) ?_))))
            refine w_icmp_ge (tgt := 50) rfl (by first | assumption | exact i32_0 | (unfold i32 at *; omega)) (by first | assumption | exact i32_0 | (unfold i32 at *; omega)) rfl (fun c20 => ?_) (fun c20 => ?_)
            · skip
              refine w_aload rfl rfl (w_aload rfl rfl (w_getIV rfl (by first | rfl | assumption) (by first | exact Or.inl rfl | exact Or.inr rfl) (e2) (w_putI rfl (by first | rfl | assumption) rfl (w_aload rfl rfl (w_iconst rfl (w_putI rfl (by first | rfl | assumption) rfl (w_aload rfl rfl ?_)))))))
              refine w_iconst rfl (w_putI rfl (by first | rfl | assumption) rfl ?_)
              rw [hN2]
              refine w_aload rfl rfl (w_getIV rfl (by first | rfl | assumption) (by first | exact Or.inl rfl | exact Or.inr rfl) (k2) (w_aload rfl rfl (w_getIV rfl (by first | rfl | assumption) (by first | exact Or.inl rfl | exact Or.inr rfl) (k1) ?_)))
              refine w_icmp_ge (tgt := 91) rfl (by first | assumption | exact i32_0 | (unfold i32 at *; omega)) (by first | assumption | exact i32_0 | (unfold i32 at *; omega)) rfl (fun c76 => ?_) (fun c76 => ?_)
              · skip
                exfalso; omega
              · skip
                refine w_aload rfl rfl (w_getIV rfl (by first | rfl | assumption) (by first | exact Or.inl rfl | exact Or.inr rfl) (k2) (w_aload rfl rfl (w_getR rfl (by first | rfl | assumption) rfl (by first | rfl | assumption) (w_alen rfl (by first | rfl | assumption) (by decide) (by decide) ?_))))
                refine w_icmp_lt (tgt := 101) rfl (by first | assumption | exact i32_0 | (unfold i32 at *; omega)) (by first | assumption | exact i32_0 | (unfold i32 at *; omega)) rfl (fun c88 => ?_) (fun c88 => ?_)
                · skip
                  refine w_aload rfl rfl (w_getR rfl (by first | rfl | assumption) rfl (by first | rfl | assumption) (w_aload rfl rfl (w_getIV rfl (by first | rfl | assumption) (by first | exact Or.inl rfl | exact Or.inr rfl) (k2) (w_ialoadV rfl (by first | rfl | assumption) (by omega) (by omega) (kb) ?_))))
                  refine w_call (Or.inl rfl) (e_isDig0 c _ g5 hd) (by omega) nof_20 rfl rfl rfl rfl trivial rfl ?_
                  refine w_if_eq (tgt := 130) rfl (by first | assumption | exact i32_0 | (unfold i32 at *; omega)) rfl (fun _ => ?_) (fun c => absurd c (by decide))
                  refine w_aload rfl rfl (w_aload rfl rfl (w_getR rfl (by first | rfl | assumption) rfl (by first | rfl | assumption) (w_aload rfl rfl (w_getIV rfl (by first | rfl | assumption) (by first | exact Or.inl rfl | exact Or.inr rfl) (k2) (w_ialoadV rfl (by first | rfl | assumption) (by omega) (by omega) (kb) (w_putI rfl (by first | rfl | assumption) rfl (w_aload rfl rfl ?_)))))))
                  refine w_dup rfl rfl (w_getIV rfl (by first | rfl | assumption) (by first | exact Or.inl rfl | exact Or.inr rfl) (t2) (w_iconst rfl (w_iadd rfl (w_putI rfl (by first | rfl | assumption) rfl ?_))))
                  exact w_return rfl ⟨rfl, by exact hfin⟩
                · skip
                  exfalso; omega
            · skip
              refine w_aload rfl rfl (w_getR rfl (by first | rfl | assumption) rfl (by first | rfl | assumption) (w_aload rfl rfl (w_getIV rfl (by first | rfl | assumption) (by first | exact Or.inl rfl | exact Or.inr rfl) (e2) (w_ialoadV rfl (by first | rfl | assumption) (by omega) (by omega) (e4) (w_iconst rfl ?_)))))
              refine w_icmp_ne (tgt := 50) rfl (by first | assumption | exact i32_0 | (unfold i32 at *; omega)) (by first | assumption | exact i32_0 | (unfold i32 at *; omega)) rfl (fun c34 => ?_) (fun c34 => ?_)
              · skip
                refine w_aload rfl rfl (w_aload rfl rfl (w_getIV rfl (by first | rfl | assumption) (by first | exact Or.inl rfl | exact Or.inr rfl) (e2) (w_putI rfl (by first | rfl | assumption) rfl (w_aload rfl rfl (w_iconst rfl (w_putI rfl (by first | rfl | assumption) rfl (w_aload rfl rfl ?_)))))))
                refine w_iconst rfl (w_putI rfl (by first | rfl | assumption) rfl ?_)
                rw [hN2]
                refine w_aload rfl rfl (w_getIV rfl (by first | rfl | assumption) (by first | exact Or.inl rfl | exact Or.inr rfl) (k2) (w_aload rfl rfl (w_getIV rfl (by first | rfl | assumption) (by first | exact Or.inl rfl | exact Or.inr rfl) (k1) ?_)))
                refine w_icmp_ge (tgt := 91) rfl (by first | assumption | exact i32_0 | (unfold i32 at *; omega)) (by first | assumption | exact i32_0 | (unfold i32 at *; omega)) rfl (fun c76 => ?_) (fun c76 => ?_)
                · skip
                  exfalso; omega
                · skip
                  refine w_aload rfl rfl (w_getIV rfl (by first | rfl | assumption) (by first | exact Or.inl rfl | exact Or.inr rfl) (k2) (w_aload rfl rfl (w_getR rfl (by first | rfl | assumption) rfl (by first | rfl | assumption) (w_alen rfl (by first | rfl | assumption) (by decide) (by decide) ?_))))
                  refine w_icmp_lt (tgt := 101) rfl (by first | assumption | exact i32_0 | (unfold i32 at *; omega)) (by first | assumption | exact i32_0 | (unfold i32 at *; omega)) rfl (fun c88 => ?_) (fun c88 => ?_)
                  · skip
                    refine w_aload rfl rfl (w_getR rfl (by first | rfl | assumption) rfl (by first | rfl | assumption) (w_aload rfl rfl (w_getIV rfl (by first | rfl | assumption) (by first | exact Or.inl rfl | exact Or.inr rfl) (k2) (w_ialoadV rfl (by first | rfl | assumption) (by omega) (by omega) (kb) ?_))))
                    refine w_call (Or.inl rfl) (e_isDig0 c _ g5 hd) (by omega) nof_20 rfl rfl rfl rfl trivial rfl ?_
                    refine w_if_eq (tgt := 130) rfl (by first | assumption | exact i32_0 | (unfold i32 at *; omega)) rfl (fun _ => ?_) (fun c => absurd c (by decide))
                    refine w_aload rfl rfl (w_aload rfl rfl (w_getR rfl (by first | rfl | assumption) rfl (by first | rfl | assumption) (w_aload rfl rfl (w_getIV rfl (by first | rfl | assumption) (by first | exact Or.inl rfl | exact Or.inr rfl) (k2) (w_ialoadV rfl (by first | rfl | assumption) (by omega) (by omega) (kb) (w_putI rfl (by first | rfl | assumption) rfl (w_aload rfl rfl ?_)))))))
                    refine w_dup rfl rfl (w_getIV rfl (by first | rfl | assumption) (by first | exact Or.inl rfl | exact Or.inr rfl) (t2) (w_iconst rfl (w_iadd rfl (w_putI rfl (by first | rfl | assumption) rfl ?_))))
                    exact w_return rfl ⟨rfl, by exact hfin⟩
                  · skip
                    exfalso; omega
              · skip
                exfalso; omega
  exact loop (b.drop p) p M rfl hpl hp rfl (fun _ _ _ => rfl)
