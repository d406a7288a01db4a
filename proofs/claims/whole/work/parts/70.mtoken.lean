/-! ===== the model's tokens ===== -/
def PosM (b l : List Int) (M : mM) : Prop := mTx b M ∧ ((∃ q, q ≤ b.length ∧ l = b.drop q) ∧ skp l = l) ∧ M 155 5 = ((b.length - l.length : Nat) : Int) ∧ M 155 6 = ((b.length - l.length + tLen l : Nat) : Int)
theorem skp_skp (l : List Int) : skp (skp l) = skp l := by
  induction l with
  | nil => rfl
  | cons c l ih =>
    by_cases h : c = 32
    · have h1 : skp (c :: l) = skp l := if_pos h
      rw [h1]; exact ih
    · have h1 : skp (c :: l) = c :: l := if_neg h
      rw [h1, h1]
theorem PosM_at {b l : List Int} {M : mM} (h : PosM b l M) : ∃ q, q ≤ b.length ∧ l = b.drop q ∧ b.length - l.length = q := by
  obtain ⟨-, ⟨⟨q, hq, e⟩, -⟩, -⟩ := h
  exact ⟨q, hq, e, by rw [e, List.length_drop]; omega⟩
theorem PosM_fr {b l : List Int} {M M1 : mM} (h : PosM b l M) (e4 : M1 155 4 = M 155 4) (e5 : M1 155 5 = M 155 5) (e6 : M1 155 6 = M 155 6) (e : ∀ k, M1 158 k = M 158 k) : PosM b l M1 := ⟨mTx_fr h.1 e4 e, h.2.1, by rw [e5]; exact h.2.2.1, by rw [e6]; exact h.2.2.2⟩
def hereB (l : List Int) (c : Int) : Bool := match l with
  | [] => false
  | x :: _ => decide (x = c)
theorem m_isHere {b l : List Int} {M : mM} {c : Int} (h : PosM b l M) (hc : 0 ≤ c ∧ c ≤ 255) : E 1 157 [vR 155, vI c] M (some (vI (if hereB l c = true then 1 else 0))) M := by
  obtain ⟨q, hq, e, hql⟩ := PosM_at h
  obtain ⟨⟨h1, h2, h3⟩, -, h5, -⟩ := h
  rw [hql] at h5
  refine e_in (ls := [vR 155, vI c]) mq_157 (ml_157 rfl) rfl fun D hD => ?_
  cases l with
  | nil =>
    have hqb : q = b.length := by simp at hql; omega
    show Wp _ _ _ _ _ _ (fun r N => r = some (vI 0) ∧ N = M)
    refine w_aload rfl rfl (w_getIV rfl (by first | rfl | assumption) (by first | exact Or.inl rfl | exact Or.inr rfl) (h5) (w_aload rfl rfl (w_getIV rfl (by first | rfl | assumption) (by first | exact Or.inl rfl | exact Or.inr rfl) (h1) ?_)))
    refine w_icmp_ge (tgt := 28) rfl (by first | assumption | exact i32_0 | (unfold i32 at *; omega)) (by first | assumption | exact i32_0 | (unfold i32 at *; omega)) rfl (fun c8 => ?_) (fun c8 => ?_)
    · skip
      refine w_iconst rfl ?_
      exact w_zreturn rfl (by first | exact Or.inl rfl | exact Or.inr rfl | omega | assumption) ⟨by first | rfl | (congr 2; omega), by rfl⟩
    · skip
      exfalso; omega
  | cons x t =>
    obtain ⟨g1, g2, g3⟩ := drop_cons e.symm
    obtain ⟨g4, g5⟩ := h3 q x g2
    have hx : M 158 ((q : Int).toNat) = x := g4
    by_cases hxc : x = c
    · rw [if_pos (show hereB (x :: t) c = true from decide_eq_true hxc)]
      refine w_aload rfl rfl (w_getIV rfl (by first | rfl | assumption) (by first | exact Or.inl rfl | exact Or.inr rfl) (h5) (w_aload rfl rfl (w_getIV rfl (by first | rfl | assumption) (by first | exact Or.inl rfl | exact Or.inr rfl) (h1) ?_)))
      refine w_icmp_ge (tgt := 28) rfl (by first | assumption | exact i32_0 | (unfold i32 at *; omega)) (by first | assumption | exact i32_0 | (unfold i32 at *; omega)) rfl (fun c8 => ?_) (fun c8 => ?_)
      · skip
        exfalso; omega
      · skip
        refine w_aload rfl rfl (w_getR rfl (by first | rfl | assumption) rfl (by first | rfl | assumption) (w_aload rfl rfl (w_getIV rfl (by first | rfl | assumption) (by first | exact Or.inl rfl | exact Or.inr rfl) (h5) (w_ialoadV rfl (by first | rfl | assumption) (by omega) (by omega) (hx) (w_iload rfl rfl ?_)))))
        refine w_icmp_ne (tgt := 28) rfl (by first | assumption | exact i32_0 | (unfold i32 at *; omega)) (by first | assumption | exact i32_0 | (unfold i32 at *; omega)) rfl (fun c21 => ?_) (fun c21 => ?_)
        · skip
          exfalso; omega
        · skip
          refine w_iconst rfl (w_goto (tgt := 29) rfl rfl ?_)
          exact w_zreturn rfl (by first | exact Or.inl rfl | exact Or.inr rfl | omega | assumption) ⟨by first | rfl | (congr 2; omega), by rfl⟩
    · rw [if_neg (show ¬ hereB (x :: t) c = true from fun z => hxc (of_decide_eq_true z))]
      refine w_aload rfl rfl (w_getIV rfl (by first | rfl | assumption) (by first | exact Or.inl rfl | exact Or.inr rfl) (h5) (w_aload rfl rfl (w_getIV rfl (by first | rfl | assumption) (by first | exact Or.inl rfl | exact Or.inr rfl) (h1) ?_)))
      refine w_icmp_ge (tgt := 28) rfl (by first | assumption | exact i32_0 | (unfold i32 at *; omega)) (by first | assumption | exact i32_0 | (unfold i32 at *; omega)) rfl (fun c8 => ?_) (fun c8 => ?_)
      · skip
        refine w_iconst rfl ?_
        exact w_zreturn rfl (by first | exact Or.inl rfl | exact Or.inr rfl | omega | assumption) ⟨by first | rfl | (congr 2; omega), by rfl⟩
      · skip
        refine w_aload rfl rfl (w_getR rfl (by first | rfl | assumption) rfl (by first | rfl | assumption) (w_aload rfl rfl (w_getIV rfl (by first | rfl | assumption) (by first | exact Or.inl rfl | exact Or.inr rfl) (h5) (w_ialoadV rfl (by first | rfl | assumption) (by omega) (by omega) (hx) (w_iload rfl rfl ?_)))))
        refine w_icmp_ne (tgt := 28) rfl (by first | assumption | exact i32_0 | (unfold i32 at *; omega)) (by first | assumption | exact i32_0 | (unfold i32 at *; omega)) rfl (fun c21 => ?_) (fun c21 => ?_)
        · skip
          refine w_iconst rfl ?_
          exact w_zreturn rfl (by first | exact Or.inl rfl | exact Or.inr rfl | omega | assumption) ⟨by first | rfl | (congr 2; omega), by rfl⟩
        · skip
          exfalso; omega
theorem dig_byte {c : Int} (h : dig c = true) : 48 ≤ c ∧ c ≤ 57 := dig_iff.mp h
theorem m_nextToken {b : List Int} {p : Nat} {M : mM} (hT : mTx b M) (hp : M 155 6 = (p : Int)) (hpl : p ≤ b.length) : EQ 3 154 [vR 155] M (fun r N => r = none ∧ PosM b (skp (b.drop p)) N ∧ (∀ a, a ≠ 155 → N a = M a) ∧ ∀ k, k ≠ 5 → k ≠ 6 → N 155 k = M 155 k) := by
  have hT0 := hT
  obtain ⟨h1, h2, h3⟩ := hT
  refine q_in (ls := [vR 155]) mq_154 (ml_154 rfl) rfl fun D hD => ?_
  -- the digits behind the first one
  have more : ∀ (q : Nat) (x : Int) (t0 : List Int), b.drop q = x :: t0 → dig x = true → skp (b.drop p) = x :: t0 → ∀ (t : List Int) (m : Nat) (N : mM), b.drop (q + m) = t → 1 ≤ m → q + m ≤ b.length → (dgs (x :: t0)).length = m + (dgs t).length → N 155 5 = (q : Int) → N 155 6 = ((q + m : Nat) : Int) → (∀ a, a ≠ 155 → N a = M a) → (∀ k, k ≠ 5 → k ≠ 6 → N 155 k = M 155 k) → Wp mc_154 D 74 [vR 155] [] N (fun r N => r = none ∧ PosM b (skp (b.drop p)) N ∧ (∀ a, a ≠ 155 → N a = M a) ∧ ∀ k, k ≠ 5 → k ≠ 6 → N 155 k = M 155 k) := by
    intro q x t0 hdq hdx hsk t
    obtain ⟨g1, g2, g3⟩ := drop_cons hdq
    obtain ⟨g4, g5⟩ := h3 q x g2
    have hlen : b.length - (x :: t0).length = q := by rw [← hdq, List.length_drop]; omega
    have htl : tLen (x :: t0) = (dgs (x :: t0)).length := if_pos hdx
    have hnsk : skp (x :: t0) = x :: t0 := by rw [← hsk]; exact skp_skp _
    induction t with
    | nil =>
      intro m N hd hm hml hcount n5 n6 hF hF2
      have hqm : q + m = b.length := by
        have := congrArg List.length hd
        rw [List.length_drop] at this
        simp at this; omega
      have n4 : N 155 4 = (b.length : Int) := by rw [hF2 4 (by decide) (by decide)]; exact h1
      have hx : N 158 ((q : Int).toNat) = x := by rw [hF 158 (by decide)]; exact g4
      have hfin : PosM b (skp (b.drop p)) N := by
        rw [hsk]
        refine ⟨mTx_fr hT0 (hF2 4 (by decide) (by decide)) (fun k => by rw [hF 158 (by decide)]), ⟨⟨q, by omega, hdq.symm⟩, hnsk⟩, by rw [hlen]; exact n5, ?_⟩
        rw [hlen, htl, hcount]; exact n6
      refine w_aload rfl rfl (w_getIV rfl (by first | rfl | assumption) (by first | exact Or.inl rfl | exact Or.inr rfl) (n5) (w_aload rfl rfl (w_getIV rfl (by first | rfl | assumption) (by first | exact Or.inl rfl | exact Or.inr rfl) (n4) ?_)))
      refine w_icmp_ge (tgt := 139) rfl (by first | assumption | exact i32_0 | (unfold i32 at *; omega)) (by first | assumption | exact i32_0 | (unfold i32 at *; omega)) rfl (fun c82 => ?_) (fun c82 => ?_)
      · exfalso; omega
      · skip
        refine w_aload rfl rfl (w_getR rfl (by first | rfl | assumption) rfl (by first | rfl | assumption) (w_aload rfl rfl (w_getIV rfl (by first | rfl | assumption) (by first | exact Or.inl rfl | exact Or.inr rfl) (n5) (w_ialoadV rfl (by first | rfl | assumption) (by omega) (by omega) (hx) ?_))))
        refine w_call (Or.inl rfl) (m_isDigit1 N hdx) (by omega) nof_155 rfl rfl rfl rfl trivial rfl ?_
        refine w_if_eq (tgt := 139) rfl (by first | assumption | exact i32_0 | (unfold i32 at *; omega)) rfl (fun c => absurd c (by decide)) (fun _ => ?_)
        refine w_aload rfl rfl (w_getIV rfl (by first | rfl | assumption) (by first | exact Or.inl rfl | exact Or.inr rfl) (n6) (w_aload rfl rfl (w_getIV rfl (by first | rfl | assumption) (by first | exact Or.inl rfl | exact Or.inr rfl) (n4) ?_)))
        refine w_icmp_ge (tgt := 139) rfl (by first | assumption | exact i32_0 | (unfold i32 at *; omega)) (by first | assumption | exact i32_0 | (unfold i32 at *; omega)) rfl (fun c108 => ?_) (fun c108 => ?_)
        · skip
          exact w_return rfl ⟨rfl, by exact ⟨hfin, hF, hF2⟩⟩
        · exfalso; omega
    | cons c t ih =>
      intro m N hd hm hml hcount n5 n6 hF hF2
      obtain ⟨f1, f2, f3⟩ := drop_cons hd
      obtain ⟨f4, f5⟩ := h3 (q + m) c f2
      have n4 : N 155 4 = (b.length : Int) := by rw [hF2 4 (by decide) (by decide)]; exact h1
      have hx : N 158 ((q : Int).toNat) = x := by rw [hF 158 (by decide)]; exact g4
      have hy : N 158 ((((q + m : Nat) : Int)).toNat) = c := by rw [hF 158 (by decide)]; exact f4
      by_cases hdc : dig c = true
      · have hdg : dgs (c :: t) = c :: dgs t := by rw [dgs, if_pos hdc]
        rw [hdg, List.length_cons] at hcount
        have ihn := ih (m + 1) (upI N 155 6 (((q + m : Nat) : Int) + 1)) f3 (by omega) (by omega) (by omega) ((if_neg (by omega)).trans n5) (by rw [upI_same]; omega) (fun a ha => by rw [upI_ne _ _ _ _ ha]; exact hF a ha) (fun k k5 k6 => (if_neg (by omega)).trans (hF2 k k5 k6))
        refine w_aload rfl rfl (w_getIV rfl (by first | rfl | assumption) (by first | exact Or.inl rfl | exact Or.inr rfl) (n5) (w_aload rfl rfl (w_getIV rfl (by first | rfl | assumption) (by first | exact Or.inl rfl | exact Or.inr rfl) (n4) ?_)))
        refine w_icmp_ge (tgt := 139) rfl (by first | assumption | exact i32_0 | (unfold i32 at *; omega)) (by first | assumption | exact i32_0 | (unfold i32 at *; omega)) rfl (fun c82 => ?_) (fun c82 => ?_)
        · exfalso; omega
        · skip
          refine w_aload rfl rfl (w_getR rfl (by first | rfl | assumption) rfl (by first | rfl | assumption) (w_aload rfl rfl (w_getIV rfl (by first | rfl | assumption) (by first | exact Or.inl rfl | exact Or.inr rfl) (n5) (w_ialoadV rfl (by first | rfl | assumption) (by omega) (by omega) (hx) ?_))))
          refine w_call (Or.inl rfl) (m_isDigit1 N hdx) (by omega) nof_155 rfl rfl rfl rfl trivial rfl ?_
          refine w_if_eq (tgt := 139) rfl (by first | assumption | exact i32_0 | (unfold i32 at *; omega)) rfl (fun c => absurd c (by decide)) (fun _ => ?_)
          refine w_aload rfl rfl (w_getIV rfl (by first | rfl | assumption) (by first | exact Or.inl rfl | exact Or.inr rfl) (n6) (w_aload rfl rfl (w_getIV rfl (by first | rfl | assumption) (by first | exact Or.inl rfl | exact Or.inr rfl) (n4) ?_)))
          refine w_icmp_ge (tgt := 139) rfl (by first | assumption | exact i32_0 | (unfold i32 at *; omega)) (by first | assumption | exact i32_0 | (unfold i32 at *; omega)) rfl (fun c108 => ?_) (fun c108 => ?_)
          · exfalso; omega
          · skip
            refine w_aload rfl rfl (w_getR rfl (by first | rfl | assumption) rfl (by first | rfl | assumption) (w_aload rfl rfl (w_getIV rfl (by first | rfl | assumption) (by first | exact Or.inl rfl | exact Or.inr rfl) (n6) (w_ialoadV rfl (by first | rfl | assumption) (by omega) (by omega) (hy) ?_))))
            refine w_call (Or.inl rfl) (m_isDigit1 N hdc) (by omega) nof_155 rfl rfl rfl rfl trivial rfl ?_
            refine w_if_eq (tgt := 139) rfl (by first | assumption | exact i32_0 | (unfold i32 at *; omega)) rfl (fun c => absurd c (by decide)) (fun _ => ?_)
            refine w_aload rfl rfl (w_dup rfl rfl (w_getIV rfl (by first | rfl | assumption) (by first | exact Or.inl rfl | exact Or.inr rfl) (n6) (w_iconst rfl (w_iadd rfl (w_putI rfl (by first | rfl | assumption) rfl (w_goto (tgt := 74) rfl rfl ?_))))))
            exact ihn
      · have hdg : dgs (c :: t) = [] := by rw [dgs, if_neg hdc]
        rw [hdg] at hcount
        have hcount : (dgs (x :: t0)).length = m := hcount
        have hfin : PosM b (skp (b.drop p)) N := by
          rw [hsk]
          refine ⟨mTx_fr hT0 (hF2 4 (by decide) (by decide)) (fun k => by rw [hF 158 (by decide)]), ⟨⟨q, by omega, hdq.symm⟩, hnsk⟩, by rw [hlen]; exact n5, ?_⟩
          rw [hlen, htl, hcount]; exact n6
        refine w_aload rfl rfl (w_getIV rfl (by first | rfl | assumption) (by first | exact Or.inl rfl | exact Or.inr rfl) (n5) (w_aload rfl rfl (w_getIV rfl (by first | rfl | assumption) (by first | exact Or.inl rfl | exact Or.inr rfl) (n4) ?_)))
        refine w_icmp_ge (tgt := 139) rfl (by first | assumption | exact i32_0 | (unfold i32 at *; omega)) (by first | assumption | exact i32_0 | (unfold i32 at *; omega)) rfl (fun c82 => ?_) (fun c82 => ?_)
        · exfalso; omega
        · skip
          refine w_aload rfl rfl (w_getR rfl (by first | rfl | assumption) rfl (by first | rfl | assumption) (w_aload rfl rfl (w_getIV rfl (by first | rfl | assumption) (by first | exact Or.inl rfl | exact Or.inr rfl) (n5) (w_ialoadV rfl (by first | rfl | assumption) (by omega) (by omega) (hx) ?_))))
          refine w_call (Or.inl rfl) (m_isDigit1 N hdx) (by omega) nof_155 rfl rfl rfl rfl trivial rfl ?_
          refine w_if_eq (tgt := 139) rfl (by first | assumption | exact i32_0 | (unfold i32 at *; omega)) rfl (fun c => absurd c (by decide)) (fun _ => ?_)
          refine w_aload rfl rfl (w_getIV rfl (by first | rfl | assumption) (by first | exact Or.inl rfl | exact Or.inr rfl) (n6) (w_aload rfl rfl (w_getIV rfl (by first | rfl | assumption) (by first | exact Or.inl rfl | exact Or.inr rfl) (n4) ?_)))
          refine w_icmp_ge (tgt := 139) rfl (by first | assumption | exact i32_0 | (unfold i32 at *; omega)) (by first | assumption | exact i32_0 | (unfold i32 at *; omega)) rfl (fun c108 => ?_) (fun c108 => ?_)
          · exfalso; omega
          · skip
            refine w_aload rfl rfl (w_getR rfl (by first | rfl | assumption) rfl (by first | rfl | assumption) (w_aload rfl rfl (w_getIV rfl (by first | rfl | assumption) (by first | exact Or.inl rfl | exact Or.inr rfl) (n6) (w_ialoadV rfl (by first | rfl | assumption) (by omega) (by omega) (hy) ?_))))
            refine w_call (Or.inl rfl) (m_isDigit0 N f5 hdc) (by omega) nof_155 rfl rfl rfl rfl trivial rfl ?_
            refine w_if_eq (tgt := 139) rfl (by first | assumption | exact i32_0 | (unfold i32 at *; omega)) rfl (fun _ => ?_) (fun c => absurd c (by decide))
            exact w_return rfl ⟨rfl, by exact ⟨hfin, hF, hF2⟩⟩
  -- the blanks ahead
  have loop : ∀ (l : List Int) (q : Nat) (N : mM), b.drop q = l → q ≤ b.length → N 155 5 = (q : Int) → skp (b.drop p) = skp l → (∀ a, a ≠ 155 → N a = M a) → (∀ k, k ≠ 5 → k ≠ 6 → N 155 k = M 155 k) → Wp mc_154 D 8 [vR 155] [] N (fun r N => r = none ∧ PosM b (skp (b.drop p)) N ∧ (∀ a, a ≠ 155 → N a = M a) ∧ ∀ k, k ≠ 5 → k ≠ 6 → N 155 k = M 155 k) := by
    intro l
    induction l with
    | nil =>
      intro q N hl hq n5 hs hF hF2
      have hq2 : q = b.length := by
        have := congrArg List.length hl
        rw [List.length_drop] at this
        simp at this; omega
      subst hq2
      have n4 : N 155 4 = (b.length : Int) := by rw [hF2 4 (by decide) (by decide)]; exact h1
      have u5 : upI N 155 6 (b.length : Int) 155 5 = (b.length : Int) := (if_neg (by omega)).trans n5
      have u4 : upI N 155 6 (b.length : Int) 155 4 = (b.length : Int) := (if_neg (by omega)).trans n4
      have hfin : PosM b (skp (b.drop p)) (upI N 155 6 (b.length : Int)) := by
        rw [hs]
        refine ⟨mTx_fr hT0 ((if_neg (by omega)).trans (hF2 4 (by decide) (by decide))) (fun k => by rw [upI_ne _ _ _ _ (by decide), hF 158 (by decide)]), ⟨⟨b.length, Nat.le_refl _, by rw [List.drop_length]; rfl⟩, rfl⟩, u5, upI_same _ _ _ _⟩
      refine w_aload rfl rfl (w_getIV rfl (by first | rfl | assumption) (by first | exact Or.inl rfl | exact Or.inr rfl) (n5) (w_aload rfl rfl (w_getIV rfl (by first | rfl | assumption) (by first | exact Or.inl rfl | exact Or.inr rfl) (n4) ?_)))
      refine w_icmp_ge (tgt := 46) rfl (by first | assumption | exact i32_0 | (unfold i32 at *; omega)) (by first | assumption | exact i32_0 | (unfold i32 at *; omega)) rfl (fun c16 => ?_) (fun c16 => ?_)
      · skip
        refine w_aload rfl rfl (w_aload rfl rfl (w_getIV rfl (by first | rfl | assumption) (by first | exact Or.inl rfl | exact Or.inr rfl) (n5) (w_aload rfl rfl (w_getIV rfl (by first | rfl | assumption) (by first | exact Or.inl rfl | exact Or.inr rfl) (n4) ?_))))
        refine w_icmp_ge (tgt := 67) rfl (by first | assumption | exact i32_0 | (unfold i32 at *; omega)) (by first | assumption | exact i32_0 | (unfold i32 at *; omega)) rfl (fun c55 => ?_) (fun c55 => ?_)
        · skip
          refine w_aload rfl rfl (w_getIV rfl (by first | rfl | assumption) (by first | exact Or.inl rfl | exact Or.inr rfl) (n5) (w_putI rfl (by first | rfl | assumption) rfl (w_aload rfl rfl (w_getIV rfl (by first | rfl | assumption) (by first | exact Or.inl rfl | exact Or.inr rfl) (u5) (w_aload rfl rfl (w_getIV rfl (by first | rfl | assumption) (by first | exact Or.inl rfl | exact Or.inr rfl) (u4) ?_))))))
          refine w_icmp_ge (tgt := 139) rfl (by first | assumption | exact i32_0 | (unfold i32 at *; omega)) (by first | assumption | exact i32_0 | (unfold i32 at *; omega)) rfl (fun c82 => ?_) (fun c82 => ?_)
          · skip
            exact w_return rfl ⟨rfl, by exact ⟨hfin, fun a ha => by rw [upI_ne _ _ _ _ ha]; exact hF a ha, fun k k5 k6 => (if_neg (by omega)).trans (hF2 k k5 k6)⟩⟩
          · exfalso; omega
        · exfalso; omega
      · exfalso; omega
    | cons c l ih =>
      intro q N hl hq n5 hs hF hF2
      obtain ⟨g1, g2, g3⟩ := drop_cons hl
      obtain ⟨g4, g5⟩ := h3 q c g2
      have n4 : N 155 4 = (b.length : Int) := by rw [hF2 4 (by decide) (by decide)]; exact h1
      have hx : N 158 ((q : Int).toNat) = c := by rw [hF 158 (by decide)]; exact g4
      by_cases hc : c = 32
      · have hsk : skp (c :: l) = skp l := if_pos hc
        have ihn := ih (q + 1) (upI N 155 5 ((q : Int) + 1)) g3 g1 (upI_same _ _ _ _) (hs.trans hsk) (fun a ha => by rw [upI_ne _ _ _ _ ha]; exact hF a ha) (fun k k5 k6 => (if_neg (by omega)).trans (hF2 k k5 k6))
        refine w_aload rfl rfl (w_getIV rfl (by first | rfl | assumption) (by first | exact Or.inl rfl | exact Or.inr rfl) (n5) (w_aload rfl rfl (w_getIV rfl (by first | rfl | assumption) (by first | exact Or.inl rfl | exact Or.inr rfl) (n4) ?_)))
        refine w_icmp_ge (tgt := 46) rfl (by first | assumption | exact i32_0 | (unfold i32 at *; omega)) (by first | assumption | exact i32_0 | (unfold i32 at *; omega)) rfl (fun c16 => ?_) (fun c16 => ?_)
        · skip
          exfalso; omega
        · skip
          refine w_aload rfl rfl (w_getR rfl (by first | rfl | assumption) rfl (by first | rfl | assumption) (w_aload rfl rfl (w_getIV rfl (by first | rfl | assumption) (by first | exact Or.inl rfl | exact Or.inr rfl) (n5) (w_ialoadV rfl (by first | rfl | assumption) (by omega) (by omega) (hx) (w_iconst rfl ?_)))))
          refine w_icmp_ne (tgt := 46) rfl (by first | assumption | exact i32_0 | (unfold i32 at *; omega)) (by first | assumption | exact i32_0 | (unfold i32 at *; omega)) rfl (fun c30 => ?_) (fun c30 => ?_)
          · skip
            exfalso; omega
          · skip
            refine w_aload rfl rfl (w_dup rfl rfl (w_getIV rfl (by first | rfl | assumption) (by first | exact Or.inl rfl | exact Or.inr rfl) (n5) (w_iconst rfl (w_iadd rfl (w_putI rfl (by first | rfl | assumption) rfl (w_goto (tgt := 8) rfl rfl ?_))))))
            exact ihn
      · have hsk : skp (c :: l) = c :: l := if_neg hc
        rw [hsk] at hs
        have hlen : b.length - (c :: l).length = q := by rw [← hl, List.length_drop]; omega
        have u5 : upI N 155 6 ((q : Int) + 1) 155 5 = (q : Int) := (if_neg (by omega)).trans n5
        have u4 : upI N 155 6 ((q : Int) + 1) 155 4 = (b.length : Int) := (if_neg (by omega)).trans n4
        have ux : upI N 155 6 ((q : Int) + 1) 158 ((q : Int).toNat) = c := by rw [upI_ne _ _ _ _ (by decide)]; exact hx
        by_cases hdc : dig c = true
        · have hdg : dgs (c :: l) = c :: dgs l := by rw [dgs, if_pos hdc]
          have hgo := more q c l hl hdc hs l 1 (upI N 155 6 ((q : Int) + 1)) g3 (Nat.le_refl 1) g1 (by rw [hdg, List.length_cons]; omega) u5 (by rw [upI_same]; omega) (fun a ha => by rw [upI_ne _ _ _ _ ha]; exact hF a ha) (fun k k5 k6 => (if_neg (by omega)).trans (hF2 k k5 k6))
          refine w_aload rfl rfl (w_getIV rfl (by first | rfl | assumption) (by first | exact Or.inl rfl | exact Or.inr rfl) (n5) (w_aload rfl rfl (w_getIV rfl (by first | rfl | assumption) (by first | exact Or.inl rfl | exact Or.inr rfl) (n4) ?_)))
          refine w_icmp_ge (tgt := 46) rfl (by first | assumption | exact i32_0 | (unfold i32 at *; omega)) (by first | assumption | exact i32_0 | (unfold i32 at *; omega)) rfl (fun c16 => ?_) (fun c16 => ?_)
          · exfalso; omega
          · skip
            refine w_aload rfl rfl (w_getR rfl (by first | rfl | assumption) rfl (by first | rfl | assumption) (w_aload rfl rfl (w_getIV rfl (by first | rfl | assumption) (by first | exact Or.inl rfl | exact Or.inr rfl) (n5) (w_ialoadV rfl (by first | rfl | assumption) (by omega) (by omega) (hx) (w_iconst rfl ?_)))))
            refine w_icmp_ne (tgt := 46) rfl (by first | assumption | exact i32_0 | (unfold i32 at *; omega)) (by first | assumption | exact i32_0 | (unfold i32 at *; omega)) rfl (fun c30 => ?_) (fun c30 => ?_)
            · skip
              refine w_aload rfl rfl (w_aload rfl rfl (w_getIV rfl (by first | rfl | assumption) (by first | exact Or.inl rfl | exact Or.inr rfl) (n5) (w_aload rfl rfl (w_getIV rfl (by first | rfl | assumption) (by first | exact Or.inl rfl | exact Or.inr rfl) (n4) ?_))))
              refine w_icmp_ge (tgt := 67) rfl (by first | assumption | exact i32_0 | (unfold i32 at *; omega)) (by first | assumption | exact i32_0 | (unfold i32 at *; omega)) rfl (fun c55 => ?_) (fun c55 => ?_)
              · exfalso; omega
              · skip
                refine w_aload rfl rfl (w_getIV rfl (by first | rfl | assumption) (by first | exact Or.inl rfl | exact Or.inr rfl) (n5) (w_iconst rfl (w_iadd rfl (w_goto (tgt := 71) rfl rfl (w_putI rfl (by first | rfl | assumption) rfl ?_)))))
                exact hgo
            · exfalso; omega
        · have htl : tLen (c :: l) = 1 := if_neg hdc
          have hfin : PosM b (skp (b.drop p)) (upI N 155 6 ((q : Int) + 1)) := by
            rw [hs]
            refine ⟨mTx_fr hT0 ((if_neg (by omega)).trans (hF2 4 (by decide) (by decide))) (fun k => by rw [upI_ne _ _ _ _ (by decide), hF 158 (by decide)]), ⟨⟨q, hq, hl.symm⟩, hsk⟩, by rw [hlen]; exact u5, ?_⟩
            rw [hlen, htl, upI_same]; omega
          refine w_aload rfl rfl (w_getIV rfl (by first | rfl | assumption) (by first | exact Or.inl rfl | exact Or.inr rfl) (n5) (w_aload rfl rfl (w_getIV rfl (by first | rfl | assumption) (by first | exact Or.inl rfl | exact Or.inr rfl) (n4) ?_)))
          refine w_icmp_ge (tgt := 46) rfl (by first | assumption | exact i32_0 | (unfold i32 at *; omega)) (by first | assumption | exact i32_0 | (unfold i32 at *; omega)) rfl (fun c16 => ?_) (fun c16 => ?_)
          · exfalso; omega
          · skip
            refine w_aload rfl rfl (w_getR rfl (by first | rfl | assumption) rfl (by first | rfl | assumption) (w_aload rfl rfl (w_getIV rfl (by first | rfl | assumption) (by first | exact Or.inl rfl | exact Or.inr rfl) (n5) (w_ialoadV rfl (by first | rfl | assumption) (by omega) (by omega) (hx) (w_iconst rfl ?_)))))
            refine w_icmp_ne (tgt := 46) rfl (by first | assumption | exact i32_0 | (unfold i32 at *; omega)) (by first | assumption | exact i32_0 | (unfold i32 at *; omega)) rfl (fun c30 => ?_) (fun c30 => ?_)
            · skip
              refine w_aload rfl rfl (w_aload rfl rfl (w_getIV rfl (by first | rfl | assumption) (by first | exact Or.inl rfl | exact Or.inr rfl) (n5) (w_aload rfl rfl (w_getIV rfl (by first | rfl | assumption) (by first | exact Or.inl rfl | exact Or.inr rfl) (n4) ?_))))
              refine w_icmp_ge (tgt := 67) rfl (by first | assumption | exact i32_0 | (unfold i32 at *; omega)) (by first | assumption | exact i32_0 | (unfold i32 at *; omega)) rfl (fun c55 => ?_) (fun c55 => ?_)
              · exfalso; omega
              · skip
                refine w_aload rfl rfl (w_getIV rfl (by first | rfl | assumption) (by first | exact Or.inl rfl | exact Or.inr rfl) (n5) (w_iconst rfl (w_iadd rfl (w_goto (tgt := 71) rfl rfl (w_putI rfl (by first | rfl | assumption) rfl (w_aload rfl rfl (w_getIV rfl (by first | rfl | assumption) (by first | exact Or.inl rfl | exact Or.inr rfl) (u5) ?_)))))))
                refine w_aload rfl rfl (w_getIV rfl (by first | rfl | assumption) (by first | exact Or.inl rfl | exact Or.inr rfl) (u4) ?_)
                refine w_icmp_ge (tgt := 139) rfl (by first | assumption | exact i32_0 | (unfold i32 at *; omega)) (by first | assumption | exact i32_0 | (unfold i32 at *; omega)) rfl (fun c82 => ?_) (fun c82 => ?_)
                · exfalso; omega
                · skip
                  refine w_aload rfl rfl (w_getR rfl (by first | rfl | assumption) rfl (by first | rfl | assumption) (w_aload rfl rfl (w_getIV rfl (by first | rfl | assumption) (by first | exact Or.inl rfl | exact Or.inr rfl) (u5) (w_ialoadV rfl (by first | rfl | assumption) (by omega) (by omega) (ux) ?_))))
                  refine w_call (Or.inl rfl) (m_isDigit0 _ g5 hdc) (by omega) nof_155 rfl rfl rfl rfl trivial rfl ?_
                  refine w_if_eq (tgt := 139) rfl (by first | assumption | exact i32_0 | (unfold i32 at *; omega)) rfl (fun _ => ?_) (fun c => absurd c (by decide))
                  exact w_return rfl ⟨rfl, by exact ⟨hfin, fun a ha => by rw [upI_ne _ _ _ _ ha]; exact hF a ha, fun k k5 k6 => (if_neg (by omega)).trans (hF2 k k5 k6)⟩⟩
            · exfalso; omega
  have hgo := loop (b.drop p) p (upI M 155 5 (p : Int)) rfl hpl (upI_same _ _ _ _) rfl (fun a ha => upI_ne _ _ _ _ ha) (fun k k5 _ => if_neg (by omega))
  refine w_aload rfl rfl (w_aload rfl rfl (w_getIV rfl (by first | rfl | assumption) (by first | exact Or.inl rfl | exact Or.inr rfl) (hp) (w_putI rfl (by first | rfl | assumption) rfl ?_)))
  exact hgo
/-- the next token's place -/
def nxt (l : List Int) : List Int := skp (l.drop (tLen l))
theorem m_next {b l : List Int} {M : mM} (h : PosM b l M) : EQ 3 154 [vR 155] M (fun r N => r = none ∧ PosM b (nxt l) N ∧ (∀ a, a ≠ 155 → N a = M a) ∧ ∀ k, k ≠ 5 → k ≠ 6 → N 155 k = M 155 k) := by
  obtain ⟨q, hq, e, hql⟩ := PosM_at h
  have htl := tLen_le l
  have hll : l.length ≤ b.length := by rw [e, List.length_drop]; omega
  have := m_nextToken h.1 h.2.2.2 (by omega)
  have hd : b.drop (b.length - l.length + tLen l) = l.drop (tLen l) := by rw [hql, e, List.drop_drop]
  rw [hd] at this
  exact this
/-- the number of one to three digits that is here -/
def digN (l : List Int) : Int := if 1 ≤ (dgs l).length ∧ (dgs l).length ≤ 3 then num3 (dgs l) else -1
theorem num3_all {ds : List Int} (h : ds.length ≤ 3) : num3 ds = ds.foldl (fun a c => a * 10 + c - 48) 0 := by
  unfold num3; rw [List.take_of_length_le h]
theorem m_digits {b l : List Int} {M : mM} (h : PosM b l M) : E 3 160 [vR 155] M (some (vI (digN l))) M := by
  obtain ⟨q, hq, e, hql⟩ := PosM_at h
  obtain ⟨⟨h1, h2, h3⟩, -, h5, h6⟩ := h
  rw [hql] at h5 h6
  refine e_in (ls := [vR 155, vN, vN]) mq_160 (ml_160 rfl) rfl fun D hD => ?_
  cases l with
  | nil =>
    have hqb : q = b.length := by simp at hql; omega
    show Wp _ _ _ _ _ _ (fun r N => r = some (vI (-1)) ∧ N = M)
    refine w_aload rfl rfl (w_getIV rfl (by first | rfl | assumption) (by first | exact Or.inl rfl | exact Or.inr rfl) (h5) (w_aload rfl rfl (w_getIV rfl (by first | rfl | assumption) (by first | exact Or.inl rfl | exact Or.inr rfl) (h1) ?_)))
    refine w_icmp_eq (tgt := 39) rfl (by first | assumption | exact i32_0 | (unfold i32 at *; omega)) (by first | assumption | exact i32_0 | (unfold i32 at *; omega)) rfl (fun c8 => ?_) (fun c8 => ?_)
    · skip
      refine w_iconst rfl ?_
      exact w_ireturn rfl ⟨by first | rfl | (congr 2; omega), by rfl⟩
    · skip
      exfalso; omega
  | cons x t =>
    obtain ⟨g1, g2, g3⟩ := drop_cons e.symm
    obtain ⟨g4, g5⟩ := h3 q x g2
    have hx : M 158 ((q : Int).toNat) = x := g4
    by_cases hdx : dig x = true
    · have hdg : dgs (x :: t) = x :: dgs t := by rw [dgs, if_pos hdx]
      have htl : tLen (x :: t) = (dgs (x :: t)).length := if_pos hdx
      have hl1 : 1 ≤ (dgs (x :: t)).length := by rw [hdg, List.length_cons]; omega
      have hdl := dgs_len (x :: t)
      have hxl : (x :: t).length = b.length - q := by rw [e, List.length_drop]
      rw [htl] at h6
      by_cases h3d : (dgs (x :: t)).length ≤ 3
      · rw [show digN (x :: t) = num3 (dgs (x :: t)) from if_pos ⟨hl1, h3d⟩, num3_all h3d]
        have hn6 : M 155 6 = ((q + (dgs (x :: t)).length : Nat) : Int) := h6
        -- what is read so far
        have loop : ∀ (t2 : List Int) (m : Nat) (acc : Int), dgs (x :: t) = (dgs (x :: t)).take m ++ t2 → m ≤ (dgs (x :: t)).length → t2.length = (dgs (x :: t)).length - m → (0 ≤ acc ∧ acc ≤ 999) → (acc < 10 ^ m) → acc = ((dgs (x :: t)).take m).foldl (fun a c => a * 10 + c - 48) 0 → (∀ j c, (dgs (x :: t))[j]? = some c → b[q + j]? = some c ∧ dig c = true) → Wp mc_160 D 48 [vR 155, vI acc, vI ((q + m : Nat) : Int)] [] M (fun r N => r = some (vI ((dgs (x :: t)).foldl (fun a c => a * 10 + c - 48) 0)) ∧ N = M) := by
          intro t2
          induction t2 with
          | nil =>
            intro m acc hsp hm ht2 hacc _ hfold hat
            have hm2 : m = (dgs (x :: t)).length := by simp at ht2; omega
            have hfin : acc = (dgs (x :: t)).foldl (fun a c => a * 10 + c - 48) 0 := by rw [hfold, hm2, List.take_length]
            rw [← hfin]
            refine w_iload rfl rfl (w_aload rfl rfl (w_getIV rfl (by first | rfl | assumption) (by first | exact Or.inl rfl | exact Or.inr rfl) (hn6) ?_))
            refine w_icmp_ge (tgt := 77) rfl (by first | assumption | exact i32_0 | (unfold i32 at *; omega)) (by first | assumption | exact i32_0 | (unfold i32 at *; omega)) rfl (fun c53 => ?_) (fun c53 => ?_)
            · skip
              refine w_iload rfl rfl ?_
              exact w_ireturn rfl ⟨by first | rfl | (congr 2; omega), by rfl⟩
            · skip
              exfalso; omega
          | cons c t2 ih =>
            intro m acc hsp hm ht2 hacc hpow hfold hat
            have hml : m < (dgs (x :: t)).length := by simp at ht2; omega
            have hcm : (dgs (x :: t))[m]? = some c := by
              rw [hsp, List.getElem?_append_right (by rw [List.length_take]; omega), List.length_take, show m - min m (dgs (x :: t)).length = 0 by omega]
              rfl
            obtain ⟨c1, c2⟩ := hat m c hcm
            obtain ⟨c3, c4⟩ := h3 (q + m) c c1
            have hcd := dig_iff.mp c2
            have hy : M 158 ((((q + m : Nat) : Int)).toNat) = c := c3
            have hm3 : m = 0 ∨ m = 1 ∨ m = 2 := by omega
            have hb9 : 0 ≤ 10 * acc + c - 48 ∧ 10 * acc + c - 48 ≤ 999 ∧ 10 * acc + c - 48 < 10 ^ (m + 1) := by
              rcases hm3 with rfl | rfl | rfl
              · have : acc < 1 := hpow; show _ ∧ _ ∧ 10 * acc + c - 48 < 10; omega
              · have : acc < 10 := hpow; show _ ∧ _ ∧ 10 * acc + c - 48 < 100; omega
              · have : acc < 100 := hpow; show _ ∧ _ ∧ 10 * acc + c - 48 < 1000; omega
            have htk : (dgs (x :: t)).take (m + 1) = (dgs (x :: t)).take m ++ [c] := by
              rw [take_snoc _ m hml]
              have : (dgs (x :: t))[m] = c := by
                rw [List.getElem?_eq_getElem hml] at hcm
                injection hcm
              rw [this]
            have ihn := ih (m + 1) (10 * acc + c - 48) (by rw [htk, List.append_assoc]; exact hsp) (by omega) (by simp at ht2; omega) ⟨hb9.1, hb9.2.1⟩ hb9.2.2 (by rw [htk, List.foldl_append, ← hfold]; show 10 * acc + c - 48 = acc * 10 + c - 48; omega) hat
            refine w_iload rfl rfl (w_aload rfl rfl (w_getIV rfl (by first | rfl | assumption) (by first | exact Or.inl rfl | exact Or.inr rfl) (hn6) ?_))
            refine w_icmp_ge (tgt := 77) rfl (by first | assumption | exact i32_0 | (unfold i32 at *; omega)) (by first | assumption | exact i32_0 | (unfold i32 at *; omega)) rfl (fun c53 => ?_) (fun c53 => ?_)
            · skip
              exfalso; omega
            · skip
              refine w_iconst rfl (w_iload rfl rfl (w_imul rfl (w_aload rfl rfl (w_getR rfl (by first | rfl | assumption) rfl (by first | rfl | assumption) (w_iload rfl rfl (w_ialoadV rfl (by first | rfl | assumption) (by omega) (by omega) (hy) (w_iadd rfl ?_)))))))
              refine w_iconst rfl (w_isub rfl (w_istore (ls2 := [_, _, _]) rfl rfl rfl (w_iinc (ls2 := [_, _, _]) rfl rfl rfl (w_goto (tgt := 48) rfl rfl ?_))))
              exact ihn
        have hat : ∀ j c, (dgs (x :: t))[j]? = some c → b[q + j]? = some c ∧ dig c = true := by
          intro j c hj
          have hdgd := dgs_dig (x :: t) c (List.mem_of_getElem? hj)
          refine ⟨?_, hdgd⟩
          have hpre : ∀ (l : List Int) (j : Nat), (dgs l)[j]? = some c → l[j]? = some c := by
            intro l
            induction l with
            | nil => intro j h; simp [dgs] at h
            | cons y l ih =>
              intro j h
              unfold dgs at h
              split at h
              · cases j with
                | zero => exact h
                | succ j => exact ih j h
              · simp at h
          have := hpre (x :: t) j hj
          rw [e, List.getElem?_drop] at this
          exact this
        have hgo := loop (dgs (x :: t)) 0 0 rfl (Nat.zero_le _) rfl ⟨Int.le_refl _, by decide⟩ (by decide) rfl hat
        refine w_aload rfl rfl (w_getIV rfl (by first | rfl | assumption) (by first | exact Or.inl rfl | exact Or.inr rfl) (h5) (w_aload rfl rfl (w_getIV rfl (by first | rfl | assumption) (by first | exact Or.inl rfl | exact Or.inr rfl) (h1) ?_)))
        refine w_icmp_eq (tgt := 39) rfl (by first | assumption | exact i32_0 | (unfold i32 at *; omega)) (by first | assumption | exact i32_0 | (unfold i32 at *; omega)) rfl (fun c8 => ?_) (fun c8 => ?_)
        · skip
          exfalso; omega
        · skip
          refine w_aload rfl rfl (w_getR rfl (by first | rfl | assumption) rfl (by first | rfl | assumption) (w_aload rfl rfl (w_getIV rfl (by first | rfl | assumption) (by first | exact Or.inl rfl | exact Or.inr rfl) (h5) (w_ialoadV rfl (by first | rfl | assumption) (by omega) (by omega) (hx) ?_))))
          refine w_call (Or.inl rfl) (m_isDigit1 M hdx) (by omega) nof_155 rfl rfl rfl rfl trivial rfl ?_
          refine w_if_eq (tgt := 39) rfl (by first | assumption | exact i32_0 | (unfold i32 at *; omega)) rfl (fun c => absurd c (by decide)) (fun _ => ?_)
          refine w_aload rfl rfl (w_getIV rfl (by first | rfl | assumption) (by first | exact Or.inl rfl | exact Or.inr rfl) (h6) (w_aload rfl rfl (w_getIV rfl (by first | rfl | assumption) (by first | exact Or.inl rfl | exact Or.inr rfl) (h5) (w_isub rfl (w_iconst rfl ?_)))))
          refine w_icmp_le (tgt := 41) rfl (by first | assumption | exact i32_0 | (unfold i32 at *; omega)) (by first | assumption | exact i32_0 | (unfold i32 at *; omega)) rfl (fun c36 => ?_) (fun c36 => ?_)
          · skip
            refine w_iconst rfl (w_istore (ls2 := [_, _, _]) rfl rfl rfl (w_aload rfl rfl (w_getIV rfl (by first | rfl | assumption) (by first | exact Or.inl rfl | exact Or.inr rfl) (h5) (w_istore (ls2 := [_, _, _]) rfl rfl rfl ?_))))
            exact hgo
          · skip
            exfalso; omega
      · rw [show digN (x :: t) = -1 from if_neg (fun z => h3d z.2)]
        refine w_aload rfl rfl (w_getIV rfl (by first | rfl | assumption) (by first | exact Or.inl rfl | exact Or.inr rfl) (h5) (w_aload rfl rfl (w_getIV rfl (by first | rfl | assumption) (by first | exact Or.inl rfl | exact Or.inr rfl) (h1) ?_)))
        refine w_icmp_eq (tgt := 39) rfl (by first | assumption | exact i32_0 | (unfold i32 at *; omega)) (by first | assumption | exact i32_0 | (unfold i32 at *; omega)) rfl (fun c8 => ?_) (fun c8 => ?_)
        · skip
          refine w_iconst rfl ?_
          exact w_ireturn rfl ⟨by first | rfl | (congr 2; omega), by rfl⟩
        · skip
          refine w_aload rfl rfl (w_getR rfl (by first | rfl | assumption) rfl (by first | rfl | assumption) (w_aload rfl rfl (w_getIV rfl (by first | rfl | assumption) (by first | exact Or.inl rfl | exact Or.inr rfl) (h5) (w_ialoadV rfl (by first | rfl | assumption) (by omega) (by omega) (hx) ?_))))
          refine w_call (Or.inl rfl) (m_isDigit1 M hdx) (by omega) nof_155 rfl rfl rfl rfl trivial rfl ?_
          refine w_if_eq (tgt := 39) rfl (by first | assumption | exact i32_0 | (unfold i32 at *; omega)) rfl (fun c => absurd c (by decide)) (fun _ => ?_)
          refine w_aload rfl rfl (w_getIV rfl (by first | rfl | assumption) (by first | exact Or.inl rfl | exact Or.inr rfl) (h6) (w_aload rfl rfl (w_getIV rfl (by first | rfl | assumption) (by first | exact Or.inl rfl | exact Or.inr rfl) (h5) (w_isub rfl (w_iconst rfl ?_)))))
          refine w_icmp_le (tgt := 41) rfl (by first | assumption | exact i32_0 | (unfold i32 at *; omega)) (by first | assumption | exact i32_0 | (unfold i32 at *; omega)) rfl (fun c36 => ?_) (fun c36 => ?_)
          · skip
            exfalso; omega
          · skip
            refine w_iconst rfl ?_
            exact w_ireturn rfl ⟨by first | rfl | (congr 2; omega), by rfl⟩
    · have hdg : dgs (x :: t) = [] := by rw [dgs, if_neg hdx]
      rw [show digN (x :: t) = -1 from if_neg (fun z => by rw [hdg] at z; exact absurd z.1 (by decide))]
      refine w_aload rfl rfl (w_getIV rfl (by first | rfl | assumption) (by first | exact Or.inl rfl | exact Or.inr rfl) (h5) (w_aload rfl rfl (w_getIV rfl (by first | rfl | assumption) (by first | exact Or.inl rfl | exact Or.inr rfl) (h1) ?_)))
      refine w_icmp_eq (tgt := 39) rfl (by first | assumption | exact i32_0 | (unfold i32 at *; omega)) (by first | assumption | exact i32_0 | (unfold i32 at *; omega)) rfl (fun c8 => ?_) (fun c8 => ?_)
      · skip
        refine w_iconst rfl ?_
        exact w_ireturn rfl ⟨by first | rfl | (congr 2; omega), by rfl⟩
      · skip
        refine w_aload rfl rfl (w_getR rfl (by first | rfl | assumption) rfl (by first | rfl | assumption) (w_aload rfl rfl (w_getIV rfl (by first | rfl | assumption) (by first | exact Or.inl rfl | exact Or.inr rfl) (h5) (w_ialoadV rfl (by first | rfl | assumption) (by omega) (by omega) (hx) ?_))))
        refine w_call (Or.inl rfl) (m_isDigit0 M g5 hdx) (by omega) nof_155 rfl rfl rfl rfl trivial rfl ?_
        refine w_if_eq (tgt := 39) rfl (by first | assumption | exact i32_0 | (unfold i32 at *; omega)) rfl (fun _ => ?_) (fun c => absurd c (by decide))
        refine w_iconst rfl ?_
        exact w_ireturn rfl ⟨by first | rfl | (congr 2; omega), by rfl⟩
