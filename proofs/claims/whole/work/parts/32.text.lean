/-! ===== the text ===== -/
def dig (c : Int) : Bool := decide (48 ≤ c ∧ c ≤ 57)
theorem dig_iff {c : Int} : dig c = true ↔ (48 ≤ c ∧ c ≤ 57) := decide_eq_true_iff
/-- the bytes of the text -/
def TxR (b : List Int) (M : mM) : Prop := M 1 1 = (b.length : Int) ∧ b.length ≤ 200 ∧ ∀ (k : Nat) (c : Int), b[k]? = some c → M 2 k = c ∧ 0 ≤ c ∧ c ≤ 255
theorem TxR_fr {b : List Int} {M M1 : mM} (h : TxR b M) (e1 : M1 1 1 = M 1 1) (e2 : ∀ k, M1 2 k = M 2 k) : TxR b M1 := ⟨by rw [e1]; exact h.1, h.2.1, fun k c hk => ⟨by rw [e2]; exact (h.2.2 k c hk).1, (h.2.2 k c hk).2⟩⟩
def skp : List Int → List Int
  | [] => []
  | c :: l => if c = 32 then skp l else c :: l
def dgs : List Int → List Int
  | [] => []
  | c :: l => if dig c then c :: dgs l else []
def num3 (ds : List Int) : Int := (ds.take 3).foldl (fun a c => a * 10 + c - 48) 0
theorem num3_snoc (ds : List Int) (c : Int) : num3 (ds ++ [c]) = if ds.length < 3 then num3 ds * 10 + c - 48 else num3 ds := by
  unfold num3
  split
  · next h => rw [List.take_of_length_le (by simp; omega), List.take_of_length_le (by omega), List.foldl_append]; rfl
  · next h => rw [List.take_append_of_le_length (by omega)]
theorem skp_len (l : List Int) : (skp l).length ≤ l.length := by
  induction l with
  | nil => exact Nat.le_refl _
  | cons c l ih => unfold skp; split
                   · simp; omega
                   · exact Nat.le_refl _
theorem drop_cons {b : List Int} {p : Nat} {c : Int} {l : List Int} (h : b.drop p = c :: l) : p < b.length ∧ b[p]? = some c ∧ b.drop (p + 1) = l := by
  have hl : p < b.length := by
    rcases Nat.lt_or_ge p b.length with q | q
    · exact q
    · rw [List.drop_of_length_le q] at h; cases h
  rw [List.drop_eq_getElem_cons hl] at h
  injection h with h1 h2
  exact ⟨hl, by rw [List.getElem?_eq_getElem hl, h1], h2⟩
theorem e_isDig1 (c : Int) (M : mM) (hc : 0 ≤ c ∧ c ≤ 255) (h : dig c = true) : E 1 20 [vI c] M (some (vI 1)) M := by
  obtain ⟨h1, h2⟩ := dig_iff.mp h
  refine e_in (ls := [vI c]) mq_20 (ml_20 rfl) rfl fun D hD => ?_
  refine w_iload rfl rfl (w_iconst rfl ?_)
  refine w_icmp_lt (tgt := 16) rfl (by first | assumption | exact i32_0 | (unfold i32 at *; omega)) (by first | assumption | exact i32_0 | (unfold i32 at *; omega)) rfl (fun c3 => ?_) (fun c3 => ?_)
  · skip
    refine w_iconst rfl ?_
    exact w_zreturn rfl (by first | exact Or.inl rfl | exact Or.inr rfl | omega | assumption) ⟨by first | rfl | (exfalso; omega), by rfl⟩
  · skip
    refine w_iload rfl rfl (w_iconst rfl ?_)
    refine w_icmp_gt (tgt := 16) rfl (by first | assumption | exact i32_0 | (unfold i32 at *; omega)) (by first | assumption | exact i32_0 | (unfold i32 at *; omega)) rfl (fun c9 => ?_) (fun c9 => ?_)
    · skip
      refine w_iconst rfl ?_
      exact w_zreturn rfl (by first | exact Or.inl rfl | exact Or.inr rfl | omega | assumption) ⟨by first | rfl | (exfalso; omega), by rfl⟩
    · skip
      refine w_iconst rfl (w_goto (tgt := 17) rfl rfl ?_)
      exact w_zreturn rfl (by first | exact Or.inl rfl | exact Or.inr rfl | omega | assumption) ⟨by first | rfl | (exfalso; omega), by rfl⟩
theorem e_isDig0 (c : Int) (M : mM) (hc : 0 ≤ c ∧ c ≤ 255) (h : ¬ dig c = true) : E 1 20 [vI c] M (some (vI 0)) M := by
  have h : ¬ (48 ≤ c ∧ c ≤ 57) := fun q => h (dig_iff.mpr q)
  refine e_in (ls := [vI c]) mq_20 (ml_20 rfl) rfl fun D hD => ?_
  refine w_iload rfl rfl (w_iconst rfl ?_)
  refine w_icmp_lt (tgt := 16) rfl (by first | assumption | exact i32_0 | (unfold i32 at *; omega)) (by first | assumption | exact i32_0 | (unfold i32 at *; omega)) rfl (fun c3 => ?_) (fun c3 => ?_)
  · skip
    refine w_iconst rfl ?_
    exact w_zreturn rfl (by first | exact Or.inl rfl | exact Or.inr rfl | omega | assumption) ⟨by first | rfl | (exfalso; omega), by rfl⟩
  · skip
    refine w_iload rfl rfl (w_iconst rfl ?_)
    refine w_icmp_gt (tgt := 16) rfl (by first | assumption | exact i32_0 | (unfold i32 at *; omega)) (by first | assumption | exact i32_0 | (unfold i32 at *; omega)) rfl (fun c9 => ?_) (fun c9 => ?_)
    · skip
      refine w_iconst rfl ?_
      exact w_zreturn rfl (by first | exact Or.inl rfl | exact Or.inr rfl | omega | assumption) ⟨by first | rfl | (exfalso; omega), by rfl⟩
    · skip
      refine w_iconst rfl (w_goto (tgt := 17) rfl rfl ?_)
      exact w_zreturn rfl (by first | exact Or.inl rfl | exact Or.inr rfl | omega | assumption) ⟨by first | rfl | (exfalso; omega), by rfl⟩
theorem e_rewind (M : mM) : E 1 17 [vR 1] M none (upI M 1 2 0) := by
  refine e_in (ls := [vR 1]) mq_17 (ml_17 rfl) rfl fun D hD => ?_
  refine w_aload rfl rfl (w_iconst rfl (w_putI rfl (by first | rfl | assumption) rfl ?_))
  exact w_return rfl ⟨rfl, by rfl⟩
theorem e_append {b : List Int} {M : mM} (c : Int) (h : TxR b M) (hc : 0 ≤ c ∧ c ≤ 255) : EQ 1 13 [vR 1, vI c] M (fun r M1 => r = some (vI (if b.length < 200 then 1 else 0)) ∧ TxR (if b.length < 200 then b ++ [c] else b) M1 ∧ ∀ a k, a ≠ 2 → (a ≠ 1 ∨ k ≠ 1) → M1 a k = M a k) := by
  obtain ⟨h1, h2, h3⟩ := h
  refine q_in (ls := [vR 1, vI c]) mq_13 (ml_13 rfl) rfl fun D hD => ?_
  by_cases hl : b.length < 200
  · rw [if_pos hl, if_pos hl]
    have hfin : TxR (b ++ [c]) (upI (upI M 2 b.length c) 1 1 ((b.length : Int) + 1)) ∧ ∀ a k, a ≠ 2 → (a ≠ 1 ∨ k ≠ 1) → upI (upI M 2 b.length c) 1 1 ((b.length : Int) + 1) a k = M a k := by
      refine ⟨⟨?_, ?_, fun k d hk => ?_⟩, fun a k q1 q2 => ?_⟩
      · rw [upI_same, List.length_append]; rfl
      · rw [List.length_append]; exact hl
      · rw [show upI (upI M 2 b.length c) 1 1 ((b.length : Int) + 1) 2 k = upI M 2 b.length c 2 k from if_neg (fun q => by omega)]
        rcases Nat.lt_or_ge k b.length with q | q
        · rw [List.getElem?_append_left q] at hk
          rw [show upI M 2 b.length c 2 k = M 2 k from if_neg (fun q => by omega)]
          exact h3 k d hk
        · rw [List.getElem?_append_right q] at hk
          have : k - b.length < 1 := (List.getElem?_eq_some_iff.mp hk).1
          obtain rfl : k = b.length := by omega
          rw [Nat.sub_self] at hk
          cases hk
          exact ⟨upI_same M 2 _ c, hc⟩
      · unfold upI
        rw [if_neg (fun q => by omega), if_neg (fun q => by omega)]
    have e26 : upI M 2 b.length c 1 1 = (b.length : Int) := (if_neg (fun q => by omega)).trans h1
    refine w_aload rfl rfl (w_getIV rfl (by first | rfl | assumption) (by first | exact Or.inl rfl | exact Or.inr rfl) (h1) (w_aload rfl rfl (w_getR rfl (by first | rfl | assumption) rfl (by first | rfl | assumption) (w_alen rfl (by first | rfl | assumption) (by decide) (by decide) ?_))))
    refine w_icmp_lt (tgt := 14) rfl (by first | assumption | exact i32_0 | (unfold i32 at *; omega)) (by first | assumption | exact i32_0 | (unfold i32 at *; omega)) rfl (fun c9 => ?_) (fun c9 => ?_)
    · skip
      refine w_aload rfl rfl (w_getR rfl (by first | rfl | assumption) rfl (by first | rfl | assumption) (w_aload rfl rfl (w_getIV rfl (by first | rfl | assumption) (by first | exact Or.inl rfl | exact Or.inr rfl) (h1) (w_iload rfl rfl (w_iastore rfl (by first | rfl | assumption) (by omega) (by omega) (w_aload rfl rfl (w_dup rfl rfl ?_)))))))
      refine w_getIV rfl (by first | rfl | assumption) (by first | exact Or.inl rfl | exact Or.inr rfl) (e26) (w_iconst rfl (w_iadd rfl (w_putI rfl (by first | rfl | assumption) rfl (w_iconst rfl ?_))))
      exact w_zreturn rfl (by first | exact Or.inl rfl | exact Or.inr rfl | omega | assumption) ⟨by first | rfl | (congr 2; omega), by exact hfin⟩
    · skip
      exfalso; omega
  · rw [if_neg hl, if_neg hl]
    refine w_aload rfl rfl (w_getIV rfl (by first | rfl | assumption) (by first | exact Or.inl rfl | exact Or.inr rfl) (h1) (w_aload rfl rfl (w_getR rfl (by first | rfl | assumption) rfl (by first | rfl | assumption) (w_alen rfl (by first | rfl | assumption) (by decide) (by decide) ?_))))
    refine w_icmp_lt (tgt := 14) rfl (by first | assumption | exact i32_0 | (unfold i32 at *; omega)) (by first | assumption | exact i32_0 | (unfold i32 at *; omega)) rfl (fun c9 => ?_) (fun c9 => ?_)
    · skip
      exfalso; omega
    · skip
      refine w_iconst rfl ?_
      exact w_zreturn rfl (by first | exact Or.inl rfl | exact Or.inr rfl | omega | assumption) ⟨by first | rfl | (congr 2; omega), by exact ⟨⟨h1, h2, h3⟩, fun _ _ _ _ => rfl⟩⟩
/-- digits from a place on -/
theorem e_nextDigits {b : List Int} {p : Nat} {M : mM} (h : TxR b M) (hp : M 1 2 = (p : Int)) (h5 : M 1 5 = 0) (h6 : M 1 6 = 0) (hpl : p ≤ b.length) : EQ 2 21 [vR 1] M (fun r M1 => r = none ∧ M1 1 2 = ((p + (dgs (b.drop p)).length : Nat) : Int) ∧ M1 1 5 = ((dgs (b.drop p)).length : Int) ∧ M1 1 6 = num3 (dgs (b.drop p)) ∧ ∀ a k, (a ≠ 1 ∨ (k ≠ 2 ∧ k ≠ 5 ∧ k ≠ 6)) → M1 a k = M a k) := by
  obtain ⟨h1, h2, h3⟩ := h
  refine q_in (ls := [vR 1]) mq_21 (ml_21 rfl) rfl fun D hD => ?_
  have loop : ∀ (l : List Int) (q : Nat) (ds : List Int) (N : mM), b.drop q = l → q ≤ b.length → N 1 2 = (q : Int) → N 1 5 = (ds.length : Int) → N 1 6 = num3 ds → p + (dgs (b.drop p)).length = q + (dgs l).length → dgs (b.drop p) = ds ++ dgs l → ds.length ≤ q → (∀ a k, (a ≠ 1 ∨ (k ≠ 2 ∧ k ≠ 5 ∧ k ≠ 6)) → N a k = M a k) → Wp mc_21 D 0 [vR 1] [] N (fun r M1 => r = none ∧ M1 1 2 = ((p + (dgs (b.drop p)).length : Nat) : Int) ∧ M1 1 5 = ((dgs (b.drop p)).length : Int) ∧ M1 1 6 = num3 (dgs (b.drop p)) ∧ ∀ a k, (a ≠ 1 ∨ (k ≠ 2 ∧ k ≠ 5 ∧ k ≠ 6)) → M1 a k = M a k) := by
    intro l
    induction l with
    | nil =>
      intro q ds N hl hq e2 e5 e6 hn hd hdq hf
      have hq2 : b.length ≤ q := by
        have := congrArg List.length hl
        rw [List.length_drop] at this
        simp at this; omega
      have e1 : N 1 1 = (b.length : Int) := by rw [hf 1 1 (by omega)]; exact h1
      have hd : dgs (b.drop p) = ds := by rw [hd]; exact List.append_nil ds
      rw [hd] at hn ⊢
      have hn : p + ds.length = q := hn
      refine w_aload rfl rfl (w_getIV rfl (by first | rfl | assumption) (by first | exact Or.inl rfl | exact Or.inr rfl) (e2) (w_aload rfl rfl (w_getIV rfl (by first | rfl | assumption) (by first | exact Or.inl rfl | exact Or.inr rfl) (e1) ?_)))
      refine w_icmp_ge (tgt := 93) rfl (by first | assumption | exact i32_0 | (unfold i32 at *; omega)) (by first | assumption | exact i32_0 | (unfold i32 at *; omega)) rfl (fun c8 => ?_) (fun c8 => ?_)
      · skip
        exact w_return rfl ⟨rfl, by exact ⟨by rw [hn]; exact e2, e5, e6, hf⟩⟩
      · skip
        exfalso; omega
    | cons c l ih =>
      intro q ds N hl hq e2 e5 e6 hn hd hdq hf
      obtain ⟨g1, g2, g3⟩ := drop_cons hl
      obtain ⟨g4, g5⟩ := h3 q c g2
      have e1 : N 1 1 = (b.length : Int) := by rw [hf 1 1 (by omega)]; exact h1
      have e4 : N 2 q = c := by rw [hf 2 q (by omega)]; exact g4
      by_cases hc : dig c = true
      · have hdc : dgs (c :: l) = c :: dgs l := if_pos hc
        rw [hdc] at hn hd
        have hgo : ∀ N1 : mM, N1 1 2 = (q : Int) + 1 → N1 1 5 = (ds.length : Int) + 1 → N1 1 6 = num3 (ds ++ [c]) → (∀ a k, (a ≠ 1 ∨ (k ≠ 2 ∧ k ≠ 5 ∧ k ≠ 6)) → N1 a k = N a k) → _ := fun N1 k2 k5 k6 kf => ih (q + 1) (ds ++ [c]) N1 g3 g1 k2 (by rw [k5, List.length_append]; rfl) k6 (by rw [hn, List.length_cons]; omega) (by rw [hd, List.append_assoc]; rfl) (by rw [List.length_append]; show ds.length + 1 ≤ q + 1; omega) (fun a k ha => (kf a k ha).trans (hf a k ha))
        have hl3 := num3_snoc ds c
        refine w_aload rfl rfl (w_getIV rfl (by first | rfl | assumption) (by first | exact Or.inl rfl | exact Or.inr rfl) (e2) (w_aload rfl rfl (w_getIV rfl (by first | rfl | assumption) (by first | exact Or.inl rfl | exact Or.inr rfl) (e1) ?_)))
        refine w_icmp_ge (tgt := 93) rfl (by first | assumption | exact i32_0 | (unfold i32 at *; omega)) (by first | assumption | exact i32_0 | (unfold i32 at *; omega)) rfl (fun c8 => ?_) (fun c8 => ?_)
        · skip
          exfalso; omega
        · skip
          refine w_aload rfl rfl (w_getIV rfl (by first | rfl | assumption) (by first | exact Or.inl rfl | exact Or.inr rfl) (e2) (w_aload rfl rfl (w_getR rfl (by first | rfl | assumption) rfl (by first | rfl | assumption) (w_alen rfl (by first | rfl | assumption) (by decide) (by decide) ?_))))
          refine w_icmp_ge (tgt := 93) rfl (by first | assumption | exact i32_0 | (unfold i32 at *; omega)) (by first | assumption | exact i32_0 | (unfold i32 at *; omega)) rfl (fun c20 => ?_) (fun c20 => ?_)
          · skip
            exfalso; omega
          · skip
            refine w_aload rfl rfl (w_getR rfl (by first | rfl | assumption) rfl (by first | rfl | assumption) (w_aload rfl rfl (w_getIV rfl (by first | rfl | assumption) (by first | exact Or.inl rfl | exact Or.inr rfl) (e2) (w_ialoadV rfl (by first | rfl | assumption) (by omega) (by omega) (e4) ?_))))
            refine w_call (Or.inl rfl) (e_isDig1 c _ g5 hc) (by omega) nof_20 rfl rfl rfl rfl trivial rfl ?_
            refine w_if_eq (tgt := 93) rfl (by first | assumption | exact i32_0 | (unfold i32 at *; omega)) rfl (fun c => absurd c (by decide)) (fun _ => ?_)
            refine w_aload rfl rfl (w_getIV rfl (by first | rfl | assumption) (by first | exact Or.inl rfl | exact Or.inr rfl) (e5) (w_iconst rfl ?_))
            refine w_icmp_ge (tgt := 70) rfl (by first | assumption | exact i32_0 | (unfold i32 at *; omega)) (by first | assumption | exact i32_0 | (unfold i32 at *; omega)) rfl (fun c43 => ?_) (fun c43 => ?_)
            · skip
              refine w_aload rfl rfl (w_dup rfl rfl (w_getIV rfl (by first | rfl | assumption) (by first | exact Or.inl rfl | exact Or.inr rfl) (by first | exact e5 | exact (if_neg (fun q => by omega)).trans e5) (w_iconst rfl (w_iadd rfl (w_putI rfl (by first | rfl | assumption) rfl (w_aload rfl rfl (w_dup rfl rfl ?_)))))))
              refine w_getIV rfl (by first | rfl | assumption) (by first | exact Or.inl rfl | exact Or.inr rfl) (by first | exact (if_neg (fun q => by omega)).trans e2 | (unfold upI; rw [if_neg (fun q => by omega), if_neg (fun q => by omega)]; exact e2)) (w_iconst rfl (w_iadd rfl (w_putI rfl (by first | rfl | assumption) rfl (w_goto (tgt := 0) rfl rfl ?_))))
              first
                | (rw [if_pos (by omega)] at hl3; refine hgo _ ?_ ?_ ?_ (fun a k ha => ?_)
                   · exact upI_same _ 1 2 _
                   · exact (if_neg (fun q => by omega)).trans (upI_same _ 1 5 _)
                   · exact (if_neg (fun q => by omega)).trans ((if_neg (fun q => by omega)).trans ((upI_same _ 1 6 _).trans hl3.symm))
                   · unfold upI; rw [if_neg (fun q => by omega), if_neg (fun q => by omega), if_neg (fun q => by omega)])
                | (rw [if_neg (by omega)] at hl3; refine hgo _ ?_ ?_ ?_ (fun a k ha => ?_)
                   · exact upI_same _ 1 2 _
                   · exact (if_neg (fun q => by omega)).trans (upI_same _ 1 5 _)
                   · exact (if_neg (fun q => by omega)).trans ((if_neg (fun q => by omega)).trans (e6.trans hl3.symm))
                   · unfold upI; rw [if_neg (fun q => by omega), if_neg (fun q => by omega)])
            · skip
              refine w_aload rfl rfl (w_aload rfl rfl (w_getIV rfl (by first | rfl | assumption) (by first | exact Or.inl rfl | exact Or.inr rfl) (e6) (w_iconst rfl (w_imul rfl (w_aload rfl rfl (w_getR rfl (by first | rfl | assumption) rfl (by first | rfl | assumption) (w_aload rfl rfl ?_)))))))
              refine w_getIV rfl (by first | rfl | assumption) (by first | exact Or.inl rfl | exact Or.inr rfl) (e2) (w_ialoadV rfl (by first | rfl | assumption) (by omega) (by omega) (e4) (w_iadd rfl (w_iconst rfl (w_isub rfl (w_putI rfl (by first | rfl | assumption) rfl (w_aload rfl rfl (w_dup rfl rfl ?_)))))))
              refine w_getIV rfl (by first | rfl | assumption) (by first | exact Or.inl rfl | exact Or.inr rfl) (by first | exact e5 | exact (if_neg (fun q => by omega)).trans e5) (w_iconst rfl (w_iadd rfl (w_putI rfl (by first | rfl | assumption) rfl (w_aload rfl rfl (w_dup rfl rfl (w_getIV rfl (by first | rfl | assumption) (by first | exact Or.inl rfl | exact Or.inr rfl) (by first | exact (if_neg (fun q => by omega)).trans e2 | (unfold upI; rw [if_neg (fun q => by omega), if_neg (fun q => by omega)]; exact e2)) (w_iconst rfl ?_)))))))
              refine w_iadd rfl (w_putI rfl (by first | rfl | assumption) rfl (w_goto (tgt := 0) rfl rfl ?_))
              first
                | (rw [if_pos (by omega)] at hl3; refine hgo _ ?_ ?_ ?_ (fun a k ha => ?_)
                   · exact upI_same _ 1 2 _
                   · exact (if_neg (fun q => by omega)).trans (upI_same _ 1 5 _)
                   · exact (if_neg (fun q => by omega)).trans ((if_neg (fun q => by omega)).trans ((upI_same _ 1 6 _).trans hl3.symm))
                   · unfold upI; rw [if_neg (fun q => by omega), if_neg (fun q => by omega), if_neg (fun q => by omega)])
                | (rw [if_neg (by omega)] at hl3; refine hgo _ ?_ ?_ ?_ (fun a k ha => ?_)
                   · exact upI_same _ 1 2 _
                   · exact (if_neg (fun q => by omega)).trans (upI_same _ 1 5 _)
                   · exact (if_neg (fun q => by omega)).trans ((if_neg (fun q => by omega)).trans (e6.trans hl3.symm))
                   · unfold upI; rw [if_neg (fun q => by omega), if_neg (fun q => by omega)])
      · have hdc : dgs (c :: l) = [] := if_neg hc
        rw [hdc] at hn hd
        have hd : dgs (b.drop p) = ds := by rw [hd]; exact List.append_nil ds
        rw [hd] at hn ⊢
        have hn : p + ds.length = q := hn
        refine w_aload rfl rfl (w_getIV rfl (by first | rfl | assumption) (by first | exact Or.inl rfl | exact Or.inr rfl) (e2) (w_aload rfl rfl (w_getIV rfl (by first | rfl | assumption) (by first | exact Or.inl rfl | exact Or.inr rfl) (e1) ?_)))
        refine w_icmp_ge (tgt := 93) rfl (by first | assumption | exact i32_0 | (unfold i32 at *; omega)) (by first | assumption | exact i32_0 | (unfold i32 at *; omega)) rfl (fun c8 => ?_) (fun c8 => ?_)
        · skip
          exact w_return rfl ⟨rfl, by exact ⟨by rw [hn]; exact e2, e5, e6, hf⟩⟩
        · skip
          refine w_aload rfl rfl (w_getIV rfl (by first | rfl | assumption) (by first | exact Or.inl rfl | exact Or.inr rfl) (e2) (w_aload rfl rfl (w_getR rfl (by first | rfl | assumption) rfl (by first | rfl | assumption) (w_alen rfl (by first | rfl | assumption) (by decide) (by decide) ?_))))
          refine w_icmp_ge (tgt := 93) rfl (by first | assumption | exact i32_0 | (unfold i32 at *; omega)) (by first | assumption | exact i32_0 | (unfold i32 at *; omega)) rfl (fun c20 => ?_) (fun c20 => ?_)
          · skip
            exact w_return rfl ⟨rfl, by exact ⟨by rw [hn]; exact e2, e5, e6, hf⟩⟩
          · skip
            refine w_aload rfl rfl (w_getR rfl (by first | rfl | assumption) rfl (by first | rfl | assumption) (w_aload rfl rfl (w_getIV rfl (by first | rfl | assumption) (by first | exact Or.inl rfl | exact Or.inr rfl) (e2) (w_ialoadV rfl (by first | rfl | assumption) (by omega) (by omega) (e4) ?_))))
            refine w_call (Or.inl rfl) (e_isDig0 c _ g5 hc) (by omega) nof_20 rfl rfl rfl rfl trivial rfl ?_
            refine w_if_eq (tgt := 93) rfl (by first | assumption | exact i32_0 | (unfold i32 at *; omega)) rfl (fun _ => ?_) (fun c => absurd c (by decide))
            exact w_return rfl ⟨rfl, by exact ⟨by rw [hn]; exact e2, e5, e6, hf⟩⟩
  exact loop (b.drop p) p [] M rfl hpl hp h5 h6 rfl rfl (Nat.zero_le _) (fun _ _ _ => rfl)
