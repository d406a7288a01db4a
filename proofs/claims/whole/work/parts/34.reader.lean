/-! ===== the reader's steps ===== -/
/-- a cell's numbers written anew -/
def upO (M : mM) (a : Nat) (r : Nat → Int) : mM := fun b j => if b = a then r j else M b j
def sR (r : Nat → Int) (k : Nat) (v : Int) : Nat → Int := fun j => if j = k then v else r j
theorem upI_upO (M : mM) (a : Nat) (r : Nat → Int) (k : Nat) (v : Int) : upI (upO M a r) a k v = upO M a (sR r k v) := by
  funext b j
  unfold upI upO sR
  by_cases h : b = a
  · by_cases h2 : j = k
    · rw [if_pos ⟨h, h2⟩, if_pos h, if_pos h2]
    · rw [if_neg (fun q => h2 q.2), if_pos h, if_pos h, if_neg h2]
  · rw [if_neg (fun q => h q.1), if_neg h, if_neg h]
theorem upO_self {M : mM} {a : Nat} {r : Nat → Int} (h : M a = r) : M = upO M a r := by
  funext b j
  unfold upO
  by_cases q : b = a
  · rw [if_pos q, q, h]
  · rw [if_neg q]
theorem upO_at (M : mM) (a : Nat) (r : Nat → Int) (k : Nat) : upO M a r a k = r k := if_pos rfl
theorem upO_ne (M : mM) {a b : Nat} (r : Nat → Int) (k : Nat) (h : b ≠ a) : upO M a r b k = M b k := if_neg h
def rdNew (r : Nat → Int) : Nat → Int := sR (sR (sR (sR (sR (sR (sR (sR r 7 0) 8 0) 9 0) 10 0) 11 0) 12 0) 13 0) 14 0
def rdLet (kind power : Int) (r : Nat → Int) : Option (Nat → Int) :=
  if kind = 120 ∧ r 11 = 0 ∧ power + r 8 ≤ 4 then some (sR (sR (sR (sR r 11 1) 7 power) 10 (r 10 + 1)) 1 5)
  else if kind = 121 ∧ r 12 = 0 ∧ r 7 + power ≤ 4 then some (sR (sR (sR (sR r 12 1) 8 power) 10 (r 10 + 1)) 1 5)
  else none
def rdNum (n : Int) (r : Nat → Int) : Nat → Int := sR (sR (sR (sR r 13 1) 9 n) 10 (r 10 + 1)) 1 5
/-- what holds of the reader's fields -/
def RdI (r : Nat → Int) : Prop := (0 ≤ r 7 ∧ 0 ≤ r 8 ∧ r 7 + r 8 ≤ 4) ∧ (0 ≤ r 10 ∧ r 10 ≤ 3 ∧ (r 1 ≠ 5 → r 10 ≤ 2)) ∧ ((r 11 = 0 ∨ r 11 = 1) ∧ (r 12 = 0 ∨ r 12 = 1) ∧ (r 13 = 0 ∨ r 13 = 1) ∧ (r 3 = 0 ∨ r 3 = 1) ∧ (r 4 = 0 ∨ r 4 = 1) ∧ (r 6 = 0 ∨ r 6 = 1)) ∧ (-999 ≤ r 9 ∧ r 9 ≤ 999) ∧ (0 ≤ r 14 ∧ r 14 ≤ 999) ∧ (0 ≤ r 5 ∧ r 5 ≤ 24 ∧ (r 1 = 0 → r 5 ≤ 23)) ∧ (0 ≤ r 1 ∧ r 1 ≤ 5)
theorem e_beginTerm (M : mM) (r : Nat → Int) : E 1 18 [vR 3] (upO M 3 r) none (upO M 3 (rdNew r)) := by
  refine e_in (ls := [vR 3]) mq_18 (ml_18 rfl) rfl fun D hD => ?_
  refine w_aload rfl rfl (w_iconst rfl (w_putI rfl (by first | rfl | assumption) rfl (w_aload rfl rfl (w_iconst rfl (w_putI rfl (by first | rfl | assumption) rfl (w_aload rfl rfl (w_iconst rfl ?_)))))))
  refine w_putI rfl (by first | rfl | assumption) rfl (w_aload rfl rfl (w_iconst rfl (w_putI rfl (by first | rfl | assumption) rfl (w_aload rfl rfl (w_iconst rfl (w_putZ rfl (by first | rfl | assumption) rfl (by first | exact Or.inl rfl | exact Or.inr rfl | omega | assumption) (w_aload rfl rfl ?_)))))))
  refine w_iconst rfl (w_putZ rfl (by first | rfl | assumption) rfl (by first | exact Or.inl rfl | exact Or.inr rfl | omega | assumption) (w_aload rfl rfl (w_iconst rfl (w_putZ rfl (by first | rfl | assumption) rfl (by first | exact Or.inl rfl | exact Or.inr rfl | omega | assumption) (w_aload rfl rfl (w_iconst rfl (w_putI rfl (by first | rfl | assumption) rfl ?_)))))))
  exact w_return rfl ⟨rfl, by (simp only [upI_upO]; rfl)⟩
theorem e_takeLetter (M : mM) {r : Nat → Int} {kind power : Int} (h : RdI r) (hk : 0 ≤ kind ∧ kind ≤ 257) (hp : 0 ≤ power ∧ power ≤ 999) : E 1 26 [vR 3, vI kind, vI power] (upO M 3 r) (some (vI (if (rdLet kind power r).isSome then 1 else 0))) (upO M 3 ((rdLet kind power r).getD r)) := by
  obtain ⟨h1, h2, ⟨h3, h4, -⟩, -⟩ := h
  have g (k : Nat) : upO M 3 r 3 k = r k := upO_at M 3 r k
  refine e_in (ls := [vR 3, vI kind, vI power]) mq_26 (ml_26 rfl) rfl fun D hD => ?_
  by_cases a1 : kind = 120 ∧ r 11 = 0 ∧ power + r 8 ≤ 4
  · rw [show rdLet kind power r = _ from if_pos a1]
    refine w_iload rfl rfl (w_iconst rfl ?_)
    refine w_icmp_ne (tgt := 36) rfl (by first | assumption | exact i32_0 | (unfold i32 at *; omega)) (by first | assumption | exact i32_0 | (unfold i32 at *; omega)) rfl (fun c3 => ?_) (fun c3 => ?_)
    · skip
      exfalso; omega
    · skip
      refine w_aload rfl rfl (w_getIV rfl (by first | rfl | assumption) (by first | exact Or.inl rfl | exact Or.inr rfl) (g 11) ?_)
      refine w_if_ne (tgt := 36) rfl (by first | assumption | exact i32_0 | (unfold i32 at *; omega)) rfl (fun c10 => ?_) (fun c10 => ?_)
      · skip
        exfalso; omega
      · skip
        refine w_iload rfl rfl (w_aload rfl rfl (w_getIV rfl (by first | rfl | assumption) (by first | exact Or.inl rfl | exact Or.inr rfl) (g 8) (w_iadd rfl (w_iconst rfl ?_))))
        refine w_icmp_gt (tgt := 36) rfl (by first | assumption | exact i32_0 | (unfold i32 at *; omega)) (by first | assumption | exact i32_0 | (unfold i32 at *; omega)) rfl (fun c20 => ?_) (fun c20 => ?_)
        · skip
          exfalso; omega
        · skip
          refine w_aload rfl rfl (w_iconst rfl (w_putZ rfl (by first | rfl | assumption) rfl (by first | exact Or.inl rfl | exact Or.inr rfl | omega | assumption) (w_aload rfl rfl (w_iload rfl rfl (w_putI rfl (by first | rfl | assumption) rfl (w_goto (tgt := 74) rfl rfl (w_aload rfl rfl ?_)))))))
          refine w_dup rfl rfl (w_getIV rfl (by first | rfl | assumption) (by first | exact Or.inl rfl | exact Or.inr rfl) ((if_neg (fun q => by omega)).trans ((if_neg (fun q => by omega)).trans (g 10))) (w_iconst rfl (w_iadd rfl (w_putI rfl (by first | rfl | assumption) rfl (w_aload rfl rfl (w_iconst rfl (w_putI rfl (by first | rfl | assumption) rfl ?_)))))))
          refine w_iconst rfl ?_
          exact w_zreturn rfl (by first | exact Or.inl rfl | exact Or.inr rfl | omega | assumption) ⟨by first | rfl | (congr 2; omega), by (simp only [upI_upO]; rfl)⟩
  · by_cases a2 : kind = 121 ∧ r 12 = 0 ∧ r 7 + power ≤ 4
    · rw [show rdLet kind power r = _ from (if_neg a1).trans (if_pos a2)]
      refine w_iload rfl rfl (w_iconst rfl ?_)
      refine w_icmp_ne (tgt := 36) rfl (by first | assumption | exact i32_0 | (unfold i32 at *; omega)) (by first | assumption | exact i32_0 | (unfold i32 at *; omega)) rfl (fun c3 => ?_) (fun c3 => ?_)
      · skip
        refine w_iload rfl rfl (w_iconst rfl ?_)
        refine w_icmp_ne (tgt := 72) rfl (by first | assumption | exact i32_0 | (unfold i32 at *; omega)) (by first | assumption | exact i32_0 | (unfold i32 at *; omega)) rfl (fun c39 => ?_) (fun c39 => ?_)
        · skip
          exfalso; omega
        · skip
          refine w_aload rfl rfl (w_getIV rfl (by first | rfl | assumption) (by first | exact Or.inl rfl | exact Or.inr rfl) (g 12) ?_)
          refine w_if_ne (tgt := 72) rfl (by first | assumption | exact i32_0 | (unfold i32 at *; omega)) rfl (fun c46 => ?_) (fun c46 => ?_)
          · skip
            exfalso; omega
          · skip
            refine w_aload rfl rfl (w_getIV rfl (by first | rfl | assumption) (by first | exact Or.inl rfl | exact Or.inr rfl) (g 7) (w_iload rfl rfl (w_iadd rfl (w_iconst rfl ?_))))
            refine w_icmp_gt (tgt := 72) rfl (by first | assumption | exact i32_0 | (unfold i32 at *; omega)) (by first | assumption | exact i32_0 | (unfold i32 at *; omega)) rfl (fun c56 => ?_) (fun c56 => ?_)
            · skip
              exfalso; omega
            · skip
              refine w_aload rfl rfl (w_iconst rfl (w_putZ rfl (by first | rfl | assumption) rfl (by first | exact Or.inl rfl | exact Or.inr rfl | omega | assumption) (w_aload rfl rfl (w_iload rfl rfl (w_putI rfl (by first | rfl | assumption) rfl (w_goto (tgt := 74) rfl rfl (w_aload rfl rfl ?_)))))))
              refine w_dup rfl rfl (w_getIV rfl (by first | rfl | assumption) (by first | exact Or.inl rfl | exact Or.inr rfl) ((if_neg (fun q => by omega)).trans ((if_neg (fun q => by omega)).trans (g 10))) (w_iconst rfl (w_iadd rfl (w_putI rfl (by first | rfl | assumption) rfl (w_aload rfl rfl (w_iconst rfl (w_putI rfl (by first | rfl | assumption) rfl ?_)))))))
              refine w_iconst rfl ?_
              exact w_zreturn rfl (by first | exact Or.inl rfl | exact Or.inr rfl | omega | assumption) ⟨by first | rfl | (congr 2; omega), by (simp only [upI_upO]; rfl)⟩
      · skip
        refine w_aload rfl rfl (w_getIV rfl (by first | rfl | assumption) (by first | exact Or.inl rfl | exact Or.inr rfl) (g 11) ?_)
        refine w_if_ne (tgt := 36) rfl (by first | assumption | exact i32_0 | (unfold i32 at *; omega)) rfl (fun c10 => ?_) (fun c10 => ?_)
        · skip
          refine w_iload rfl rfl (w_iconst rfl ?_)
          refine w_icmp_ne (tgt := 72) rfl (by first | assumption | exact i32_0 | (unfold i32 at *; omega)) (by first | assumption | exact i32_0 | (unfold i32 at *; omega)) rfl (fun c39 => ?_) (fun c39 => ?_)
          · skip
            exfalso; omega
          · skip
            refine w_aload rfl rfl (w_getIV rfl (by first | rfl | assumption) (by first | exact Or.inl rfl | exact Or.inr rfl) (g 12) ?_)
            refine w_if_ne (tgt := 72) rfl (by first | assumption | exact i32_0 | (unfold i32 at *; omega)) rfl (fun c46 => ?_) (fun c46 => ?_)
            · skip
              exfalso; omega
            · skip
              refine w_aload rfl rfl (w_getIV rfl (by first | rfl | assumption) (by first | exact Or.inl rfl | exact Or.inr rfl) (g 7) (w_iload rfl rfl (w_iadd rfl (w_iconst rfl ?_))))
              refine w_icmp_gt (tgt := 72) rfl (by first | assumption | exact i32_0 | (unfold i32 at *; omega)) (by first | assumption | exact i32_0 | (unfold i32 at *; omega)) rfl (fun c56 => ?_) (fun c56 => ?_)
              · skip
                exfalso; omega
              · skip
                refine w_aload rfl rfl (w_iconst rfl (w_putZ rfl (by first | rfl | assumption) rfl (by first | exact Or.inl rfl | exact Or.inr rfl | omega | assumption) (w_aload rfl rfl (w_iload rfl rfl (w_putI rfl (by first | rfl | assumption) rfl (w_goto (tgt := 74) rfl rfl (w_aload rfl rfl ?_)))))))
                refine w_dup rfl rfl (w_getIV rfl (by first | rfl | assumption) (by first | exact Or.inl rfl | exact Or.inr rfl) ((if_neg (fun q => by omega)).trans ((if_neg (fun q => by omega)).trans (g 10))) (w_iconst rfl (w_iadd rfl (w_putI rfl (by first | rfl | assumption) rfl (w_aload rfl rfl (w_iconst rfl (w_putI rfl (by first | rfl | assumption) rfl ?_)))))))
                refine w_iconst rfl ?_
                exact w_zreturn rfl (by first | exact Or.inl rfl | exact Or.inr rfl | omega | assumption) ⟨by first | rfl | (congr 2; omega), by (simp only [upI_upO]; rfl)⟩
        · skip
          refine w_iload rfl rfl (w_aload rfl rfl (w_getIV rfl (by first | rfl | assumption) (by first | exact Or.inl rfl | exact Or.inr rfl) (g 8) (w_iadd rfl (w_iconst rfl ?_))))
          refine w_icmp_gt (tgt := 36) rfl (by first | assumption | exact i32_0 | (unfold i32 at *; omega)) (by first | assumption | exact i32_0 | (unfold i32 at *; omega)) rfl (fun c20 => ?_) (fun c20 => ?_)
          · skip
            refine w_iload rfl rfl (w_iconst rfl ?_)
            refine w_icmp_ne (tgt := 72) rfl (by first | assumption | exact i32_0 | (unfold i32 at *; omega)) (by first | assumption | exact i32_0 | (unfold i32 at *; omega)) rfl (fun c39 => ?_) (fun c39 => ?_)
            · skip
              exfalso; omega
            · skip
              refine w_aload rfl rfl (w_getIV rfl (by first | rfl | assumption) (by first | exact Or.inl rfl | exact Or.inr rfl) (g 12) ?_)
              refine w_if_ne (tgt := 72) rfl (by first | assumption | exact i32_0 | (unfold i32 at *; omega)) rfl (fun c46 => ?_) (fun c46 => ?_)
              · skip
                exfalso; omega
              · skip
                refine w_aload rfl rfl (w_getIV rfl (by first | rfl | assumption) (by first | exact Or.inl rfl | exact Or.inr rfl) (g 7) (w_iload rfl rfl (w_iadd rfl (w_iconst rfl ?_))))
                refine w_icmp_gt (tgt := 72) rfl (by first | assumption | exact i32_0 | (unfold i32 at *; omega)) (by first | assumption | exact i32_0 | (unfold i32 at *; omega)) rfl (fun c56 => ?_) (fun c56 => ?_)
                · skip
                  exfalso; omega
                · skip
                  refine w_aload rfl rfl (w_iconst rfl (w_putZ rfl (by first | rfl | assumption) rfl (by first | exact Or.inl rfl | exact Or.inr rfl | omega | assumption) (w_aload rfl rfl (w_iload rfl rfl (w_putI rfl (by first | rfl | assumption) rfl (w_goto (tgt := 74) rfl rfl (w_aload rfl rfl ?_)))))))
                  refine w_dup rfl rfl (w_getIV rfl (by first | rfl | assumption) (by first | exact Or.inl rfl | exact Or.inr rfl) ((if_neg (fun q => by omega)).trans ((if_neg (fun q => by omega)).trans (g 10))) (w_iconst rfl (w_iadd rfl (w_putI rfl (by first | rfl | assumption) rfl (w_aload rfl rfl (w_iconst rfl (w_putI rfl (by first | rfl | assumption) rfl ?_)))))))
                  refine w_iconst rfl ?_
                  exact w_zreturn rfl (by first | exact Or.inl rfl | exact Or.inr rfl | omega | assumption) ⟨by first | rfl | (congr 2; omega), by (simp only [upI_upO]; rfl)⟩
          · skip
            exfalso; omega
    · rw [show rdLet kind power r = _ from (if_neg a1).trans (if_neg a2)]
      refine w_iload rfl rfl (w_iconst rfl ?_)
      refine w_icmp_ne (tgt := 36) rfl (by first | assumption | exact i32_0 | (unfold i32 at *; omega)) (by first | assumption | exact i32_0 | (unfold i32 at *; omega)) rfl (fun c3 => ?_) (fun c3 => ?_)
      · skip
        refine w_iload rfl rfl (w_iconst rfl ?_)
        refine w_icmp_ne (tgt := 72) rfl (by first | assumption | exact i32_0 | (unfold i32 at *; omega)) (by first | assumption | exact i32_0 | (unfold i32 at *; omega)) rfl (fun c39 => ?_) (fun c39 => ?_)
        · skip
          refine w_iconst rfl ?_
          exact w_zreturn rfl (by first | exact Or.inl rfl | exact Or.inr rfl | omega | assumption) ⟨by first | rfl | (congr 2; omega), by rfl⟩
        · skip
          refine w_aload rfl rfl (w_getIV rfl (by first | rfl | assumption) (by first | exact Or.inl rfl | exact Or.inr rfl) (g 12) ?_)
          refine w_if_ne (tgt := 72) rfl (by first | assumption | exact i32_0 | (unfold i32 at *; omega)) rfl (fun c46 => ?_) (fun c46 => ?_)
          · skip
            refine w_iconst rfl ?_
            exact w_zreturn rfl (by first | exact Or.inl rfl | exact Or.inr rfl | omega | assumption) ⟨by first | rfl | (congr 2; omega), by rfl⟩
          · skip
            refine w_aload rfl rfl (w_getIV rfl (by first | rfl | assumption) (by first | exact Or.inl rfl | exact Or.inr rfl) (g 7) (w_iload rfl rfl (w_iadd rfl (w_iconst rfl ?_))))
            refine w_icmp_gt (tgt := 72) rfl (by first | assumption | exact i32_0 | (unfold i32 at *; omega)) (by first | assumption | exact i32_0 | (unfold i32 at *; omega)) rfl (fun c56 => ?_) (fun c56 => ?_)
            · skip
              refine w_iconst rfl ?_
              exact w_zreturn rfl (by first | exact Or.inl rfl | exact Or.inr rfl | omega | assumption) ⟨by first | rfl | (congr 2; omega), by rfl⟩
            · skip
              exfalso; omega
      · skip
        refine w_aload rfl rfl (w_getIV rfl (by first | rfl | assumption) (by first | exact Or.inl rfl | exact Or.inr rfl) (g 11) ?_)
        refine w_if_ne (tgt := 36) rfl (by first | assumption | exact i32_0 | (unfold i32 at *; omega)) rfl (fun c10 => ?_) (fun c10 => ?_)
        · skip
          refine w_iload rfl rfl (w_iconst rfl ?_)
          refine w_icmp_ne (tgt := 72) rfl (by first | assumption | exact i32_0 | (unfold i32 at *; omega)) (by first | assumption | exact i32_0 | (unfold i32 at *; omega)) rfl (fun c39 => ?_) (fun c39 => ?_)
          · skip
            refine w_iconst rfl ?_
            exact w_zreturn rfl (by first | exact Or.inl rfl | exact Or.inr rfl | omega | assumption) ⟨by first | rfl | (congr 2; omega), by rfl⟩
          · skip
            refine w_aload rfl rfl (w_getIV rfl (by first | rfl | assumption) (by first | exact Or.inl rfl | exact Or.inr rfl) (g 12) ?_)
            refine w_if_ne (tgt := 72) rfl (by first | assumption | exact i32_0 | (unfold i32 at *; omega)) rfl (fun c46 => ?_) (fun c46 => ?_)
            · skip
              refine w_iconst rfl ?_
              exact w_zreturn rfl (by first | exact Or.inl rfl | exact Or.inr rfl | omega | assumption) ⟨by first | rfl | (congr 2; omega), by rfl⟩
            · skip
              refine w_aload rfl rfl (w_getIV rfl (by first | rfl | assumption) (by first | exact Or.inl rfl | exact Or.inr rfl) (g 7) (w_iload rfl rfl (w_iadd rfl (w_iconst rfl ?_))))
              refine w_icmp_gt (tgt := 72) rfl (by first | assumption | exact i32_0 | (unfold i32 at *; omega)) (by first | assumption | exact i32_0 | (unfold i32 at *; omega)) rfl (fun c56 => ?_) (fun c56 => ?_)
              · skip
                refine w_iconst rfl ?_
                exact w_zreturn rfl (by first | exact Or.inl rfl | exact Or.inr rfl | omega | assumption) ⟨by first | rfl | (congr 2; omega), by rfl⟩
              · skip
                exfalso; omega
        · skip
          refine w_iload rfl rfl (w_aload rfl rfl (w_getIV rfl (by first | rfl | assumption) (by first | exact Or.inl rfl | exact Or.inr rfl) (g 8) (w_iadd rfl (w_iconst rfl ?_))))
          refine w_icmp_gt (tgt := 36) rfl (by first | assumption | exact i32_0 | (unfold i32 at *; omega)) (by first | assumption | exact i32_0 | (unfold i32 at *; omega)) rfl (fun c20 => ?_) (fun c20 => ?_)
          · skip
            refine w_iload rfl rfl (w_iconst rfl ?_)
            refine w_icmp_ne (tgt := 72) rfl (by first | assumption | exact i32_0 | (unfold i32 at *; omega)) (by first | assumption | exact i32_0 | (unfold i32 at *; omega)) rfl (fun c39 => ?_) (fun c39 => ?_)
            · skip
              refine w_iconst rfl ?_
              exact w_zreturn rfl (by first | exact Or.inl rfl | exact Or.inr rfl | omega | assumption) ⟨by first | rfl | (congr 2; omega), by rfl⟩
            · skip
              refine w_aload rfl rfl (w_getIV rfl (by first | rfl | assumption) (by first | exact Or.inl rfl | exact Or.inr rfl) (g 12) ?_)
              refine w_if_ne (tgt := 72) rfl (by first | assumption | exact i32_0 | (unfold i32 at *; omega)) rfl (fun c46 => ?_) (fun c46 => ?_)
              · skip
                refine w_iconst rfl ?_
                exact w_zreturn rfl (by first | exact Or.inl rfl | exact Or.inr rfl | omega | assumption) ⟨by first | rfl | (congr 2; omega), by rfl⟩
              · skip
                refine w_aload rfl rfl (w_getIV rfl (by first | rfl | assumption) (by first | exact Or.inl rfl | exact Or.inr rfl) (g 7) (w_iload rfl rfl (w_iadd rfl (w_iconst rfl ?_))))
                refine w_icmp_gt (tgt := 72) rfl (by first | assumption | exact i32_0 | (unfold i32 at *; omega)) (by first | assumption | exact i32_0 | (unfold i32 at *; omega)) rfl (fun c56 => ?_) (fun c56 => ?_)
                · skip
                  refine w_iconst rfl ?_
                  exact w_zreturn rfl (by first | exact Or.inl rfl | exact Or.inr rfl | omega | assumption) ⟨by first | rfl | (congr 2; omega), by rfl⟩
                · skip
                  exfalso; omega
          · skip
            exfalso; omega
theorem e_takeNumber (M : mM) (r : Nat → Int) (n : Int) : E 1 27 [vR 3, vI n] (upO M 3 r) (some (vI 1)) (upO M 3 (rdNum n r)) := by
  have g (k : Nat) : upO M 3 r 3 k = r k := upO_at M 3 r k
  refine e_in (ls := [vR 3, vI n]) mq_27 (ml_27 rfl) rfl fun D hD => ?_
  refine w_aload rfl rfl (w_iconst rfl (w_putZ rfl (by first | rfl | assumption) rfl (by first | exact Or.inl rfl | exact Or.inr rfl | omega | assumption) (w_aload rfl rfl (w_iload rfl rfl (w_putI rfl (by first | rfl | assumption) rfl (w_aload rfl rfl (w_dup rfl rfl ?_)))))))
  refine w_getIV rfl (by first | rfl | assumption) (by first | exact Or.inl rfl | exact Or.inr rfl) ((if_neg (fun q => by omega)).trans ((if_neg (fun q => by omega)).trans (g 10))) (w_iconst rfl (w_iadd rfl (w_putI rfl (by first | rfl | assumption) rfl (w_aload rfl rfl (w_iconst rfl (w_putI rfl (by first | rfl | assumption) rfl (w_iconst rfl ?_)))))))
  exact w_zreturn rfl (by first | exact Or.inl rfl | exact Or.inr rfl | omega | assumption) ⟨by first | rfl | (congr 2; omega), by (simp only [upI_upO]; rfl)⟩
/-- at the beginning of a part: the answer, and the fields then -/
def rdPart (kind dd nn : Int) (r : Nat → Int) : Bool × (Nat → Int) :=
  if kind = 256 then (decide (dd ≤ 3), sR (sR r 14 nn) 1 4)
  else if kind = 45 then (decide (r 13 = 0), sR r 1 3)
  else ((rdLet kind 1 r).isSome, (rdLet kind 1 r).getD r)
theorem e_beginPart (M : mM) {r : Nat → Int} {kind dd nn : Int} (h : RdI r) (hk : 0 ≤ kind ∧ kind ≤ 257) (h5 : M 1 5 = dd) (h6 : M 1 6 = nn) (hdd : 0 ≤ dd ∧ dd ≤ 200) : E 2 25 [vR 3, vI kind] (upO M 3 r) (some (vI (if (rdPart kind dd nn r).1 then 1 else 0))) (upO M 3 (rdPart kind dd nn r).2) := by
  have hh := h
  obtain ⟨-, -, ⟨-, -, hn, -⟩, -⟩ := h
  have g (k : Nat) : upO M 3 r 3 k = r k := upO_at M 3 r k
  have g6 : upO M 3 r 1 6 = nn := (upO_ne M r 6 (by decide)).trans h6
  have g5 : upI (upI (upO M 3 r) 3 14 nn) 3 1 4 1 5 = dd := (if_neg (fun q => by omega)).trans ((if_neg (fun q => by omega)).trans ((upO_ne M r 5 (by decide)).trans h5))
  refine e_in (ls := [vR 3, vI kind]) mq_25 (ml_25 rfl) rfl fun D hD => ?_
  by_cases a1 : kind = 256
  · rw [show rdPart kind dd nn r = _ from if_pos a1]
    by_cases a3 : dd ≤ 3
    · rw [decide_eq_true a3]
      refine w_iload rfl rfl (w_iconst rfl ?_)
      refine w_icmp_ne (tgt := 40) rfl (by first | assumption | exact i32_0 | (unfold i32 at *; omega)) (by first | assumption | exact i32_0 | (unfold i32 at *; omega)) rfl (fun c4 => ?_) (fun c4 => ?_)
      · skip
        exfalso; omega
      · skip
        refine w_aload rfl rfl (w_aload rfl rfl (w_getR rfl (by first | rfl | assumption) rfl (by first | rfl | assumption) (w_getIV rfl (by first | rfl | assumption) (by first | exact Or.inl rfl | exact Or.inr rfl) (g6) (w_putI rfl (by first | rfl | assumption) rfl (w_aload rfl rfl (w_iconst rfl (w_putI rfl (by first | rfl | assumption) rfl ?_)))))))
        refine w_aload rfl rfl (w_getR rfl (by first | rfl | assumption) rfl (by first | rfl | assumption) (w_getIV rfl (by first | rfl | assumption) (by first | exact Or.inl rfl | exact Or.inr rfl) (g5) (w_iconst rfl ?_)))
        refine w_icmp_gt (tgt := 38) rfl (by first | assumption | exact i32_0 | (unfold i32 at *; omega)) (by first | assumption | exact i32_0 | (unfold i32 at *; omega)) rfl (fun c31 => ?_) (fun c31 => ?_)
        · skip
          exfalso; omega
        · skip
          refine w_iconst rfl (w_goto (tgt := 39) rfl rfl ?_)
          exact w_zreturn rfl (by first | exact Or.inl rfl | exact Or.inr rfl | omega | assumption) ⟨by first | rfl | (congr 2; omega), by (simp only [upI_upO])⟩
    · rw [decide_eq_false a3]
      refine w_iload rfl rfl (w_iconst rfl ?_)
      refine w_icmp_ne (tgt := 40) rfl (by first | assumption | exact i32_0 | (unfold i32 at *; omega)) (by first | assumption | exact i32_0 | (unfold i32 at *; omega)) rfl (fun c4 => ?_) (fun c4 => ?_)
      · skip
        exfalso; omega
      · skip
        refine w_aload rfl rfl (w_aload rfl rfl (w_getR rfl (by first | rfl | assumption) rfl (by first | rfl | assumption) (w_getIV rfl (by first | rfl | assumption) (by first | exact Or.inl rfl | exact Or.inr rfl) (g6) (w_putI rfl (by first | rfl | assumption) rfl (w_aload rfl rfl (w_iconst rfl (w_putI rfl (by first | rfl | assumption) rfl ?_)))))))
        refine w_aload rfl rfl (w_getR rfl (by first | rfl | assumption) rfl (by first | rfl | assumption) (w_getIV rfl (by first | rfl | assumption) (by first | exact Or.inl rfl | exact Or.inr rfl) (g5) (w_iconst rfl ?_)))
        refine w_icmp_gt (tgt := 38) rfl (by first | assumption | exact i32_0 | (unfold i32 at *; omega)) (by first | assumption | exact i32_0 | (unfold i32 at *; omega)) rfl (fun c31 => ?_) (fun c31 => ?_)
        · skip
          refine w_iconst rfl ?_
          exact w_zreturn rfl (by first | exact Or.inl rfl | exact Or.inr rfl | omega | assumption) ⟨by first | rfl | (congr 2; omega), by (simp only [upI_upO])⟩
        · skip
          exfalso; omega
  · by_cases a2 : kind = 45
    · rw [show rdPart kind dd nn r = _ from (if_neg a1).trans (if_pos a2)]
      have g13 : upI (upO M 3 r) 3 1 3 3 13 = r 13 := (if_neg (fun q => by omega)).trans (g 13)
      by_cases a3 : r 13 = 0
      · rw [decide_eq_true a3]
        refine w_iload rfl rfl (w_iconst rfl ?_)
        refine w_icmp_ne (tgt := 40) rfl (by first | assumption | exact i32_0 | (unfold i32 at *; omega)) (by first | assumption | exact i32_0 | (unfold i32 at *; omega)) rfl (fun c4 => ?_) (fun c4 => ?_)
        · skip
          refine w_iload rfl rfl (w_iconst rfl ?_)
          refine w_icmp_ne (tgt := 64) rfl (by first | assumption | exact i32_0 | (unfold i32 at *; omega)) (by first | assumption | exact i32_0 | (unfold i32 at *; omega)) rfl (fun c43 => ?_) (fun c43 => ?_)
          · skip
            exfalso; omega
          · skip
            refine w_aload rfl rfl (w_iconst rfl (w_putI rfl (by first | rfl | assumption) rfl (w_aload rfl rfl (w_getIV rfl (by first | rfl | assumption) (by first | exact Or.inl rfl | exact Or.inr rfl) (g13) ?_))))
            refine w_if_ne (tgt := 62) rfl (by first | assumption | exact i32_0 | (unfold i32 at *; omega)) rfl (fun c55 => ?_) (fun c55 => ?_)
            · skip
              exfalso; omega
            · skip
              refine w_iconst rfl (w_goto (tgt := 63) rfl rfl ?_)
              exact w_zreturn rfl (by first | exact Or.inl rfl | exact Or.inr rfl | omega | assumption) ⟨by first | rfl | (congr 2; omega), by (simp only [upI_upO])⟩
        · skip
          exfalso; omega
      · rw [decide_eq_false a3]
        refine w_iload rfl rfl (w_iconst rfl ?_)
        refine w_icmp_ne (tgt := 40) rfl (by first | assumption | exact i32_0 | (unfold i32 at *; omega)) (by first | assumption | exact i32_0 | (unfold i32 at *; omega)) rfl (fun c4 => ?_) (fun c4 => ?_)
        · skip
          refine w_iload rfl rfl (w_iconst rfl ?_)
          refine w_icmp_ne (tgt := 64) rfl (by first | assumption | exact i32_0 | (unfold i32 at *; omega)) (by first | assumption | exact i32_0 | (unfold i32 at *; omega)) rfl (fun c43 => ?_) (fun c43 => ?_)
          · skip
            exfalso; omega
          · skip
            refine w_aload rfl rfl (w_iconst rfl (w_putI rfl (by first | rfl | assumption) rfl (w_aload rfl rfl (w_getIV rfl (by first | rfl | assumption) (by first | exact Or.inl rfl | exact Or.inr rfl) (g13) ?_))))
            refine w_if_ne (tgt := 62) rfl (by first | assumption | exact i32_0 | (unfold i32 at *; omega)) rfl (fun c55 => ?_) (fun c55 => ?_)
            · skip
              refine w_iconst rfl ?_
              exact w_zreturn rfl (by first | exact Or.inl rfl | exact Or.inr rfl | omega | assumption) ⟨by first | rfl | (congr 2; omega), by (simp only [upI_upO])⟩
            · skip
              exfalso; omega
        · skip
          exfalso; omega
    · rw [show rdPart kind dd nn r = _ from (if_neg a1).trans (if_neg a2)]
      refine w_iload rfl rfl (w_iconst rfl ?_)
      refine w_icmp_ne (tgt := 40) rfl (by first | assumption | exact i32_0 | (unfold i32 at *; omega)) (by first | assumption | exact i32_0 | (unfold i32 at *; omega)) rfl (fun c4 => ?_) (fun c4 => ?_)
      · skip
        refine w_iload rfl rfl (w_iconst rfl ?_)
        refine w_icmp_ne (tgt := 64) rfl (by first | assumption | exact i32_0 | (unfold i32 at *; omega)) (by first | assumption | exact i32_0 | (unfold i32 at *; omega)) rfl (fun c43 => ?_) (fun c43 => ?_)
        · skip
          refine w_aload rfl rfl (w_iload rfl rfl (w_iconst rfl ?_))
          refine w_call (Or.inr rfl) (e_takeLetter M hh hk (by omega)) (by omega) nof_26 rfl rfl rfl rfl (by first | rfl | (show cKB[_]? = _; assumption)) rfl ?_
          exact w_zreturn rfl (by first | (split <;> first | exact Or.inl rfl | exact Or.inr rfl) | exact Or.inl rfl | exact Or.inr rfl) ⟨by first | rfl | (congr 2; omega), by rfl⟩
        · skip
          exfalso; omega
      · skip
        exfalso; omega
