/-! ===== weights of the model's edges ===== -/
theorem enR_3 (e : Nat → Int) (k : Int) (b : Bool) : enR e k b 3 = e 3 := by
  unfold enR
  split
  · split
    · rfl
    · rfl
  · rfl
theorem rowN_3 (f : Cv) (C : List Pt) (p q : Nat) : ∀ k, rowN f C p q k 3 = gcd1 (pi q - pi p) (pj q - pj p)
  | 0 => rfl
  | k + 1 => by
    have ih := rowN_3 f C p q k
    unfold rowN
    cases sdE (cellAt C k) p q with
    | none => exact ih
    | some b => exact (enR_3 _ _ b).trans ih
theorem rowE_3 (f : Cv) (C : List Pt) (p q : Nat) : rowE f C p q 3 = gcd1 (pi q - pi p) (pj q - pj p) := by
  have h := rowN_3 f C p q C.length
  unfold rowE
  split
  · exact h
  · exact h
theorem rowsF_wt {f : Cv} (hf : Cok 999 f) (hl : (cornF f).length ≤ 16) : ∀ e ∈ rowsF f, ∃ p q : Nat, p < q ∧ q < 21 ∧ hasF f p = true ∧ hasF f q = true ∧ e 0 = (p : Int) ∧ e 1 = (q : Int) ∧ e 3 = (lnG p q : Int) := by
  intro e he
  obtain ⟨k, hk⟩ := List.getElem?_of_mem he
  unfold rowsF at hk
  rw [rowsBr_get] at hk
  cases q : (rowsF0 f)[k]? with
  | none => rw [q] at hk; cases hk
  | some r =>
    rw [q] at hk
    have h1 : (if k < (rowsF0 f).length then sR r 10 (if brK (KF f) (cornF f).length k = true then 1 else 0) else r) = e := by injection hk
    have hr := List.mem_of_getElem? q
    unfold rowsF0 at hr
    obtain ⟨pq, hpq, hpe⟩ := List.mem_map.mp hr
    obtain ⟨m1, m2, m3, m4, -⟩ := elA_mem 21 hpq
    have hi := rowN_ok (C := cornF f) hf (p := pq.1) (q := pq.2) (by omega) m2 (cornF f).length hl
    have r3 := rowE_3 f (cornF f) pq.1 pq.2
    rw [hpe] at r3
    have r0 : r 0 = (pq.1 : Int) := by
      rw [← hpe]
      unfold rowE
      split
      · exact hi.2.1.1
      · exact hi.2.1.1
    have r1 : r 1 = (pq.2 : Int) := by
      rw [← hpe]
      unfold rowE
      split
      · exact hi.2.1.2.1
      · exact hi.2.1.2.1
    have hg := lg_pos (p := pq.1) (q := pq.2) (by omega) (by omega) (by omega)
    have hgc : gcd1 (pi pq.2 - pi pq.1) (pj pq.2 - pj pq.1) = lnG pq.1 pq.2 := by
      have h2 : gcd1 (pi pq.2 - pi pq.1) (pj pq.2 - pj pq.1) = max (lnG pq.1 pq.2) 1 := rfl
      rw [h2]
      omega
    rw [hgc] at r3
    refine ⟨pq.1, pq.2, m1, m2, m3, m4, ?_⟩
    rw [← h1]
    split
    · exact ⟨r0, r1, r3⟩
    · exact ⟨r0, r1, r3⟩
theorem m_weight {j p q : Nat} {M : mM} (hj : j < 80) (hp : p < 25) (hq : q < 25) (x0 : M 166 ((j : Int)).toNat = (p : Int)) (x1 : M 167 ((j : Int)).toNat = (q : Int)) : E 2 214 [vR 155, vI j] M (some (vI (lnG p q : Int))) M := by
  have b1 := pi_le hp
  have b2 := pi_le hq
  have b3 := pj_le p
  have b4 := pj_le q
  have tp1 : (p : Int).tdiv 5 = pi p := rfl
  have tp2 : (p : Int).tmod 5 = pj p := rfl
  have tq1 : (q : Int).tdiv 5 = pi q := rfl
  have tq2 : (q : Int).tmod 5 = pj q := rfl
  have hdv := m_divisor (pi q - pi p) (pj q - pj p) M (by omega) (by omega)
  have hG : Nat.gcd (pi q - pi p).natAbs (pj q - pj p).natAbs = lnG p q := rfl
  rw [hG] at hdv
  refine e_in (ls := [vR 155, vI j]) mq_214 (ml_214 rfl) rfl fun D hD => ?_
  refine w_aload rfl rfl (w_getR rfl (by first | rfl | assumption) rfl (by first | rfl | assumption) (w_iload rfl rfl (w_ialoadV rfl (by first | rfl | assumption) (by omega) (by omega) (x1) (w_iconst rfl (w_idiv rfl (by first | assumption | exact i32_0 | (unfold i32 at *; omega)) (by first | assumption | exact i32_0 | (unfold i32 at *; omega)) (by first | decide | omega | assumption) ?_)))))
  rw [tq1]
  refine w_aload rfl rfl (w_getR rfl (by first | rfl | assumption) rfl (by first | rfl | assumption) (w_iload rfl rfl (w_ialoadV rfl (by first | rfl | assumption) (by omega) (by omega) (x0) (w_iconst rfl (w_idiv rfl (by first | assumption | exact i32_0 | (unfold i32 at *; omega)) (by first | assumption | exact i32_0 | (unfold i32 at *; omega)) (by first | decide | omega | assumption) ?_)))))
  rw [tp1]
  refine w_isub rfl (w_aload rfl rfl (w_getR rfl (by first | rfl | assumption) rfl (by first | rfl | assumption) (w_iload rfl rfl (w_ialoadV rfl (by first | rfl | assumption) (by omega) (by omega) (x1) (w_iconst rfl (w_irem rfl (by first | assumption | exact i32_0 | (unfold i32 at *; omega)) (by first | assumption | exact i32_0 | (unfold i32 at *; omega)) (by first | decide | omega | assumption) ?_))))))
  rw [tq2]
  refine w_aload rfl rfl (w_getR rfl (by first | rfl | assumption) rfl (by first | rfl | assumption) (w_iload rfl rfl (w_ialoadV rfl (by first | rfl | assumption) (by omega) (by omega) (x0) (w_iconst rfl (w_irem rfl (by first | assumption | exact i32_0 | (unfold i32 at *; omega)) (by first | assumption | exact i32_0 | (unfold i32 at *; omega)) (by first | decide | omega | assumption) ?_)))))
  rw [tp2]
  refine w_isub rfl ?_
  refine w_call (Or.inl rfl) ((hdv)) (by omega) nof_195 rfl rfl rfl rfl trivial rfl ?_
  exact w_ireturn rfl ⟨by first | rfl | (congr 2; omega), by rfl⟩
