/-! ===== the model's list of points ===== -/
def mPL (Q : List (Int × Int)) (M : mM) : Prop := M 155 19 = (Q.length : Int) ∧ Q.length ≤ 64 ∧ (∀ (k : Nat) (p : Int × Int), Q[k]? = some p → M 159 k = p.1 ∧ M 160 k = p.2) ∧ ∀ p ∈ Q, (0 ≤ p.1 ∧ p.1 ≤ 8) ∧ (0 ≤ p.2 ∧ p.2 ≤ 8)
def MlF (M N : mM) : Prop := (∀ b, b ≠ 155 → b ≠ 159 → b ≠ 160 → N b = M b) ∧ ∀ j, j ≠ 19 → N 155 j = M 155 j
theorem MlF_tr {M N O : mM} (h : MlF M N) (h2 : MlF N O) : MlF M O := ⟨fun b q1 q2 q3 => (h2.1 b q1 q2 q3).trans (h.1 b q1 q2 q3), fun j hj => (h2.2 j hj).trans (h.2 j hj)⟩
theorem MlF_rfl (M : mM) : MlF M M := ⟨fun _ _ _ _ => rfl, fun _ _ => rfl⟩
/-- a point put at the list's end -/
def lsPut (N : mM) (n : Nat) (x y : Int) : mM := upI (upI (upI N 159 n x) 160 n y) 155 19 ((n : Int) + 1)
theorem mPL_put {Q : List (Int × Int)} {M : mM} {x y : Int} (h : mPL Q M) (hl : Q.length < 64) (hx : 0 ≤ x ∧ x ≤ 8) (hy : 0 ≤ y ∧ y ≤ 8) : mPL (Q ++ [(x, y)]) (lsPut M Q.length x y) ∧ MlF M (lsPut M Q.length x y) := by
  obtain ⟨h1, h2, h3, h4⟩ := h
  have v159 : ∀ j, lsPut M Q.length x y 159 j = if j = Q.length then x else M 159 j := fun j => by
    unfold lsPut
    rw [upI_ne _ _ _ _ (by decide), upI_ne _ _ _ _ (by decide)]
    unfold upI
    by_cases q : j = Q.length
    · rw [if_pos ⟨rfl, q⟩, if_pos q]
    · rw [if_neg (fun z => q z.2), if_neg q]
  have v160 : ∀ j, lsPut M Q.length x y 160 j = if j = Q.length then y else M 160 j := fun j => by
    unfold lsPut
    rw [upI_ne _ _ _ _ (by decide)]
    unfold upI
    by_cases q : j = Q.length
    · rw [if_pos ⟨rfl, q⟩, if_pos q]
    · rw [if_neg (fun z => q z.2), if_neg (by omega), if_neg q]
  refine ⟨⟨by unfold lsPut; rw [upI_same, List.length_append]; rfl, by rw [List.length_append]; show Q.length + 1 ≤ 64; omega, fun k p hk => ?_, fun p hp => ?_⟩, fun b q1 q2 q3 => by unfold lsPut; rw [upI_ne _ _ _ _ q1, upI_ne _ _ _ _ q3, upI_ne _ _ _ _ q2], fun j hj => by unfold lsPut; exact (if_neg (by omega)).trans ((if_neg (by omega)).trans (if_neg (by omega)))⟩
  · rw [v159, v160]
    rcases Nat.lt_trichotomy k Q.length with q | q | q
    · rw [List.getElem?_append_left q] at hk
      rw [if_neg (by omega), if_neg (by omega)]
      exact h3 k p hk
    · rw [List.getElem?_append_right (by omega), q, Nat.sub_self] at hk
      have hk : (x, y) = p := by simpa using hk
      subst hk
      rw [if_pos q, if_pos q]
      exact ⟨rfl, rfl⟩
    · rw [List.getElem?_eq_none (by rw [List.length_append]; show Q.length + 1 ≤ k; omega)] at hk
      cases hk
  · rcases List.mem_append.mp hp with z | z
    · exact h4 p z
    · have z : p = (x, y) := by simpa using z
      rw [z]; exact ⟨hx, hy⟩
def qsF (s : Nat) : Nat → List (Int × Int)
  | 0 => []
  | n + 1 => if s.testBit n = true then qsF s n ++ [(pi n, pj n)] else qsF s n
theorem qsF_len (s : Nat) : ∀ n, (qsF s n).length ≤ n
  | 0 => Nat.le_refl _
  | n + 1 => by
    have := qsF_len s n
    unfold qsF
    split
    · rw [List.length_append]; show _ + 1 ≤ _; omega
    · omega
theorem m_lists {s : Nat} {M : mM} (hs : s < 2 ^ 25) : EQ 1 198 [vR 155, vI s] M (fun z N => z = none ∧ mPL (qsF s 25) N ∧ MlF M N) := by
  refine q_in (ls := [vR 155, vI s, vN]) mq_198 (ml_198 rfl) rfl fun D hD => ?_
  have loop : ∀ (z n : Nat) (N : mM), 25 - n = z → n ≤ 25 → mPL (qsF s n) N → MlF M N → Wp mc_198 D 7 [vR 155, vI s, vI n] [] N (fun z N => z = none ∧ mPL (qsF s 25) N ∧ MlF M N) := by
    intro z
    induction z with
    | zero =>
      intro n N hz hn hL hF
      obtain rfl : n = 25 := by omega
      refine w_iload rfl rfl (w_iconst rfl ?_)
      refine w_icmp_ge (tgt := 62) rfl (by first | assumption | exact i32_0 | (unfold i32 at *; omega)) (by first | assumption | exact i32_0 | (unfold i32 at *; omega)) rfl (fun c10 => ?_) (fun c10 => ?_)
      · skip
        exact w_return rfl ⟨rfl, by exact ⟨hL, hF⟩⟩
      · skip
        exfalso; omega
    | succ z ih =>
      intro n N hz hn hL hF
      have ihn := fun N => ih (n + 1) N (by omega) (by omega)
      have hl := qsF_len s n
      have hm := hL.1
      have b1 := pi_le (p := n) (by omega)
      have b2 := pj_le n
      have t1 : (n : Int).tdiv 5 = pi n := rfl
      have t2 : (n : Int).tmod 5 = pj n := rfl
      have e15 := bitI_shr (n := s) (p := n) (by omega) (by omega)
      have e17 : bitI (· &&& ·) ((s >>> n : Nat) : Int) 1 = ((s >>> n &&& 1 : Nat) : Int) := bitI_and (a := s >>> n) (b := 1) (by have := Nat.shiftRight_le s n; omega)
      rw [tb_and1] at e17
      have hq : qsF s (n + 1) = if s.testBit n = true then qsF s n ++ [(pi n, pj n)] else qsF s n := rfl
      rw [hq] at ihn
      have hput := mPL_put (x := pi n) (y := pj n) hL (by omega) (by omega) (by omega)
      cases e : s.testBit n with
      | true =>
        rw [e, if_pos rfl] at e17
        rw [e, if_pos rfl] at ihn
        have e17 : bitI (· &&& ·) ((s >>> n : Nat) : Int) 1 = 1 := e17
        have hgo := ihn _ hput.1 (MlF_tr hF hput.2)
        have e38 : upI N 159 (qsF s n).length (pi n) 155 19 = ((qsF s n).length : Int) := (if_neg (by omega)).trans hm
        have e48 : upI (upI N 159 (qsF s n).length (pi n)) 160 (qsF s n).length (pj n) 155 19 = ((qsF s n).length : Int) := (if_neg (by omega)).trans e38
        unfold lsPut at hgo
        generalize (qsF s n).length = m at *
        refine w_iload rfl rfl (w_iconst rfl ?_)
        refine w_icmp_ge (tgt := 62) rfl (by first | assumption | exact i32_0 | (unfold i32 at *; omega)) (by first | assumption | exact i32_0 | (unfold i32 at *; omega)) rfl (fun c10 => ?_) (fun c10 => ?_)
        · skip
          exfalso; omega
        · skip
          refine w_iload rfl rfl (w_iload rfl rfl (w_ishr rfl (e15) (w_iconst rfl (w_iand rfl (e17) (w_iconst rfl ?_)))))
          refine w_icmp_ne (tgt := 56) rfl (by first | assumption | exact i32_0 | (unfold i32 at *; omega)) (by first | assumption | exact i32_0 | (unfold i32 at *; omega)) rfl (fun c19 => ?_) (fun c19 => ?_)
          · exfalso; omega
          · skip
            refine w_aload rfl rfl (w_getR rfl (by first | rfl | assumption) rfl (by first | rfl | assumption) (w_aload rfl rfl (w_getIV rfl (by first | rfl | assumption) (by first | exact Or.inl rfl | exact Or.inr rfl) (hm) (w_iload rfl rfl (w_iconst rfl (w_idiv rfl (by first | assumption | exact i32_0 | (unfold i32 at *; omega)) (by first | assumption | exact i32_0 | (unfold i32 at *; omega)) (by first | decide | omega | assumption) ?_))))))
            rw [t1]
            refine w_iastore rfl (by first | rfl | assumption) (by omega) (by omega) (w_aload rfl rfl (w_getR rfl (by first | rfl | assumption) rfl (by first | rfl | assumption) (w_aload rfl rfl (w_getIV rfl (by first | rfl | assumption) (by first | exact Or.inl rfl | exact Or.inr rfl) (e38) (w_iload rfl rfl (w_iconst rfl (w_irem rfl (by first | assumption | exact i32_0 | (unfold i32 at *; omega)) (by first | assumption | exact i32_0 | (unfold i32 at *; omega)) (by first | decide | omega | assumption) ?_)))))))
            rw [t2]
            refine w_iastore rfl (by first | rfl | assumption) (by omega) (by omega) (w_aload rfl rfl (w_dup rfl rfl (w_getIV rfl (by first | rfl | assumption) (by first | exact Or.inl rfl | exact Or.inr rfl) (e48) (w_iconst rfl (w_iadd rfl (w_putI rfl (by first | rfl | assumption) rfl (w_iinc (ls2 := [_, _, _]) rfl rfl rfl ?_)))))))
            refine w_goto (tgt := 7) rfl rfl ?_
            exact hgo
      | false =>
        rw [e, if_neg (by decide)] at e17
        rw [e, if_neg (by decide)] at ihn
        have e17 : bitI (· &&& ·) ((s >>> n : Nat) : Int) 1 = 0 := e17
        have hgo := ihn _ hL hF
        refine w_iload rfl rfl (w_iconst rfl ?_)
        refine w_icmp_ge (tgt := 62) rfl (by first | assumption | exact i32_0 | (unfold i32 at *; omega)) (by first | assumption | exact i32_0 | (unfold i32 at *; omega)) rfl (fun c10 => ?_) (fun c10 => ?_)
        · skip
          exfalso; omega
        · skip
          refine w_iload rfl rfl (w_iload rfl rfl (w_ishr rfl (e15) (w_iconst rfl (w_iand rfl (e17) (w_iconst rfl ?_)))))
          refine w_icmp_ne (tgt := 56) rfl (by first | assumption | exact i32_0 | (unfold i32 at *; omega)) (by first | assumption | exact i32_0 | (unfold i32 at *; omega)) rfl (fun c19 => ?_) (fun c19 => ?_)
          · skip
            refine w_iinc (ls2 := [_, _, _]) rfl rfl rfl (w_goto (tgt := 7) rfl rfl ?_)
            exact hgo
          · skip
            exfalso; omega
  have h0 : mPL (qsF s 0) (upI M 155 19 0) := ⟨upI_same _ _ _ _, Nat.zero_le _, (fun k p hk => by cases hk), (fun p hp => by cases hp)⟩
  have hF0 : MlF M (upI M 155 19 0) := ⟨fun b q1 _ _ => upI_ne _ _ _ _ q1, fun j hj => if_neg (fun q => hj q.2)⟩
  have hgo := loop 25 0 _ rfl (by decide) h0 hF0
  refine w_aload rfl rfl (w_iconst rfl (w_putI rfl (by first | rfl | assumption) rfl (w_iconst rfl (w_istore (ls2 := [_, _, _]) rfl rfl rfl ?_))))
  exact hgo
/-! sides of a list's hull -/
def ptQ (Q : List (Int × Int)) (k : Nat) : Int × Int := (Q[k]?).getD (0, 0)
def crQ (Q : List (Int × Int)) (a b k : Nat) : Int := ((ptQ Q b).1 - (ptQ Q a).1) * ((ptQ Q k).2 - (ptQ Q a).2) - ((ptQ Q b).2 - (ptQ Q a).2) * ((ptQ Q k).1 - (ptQ Q a).1)
def byQ (Q : List (Int × Int)) (a b k : Nat) : Bool := decide (crQ Q a b k = 0) && decide (0 < ((ptQ Q k).1 - (ptQ Q a).1) * ((ptQ Q k).1 - (ptQ Q b).1) + ((ptQ Q k).2 - (ptQ Q a).2) * ((ptQ Q k).2 - (ptQ Q b).2))
theorem mPL_at {Q : List (Int × Int)} {M : mM} (h : mPL Q M) {k : Nat} (hk : k < Q.length) : (M 159 ((k : Int)).toNat = (ptQ Q k).1 ∧ M 160 ((k : Int)).toNat = (ptQ Q k).2) ∧ (0 ≤ (ptQ Q k).1 ∧ (ptQ Q k).1 ≤ 8) ∧ (0 ≤ (ptQ Q k).2 ∧ (ptQ Q k).2 ≤ 8) := by
  have hq : Q[k]? = some (ptQ Q k) := by unfold ptQ; rw [List.getElem?_eq_getElem hk]; rfl
  exact ⟨h.2.2.1 k _ hq, h.2.2.2 _ (List.mem_of_getElem? hq)⟩
theorem crQ_le {Q : List (Int × Int)} {a b k : Nat} (ha : (0 ≤ (ptQ Q a).1 ∧ (ptQ Q a).1 ≤ 8) ∧ (0 ≤ (ptQ Q a).2 ∧ (ptQ Q a).2 ≤ 8)) (hb : (0 ≤ (ptQ Q b).1 ∧ (ptQ Q b).1 ≤ 8) ∧ (0 ≤ (ptQ Q b).2 ∧ (ptQ Q b).2 ≤ 8)) (hk : (0 ≤ (ptQ Q k).1 ∧ (ptQ Q k).1 ≤ 8) ∧ (0 ≤ (ptQ Q k).2 ∧ (ptQ Q k).2 ≤ 8)) : -128 ≤ crQ Q a b k ∧ crQ Q a b k ≤ 128 := by
  unfold crQ
  have m1 := mul_le (d := (ptQ Q b).1 - (ptQ Q a).1) (c := (ptQ Q k).2 - (ptQ Q a).2) (A := 8) (B := 8) (by omega) (by omega)
  have m2 := mul_le (d := (ptQ Q b).2 - (ptQ Q a).2) (c := (ptQ Q k).1 - (ptQ Q a).1) (A := 8) (B := 8) (by omega) (by omega)
  omega
theorem m_sideOf {Q : List (Int × Int)} {M : mM} {a b k : Nat} (h : mPL Q M) (ha : a < Q.length) (hb : b < Q.length) (hk : k < Q.length) : E 2 201 [vR 155, vI a, vI b, vI k] M (some (vI (crQ Q a b k))) M := by
  have hl := h.2.1
  have xa := mPL_at h ha
  have xb := mPL_at h hb
  have xk := mPL_at h hk
  have hcr := m_cross ((ptQ Q b).1 - (ptQ Q a).1) ((ptQ Q b).2 - (ptQ Q a).2) ((ptQ Q k).1 - (ptQ Q a).1) ((ptQ Q k).2 - (ptQ Q a).2) M
  have hc : ((ptQ Q b).1 - (ptQ Q a).1) * ((ptQ Q k).2 - (ptQ Q a).2) - ((ptQ Q b).2 - (ptQ Q a).2) * ((ptQ Q k).1 - (ptQ Q a).1) = crQ Q a b k := rfl
  rw [hc] at hcr
  refine e_in (ls := [vR 155, vI a, vI b, vI k]) mq_201 (ml_201 rfl) rfl fun D hD => ?_
  refine w_aload rfl rfl (w_getR rfl (by first | rfl | assumption) rfl (by first | rfl | assumption) (w_iload rfl rfl (w_ialoadV rfl (by first | rfl | assumption) (by omega) (by omega) (xb.1.1) (w_aload rfl rfl (w_getR rfl (by first | rfl | assumption) rfl (by first | rfl | assumption) (w_iload rfl rfl (w_ialoadV rfl (by first | rfl | assumption) (by omega) (by omega) (xa.1.1) ?_)))))))
  refine w_isub rfl (w_aload rfl rfl (w_getR rfl (by first | rfl | assumption) rfl (by first | rfl | assumption) (w_iload rfl rfl (w_ialoadV rfl (by first | rfl | assumption) (by omega) (by omega) (xb.1.2) (w_aload rfl rfl (w_getR rfl (by first | rfl | assumption) rfl (by first | rfl | assumption) (w_iload rfl rfl ?_)))))))
  refine w_ialoadV rfl (by first | rfl | assumption) (by omega) (by omega) (xa.1.2) (w_isub rfl (w_aload rfl rfl (w_getR rfl (by first | rfl | assumption) rfl (by first | rfl | assumption) (w_iload rfl rfl (w_ialoadV rfl (by first | rfl | assumption) (by omega) (by omega) (xk.1.1) (w_aload rfl rfl (w_getR rfl (by first | rfl | assumption) rfl (by first | rfl | assumption) ?_)))))))
  refine w_iload rfl rfl (w_ialoadV rfl (by first | rfl | assumption) (by omega) (by omega) (xa.1.1) (w_isub rfl (w_aload rfl rfl (w_getR rfl (by first | rfl | assumption) rfl (by first | rfl | assumption) (w_iload rfl rfl (w_ialoadV rfl (by first | rfl | assumption) (by omega) (by omega) (xk.1.2) (w_aload rfl rfl ?_)))))))
  refine w_getR rfl (by first | rfl | assumption) rfl (by first | rfl | assumption) (w_iload rfl rfl (w_ialoadV rfl (by first | rfl | assumption) (by omega) (by omega) (xa.1.2) (w_isub rfl ?_)))
  refine w_call (Or.inl rfl) ((hcr)) (by omega) nof_190 rfl rfl rfl rfl trivial rfl ?_
  exact w_ireturn rfl ⟨by first | rfl | (congr 2; omega), by rfl⟩
theorem m_isBeyond {Q : List (Int × Int)} {M : mM} {a b k : Nat} (h : mPL Q M) (ha : a < Q.length) (hb : b < Q.length) (hk : k < Q.length) : E 3 202 [vR 155, vI a, vI b, vI k] M (some (vI (if byQ Q a b k = true then 1 else 0))) M := by
  have hl := h.2.1
  have xa := mPL_at h ha
  have xb := mPL_at h hb
  have xk := mPL_at h hk
  have hcr := m_sideOf h ha hb hk
  have hle := crQ_le xa.2 xb.2 xk.2
  have m1 := mul_le (d := (ptQ Q k).1 - (ptQ Q a).1) (c := (ptQ Q k).1 - (ptQ Q b).1) (A := 8) (B := 8) (by omega) (by omega)
  have m2 := mul_le (d := (ptQ Q k).2 - (ptQ Q a).2) (c := (ptQ Q k).2 - (ptQ Q b).2) (A := 8) (B := 8) (by omega) (by omega)
  have hby : byQ Q a b k = (decide (crQ Q a b k = 0) && decide (0 < ((ptQ Q k).1 - (ptQ Q a).1) * ((ptQ Q k).1 - (ptQ Q b).1) + ((ptQ Q k).2 - (ptQ Q a).2) * ((ptQ Q k).2 - (ptQ Q b).2))) := rfl
  rw [hby]
  refine e_in (ls := [vR 155, vI a, vI b, vI k]) mq_202 (ml_202 rfl) rfl fun D hD => ?_
  by_cases h0 : crQ Q a b k = 0
  · rw [decide_eq_true h0, Bool.true_and]
    rw [h0] at hcr
    by_cases hd : 0 < ((ptQ Q k).1 - (ptQ Q a).1) * ((ptQ Q k).1 - (ptQ Q b).1) + ((ptQ Q k).2 - (ptQ Q a).2) * ((ptQ Q k).2 - (ptQ Q b).2)
    · rw [if_pos (decide_eq_true hd)]
      refine w_aload rfl rfl (w_iload rfl rfl (w_iload rfl rfl (w_iload rfl rfl ?_)))
      refine w_call (Or.inr rfl) ((hcr)) (by omega) nof_201 rfl rfl rfl rfl (by first | rfl | (show cKB[_]? = _; assumption)) rfl ?_
      refine w_if_ne (tgt := 72) rfl (by first | assumption | exact i32_0 | (unfold i32 at *; omega)) rfl (fun c => absurd c (by decide)) (fun _ => ?_)
      refine w_aload rfl rfl (w_getR rfl (by first | rfl | assumption) rfl (by first | rfl | assumption) (w_iload rfl rfl (w_ialoadV rfl (by first | rfl | assumption) (by omega) (by omega) (xk.1.1) (w_aload rfl rfl (w_getR rfl (by first | rfl | assumption) rfl (by first | rfl | assumption) (w_iload rfl rfl (w_ialoadV rfl (by first | rfl | assumption) (by omega) (by omega) (xa.1.1) ?_)))))))
      refine w_isub rfl (w_aload rfl rfl (w_getR rfl (by first | rfl | assumption) rfl (by first | rfl | assumption) (w_iload rfl rfl (w_ialoadV rfl (by first | rfl | assumption) (by omega) (by omega) (xk.1.1) (w_aload rfl rfl (w_getR rfl (by first | rfl | assumption) rfl (by first | rfl | assumption) (w_iload rfl rfl ?_)))))))
      refine w_ialoadV rfl (by first | rfl | assumption) (by omega) (by omega) (xb.1.1) (w_isub rfl (w_imul rfl (w_aload rfl rfl (w_getR rfl (by first | rfl | assumption) rfl (by first | rfl | assumption) (w_iload rfl rfl (w_ialoadV rfl (by first | rfl | assumption) (by omega) (by omega) (xk.1.2) (w_aload rfl rfl ?_)))))))
      refine w_getR rfl (by first | rfl | assumption) rfl (by first | rfl | assumption) (w_iload rfl rfl (w_ialoadV rfl (by first | rfl | assumption) (by omega) (by omega) (xa.1.2) (w_isub rfl (w_aload rfl rfl (w_getR rfl (by first | rfl | assumption) rfl (by first | rfl | assumption) (w_iload rfl rfl (w_ialoadV rfl (by first | rfl | assumption) (by omega) (by omega) (xk.1.2) ?_)))))))
      refine w_aload rfl rfl (w_getR rfl (by first | rfl | assumption) rfl (by first | rfl | assumption) (w_iload rfl rfl (w_ialoadV rfl (by first | rfl | assumption) (by omega) (by omega) (xb.1.2) (w_isub rfl (w_imul rfl (w_iadd rfl ?_))))))
      refine w_if_le (tgt := 72) rfl (by first | assumption | exact i32_0 | (unfold i32 at *; omega)) rfl (fun c65 => ?_) (fun c65 => ?_)
      · skip
        exfalso; omega
      · skip
        refine w_iconst rfl (w_goto (tgt := 73) rfl rfl ?_)
        exact w_zreturn rfl (by first | exact Or.inl rfl | exact Or.inr rfl | omega | assumption) ⟨by first | rfl | (congr 2; omega), by rfl⟩
    · rw [if_neg (by rw [decide_eq_true_iff]; exact hd)]
      refine w_aload rfl rfl (w_iload rfl rfl (w_iload rfl rfl (w_iload rfl rfl ?_)))
      refine w_call (Or.inr rfl) ((hcr)) (by omega) nof_201 rfl rfl rfl rfl (by first | rfl | (show cKB[_]? = _; assumption)) rfl ?_
      refine w_if_ne (tgt := 72) rfl (by first | assumption | exact i32_0 | (unfold i32 at *; omega)) rfl (fun c => absurd c (by decide)) (fun _ => ?_)
      refine w_aload rfl rfl (w_getR rfl (by first | rfl | assumption) rfl (by first | rfl | assumption) (w_iload rfl rfl (w_ialoadV rfl (by first | rfl | assumption) (by omega) (by omega) (xk.1.1) (w_aload rfl rfl (w_getR rfl (by first | rfl | assumption) rfl (by first | rfl | assumption) (w_iload rfl rfl (w_ialoadV rfl (by first | rfl | assumption) (by omega) (by omega) (xa.1.1) ?_)))))))
      refine w_isub rfl (w_aload rfl rfl (w_getR rfl (by first | rfl | assumption) rfl (by first | rfl | assumption) (w_iload rfl rfl (w_ialoadV rfl (by first | rfl | assumption) (by omega) (by omega) (xk.1.1) (w_aload rfl rfl (w_getR rfl (by first | rfl | assumption) rfl (by first | rfl | assumption) (w_iload rfl rfl ?_)))))))
      refine w_ialoadV rfl (by first | rfl | assumption) (by omega) (by omega) (xb.1.1) (w_isub rfl (w_imul rfl (w_aload rfl rfl (w_getR rfl (by first | rfl | assumption) rfl (by first | rfl | assumption) (w_iload rfl rfl (w_ialoadV rfl (by first | rfl | assumption) (by omega) (by omega) (xk.1.2) (w_aload rfl rfl ?_)))))))
      refine w_getR rfl (by first | rfl | assumption) rfl (by first | rfl | assumption) (w_iload rfl rfl (w_ialoadV rfl (by first | rfl | assumption) (by omega) (by omega) (xa.1.2) (w_isub rfl (w_aload rfl rfl (w_getR rfl (by first | rfl | assumption) rfl (by first | rfl | assumption) (w_iload rfl rfl (w_ialoadV rfl (by first | rfl | assumption) (by omega) (by omega) (xk.1.2) ?_)))))))
      refine w_aload rfl rfl (w_getR rfl (by first | rfl | assumption) rfl (by first | rfl | assumption) (w_iload rfl rfl (w_ialoadV rfl (by first | rfl | assumption) (by omega) (by omega) (xb.1.2) (w_isub rfl (w_imul rfl (w_iadd rfl ?_))))))
      refine w_if_le (tgt := 72) rfl (by first | assumption | exact i32_0 | (unfold i32 at *; omega)) rfl (fun c65 => ?_) (fun c65 => ?_)
      · skip
        refine w_iconst rfl ?_
        exact w_zreturn rfl (by first | exact Or.inl rfl | exact Or.inr rfl | omega | assumption) ⟨by first | rfl | (congr 2; omega), by rfl⟩
      · skip
        exfalso; omega
  · rw [decide_eq_false h0, Bool.false_and, if_neg (by decide)]
    refine w_aload rfl rfl (w_iload rfl rfl (w_iload rfl rfl (w_iload rfl rfl ?_)))
    refine w_call (Or.inr rfl) ((hcr)) (by omega) nof_201 rfl rfl rfl rfl (by first | rfl | (show cKB[_]? = _; assumption)) rfl ?_
    refine w_if_ne (tgt := 72) rfl (by first | assumption | exact i32_0 | (unfold i32 at *; omega)) rfl (fun c7 => ?_) (fun c7 => ?_)
    · skip
      refine w_iconst rfl ?_
      exact w_zreturn rfl (by first | exact Or.inl rfl | exact Or.inr rfl | omega | assumption) ⟨by first | rfl | (congr 2; omega), by rfl⟩
    · skip
      exfalso; omega
