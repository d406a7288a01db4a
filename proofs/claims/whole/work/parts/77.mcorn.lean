/-! ===== the model's corners ===== -/
def ptB (P : Pt) : Prop := (-20000000000 ≤ P.1 ∧ P.1 ≤ 20000000000) ∧ (-20000000000 ≤ P.2.1 ∧ P.2.1 ≤ 20000000000)
def mcC (a : Nat) (L : List Pt) (M : mM) : Prop := M 165 a = (L.length : Int) ∧ L.length ≤ 16 ∧ (∀ P ∈ L, ptB P) ∧ ∀ (k : Nat) (P : Pt), L[k]? = some P → M 162 (16 * a + k) = P.1 ∧ M 163 (16 * a + k) = P.2.1 ∧ M 164 (16 * a + k) = P.2.2
theorem m_ahead {x y u v : Int} (M : mM) (hx : i64 x) (hy : i64 y) (hu : i64 u) (hv : i64 v) : E 1 192 [vL x, vL y, vL u, vL v] M (some (vI (if x < u ∨ (x = u ∧ y < v) then 1 else 0))) M := by
  refine e_in (ls := [vL x, vN, vL y, vN, vL u, vN, vL v, vN]) mq_192 (ml_192 rfl) rfl fun D hD => ?_
  by_cases h : x < u ∨ (x = u ∧ y < v)
  · rw [if_pos h]
    refine w_lload rfl rfl (w_lload rfl rfl ?_)
    refine w_lcmp rfl (by first | assumption | exact i64_0 | (unfold i64 at *; omega)) (by first | assumption | exact i64_0 | (unfold i64 at *; omega)) (fun c3 => ?_) (fun c3 => ?_) (fun c3 => ?_)
    · skip
      refine w_if_lt (tgt := 21) rfl (by first | assumption | exact i32_0 | (unfold i32 at *; omega)) rfl (fun _ => ?_) (fun c => absurd c (by decide))
      refine w_iconst rfl (w_goto (tgt := 26) rfl rfl ?_)
      exact w_zreturn rfl (by first | exact Or.inl rfl | exact Or.inr rfl | omega | assumption) ⟨by first | rfl | (congr 2; omega), by rfl⟩
    · skip
      refine w_if_lt (tgt := 21) rfl (by first | assumption | exact i32_0 | (unfold i32 at *; omega)) rfl (fun c => absurd c (by decide)) (fun _ => ?_)
      refine w_lload rfl rfl (w_lload rfl rfl ?_)
      refine w_lcmp rfl (by first | assumption | exact i64_0 | (unfold i64 at *; omega)) (by first | assumption | exact i64_0 | (unfold i64 at *; omega)) (fun c10 => ?_) (fun c10 => ?_) (fun c10 => ?_)
      · skip
        refine w_if_ne (tgt := 25) rfl (by first | assumption | exact i32_0 | (unfold i32 at *; omega)) rfl (fun _ => ?_) (fun c => absurd c (by decide))
        exfalso; omega
      · skip
        refine w_if_ne (tgt := 25) rfl (by first | assumption | exact i32_0 | (unfold i32 at *; omega)) rfl (fun _ => ?_) (fun c => absurd c (by decide))
        exfalso; omega
      · skip
        refine w_if_ne (tgt := 25) rfl (by first | assumption | exact i32_0 | (unfold i32 at *; omega)) rfl (fun c => absurd c (by decide)) (fun _ => ?_)
        refine w_lload rfl rfl (w_lload rfl rfl ?_)
        refine w_lcmp rfl (by first | assumption | exact i64_0 | (unfold i64 at *; omega)) (by first | assumption | exact i64_0 | (unfold i64 at *; omega)) (fun c17 => ?_) (fun c17 => ?_) (fun c17 => ?_)
        · skip
          refine w_if_ge (tgt := 25) rfl (by first | assumption | exact i32_0 | (unfold i32 at *; omega)) rfl (fun c => absurd c (by decide)) (fun _ => ?_)
          refine w_iconst rfl (w_goto (tgt := 26) rfl rfl ?_)
          exact w_zreturn rfl (by first | exact Or.inl rfl | exact Or.inr rfl | omega | assumption) ⟨by first | rfl | (congr 2; omega), by rfl⟩
        · skip
          refine w_if_ge (tgt := 25) rfl (by first | assumption | exact i32_0 | (unfold i32 at *; omega)) rfl (fun _ => ?_) (fun c => absurd c (by decide))
          exfalso; omega
        · skip
          refine w_if_ge (tgt := 25) rfl (by first | assumption | exact i32_0 | (unfold i32 at *; omega)) rfl (fun _ => ?_) (fun c => absurd c (by decide))
          exfalso; omega
    · skip
      refine w_if_lt (tgt := 21) rfl (by first | assumption | exact i32_0 | (unfold i32 at *; omega)) rfl (fun c => absurd c (by decide)) (fun _ => ?_)
      refine w_lload rfl rfl (w_lload rfl rfl ?_)
      refine w_lcmp rfl (by first | assumption | exact i64_0 | (unfold i64 at *; omega)) (by first | assumption | exact i64_0 | (unfold i64 at *; omega)) (fun c10 => ?_) (fun c10 => ?_) (fun c10 => ?_)
      · skip
        refine w_if_ne (tgt := 25) rfl (by first | assumption | exact i32_0 | (unfold i32 at *; omega)) rfl (fun _ => ?_) (fun c => absurd c (by decide))
        exfalso; omega
      · skip
        refine w_if_ne (tgt := 25) rfl (by first | assumption | exact i32_0 | (unfold i32 at *; omega)) rfl (fun _ => ?_) (fun c => absurd c (by decide))
        exfalso; omega
      · skip
        refine w_if_ne (tgt := 25) rfl (by first | assumption | exact i32_0 | (unfold i32 at *; omega)) rfl (fun c => absurd c (by decide)) (fun _ => ?_)
        refine w_lload rfl rfl (w_lload rfl rfl ?_)
        refine w_lcmp rfl (by first | assumption | exact i64_0 | (unfold i64 at *; omega)) (by first | assumption | exact i64_0 | (unfold i64 at *; omega)) (fun c17 => ?_) (fun c17 => ?_) (fun c17 => ?_)
        · skip
          refine w_if_ge (tgt := 25) rfl (by first | assumption | exact i32_0 | (unfold i32 at *; omega)) rfl (fun c => absurd c (by decide)) (fun _ => ?_)
          refine w_iconst rfl (w_goto (tgt := 26) rfl rfl ?_)
          exact w_zreturn rfl (by first | exact Or.inl rfl | exact Or.inr rfl | omega | assumption) ⟨by first | rfl | (congr 2; omega), by rfl⟩
        · skip
          refine w_if_ge (tgt := 25) rfl (by first | assumption | exact i32_0 | (unfold i32 at *; omega)) rfl (fun _ => ?_) (fun c => absurd c (by decide))
          exfalso; omega
        · skip
          refine w_if_ge (tgt := 25) rfl (by first | assumption | exact i32_0 | (unfold i32 at *; omega)) rfl (fun _ => ?_) (fun c => absurd c (by decide))
          exfalso; omega
  · rw [if_neg h]
    refine w_lload rfl rfl (w_lload rfl rfl ?_)
    refine w_lcmp rfl (by first | assumption | exact i64_0 | (unfold i64 at *; omega)) (by first | assumption | exact i64_0 | (unfold i64 at *; omega)) (fun c3 => ?_) (fun c3 => ?_) (fun c3 => ?_)
    · skip
      refine w_if_lt (tgt := 21) rfl (by first | assumption | exact i32_0 | (unfold i32 at *; omega)) rfl (fun _ => ?_) (fun c => absurd c (by decide))
      exfalso; omega
    · skip
      refine w_if_lt (tgt := 21) rfl (by first | assumption | exact i32_0 | (unfold i32 at *; omega)) rfl (fun c => absurd c (by decide)) (fun _ => ?_)
      refine w_lload rfl rfl (w_lload rfl rfl ?_)
      refine w_lcmp rfl (by first | assumption | exact i64_0 | (unfold i64 at *; omega)) (by first | assumption | exact i64_0 | (unfold i64 at *; omega)) (fun c10 => ?_) (fun c10 => ?_) (fun c10 => ?_)
      · skip
        refine w_if_ne (tgt := 25) rfl (by first | assumption | exact i32_0 | (unfold i32 at *; omega)) rfl (fun _ => ?_) (fun c => absurd c (by decide))
        refine w_iconst rfl ?_
        exact w_zreturn rfl (by first | exact Or.inl rfl | exact Or.inr rfl | omega | assumption) ⟨by first | rfl | (congr 2; omega), by rfl⟩
      · skip
        refine w_if_ne (tgt := 25) rfl (by first | assumption | exact i32_0 | (unfold i32 at *; omega)) rfl (fun _ => ?_) (fun c => absurd c (by decide))
        refine w_iconst rfl ?_
        exact w_zreturn rfl (by first | exact Or.inl rfl | exact Or.inr rfl | omega | assumption) ⟨by first | rfl | (congr 2; omega), by rfl⟩
      · skip
        refine w_if_ne (tgt := 25) rfl (by first | assumption | exact i32_0 | (unfold i32 at *; omega)) rfl (fun c => absurd c (by decide)) (fun _ => ?_)
        refine w_lload rfl rfl (w_lload rfl rfl ?_)
        refine w_lcmp rfl (by first | assumption | exact i64_0 | (unfold i64 at *; omega)) (by first | assumption | exact i64_0 | (unfold i64 at *; omega)) (fun c17 => ?_) (fun c17 => ?_) (fun c17 => ?_)
        · skip
          refine w_if_ge (tgt := 25) rfl (by first | assumption | exact i32_0 | (unfold i32 at *; omega)) rfl (fun c => absurd c (by decide)) (fun _ => ?_)
          exfalso; omega
        · skip
          refine w_if_ge (tgt := 25) rfl (by first | assumption | exact i32_0 | (unfold i32 at *; omega)) rfl (fun _ => ?_) (fun c => absurd c (by decide))
          refine w_iconst rfl ?_
          exact w_zreturn rfl (by first | exact Or.inl rfl | exact Or.inr rfl | omega | assumption) ⟨by first | rfl | (congr 2; omega), by rfl⟩
        · skip
          refine w_if_ge (tgt := 25) rfl (by first | assumption | exact i32_0 | (unfold i32 at *; omega)) rfl (fun _ => ?_) (fun c => absurd c (by decide))
          refine w_iconst rfl ?_
          exact w_zreturn rfl (by first | exact Or.inl rfl | exact Or.inr rfl | omega | assumption) ⟨by first | rfl | (congr 2; omega), by rfl⟩
    · skip
      refine w_if_lt (tgt := 21) rfl (by first | assumption | exact i32_0 | (unfold i32 at *; omega)) rfl (fun c => absurd c (by decide)) (fun _ => ?_)
      refine w_lload rfl rfl (w_lload rfl rfl ?_)
      refine w_lcmp rfl (by first | assumption | exact i64_0 | (unfold i64 at *; omega)) (by first | assumption | exact i64_0 | (unfold i64 at *; omega)) (fun c10 => ?_) (fun c10 => ?_) (fun c10 => ?_)
      · skip
        refine w_if_ne (tgt := 25) rfl (by first | assumption | exact i32_0 | (unfold i32 at *; omega)) rfl (fun _ => ?_) (fun c => absurd c (by decide))
        refine w_iconst rfl ?_
        exact w_zreturn rfl (by first | exact Or.inl rfl | exact Or.inr rfl | omega | assumption) ⟨by first | rfl | (congr 2; omega), by rfl⟩
      · skip
        refine w_if_ne (tgt := 25) rfl (by first | assumption | exact i32_0 | (unfold i32 at *; omega)) rfl (fun _ => ?_) (fun c => absurd c (by decide))
        refine w_iconst rfl ?_
        exact w_zreturn rfl (by first | exact Or.inl rfl | exact Or.inr rfl | omega | assumption) ⟨by first | rfl | (congr 2; omega), by rfl⟩
      · skip
        refine w_if_ne (tgt := 25) rfl (by first | assumption | exact i32_0 | (unfold i32 at *; omega)) rfl (fun c => absurd c (by decide)) (fun _ => ?_)
        refine w_lload rfl rfl (w_lload rfl rfl ?_)
        refine w_lcmp rfl (by first | assumption | exact i64_0 | (unfold i64 at *; omega)) (by first | assumption | exact i64_0 | (unfold i64 at *; omega)) (fun c17 => ?_) (fun c17 => ?_) (fun c17 => ?_)
        · skip
          refine w_if_ge (tgt := 25) rfl (by first | assumption | exact i32_0 | (unfold i32 at *; omega)) rfl (fun c => absurd c (by decide)) (fun _ => ?_)
          exfalso; omega
        · skip
          refine w_if_ge (tgt := 25) rfl (by first | assumption | exact i32_0 | (unfold i32 at *; omega)) rfl (fun _ => ?_) (fun c => absurd c (by decide))
          refine w_iconst rfl ?_
          exact w_zreturn rfl (by first | exact Or.inl rfl | exact Or.inr rfl | omega | assumption) ⟨by first | rfl | (congr 2; omega), by rfl⟩
        · skip
          refine w_if_ge (tgt := 25) rfl (by first | assumption | exact i32_0 | (unfold i32 at *; omega)) rfl (fun _ => ?_) (fun c => absurd c (by decide))
          refine w_iconst rfl ?_
          exact w_zreturn rfl (by first | exact Or.inl rfl | exact Or.inr rfl | omega | assumption) ⟨by first | rfl | (congr 2; omega), by rfl⟩
/-- the arrays while room is made -/
def McG (a : Nat) (L : List Pt) (k : Nat) (M N : mM) : Prop := (∀ b j, (b < 162 ∨ 164 < b) → N b j = M b j) ∧ (∀ b j, (j < 16 * a ∨ 16 * a + 16 ≤ j) → N b j = M b j) ∧ (∀ j P, L[j]? = some P → j < k → N 162 (16 * a + j) = P.1 ∧ N 163 (16 * a + j) = P.2.1 ∧ N 164 (16 * a + j) = P.2.2) ∧ (∀ j P, L[j]? = some P → k ≤ j → N 162 (16 * a + j + 1) = P.1 ∧ N 163 (16 * a + j + 1) = P.2.1 ∧ N 164 (16 * a + j + 1) = P.2.2)
def McF (a : Nat) (M N : mM) : Prop := (∀ b, (b < 162 ∨ 165 < b) → N b = M b) ∧ (∀ b j, (j < 16 * a ∨ 16 * a + 16 ≤ j) → b ≠ 165 → N b j = M b j) ∧ ∀ j, j ≠ a → N 165 j = M 165 j
theorem m_placesCorner {a : Nat} {L : List Pt} {M : mM} {x y : Int} {led : Int} (ha : a < 2) (h : mcC a L M) (hP : ptB (x, y, led)) : EQ 3 191 [vR 155, vI a, vL x, vL y, vI led] M (fun r N => r = none ∧ mcC a (capP L (x, y, led)) N ∧ McF a M N) := by
  have hh := h
  obtain ⟨h1, h2, hB, h3⟩ := h
  have hPB := hP
  obtain ⟨⟨x1, x2⟩, y1, y2⟩ := hP
  have x1 : -20000000000 ≤ x := x1
  have x2 : x ≤ 20000000000 := x2
  have y1 : -20000000000 ≤ y := y1
  have y2 : y ≤ 20000000000 := y2
  have hx64 : i64 x := by unfold i64; omega
  have hy64 : i64 y := by unfold i64; omega
  generalize hPe : ((x, y, led) : Pt) = P at *
  have hPx : P.1 = x := by rw [← hPe]
  have hPy : P.2.1 = y := by rw [← hPe]
  have hPm : P.2.2 = led := by rw [← hPe]
  refine q_in (ls := [vR 155, vI a, vL x, vN, vL y, vN, vI led, vN, vN, vN]) mq_191 (ml_191 rfl) rfl fun D hD => ?_
  have cell : ∀ (j : Nat) (Q : Pt), L[j]? = some Q → M 162 (((16 * a + j : Nat) : Int).toNat) = Q.1 ∧ M 163 (((16 * a + j : Nat) : Int).toNat) = Q.2.1 ∧ i64 Q.1 ∧ i64 Q.2.1 := by
    intro j Q hj
    have g := h3 j Q hj
    have gb := hB Q (List.mem_of_getElem? hj)
    unfold ptB at gb
    exact ⟨g.1, g.2.1, by unfold i64; omega, by unfold i64; omega⟩
  have put : ∀ (i : Nat) (N : mM) (w : mV), i ≤ L.length → L.length < 16 → insP L P = L.take i ++ P :: L.drop i → McG a L i M N → Wp mc_191 D 162 [vR 155, vI a, vL x, vN, vL y, vN, vI led, vI ((16 * a + i : Nat) : Int), vI ((16 * a + L.length : Nat) : Int), w] [] N (fun r N => r = none ∧ mcC a (capP L P) N ∧ McF a M N) := by
    intro i N w hi hl hins hG
    obtain ⟨g1, g2, g3, g4⟩ := hG
    have e165 : upI (upI (upI N 162 (16 * a + i) x) 163 (16 * a + i) y) 164 (16 * a + i) led 165 ((a : Int)).toNat = (L.length : Int) := by
      rw [upI_ne _ _ _ _ (by decide), upI_ne _ _ _ _ (by decide), upI_ne _ _ _ _ (by decide), g1 165 _ (by omega)]; exact h1
    have hfin : mcC a (capP L P) (upI (upI (upI (upI N 162 (16 * a + i) x) 163 (16 * a + i) y) 164 (16 * a + i) led) 165 a ((L.length : Int) + 1)) ∧ McF a M (upI (upI (upI (upI N 162 (16 * a + i) x) 163 (16 * a + i) y) 164 (16 * a + i) led) 165 a ((L.length : Int) + 1)) := by
      have hcap : capP L P = L.take i ++ P :: L.drop i := by unfold capP; rw [if_neg (by omega)]; exact hins
      rw [hcap]
      have hlen : (L.take i ++ P :: L.drop i).length = L.length + 1 := by
        rw [List.length_append, List.length_take, List.length_cons, List.length_drop]; omega
      have v162 : ∀ j, upI (upI (upI (upI N 162 (16 * a + i) x) 163 (16 * a + i) y) 164 (16 * a + i) led) 165 a ((L.length : Int) + 1) 162 j = if j = 16 * a + i then x else N 162 j := fun j => by
        rw [upI_ne _ _ _ _ (by decide), upI_ne _ _ _ _ (by decide), upI_ne _ _ _ _ (by decide)]
        unfold upI
        by_cases q : j = 16 * a + i
        · rw [if_pos ⟨rfl, q⟩, if_pos q]
        · rw [if_neg (fun z => q z.2), if_neg q]
      have v163 : ∀ j, upI (upI (upI (upI N 162 (16 * a + i) x) 163 (16 * a + i) y) 164 (16 * a + i) led) 165 a ((L.length : Int) + 1) 163 j = if j = 16 * a + i then y else N 163 j := fun j => by
        rw [upI_ne _ _ _ _ (by decide), upI_ne _ _ _ _ (by decide)]
        unfold upI
        by_cases q : j = 16 * a + i
        · rw [if_pos ⟨rfl, q⟩, if_pos q]
        · rw [if_neg (fun z => q z.2), if_neg (by omega), if_neg q]
      have v164 : ∀ j, upI (upI (upI (upI N 162 (16 * a + i) x) 163 (16 * a + i) y) 164 (16 * a + i) led) 165 a ((L.length : Int) + 1) 164 j = if j = 16 * a + i then led else N 164 j := fun j => by
        rw [upI_ne _ _ _ _ (by decide)]
        unfold upI
        by_cases q : j = 16 * a + i
        · rw [if_pos ⟨rfl, q⟩, if_pos q]
        · rw [if_neg (fun z => q z.2), if_neg (by omega), if_neg (by omega), if_neg q]
      refine ⟨⟨by rw [upI_same, hlen]; rfl, by rw [hlen]; omega, fun Q hQ => ?_, fun k Q hk => ?_⟩, ⟨fun b hb => ?_, fun b j hj hb => ?_, fun j hj => ?_⟩⟩
      · rcases List.mem_append.mp hQ with z | z
        · exact hB Q (List.mem_of_mem_take z)
        · rcases List.mem_cons.mp z with z | z
          · rw [z]; exact hPB
          · exact hB Q (List.mem_of_mem_drop z)
      · rw [v162, v163, v164]
        rcases Nat.lt_trichotomy k i with q | q | q
        · have hQ : L[k]? = some Q := by
            rw [List.getElem?_append_left (by rw [List.length_take]; omega), List.getElem?_take, if_pos q] at hk
            exact hk
          rw [if_neg (by omega), if_neg (by omega), if_neg (by omega)]
          exact g3 k Q hQ q
        · subst q
          have hQ : Q = P := by
            rw [List.getElem?_append_right (by rw [List.length_take]; omega), List.length_take, show k - min k L.length = 0 by omega] at hk
            simpa using hk.symm
          subst hQ
          rw [if_pos rfl, if_pos rfl, if_pos rfl]
          exact ⟨hPx.symm, hPy.symm, hPm.symm⟩
        · have hQ : L[k - 1]? = some Q := by
            rw [List.getElem?_append_right (by rw [List.length_take]; omega), List.length_take, show k - min i L.length = (k - 1 - i) + 1 by omega, List.getElem?_cons_succ, List.getElem?_drop, show i + (k - 1 - i) = k - 1 by omega] at hk
            exact hk
          rw [if_neg (by omega), if_neg (by omega), if_neg (by omega)]
          have := g4 (k - 1) Q hQ (by omega)
          rw [show 16 * a + (k - 1) + 1 = 16 * a + k by omega] at this
          exact this
      · funext j
        rw [upI_ne _ _ _ _ (by omega), upI_ne _ _ _ _ (by omega), upI_ne _ _ _ _ (by omega), upI_ne _ _ _ _ (by omega)]
        exact g1 b j (by omega)
      · rw [upI_ne _ _ _ _ hb, ← g2 b j hj]
        unfold upI
        rw [if_neg (by omega), if_neg (by omega), if_neg (by omega)]
      · rw [show upI (upI (upI (upI N 162 (16 * a + i) x) 163 (16 * a + i) y) 164 (16 * a + i) led) 165 a ((L.length : Int) + 1) 165 j = upI (upI (upI N 162 (16 * a + i) x) 163 (16 * a + i) y) 164 (16 * a + i) led 165 j from if_neg (by omega), upI_ne _ _ _ _ (by decide), upI_ne _ _ _ _ (by decide), upI_ne _ _ _ _ (by decide)]
        exact g1 165 j (by omega)
    refine w_aload rfl rfl (w_getR rfl (by first | rfl | assumption) rfl (by first | rfl | assumption) (w_iload rfl rfl (w_lload rfl rfl (w_lastore rfl (by first | rfl | assumption) (by omega) (by omega) (w_aload rfl rfl (w_getR rfl (by first | rfl | assumption) rfl (by first | rfl | assumption) (w_iload rfl rfl ?_)))))))
    refine w_lload rfl rfl (w_lastore rfl (by first | rfl | assumption) (by omega) (by omega) (w_aload rfl rfl (w_getR rfl (by first | rfl | assumption) rfl (by first | rfl | assumption) (w_iload rfl rfl (w_iload rfl rfl (w_iastore rfl (by first | rfl | assumption) (by omega) (by omega) (w_aload rfl rfl ?_)))))))
    refine w_getR rfl (by first | rfl | assumption) rfl (by first | rfl | assumption) (w_iload rfl rfl (w_dup2 rfl rfl rfl (w_ialoadV rfl (by first | rfl | assumption) (by omega) (by omega) (e165) (w_iconst rfl (w_iadd rfl (w_iastore rfl (by first | rfl | assumption) (by omega) (by omega) ?_))))))
    exact w_return rfl ⟨rfl, by exact hfin⟩
  have move : ∀ (n i k : Nat) (N : mM), k - i = n → i ≤ k → k ≤ L.length → L.length < 16 → insP L P = L.take i ++ P :: L.drop i → McG a L k M N → Wp mc_191 D 101 [vR 155, vI a, vL x, vN, vL y, vN, vI led, vI ((16 * a + i : Nat) : Int), vI ((16 * a + L.length : Nat) : Int), vI ((16 * a + k : Nat) : Int)] [] N (fun r N => r = none ∧ mcC a (capP L P) N ∧ McF a M N) := by
    intro n
    induction n with
    | zero =>
      intro i k N hn hik hk hl hins hG
      obtain rfl : k = i := by omega
      have hgo := put k N (vI ((16 * a + k : Nat) : Int)) hk hl hins hG
      refine w_iload rfl rfl (w_iload rfl rfl ?_)
      refine w_icmp_le (tgt := 162) rfl (by first | assumption | exact i32_0 | (unfold i32 at *; omega)) (by first | assumption | exact i32_0 | (unfold i32 at *; omega)) rfl (fun c105 => ?_) (fun c105 => ?_)
      · skip
        exact hgo
      · skip
        exfalso; omega
    | succ n ih =>
      intro i k N hn hik hk hl hins hG
      obtain ⟨k', rfl⟩ : ∃ k', k = k' + 1 := ⟨k - 1, by omega⟩
      obtain ⟨g1, g2, g3, g4⟩ := hG
      have hQ : L[k']? = some L[k'] := List.getElem?_eq_getElem (by omega)
      obtain ⟨c1, c2, c3⟩ := g3 k' _ hQ (by omega)
      have e1 : ((16 * a + (k' + 1) : Nat) : Int) - 1 = ((16 * a + k' : Nat) : Int) := by omega
      have e2 : ((16 * a + (k' + 1) : Nat) : Int) + -1 = ((16 * a + k' : Nat) : Int) := by omega
      have e3 : ((16 * a + (k' + 1) : Nat) : Int).toNat = 16 * a + k' + 1 := by omega
      have r1 : N 162 (((16 * a + k' : Nat) : Int)).toNat = L[k'].1 := c1
      have r2 : upI N 162 (16 * a + k' + 1) L[k'].1 163 (((16 * a + k' : Nat) : Int)).toNat = L[k'].2.1 := by rw [upI_ne _ _ _ _ (by decide)]; exact c2
      have r3 : upI (upI N 162 (16 * a + k' + 1) L[k'].1) 163 (16 * a + k' + 1) L[k'].2.1 164 (((16 * a + k' : Nat) : Int)).toNat = L[k'].2.2 := by rw [upI_ne _ _ _ _ (by decide), upI_ne _ _ _ _ (by decide)]; exact c3
      have hgo := ih i k' (upI (upI (upI N 162 (16 * a + k' + 1) L[k'].1) 163 (16 * a + k' + 1) L[k'].2.1) 164 (16 * a + k' + 1) L[k'].2.2) (by omega) (by omega) (by omega) hl hins (by
        have hne : ∀ b j, j ≠ 16 * a + k' + 1 → upI (upI (upI N 162 (16 * a + k' + 1) L[k'].1) 163 (16 * a + k' + 1) L[k'].2.1) 164 (16 * a + k' + 1) L[k'].2.2 b j = N b j := fun b j hj => by
          unfold upI
          rw [if_neg (fun z => hj z.2), if_neg (fun z => hj z.2), if_neg (fun z => hj z.2)]
        refine ⟨fun b j hb => ?_, fun b j hj => ?_, fun j Q hj hjk => ?_, fun j Q hj hjk => ?_⟩
        · rw [upI_ne _ _ _ _ (by omega), upI_ne _ _ _ _ (by omega), upI_ne _ _ _ _ (by omega)]; exact g1 b j hb
        · rw [hne b j (by omega)]; exact g2 b j hj
        · rw [hne 162 _ (by omega), hne 163 _ (by omega), hne 164 _ (by omega)]; exact g3 j Q hj (by omega)
        · by_cases z : j = k'
          · subst z
            rw [hQ] at hj; cases hj
            refine ⟨?_, ?_, ?_⟩
            · rw [upI_ne _ _ _ _ (by decide), upI_ne _ _ _ _ (by decide)]; exact upI_same _ _ _ _
            · rw [upI_ne _ _ _ _ (by decide)]; exact upI_same _ _ _ _
            · exact upI_same _ _ _ _
          · rw [hne 162 _ (by omega), hne 163 _ (by omega), hne 164 _ (by omega)]; exact g4 j Q hj (by omega))
      refine w_iload rfl rfl (w_iload rfl rfl ?_)
      refine w_icmp_le (tgt := 162) rfl (by first | assumption | exact i32_0 | (unfold i32 at *; omega)) (by first | assumption | exact i32_0 | (unfold i32 at *; omega)) rfl (fun c105 => ?_) (fun c105 => ?_)
      · skip
        exfalso; omega
      · skip
        refine w_aload rfl rfl (w_getR rfl (by first | rfl | assumption) rfl (by first | rfl | assumption) (w_iload rfl rfl (w_aload rfl rfl (w_getR rfl (by first | rfl | assumption) rfl (by first | rfl | assumption) (w_iload rfl rfl (w_iconst rfl (w_isub rfl ?_)))))))
        rw [e1]
        refine w_laloadV rfl (by first | rfl | assumption) (by omega) (by omega) (r1) (w_lastore rfl (by first | rfl | assumption) (by omega) (by omega) ?_)
        rw [e3]
        refine w_aload rfl rfl (w_getR rfl (by first | rfl | assumption) rfl (by first | rfl | assumption) (w_iload rfl rfl (w_aload rfl rfl (w_getR rfl (by first | rfl | assumption) rfl (by first | rfl | assumption) (w_iload rfl rfl (w_iconst rfl (w_isub rfl ?_)))))))
        rw [e1]
        refine w_laloadV rfl (by first | rfl | assumption) (by omega) (by omega) (r2) (w_lastore rfl (by first | rfl | assumption) (by omega) (by omega) ?_)
        rw [e3]
        refine w_aload rfl rfl (w_getR rfl (by first | rfl | assumption) rfl (by first | rfl | assumption) (w_iload rfl rfl (w_aload rfl rfl (w_getR rfl (by first | rfl | assumption) rfl (by first | rfl | assumption) (w_iload rfl rfl (w_iconst rfl (w_isub rfl ?_)))))))
        rw [e1]
        refine w_ialoadV rfl (by first | rfl | assumption) (by omega) (by omega) (r3) (w_iastore rfl (by first | rfl | assumption) (by omega) (by omega) ?_)
        rw [e3]
        refine w_iinc (ls2 := [_, _, _, _, _, _, _, _, _, _]) rfl rfl rfl (w_goto (tgt := 101) rfl rfl ?_)
        rw [e2]
        exact hgo
  -- the place found
  have enter : ∀ i : Nat, i ≤ L.length → (∀ j Q, j < i → L[j]? = some Q → ptLt Q P) → (∀ Q, L[i]? = some Q → ¬ ptLt Q P) → Wp mc_191 D 53 [vR 155, vI a, vL x, vN, vL y, vN, vI led, vI ((16 * a + i : Nat) : Int), vI ((16 * a + L.length : Nat) : Int), vN] [] M (fun r N => r = none ∧ mcC a (capP L P) N ∧ McF a M N) := by
    intro i hi hlt hnl
    have h16 : M 165 ((a : Int)).toNat = (L.length : Int) := h1
    have hsame : capP L P = L → (mcC a (capP L P) M ∧ McF a M M) := fun e => by rw [e]; exact ⟨hh, fun _ _ => rfl, fun _ _ _ _ => rfl, fun _ _ => rfl⟩
    have hgo97 : (∀ Q, L[i]? = some Q → ¬ ptEq Q P) → L.length < 16 → Wp mc_191 D 97 [vR 155, vI a, vL x, vN, vL y, vN, vI led, vI ((16 * a + i : Nat) : Int), vI ((16 * a + L.length : Nat) : Int), vN] [] M (fun r N => r = none ∧ mcC a (capP L P) N ∧ McF a M N) := by
      intro hne hl16
      have hgo := move (L.length - i) i L.length M rfl hi (Nat.le_refl _) hl16 (insP_at L i hi hlt (fun R hR => ⟨hnl R hR, hne R hR⟩)) ⟨fun _ _ _ => rfl, fun _ _ _ => rfl, fun j R hR _ => h3 j R hR, fun j R hR hj => absurd (List.getElem?_eq_some_iff.mp hR).1 (by omega)⟩
      refine w_iload rfl rfl (w_istore (ls2 := [_, _, _, _, _, _, _, _, _, _]) rfl rfl rfl ?_)
      exact hgo
    have hgo85 : (∀ Q, L[i]? = some Q → ¬ ptEq Q P) → Wp mc_191 D 85 [vR 155, vI a, vL x, vN, vL y, vN, vI led, vI ((16 * a + i : Nat) : Int), vI ((16 * a + L.length : Nat) : Int), vN] [] M (fun r N => r = none ∧ mcC a (capP L P) N ∧ McF a M N) := by
      intro hne
      by_cases hl16 : L.length < 16
      · have hgo := hgo97 hne hl16
        refine w_aload rfl rfl (w_getR rfl (by first | rfl | assumption) rfl (by first | rfl | assumption) (w_iload rfl rfl (w_ialoadV rfl (by first | rfl | assumption) (by omega) (by omega) (h16) (w_iconst rfl ?_))))
        refine w_icmp_ne (tgt := 97) rfl (by first | assumption | exact i32_0 | (unfold i32 at *; omega)) (by first | assumption | exact i32_0 | (unfold i32 at *; omega)) rfl (fun c93 => ?_) (fun c93 => ?_)
        · skip
          exact hgo
        · skip
          exfalso; omega
      · have hs := hsame (by unfold capP; rw [if_pos (by omega)])
        refine w_aload rfl rfl (w_getR rfl (by first | rfl | assumption) rfl (by first | rfl | assumption) (w_iload rfl rfl (w_ialoadV rfl (by first | rfl | assumption) (by omega) (by omega) (h16) (w_iconst rfl ?_))))
        refine w_icmp_ne (tgt := 97) rfl (by first | assumption | exact i32_0 | (unfold i32 at *; omega)) (by first | assumption | exact i32_0 | (unfold i32 at *; omega)) rfl (fun c93 => ?_) (fun c93 => ?_)
        · skip
          exfalso; omega
        · skip
          exact w_return rfl ⟨rfl, by exact hs⟩
    rcases Nat.lt_or_ge i L.length with q | q
    · have hQ : L[i]? = some L[i] := List.getElem?_eq_getElem q
      obtain ⟨c1, c2, c3, c4⟩ := cell i _ hQ
      have hnn := hnl _ hQ
      by_cases hE : ptEq L[i] P
      · have hs := hsame (by
          unfold capP
          by_cases z : 16 ≤ L.length
          · rw [if_pos z]
          · rw [if_neg z]; exact insP_found L i hlt hQ hE)
        have ex : L[i].1 = x := hE.1.trans hPx
        have ey : L[i].2.1 = y := hE.2.trans hPy
        refine w_iload rfl rfl (w_iload rfl rfl ?_)
        refine w_icmp_ge (tgt := 85) rfl (by first | assumption | exact i32_0 | (unfold i32 at *; omega)) (by first | assumption | exact i32_0 | (unfold i32 at *; omega)) rfl (fun c57 => ?_) (fun c57 => ?_)
        · skip
          exfalso; omega
        · skip
          refine w_aload rfl rfl (w_getR rfl (by first | rfl | assumption) rfl (by first | rfl | assumption) (w_iload rfl rfl (w_laloadV rfl (by first | rfl | assumption) (by omega) (by omega) (c1) (w_lload rfl rfl ?_))))
          refine w_lcmp rfl (by first | assumption | exact i64_0 | (unfold i64 at *; omega)) (by first | assumption | exact i64_0 | (unfold i64 at *; omega)) (fun c68 => ?_) (fun c68 => ?_) (fun c68 => ?_)
          · skip
            refine w_if_ne (tgt := 85) rfl (by first | assumption | exact i32_0 | (unfold i32 at *; omega)) rfl (fun _ => ?_) (fun c => absurd c (by decide))
            exfalso; omega
          · skip
            refine w_if_ne (tgt := 85) rfl (by first | assumption | exact i32_0 | (unfold i32 at *; omega)) rfl (fun _ => ?_) (fun c => absurd c (by decide))
            exfalso; omega
          · skip
            refine w_if_ne (tgt := 85) rfl (by first | assumption | exact i32_0 | (unfold i32 at *; omega)) rfl (fun c => absurd c (by decide)) (fun _ => ?_)
            refine w_aload rfl rfl (w_getR rfl (by first | rfl | assumption) rfl (by first | rfl | assumption) (w_iload rfl rfl (w_laloadV rfl (by first | rfl | assumption) (by omega) (by omega) (c2) (w_lload rfl rfl ?_))))
            refine w_lcmp rfl (by first | assumption | exact i64_0 | (unfold i64 at *; omega)) (by first | assumption | exact i64_0 | (unfold i64 at *; omega)) (fun c81 => ?_) (fun c81 => ?_) (fun c81 => ?_)
            · skip
              refine w_if_eq (tgt := 96) rfl (by first | assumption | exact i32_0 | (unfold i32 at *; omega)) rfl (fun c => absurd c (by decide)) (fun _ => ?_)
              exfalso; omega
            · skip
              refine w_if_eq (tgt := 96) rfl (by first | assumption | exact i32_0 | (unfold i32 at *; omega)) rfl (fun c => absurd c (by decide)) (fun _ => ?_)
              exfalso; omega
            · skip
              refine w_if_eq (tgt := 96) rfl (by first | assumption | exact i32_0 | (unfold i32 at *; omega)) rfl (fun _ => ?_) (fun c => absurd c (by decide))
              exact w_return rfl ⟨rfl, by exact hs⟩
      · have hgo := hgo85 (fun R hR => by rw [hQ] at hR; cases hR; exact hE)
        have hnE : ¬ (L[i].1 = x ∧ L[i].2.1 = y) := fun z => hE ⟨z.1.trans hPx.symm, z.2.trans hPy.symm⟩
        refine w_iload rfl rfl (w_iload rfl rfl ?_)
        refine w_icmp_ge (tgt := 85) rfl (by first | assumption | exact i32_0 | (unfold i32 at *; omega)) (by first | assumption | exact i32_0 | (unfold i32 at *; omega)) rfl (fun c57 => ?_) (fun c57 => ?_)
        · skip
          exact hgo
        · skip
          refine w_aload rfl rfl (w_getR rfl (by first | rfl | assumption) rfl (by first | rfl | assumption) (w_iload rfl rfl (w_laloadV rfl (by first | rfl | assumption) (by omega) (by omega) (c1) (w_lload rfl rfl ?_))))
          refine w_lcmp rfl (by first | assumption | exact i64_0 | (unfold i64 at *; omega)) (by first | assumption | exact i64_0 | (unfold i64 at *; omega)) (fun c68 => ?_) (fun c68 => ?_) (fun c68 => ?_)
          · skip
            refine w_if_ne (tgt := 85) rfl (by first | assumption | exact i32_0 | (unfold i32 at *; omega)) rfl (fun _ => ?_) (fun c => absurd c (by decide))
            exact hgo
          · skip
            refine w_if_ne (tgt := 85) rfl (by first | assumption | exact i32_0 | (unfold i32 at *; omega)) rfl (fun _ => ?_) (fun c => absurd c (by decide))
            exact hgo
          · skip
            refine w_if_ne (tgt := 85) rfl (by first | assumption | exact i32_0 | (unfold i32 at *; omega)) rfl (fun c => absurd c (by decide)) (fun _ => ?_)
            refine w_aload rfl rfl (w_getR rfl (by first | rfl | assumption) rfl (by first | rfl | assumption) (w_iload rfl rfl (w_laloadV rfl (by first | rfl | assumption) (by omega) (by omega) (c2) (w_lload rfl rfl ?_))))
            refine w_lcmp rfl (by first | assumption | exact i64_0 | (unfold i64 at *; omega)) (by first | assumption | exact i64_0 | (unfold i64 at *; omega)) (fun c81 => ?_) (fun c81 => ?_) (fun c81 => ?_)
            · skip
              refine w_if_eq (tgt := 96) rfl (by first | assumption | exact i32_0 | (unfold i32 at *; omega)) rfl (fun c => absurd c (by decide)) (fun _ => ?_)
              exact hgo
            · skip
              refine w_if_eq (tgt := 96) rfl (by first | assumption | exact i32_0 | (unfold i32 at *; omega)) rfl (fun c => absurd c (by decide)) (fun _ => ?_)
              exact hgo
            · skip
              refine w_if_eq (tgt := 96) rfl (by first | assumption | exact i32_0 | (unfold i32 at *; omega)) rfl (fun _ => ?_) (fun c => absurd c (by decide))
              exfalso; omega
    · have hgo := hgo85 (fun R hR => absurd (List.getElem?_eq_some_iff.mp hR).1 (by omega))
      refine w_iload rfl rfl (w_iload rfl rfl ?_)
      refine w_icmp_ge (tgt := 85) rfl (by first | assumption | exact i32_0 | (unfold i32 at *; omega)) (by first | assumption | exact i32_0 | (unfold i32 at *; omega)) rfl (fun c57 => ?_) (fun c57 => ?_)
      · skip
        exact hgo
      · skip
        exfalso; omega
  have find : ∀ (n i : Nat), L.length - i = n → i ≤ L.length → (∀ j Q, j < i → L[j]? = some Q → ptLt Q P) → Wp mc_191 D 17 [vR 155, vI a, vL x, vN, vL y, vN, vI led, vI ((16 * a + i : Nat) : Int), vI ((16 * a + L.length : Nat) : Int), vN] [] M (fun r N => r = none ∧ mcC a (capP L P) N ∧ McF a M N) := by
    intro n
    induction n with
    | zero =>
      intro i hn hi hlt
      have hgo := enter i hi hlt (fun Q hQ => absurd (List.getElem?_eq_some_iff.mp hQ).1 (by omega))
      refine w_iload rfl rfl (w_iload rfl rfl ?_)
      refine w_icmp_ge (tgt := 53) rfl (by first | assumption | exact i32_0 | (unfold i32 at *; omega)) (by first | assumption | exact i32_0 | (unfold i32 at *; omega)) rfl (fun c21 => ?_) (fun c21 => ?_)
      · skip
        exact hgo
      · skip
        exfalso; omega
    | succ n ih =>
      intro i hn hi hlt
      have hQ : L[i]? = some L[i] := List.getElem?_eq_getElem (by omega)
      obtain ⟨c1, c2, c3, c4⟩ := cell i _ hQ
      have hah := m_ahead M c3 c4 hx64 hy64
      have hiff : (L[i].1 < x ∨ (L[i].1 = x ∧ L[i].2.1 < y)) ↔ ptLt L[i] P := by unfold ptLt; rw [hPx, hPy]
      by_cases hl : ptLt L[i] P
      · rw [if_pos (hiff.mpr hl)] at hah
        have hgo := ih (i + 1) (by omega) (by omega) (fun j R hj hR => by
          by_cases z : j = i
          · subst z; rw [hQ] at hR; cases hR; exact hl
          · exact hlt j R (by omega) hR)
        have e1 : ((16 * a + i : Nat) : Int) + 1 = ((16 * a + (i + 1) : Nat) : Int) := by omega
        refine w_iload rfl rfl (w_iload rfl rfl ?_)
        refine w_icmp_ge (tgt := 53) rfl (by first | assumption | exact i32_0 | (unfold i32 at *; omega)) (by first | assumption | exact i32_0 | (unfold i32 at *; omega)) rfl (fun c21 => ?_) (fun c21 => ?_)
        · exfalso; omega
        · skip
          refine w_aload rfl rfl (w_getR rfl (by first | rfl | assumption) rfl (by first | rfl | assumption) (w_iload rfl rfl (w_laloadV rfl (by first | rfl | assumption) (by omega) (by omega) (c1) (w_aload rfl rfl (w_getR rfl (by first | rfl | assumption) rfl (by first | rfl | assumption) (w_iload rfl rfl (w_laloadV rfl (by first | rfl | assumption) (by omega) (by omega) (c2) ?_)))))))
          refine w_lload rfl rfl (w_lload rfl rfl ?_)
          refine w_call (Or.inl rfl) ((hah)) (by omega) nof_192 rfl rfl rfl rfl trivial rfl ?_
          refine w_if_eq (tgt := 53) rfl (by first | assumption | exact i32_0 | (unfold i32 at *; omega)) rfl (fun c => absurd c (by decide)) (fun _ => ?_)
          refine w_iinc (ls2 := [_, _, _, _, _, _, _, _, _, _]) rfl rfl rfl (w_goto (tgt := 17) rfl rfl ?_)
          rw [e1]
          exact hgo
      · rw [if_neg (fun z => hl (hiff.mp z))] at hah
        have hgo := enter i hi hlt (fun R hR => by rw [hQ] at hR; cases hR; exact hl)
        refine w_iload rfl rfl (w_iload rfl rfl ?_)
        refine w_icmp_ge (tgt := 53) rfl (by first | assumption | exact i32_0 | (unfold i32 at *; omega)) (by first | assumption | exact i32_0 | (unfold i32 at *; omega)) rfl (fun c21 => ?_) (fun c21 => ?_)
        · exfalso; omega
        · skip
          refine w_aload rfl rfl (w_getR rfl (by first | rfl | assumption) rfl (by first | rfl | assumption) (w_iload rfl rfl (w_laloadV rfl (by first | rfl | assumption) (by omega) (by omega) (c1) (w_aload rfl rfl (w_getR rfl (by first | rfl | assumption) rfl (by first | rfl | assumption) (w_iload rfl rfl (w_laloadV rfl (by first | rfl | assumption) (by omega) (by omega) (c2) ?_)))))))
          refine w_lload rfl rfl (w_lload rfl rfl ?_)
          refine w_call (Or.inl rfl) ((hah)) (by omega) nof_192 rfl rfl rfl rfl trivial rfl ?_
          refine w_if_eq (tgt := 53) rfl (by first | assumption | exact i32_0 | (unfold i32 at *; omega)) rfl (fun _ => ?_) (fun c => absurd c (by decide))
          exact hgo
  have hgo := find L.length 0 (Nat.sub_zero _) (Nat.zero_le _) (fun j Q hj => absurd hj (Nat.not_lt_zero j))
  have h16 : M 165 ((a : Int)).toNat = (L.length : Int) := h1
  have e1 : 16 * (a : Int) = ((16 * a + 0 : Nat) : Int) := by omega
  have e2 : ((16 * a + 0 : Nat) : Int) + (L.length : Int) = ((16 * a + L.length : Nat) : Int) := by omega
  refine w_iconst rfl (w_iload rfl rfl (w_imul rfl ?_))
  rw [e1]
  refine w_istore (ls2 := [_, _, _, _, _, _, _, _, _, _]) rfl rfl rfl (w_iload rfl rfl (w_aload rfl rfl (w_getR rfl (by first | rfl | assumption) rfl (by first | rfl | assumption) (w_iload rfl rfl (w_ialoadV rfl (by first | rfl | assumption) (by omega) (by omega) (h16) (w_iadd rfl ?_))))))
  rw [e2]
  refine w_istore (ls2 := [_, _, _, _, _, _, _, _, _, _]) rfl rfl rfl ?_
  exact hgo
