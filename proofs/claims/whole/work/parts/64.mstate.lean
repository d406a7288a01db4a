/-! ===== the model's state ===== -/
def mTx (b : List Int) (M : mM) : Prop := M 155 4 = (b.length : Int) ∧ b.length ≤ 200 ∧ ∀ (k : Nat) (c : Int), b[k]? = some c → M 158 k = c ∧ 0 ≤ c ∧ c ≤ 255
def mPa (ps : List (Cv × Cv)) (M : mM) : Prop := M 155 1 = (ps.length : Int) ∧ ps.length ≤ 8 ∧ ∀ (j : Nat) (q : Cv × Cv), ps[j]? = some q → mrow (50 + 50 * (ps.length - 1 - j)) q.1 q.2 M
def moSl (k0 k1 : Option (Cv × Cv)) (M : mM) : Prop := M 157 0 = keptI k0 ∧ M 157 1 = keptI k1 ∧ (∀ q, k0 = some q → mrow 450 q.1 q.2 M ∧ Cok 999 q.1 ∧ Cok 999 q.2) ∧ (∀ q, k1 = some q → mrow 500 q.1 q.2 M ∧ Cok 999 q.1 ∧ Cok 999 q.2)
def mvC (a : Nat) (f : Cv) (M : mM) : Prop := M 165 a = ((cornF f).length : Int) ∧ (cornF f).length ≤ 16 ∧ ∀ (k : Nat) (P : Pt), (cornF f)[k]? = some P → M 162 (16 * a + k) = P.1 ∧ M 163 (16 * a + k) = P.2.1 ∧ M 164 (16 * a + k) = P.2.2
def mvE (a : Nat) (f : Cv) (M : mM) : Prop := M 172 a = ((rowsF f).length : Int) ∧ (rowsF f).length ≤ 30 ∧ ∀ (k : Nat) (e : Nat → Int), (rowsF f)[k]? = some e → (M 166 (40 * a + k) = e 0 ∧ M 167 (40 * a + k) = e 1) ∧ (M 168 (40 * a + k) = e 4 ∧ M 169 (40 * a + k) = e 5) ∧ M 170 (40 * a + k) = e 6 ∧ M 171 (40 * a + k) = e 7
def mvM (f g : Cv) (M : mM) : Prop := M 155 35 = ((meetF f g).length : Int) ∧ (meetF f g).length ≤ 16 ∧ ∀ (k : Nat) (P : Pt), (meetF f g)[k]? = some P → M 173 k = P.1 ∧ M 174 k = P.2.1
def MV (f g : Cv) (M : mM) : Prop := (mvC 0 f M ∧ mvC 1 g M) ∧ (mvE 0 f M ∧ mvE 1 g M) ∧ mvM f g M
theorem MV_fr {f g : Cv} {M M1 : mM} (h : MV f g M) (e : ∀ a, 162 ≤ a → a ≤ 174 → M1 a = M a) (e35 : M1 155 35 = M 155 35) : MV f g M1 := by
  unfold MV mvC mvE mvM at h ⊢
  rw [e35, e 162 (by omega) (by omega), e 163 (by omega) (by omega), e 164 (by omega) (by omega), e 165 (by omega) (by omega), e 166 (by omega) (by omega), e 167 (by omega) (by omega), e 168 (by omega) (by omega), e 169 (by omega) (by omega), e 170 (by omega) (by omega), e 171 (by omega) (by omega), e 172 (by omega) (by omega), e 173 (by omega) (by omega), e 174 (by omega) (by omega)]
  exact h
def mKn (f g : Cv) (M : mM) : Prop := (M 155 21 = 0 ∨ M 155 21 = 1) ∧ (M 155 21 = 1 → MV f g M)
def MI (s : Sta) (M : mM) : Prop := mTx s.1 M ∧ (mrow 0 s.2.1 s.2.2.1 M ∧ Cok 999 s.2.1 ∧ Cok 999 s.2.2.1) ∧ (mPa s.2.2.2.1 M ∧ PasOK s.2.2.2.1) ∧ moSl s.2.2.2.2.1 s.2.2.2.2.2 M ∧ mKn s.2.1 s.2.2.1 M
def mFr (M M1 : mM) : Prop := ∀ a, (a < 155 ∨ 179 ≤ a) → M1 a = M a
theorem mFr_rfl (M : mM) : mFr M M := fun _ _ => rfl
theorem mFr_tr {M M1 M2 : mM} (h : mFr M M1) (h2 : mFr M1 M2) : mFr M M2 := fun a ha => (h2 a ha).trans (h a ha)
theorem mFr_up {M : mM} {a : Nat} (ha : 155 ≤ a ∧ a < 179) (k : Nat) (v : Int) : mFr M (upI M a k v) := fun b hb => upI_ne _ _ _ _ (by omega)
def MoQ (M : mM) (ans : Int) (s : Sta) : mP := fun r M1 => r = some (vI ans) ∧ MI s M1 ∧ mFr M M1
def MoQL (M : mM) (ans : Int) (s : Sta) : mP := fun r M1 => r = some (vL ans) ∧ MI s M1 ∧ mFr M M1
theorem MI_same {s : Sta} {M : mM} (h : MI s M) : MI s M ∧ mFr M M := ⟨h, mFr_rfl M⟩
theorem mTx_fr {b : List Int} {M M1 : mM} (h : mTx b M) (e1 : M1 155 4 = M 155 4) (e2 : ∀ k, M1 158 k = M 158 k) : mTx b M1 := ⟨by rw [e1]; exact h.1, h.2.1, fun k c hk => ⟨by rw [e2]; exact (h.2.2 k c hk).1, (h.2.2 k c hk).2⟩⟩
theorem mPa_fr {ps : List (Cv × Cv)} {M M1 : mM} (h : mPa ps M) (e1 : M1 155 1 = M 155 1) (e : ∀ k, 50 ≤ k → k < 450 → M1 156 k = M 156 k) : mPa ps M1 := ⟨e1.trans h.1, h.2.1, fun j q hq => mrow_fr (h.2.2 j q hq) (fun k q1 q2 => e k (by omega) (by have := (List.getElem?_eq_some_iff.mp hq).1; have := h.2.1; omega))⟩
theorem moSl_fr {k0 k1 : Option (Cv × Cv)} {M M1 : mM} (h : moSl k0 k1 M) (e1 : ∀ k, M1 157 k = M 157 k) (e : ∀ k, 450 ≤ k → k < 550 → M1 156 k = M 156 k) : moSl k0 k1 M1 := ⟨(e1 0).trans h.1, (e1 1).trans h.2.1, fun q hq => ⟨mrow_fr (h.2.2.1 q hq).1 (fun k q1 q2 => e k (by omega) (by omega)), (h.2.2.1 q hq).2⟩, fun q hq => ⟨mrow_fr (h.2.2.2 q hq).1 (fun k q1 q2 => e k (by omega) (by omega)), (h.2.2.2 q hq).2⟩⟩
theorem mKn_fr {f g : Cv} {M M1 : mM} (h : mKn f g M) (e21 : M1 155 21 = M 155 21) (e : ∀ a, 162 ≤ a → a ≤ 174 → M1 a = M a) (e35 : M1 155 35 = M 155 35) : mKn f g M1 := ⟨by rw [e21]; exact h.1, fun z => MV_fr (h.2 (by rw [← e21]; exact z)) e e35⟩
theorem mKn_0 {f g : Cv} {M1 : mM} (e21 : M1 155 21 = 0) : mKn f g M1 := ⟨Or.inl e21, fun z => by rw [e21] at z; exact absurd z (by decide)⟩
/-- only the model's own notes were changed -/
theorem MI_fr {s : Sta} {M M1 : mM} (h : MI s M) (e5 : ∀ k, (k = 1 ∨ k = 4 ∨ k = 21 ∨ k = 35) → M1 155 k = M 155 k) (e : ∀ a, (a = 156 ∨ a = 157 ∨ a = 158 ∨ (162 ≤ a ∧ a ≤ 174)) → M1 a = M a) : MI s M1 :=
  ⟨mTx_fr h.1 (e5 4 (by omega)) (fun k => by rw [e 158 (by omega)]), ⟨mrow_fr h.2.1.1 (fun k _ _ => by rw [e 156 (by omega)]), h.2.1.2⟩, ⟨mPa_fr h.2.2.1.1 (e5 1 (by omega)) (fun k _ _ => by rw [e 156 (by omega)]), h.2.2.1.2⟩, moSl_fr h.2.2.2.1 (fun k => by rw [e 157 (by omega)]) (fun k _ _ => by rw [e 156 (by omega)]), mKn_fr h.2.2.2.2 (e5 21 (by omega)) (fun a q1 q2 => e a (by omega)) (e5 35 (by omega))⟩
theorem m_write {s : Sta} {M : mM} {x : Int} (c : MI s M) (hx : i32 x) : EQ 12 149 [vR 155, vI x] M (MoQ M (dWrite x s).1 (dWrite x s).2) := by
  refine q_in (ls := [vR 155, vI x]) mq_149 (ml_149 rfl) rfl fun D hD => ?_
  unfold dWrite
  obtain ⟨h1, h2, h3⟩ := c.1
  have hxx : -2147483648 ≤ x ∧ x ≤ 2147483647 := hx
  by_cases h : x < 0 ∨ 255 < x
  · rw [if_pos h]
    have hi := m_in0 (v := x) (l := 0) (m := 255) M (by unfold i64; omega) (by unfold i64; omega) (by unfold i64; omega) (by omega)
    refine w_iload rfl rfl (w_i2l rfl (by first | assumption | exact i32_0 | (unfold i32 at *; omega)) (w_lconst rfl (w_lconst rfl ?_)))
    refine w_call (Or.inl rfl) ((id hi)) (by omega) nof_150 rfl rfl rfl rfl trivial rfl ?_
    refine w_if_ne (tgt := 15) rfl (by first | assumption | exact i32_0 | (unfold i32 at *; omega)) rfl (fun c => absurd c (by decide)) (fun _ => ?_)
    refine w_iconst rfl ?_
    exact w_ireturn rfl ⟨by first | rfl | (congr 2; omega), by exact MI_same c⟩
  · rw [if_neg h]
    have hi := m_in1 (v := x) (l := 0) (m := 255) M (by unfold i64; omega) (by unfold i64; omega) (by unfold i64; omega) (by omega)
    by_cases hl : s.1.length < 200
    · rw [if_pos hl]
      have e40 : upI M 158 s.1.length x 155 4 = (s.1.length : Int) := (if_neg (by omega)).trans h1
      have e49 : upI (upI M 158 s.1.length x) 155 4 ((s.1.length : Int) + 1) 155 4 = (s.1.length : Int) + 1 := upI_same _ _ _ _
      have hfin : MI (s.1 ++ [x], s.2) (upI (upI M 158 s.1.length x) 155 4 ((s.1.length : Int) + 1)) ∧ mFr M (upI (upI M 158 s.1.length x) 155 4 ((s.1.length : Int) + 1)) := by
        refine ⟨⟨⟨?_, ?_, fun k d hk => ?_⟩, ⟨mrow_fr c.2.1.1 (fun k _ _ => by rw [upI_ne _ _ _ _ (by decide), upI_ne _ _ _ _ (by decide)]), c.2.1.2⟩, ⟨mPa_fr c.2.2.1.1 ((if_neg (by omega)).trans (by rw [upI_ne _ _ _ _ (by decide)])) (fun k _ _ => by rw [upI_ne _ _ _ _ (by decide), upI_ne _ _ _ _ (by decide)]), c.2.2.1.2⟩, moSl_fr c.2.2.2.1 (fun k => by rw [upI_ne _ _ _ _ (by decide), upI_ne _ _ _ _ (by decide)]) (fun k _ _ => by rw [upI_ne _ _ _ _ (by decide), upI_ne _ _ _ _ (by decide)]), mKn_fr c.2.2.2.2 ((if_neg (by omega)).trans (by rw [upI_ne _ _ _ _ (by decide)])) (fun a q1 q2 => by rw [upI_ne _ _ _ _ (by omega), upI_ne _ _ _ _ (by omega)]) ((if_neg (by omega)).trans (by rw [upI_ne _ _ _ _ (by decide)]))⟩, mFr_tr (mFr_up (by decide) _ _) (mFr_up (by decide) _ _)⟩
        · rw [upI_same, List.length_append]; rfl
        · show (s.1 ++ [x]).length ≤ 200; rw [List.length_append]; show s.1.length + 1 ≤ 200; omega
        · rw [show upI (upI M 158 s.1.length x) 155 4 ((s.1.length : Int) + 1) 158 k = upI M 158 s.1.length x 158 k from by rw [upI_ne _ _ _ _ (by decide)]]
          have hk : (s.1 ++ [x])[k]? = some d := hk
          rcases Nat.lt_or_ge k s.1.length with q | q
          · rw [List.getElem?_append_left q] at hk
            rw [show upI M 158 s.1.length x 158 k = M 158 k from if_neg (by omega)]
            exact h3 k d hk
          · rw [List.getElem?_append_right q] at hk
            have : k - s.1.length < 1 := (List.getElem?_eq_some_iff.mp hk).1
            obtain rfl : k = s.1.length := by omega
            rw [Nat.sub_self] at hk
            cases hk
            exact ⟨upI_same M 158 _ x, by omega⟩
      refine w_iload rfl rfl (w_i2l rfl (by first | assumption | exact i32_0 | (unfold i32 at *; omega)) (w_lconst rfl (w_lconst rfl ?_)))
      refine w_call (Or.inl rfl) ((hi)) (by omega) nof_150 rfl rfl rfl rfl trivial rfl ?_
      refine w_if_ne (tgt := 15) rfl (by first | assumption | exact i32_0 | (unfold i32 at *; omega)) rfl (fun _ => ?_) (fun c => absurd c (by decide))
      refine w_aload rfl rfl (w_getIV rfl (by first | rfl | assumption) (by first | exact Or.inl rfl | exact Or.inr rfl) (h1) (w_iconst rfl ?_))
      refine w_icmp_ne (tgt := 28) rfl (by first | assumption | exact i32_0 | (unfold i32 at *; omega)) (by first | assumption | exact i32_0 | (unfold i32 at *; omega)) rfl (fun c22 => ?_) (fun c22 => ?_)
      · skip
        refine w_aload rfl rfl (w_getR rfl (by first | rfl | assumption) rfl (by first | rfl | assumption) (w_aload rfl rfl (w_getIV rfl (by first | rfl | assumption) (by first | exact Or.inl rfl | exact Or.inr rfl) (h1) (w_iload rfl rfl (w_iastore rfl (by first | rfl | assumption) (by omega) (by omega) (w_aload rfl rfl (w_dup rfl rfl ?_)))))))
        refine w_getIV rfl (by first | rfl | assumption) (by first | exact Or.inl rfl | exact Or.inr rfl) (e40) (w_iconst rfl (w_iadd rfl (w_putI rfl (by first | rfl | assumption) rfl (w_aload rfl rfl (w_getIV rfl (by first | rfl | assumption) (by first | exact Or.inl rfl | exact Or.inr rfl) (e49) ?_)))))
        exact w_ireturn rfl ⟨by first | rfl | (congr 2; omega), by exact hfin⟩
      · skip
        exfalso; omega
    · rw [if_neg hl]
      refine w_iload rfl rfl (w_i2l rfl (by first | assumption | exact i32_0 | (unfold i32 at *; omega)) (w_lconst rfl (w_lconst rfl ?_)))
      refine w_call (Or.inl rfl) ((hi)) (by omega) nof_150 rfl rfl rfl rfl trivial rfl ?_
      refine w_if_ne (tgt := 15) rfl (by first | assumption | exact i32_0 | (unfold i32 at *; omega)) rfl (fun _ => ?_) (fun c => absurd c (by decide))
      refine w_aload rfl rfl (w_getIV rfl (by first | rfl | assumption) (by first | exact Or.inl rfl | exact Or.inr rfl) (h1) (w_iconst rfl ?_))
      refine w_icmp_ne (tgt := 28) rfl (by first | assumption | exact i32_0 | (unfold i32 at *; omega)) (by first | assumption | exact i32_0 | (unfold i32 at *; omega)) rfl (fun c22 => ?_) (fun c22 => ?_)
      · skip
        exfalso; omega
      · skip
        refine w_iconst rfl ?_
        exact w_ireturn rfl ⟨by first | rfl | (congr 2; omega), by exact MI_same c⟩
theorem mTx_nil {M : mM} (h : M 155 4 = 0) : mTx [] M := ⟨h, by decide, fun k c q => by simp at q⟩
theorem m_erase {s : Sta} {M : mM} (c : MI s M) : EQ 12 151 [vR 155] M (MoQ M (dErase s).1 (dErase s).2) := by
  refine q_in (ls := [vR 155, vN]) mq_151 (ml_151 rfl) rfl fun D hD => ?_
  obtain ⟨h1, h2, h3⟩ := c.1
  have hfin : MI ([], s.2) (upI M 155 4 0) ∧ mFr M (upI M 155 4 0) := ⟨⟨mTx_nil (upI_same _ _ _ _), ⟨mrow_fr c.2.1.1 (fun k _ _ => by rw [upI_ne _ _ _ _ (by decide)]), c.2.1.2⟩, ⟨mPa_fr c.2.2.1.1 (if_neg (by omega)) (fun k _ _ => by rw [upI_ne _ _ _ _ (by decide)]), c.2.2.1.2⟩, moSl_fr c.2.2.2.1 (fun k => by rw [upI_ne _ _ _ _ (by decide)]) (fun k _ _ => by rw [upI_ne _ _ _ _ (by decide)]), mKn_fr c.2.2.2.2 (if_neg (by omega)) (fun a q1 q2 => by rw [upI_ne _ _ _ _ (by omega)]) (if_neg (by omega))⟩, mFr_up (by decide) _ _⟩
  refine w_aload rfl rfl (w_getIV rfl (by first | rfl | assumption) (by first | exact Or.inl rfl | exact Or.inr rfl) (h1) (w_istore (ls2 := [_, _]) rfl rfl rfl (w_aload rfl rfl (w_iconst rfl (w_putI rfl (by first | rfl | assumption) rfl (w_iload rfl rfl ?_))))))
  exact w_ireturn rfl ⟨by first | rfl | (congr 2; omega), by exact hfin⟩
theorem mcur_sel {a : Nat} {f g : Cv} {M : mM} (ha : a < 2) (h : mrow 0 f g M) : mcur (25 * a) (selF a f g) M := by
  have : a = 0 ∨ a = 1 := by omega
  rcases this with rfl | rfl
  · exact h.1
  · exact h.2
theorem m_term {s : Sta} {M : mM} {a i j : Int} (c : MI s M) (ha : i32 a) (hi : i32 i) (hj : i32 j) : EQ 12 164 [vR 155, vI a, vI i, vI j] M (MoQ M (dTerm a i j s) s) := by
  refine q_in (ls := [vR 155, vI a, vI i, vI j]) mq_164 (ml_164 rfl) rfl fun D hD => ?_
  unfold dTerm
  by_cases q : isCu a = true
  · rw [if_pos q]
    have q := isCu_iff.mp q
    obtain ⟨a, rfl⟩ : ∃ z : Nat, a = (z : Int) := ⟨a.toNat, by omega⟩
    have ha2 : a < 2 := by omega
    by_cases qp : isPlB i j = true
    · rw [if_pos qp]
      have qp := isPlB_iff.mp qp
      obtain ⟨e1, e2, e3⟩ := plN_ok qp
      have hc := mcur_sel ha2 c.2.1.1
      have hf := Cok_sel (a := (a : Int)) c.2.1.2.1 c.2.1.2.2
      generalize selF (a : Int) s.2.1 s.2.2.1 = f at *
      have hx : M 156 ((25 * (a : Int) + 5 * i + j).toNat) = mv f (plN i j) := by rw [show (25 * (a : Int) + 5 * i + j).toNat = 25 * a + plN i j by omega]; exact hc _ (by omega)
      cases e : hasF f (plN i j) with
      | false =>
        have hn : f (plN i j) = none := by
          cases z : f (plN i j) with
          | none => rfl
          | some v => unfold hasF at e; rw [z] at e; cases e
        rw [hn]
        refine w_iload rfl rfl ?_
        refine w_call (Or.inl rfl) (m_isCurve1 M q) (by omega) nof_165 rfl rfl rfl rfl trivial rfl ?_
        refine w_if_ne (tgt := 10) rfl (by first | assumption | exact i32_0 | (unfold i32 at *; omega)) rfl (fun _ => ?_) (fun c => absurd c (by decide))
        refine w_iload rfl rfl (w_iload rfl rfl ?_)
        refine w_call (Or.inl rfl) (m_isPlace1 M qp) (by omega) nof_166 rfl rfl rfl rfl trivial rfl ?_
        refine w_if_ne (tgt := 21) rfl (by first | assumption | exact i32_0 | (unfold i32 at *; omega)) rfl (fun _ => ?_) (fun c => absurd c (by decide))
        refine w_aload rfl rfl (w_iload rfl rfl (w_iconst rfl (w_iload rfl rfl (w_imul rfl (w_iload rfl rfl (w_iadd rfl ?_))))))
        rw [e1]
        refine w_call (Or.inr rfl) (m_has0 ha2 hc hf (by omega) e) (by omega) nof_167 rfl rfl rfl rfl (by first | rfl | (show cKB[_]? = _; assumption)) rfl ?_
        refine w_if_eq (tgt := 52) rfl (by first | assumption | exact i32_0 | (unfold i32 at *; omega)) rfl (fun _ => ?_) (fun c => absurd c (by decide))
        refine w_iconst rfl ?_
        exact w_ireturn rfl ⟨by first | rfl | (congr 2; omega), by exact MI_same c⟩
      | true =>
        rw [hasF_some e]
        rw [mv_some e] at hx
        have hpq : 0 ≤ i ∧ 0 ≤ j ∧ i ≤ 4 ∧ j ≤ 4 - i := qp
        refine w_iload rfl rfl ?_
        refine w_call (Or.inl rfl) (m_isCurve1 M q) (by omega) nof_165 rfl rfl rfl rfl trivial rfl ?_
        refine w_if_ne (tgt := 10) rfl (by first | assumption | exact i32_0 | (unfold i32 at *; omega)) rfl (fun _ => ?_) (fun c => absurd c (by decide))
        refine w_iload rfl rfl (w_iload rfl rfl ?_)
        refine w_call (Or.inl rfl) (m_isPlace1 M qp) (by omega) nof_166 rfl rfl rfl rfl trivial rfl ?_
        refine w_if_ne (tgt := 21) rfl (by first | assumption | exact i32_0 | (unfold i32 at *; omega)) rfl (fun _ => ?_) (fun c => absurd c (by decide))
        refine w_aload rfl rfl (w_iload rfl rfl (w_iconst rfl (w_iload rfl rfl (w_imul rfl (w_iload rfl rfl (w_iadd rfl ?_))))))
        rw [e1]
        refine w_call (Or.inr rfl) (m_has1 ha2 hc hf (by omega) e) (by omega) nof_167 rfl rfl rfl rfl (by first | rfl | (show cKB[_]? = _; assumption)) rfl ?_
        refine w_if_eq (tgt := 52) rfl (by first | assumption | exact i32_0 | (unfold i32 at *; omega)) rfl (fun c => absurd c (by decide)) (fun _ => ?_)
        refine w_aload rfl rfl (w_getR rfl (by first | rfl | assumption) rfl (by first | rfl | assumption) (w_iconst rfl (w_iload rfl rfl (w_imul rfl (w_iconst rfl (w_iload rfl rfl (w_imul rfl ?_)))))))
        refine w_iadd rfl (w_iload rfl rfl (w_iadd rfl (w_ialoadV rfl (by first | rfl | assumption) (by omega) (by omega) (hx) (w_goto (tgt := 54) rfl rfl ?_))))
        exact w_ireturn rfl ⟨by first | rfl | (congr 2; omega), by exact MI_same c⟩
    · rw [if_neg qp]
      have qp : ¬ isPl i j := fun z => qp (isPlB_iff.mpr z)
      refine w_iload rfl rfl ?_
      refine w_call (Or.inl rfl) (m_isCurve1 M q) (by omega) nof_165 rfl rfl rfl rfl trivial rfl ?_
      refine w_if_ne (tgt := 10) rfl (by first | assumption | exact i32_0 | (unfold i32 at *; omega)) rfl (fun _ => ?_) (fun c => absurd c (by decide))
      refine w_iload rfl rfl (w_iload rfl rfl ?_)
      refine w_call (Or.inl rfl) (m_isPlace0 M hi hj qp) (by omega) nof_166 rfl rfl rfl rfl trivial rfl ?_
      refine w_if_ne (tgt := 21) rfl (by first | assumption | exact i32_0 | (unfold i32 at *; omega)) rfl (fun c => absurd c (by decide)) (fun _ => ?_)
      refine w_iconst rfl ?_
      exact w_ireturn rfl ⟨by first | rfl | (congr 2; omega), by exact MI_same c⟩
  · rw [if_neg q]
    have q : ¬ (a = 0 ∨ a = 1) := fun z => q (isCu_iff.mpr z)
    refine w_iload rfl rfl ?_
    refine w_call (Or.inl rfl) (m_isCurve0 M ha q) (by omega) nof_165 rfl rfl rfl rfl trivial rfl ?_
    refine w_if_ne (tgt := 10) rfl (by first | assumption | exact i32_0 | (unfold i32 at *; omega)) rfl (fun c => absurd c (by decide)) (fun _ => ?_)
    refine w_iconst rfl ?_
    exact w_ireturn rfl ⟨by first | rfl | (congr 2; omega), by exact MI_same c⟩
