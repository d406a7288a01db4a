/-! ===== the model's past ===== -/
theorem mrow_sh {A B : Nat} {f g : Cv} {M N : mM} (h : mrow A f g M) (e : ∀ k, k < 50 → N 156 (B + k) = M 156 (A + k)) : mrow B f g N := ⟨fun p hp => by rw [e p (by omega)]; exact h.1 p hp, fun p hp => by rw [show B + 25 + p = B + (25 + p) by omega, e (25 + p) (by omega), show A + (25 + p) = A + 25 + p by omega]; exact h.2 p hp⟩
def KpQ (f g : Cv) (ps : List (Cv × Cv)) (M : mM) : mP := fun r N => r = none ∧ mPa (((f, g) :: ps).take 8) N ∧ N 155 21 = 0 ∧ (∀ k, (k < 50 ∨ 450 ≤ k) → N 156 k = M 156 k) ∧ (∀ a, a ≠ 155 → a ≠ 156 → N a = M a) ∧ (∀ k, k ≠ 1 → k ≠ 21 → N 155 k = M 155 k)
theorem m_keepPast {f g : Cv} {ps : List (Cv × Cv)} {M : mM} (h0 : mrow 0 f g M) (hp : mPa ps M) : EQ 2 175 [vR 155] M (KpQ f g ps M) := by
  refine q_in (ls := [vR 155, vN]) mq_175 (ml_175 rfl) rfl fun D hD => ?_
  obtain ⟨p1, p2, p3⟩ := hp
  have tail : ∀ (u : Nat) (qs : List (Cv × Cv)) (N : mM) (w : mV), ((N 155 1 = (u : Int) ∧ u < 8) ∨ (N 155 1 = 8 ∧ u = 7)) → ((f, g) :: ps).take 8 = (f, g) :: qs → qs.length = u → (∀ (j : Nat) (q : Cv × Cv), qs[j]? = some q → mrow (50 + 50 * (u - 1 - j)) q.1 q.2 N) → (∀ k, (k < 50 ∨ 450 ≤ k) → N 156 k = M 156 k) → (∀ a, a ≠ 156 → N a = M a) → Wp mc_175 D 42 [vR 155, w] [] N (KpQ f g ps M) := by
    intro u qs N w hu hqs hql hb h1 h2
    have r0 : mrow 0 f g (upI N 155 1 (u : Int)) := mrow_fr h0 (fun k _ _ => by rw [upI_ne _ _ _ _ (by decide)]; exact h1 k (by omega))
    have hcp := m_copyRow (A := 0) (B := 50 + 50 * u) (M := upI N 155 1 (u : Int)) (by omega) (by omega) (by omega) r0
    have e50 : (50 + 50 * (u : Int)) = ((50 + 50 * u : Nat) : Int) := by omega
    rw [← e50] at hcp
    have e72 : upI N 155 1 (u : Int) 155 1 = (u : Int) := upI_same _ _ _ _
    have hfin : ∀ N2 : mM, mrow (50 + 50 * u) f g N2 → (∀ k, (k < 50 + 50 * u ∨ 50 + 50 * u + 50 ≤ k) → N2 156 k = upI N 155 1 (u : Int) 156 k) → (∀ a, a ≠ 156 → N2 a = upI N 155 1 (u : Int) a) → KpQ f g ps M none (upI (upI N2 155 1 ((u : Int) + 1)) 155 21 0) := by
      intro N2 w1 w2 w3
      have hk : ∀ k, upI (upI N2 155 1 ((u : Int) + 1)) 155 21 0 156 k = N2 156 k := fun k => by rw [upI_ne _ _ _ _ (by decide), upI_ne _ _ _ _ (by decide)]
      refine ⟨rfl, ?_, upI_same _ _ _ _, fun k hk2 => ?_, fun a a1 a2 => ?_, fun k k1 k2 => ?_⟩
      · rw [hqs]
        refine ⟨?_, ?_, fun j q hq => ?_⟩
        · rw [List.length_cons, hql]; exact (if_neg (by omega)).trans (upI_same _ _ _ _)
        · rw [List.length_cons, hql]; omega
        · rw [List.length_cons, hql]
          cases j with
          | zero =>
            have hq : (f, g) = q := by simpa using hq
            subst hq
            rw [show u + 1 - 1 - 0 = u by omega]
            exact mrow_fr w1 (fun k _ _ => hk k)
          | succ j =>
            have hq : qs[j]? = some q := by simpa using hq
            have hjl := (List.getElem?_eq_some_iff.mp hq).1
            rw [show u + 1 - 1 - (j + 1) = u - 1 - j by omega]
            exact mrow_fr (hb j q hq) (fun k q1 q2 => by rw [hk k, w2 k (by omega), upI_ne _ _ _ _ (by decide)])
      · rw [hk k, w2 k (by omega), upI_ne _ _ _ _ (by decide)]; exact h1 k hk2
      · rw [upI_ne _ _ _ _ a1, upI_ne _ _ _ _ a1, w3 a a2, upI_ne _ _ _ _ a1]; exact h2 a a2
      · rw [show upI (upI N2 155 1 ((u : Int) + 1)) 155 21 0 155 k = N2 155 k from (if_neg (by omega)).trans (if_neg (by omega)), w3 155 (by decide), show upI N 155 1 (u : Int) 155 k = N 155 k from if_neg (by omega), h2 155 (by decide)]
    rcases hu with ⟨hu1, hu2⟩ | ⟨hu1, hu2⟩
    · have e61 : (u : Int) - 0 = (u : Int) := by omega
      refine w_aload rfl rfl (w_dup rfl rfl (w_getIV rfl (by first | rfl | assumption) (by first | exact Or.inl rfl | exact Or.inr rfl) (hu1) (w_aload rfl rfl (w_getIV rfl (by first | rfl | assumption) (by first | exact Or.inl rfl | exact Or.inr rfl) (hu1) (w_iconst rfl ?_)))))
      refine w_icmp_ne (tgt := 60) rfl (by first | assumption | exact i32_0 | (unfold i32 at *; omega)) (by first | assumption | exact i32_0 | (unfold i32 at *; omega)) rfl (fun c53 => ?_) (fun c53 => ?_)
      · skip
        refine w_iconst rfl (w_isub rfl ?_)
        rw [e61]
        refine w_putI rfl (by first | rfl | assumption) rfl (w_aload rfl rfl (w_iconst rfl (w_iconst rfl (w_iconst rfl (w_aload rfl rfl (w_getIV rfl (by first | rfl | assumption) (by first | exact Or.inl rfl | exact Or.inr rfl) (e72) (w_imul rfl ?_)))))))
        refine w_iadd rfl ?_
        refine w_callQ (Or.inr rfl) (hcp) (by omega) nof_176 rfl rfl rfl rfl (by first | rfl | (show cKB[_]? = _; assumption)) (fun r77 M77 hq77 => ?_)
        obtain ⟨rfl, w1, w2, w3⟩ := hq77
        have e82 : M77 155 1 = (u : Int) := by rw [w3 155 (by decide)]; exact e72
        refine w_aload rfl rfl (w_dup rfl rfl (w_getIV rfl (by first | rfl | assumption) (by first | exact Or.inl rfl | exact Or.inr rfl) (e82) (w_iconst rfl (w_iadd rfl (w_putI rfl (by first | rfl | assumption) rfl (w_aload rfl rfl (w_iconst rfl ?_)))))))
        refine w_putZ rfl (by first | rfl | assumption) rfl (by first | exact Or.inl rfl | exact Or.inr rfl | omega | assumption) ?_
        exact w_return rfl ⟨rfl, by exact (hfin _ w1 w2 w3).2⟩
      · skip
        exfalso; omega
    · have e61 : (8 : Int) - 1 = (u : Int) := by omega
      refine w_aload rfl rfl (w_dup rfl rfl (w_getIV rfl (by first | rfl | assumption) (by first | exact Or.inl rfl | exact Or.inr rfl) (hu1) (w_aload rfl rfl (w_getIV rfl (by first | rfl | assumption) (by first | exact Or.inl rfl | exact Or.inr rfl) (hu1) (w_iconst rfl ?_)))))
      refine w_icmp_ne (tgt := 60) rfl (by first | assumption | exact i32_0 | (unfold i32 at *; omega)) (by first | assumption | exact i32_0 | (unfold i32 at *; omega)) rfl (fun c53 => ?_) (fun c53 => ?_)
      · skip
        exfalso; omega
      · skip
        refine w_iconst rfl (w_goto (tgt := 61) rfl rfl (w_isub rfl ?_))
        rw [e61]
        refine w_putI rfl (by first | rfl | assumption) rfl (w_aload rfl rfl (w_iconst rfl (w_iconst rfl (w_iconst rfl (w_aload rfl rfl (w_getIV rfl (by first | rfl | assumption) (by first | exact Or.inl rfl | exact Or.inr rfl) (e72) (w_imul rfl ?_)))))))
        refine w_iadd rfl ?_
        refine w_callQ (Or.inr rfl) (hcp) (by omega) nof_176 rfl rfl rfl rfl (by first | rfl | (show cKB[_]? = _; assumption)) (fun r77 M77 hq77 => ?_)
        obtain ⟨rfl, w1, w2, w3⟩ := hq77
        have e82 : M77 155 1 = (u : Int) := by rw [w3 155 (by decide)]; exact e72
        refine w_aload rfl rfl (w_dup rfl rfl (w_getIV rfl (by first | rfl | assumption) (by first | exact Or.inl rfl | exact Or.inr rfl) (e82) (w_iconst rfl (w_iadd rfl (w_putI rfl (by first | rfl | assumption) rfl (w_aload rfl rfl (w_iconst rfl ?_)))))))
        refine w_putZ rfl (by first | rfl | assumption) rfl (by first | exact Or.inl rfl | exact Or.inr rfl | omega | assumption) ?_
        exact w_return rfl ⟨rfl, by exact (hfin _ w1 w2 w3).2⟩
  by_cases q8 : ps.length = 8
  · have p1 : M 155 1 = 8 := by rw [p1, q8]; rfl
    have loop : ∀ (z n : Nat) (N : mM), 350 - n = z → n ≤ 350 → (∀ k, k < n → N 156 (50 + k) = M 156 (100 + k)) → (∀ k, (k < 50 ∨ 50 + n ≤ k) → N 156 k = M 156 k) → (∀ a, a ≠ 156 → N a = M a) → Wp mc_175 D 2 [vR 155, vI n] [] N (KpQ f g ps M) := by
      intro z
      induction z with
      | zero =>
        intro n N hz hn h1 h2 h3
        obtain rfl : n = 350 := by omega
        have g1 : N 155 1 = 8 := by rw [h3 155 (by decide)]; exact p1
        have hgo := tail 7 (ps.take 7) N (vI (350 : Nat)) (Or.inr ⟨g1, rfl⟩) rfl (by rw [List.length_take]; omega) (fun j q hq => by
          rw [List.getElem?_take] at hq
          split at hq
          · next hj =>
            have := p3 j q hq
            rw [q8] at this
            exact mrow_sh this (fun k hk => by rw [show 50 + 50 * (7 - 1 - j) + k = 50 + (50 * (7 - 1 - j) + k) by omega, h1 _ (by omega)]; congr 1; omega)
          · cases hq) (fun k hk => h2 k (by omega)) h3
        refine w_iload rfl rfl (w_iconst rfl ?_)
        refine w_icmp_ge (tgt := 42) rfl (by first | assumption | exact i32_0 | (unfold i32 at *; omega)) (by first | assumption | exact i32_0 | (unfold i32 at *; omega)) rfl (fun c6 => ?_) (fun c6 => ?_)
        · skip
          exact hgo
        · skip
          exfalso; omega
      | succ z ih =>
        intro n N hz hn h1 h2 h3
        have g1 : N 155 1 = 8 := by rw [h3 155 (by decide)]; exact p1
        have hx : N 156 ((100 + (n : Int)).toNat) = M 156 (100 + n) := by rw [show (100 + (n : Int)).toNat = 100 + n by omega]; exact h2 _ (by omega)
        have e1 : (50 + (n : Int)).toNat = 50 + n := by omega
        have ihn := ih (n + 1) (upI N 156 (50 + n) (M 156 (100 + n))) (by omega) (by omega) (fun k hk => by
          unfold upI
          by_cases q : k = n
          · rw [if_pos ⟨rfl, by omega⟩, q]
          · rw [if_neg (by omega)]; exact h1 k (by omega)) (fun k hk => (if_neg (by omega)).trans (h2 k (by omega))) (fun a ha => by rw [upI_ne _ _ _ _ ha]; exact h3 a ha)
        refine w_iload rfl rfl (w_iconst rfl ?_)
        refine w_icmp_ge (tgt := 42) rfl (by first | assumption | exact i32_0 | (unfold i32 at *; omega)) (by first | assumption | exact i32_0 | (unfold i32 at *; omega)) rfl (fun c6 => ?_) (fun c6 => ?_)
        · skip
          exfalso; omega
        · skip
          refine w_aload rfl rfl (w_getIV rfl (by first | rfl | assumption) (by first | exact Or.inl rfl | exact Or.inr rfl) (g1) (w_iconst rfl ?_))
          refine w_icmp_ne (tgt := 42) rfl (by first | assumption | exact i32_0 | (unfold i32 at *; omega)) (by first | assumption | exact i32_0 | (unfold i32 at *; omega)) rfl (fun c15 => ?_) (fun c15 => ?_)
          · skip
            exfalso; omega
          · skip
            refine w_aload rfl rfl (w_getR rfl (by first | rfl | assumption) rfl (by first | rfl | assumption) (w_iconst rfl (w_iload rfl rfl (w_iadd rfl (w_aload rfl rfl (w_getR rfl (by first | rfl | assumption) rfl (by first | rfl | assumption) (w_iconst rfl ?_)))))))
            refine w_iload rfl rfl (w_iadd rfl (w_ialoadV rfl (by first | rfl | assumption) (by omega) (by omega) (hx) (w_iastore rfl (by first | rfl | assumption) (by omega) (by omega) (w_iinc (ls2 := [_, _]) rfl rfl rfl (w_goto (tgt := 2) rfl rfl ?_)))))
            rw [e1]
            exact ihn
    have hgo := loop 350 0 M rfl (by decide) (fun k hk => absurd hk (Nat.not_lt_zero k)) (fun _ _ => rfl) (fun _ _ => rfl)
    refine w_iconst rfl (w_istore (ls2 := [_, _]) rfl rfl rfl ?_)
    exact hgo
  · have hgo := tail ps.length ps M (vI 0) (Or.inl ⟨p1, by omega⟩) (List.take_of_length_le (by rw [List.length_cons]; omega)) rfl p3 (fun _ _ => rfl) (fun _ _ => rfl)
    refine w_iconst rfl (w_istore (ls2 := [_, _]) rfl rfl rfl (w_iload rfl rfl (w_iconst rfl ?_)))
    refine w_icmp_ge (tgt := 42) rfl (by first | assumption | exact i32_0 | (unfold i32 at *; omega)) (by first | assumption | exact i32_0 | (unfold i32 at *; omega)) rfl (fun c6 => ?_) (fun c6 => ?_)
    · skip
      first | exact hgo | (exfalso; omega)
    · skip
      refine w_aload rfl rfl (w_getIV rfl (by first | rfl | assumption) (by first | exact Or.inl rfl | exact Or.inr rfl) (p1) (w_iconst rfl ?_))
      refine w_icmp_ne (tgt := 42) rfl (by first | assumption | exact i32_0 | (unfold i32 at *; omega)) (by first | assumption | exact i32_0 | (unfold i32 at *; omega)) rfl (fun c15 => ?_) (fun c15 => ?_)
      · skip
        first | exact hgo | (exfalso; omega)
      · skip
        exfalso; omega
/-- the past kept: what the model holds then (its own rows still as they were) -/
theorem m_kept {s : Sta} {M : mM} (c : MI s M) : EQ 2 175 [vR 155] M (fun r N => r = none ∧ MI (remS s) N ∧ N 155 21 = 0 ∧ (∀ k, k < 50 → N 156 k = M 156 k) ∧ (∀ a, a ≠ 155 → a ≠ 156 → N a = M a) ∧ (∀ k, k ≠ 1 → k ≠ 21 → N 155 k = M 155 k)) := by
  refine (m_keepPast c.2.1.1 c.2.2.1.1).imp fun r N w => ?_
  obtain ⟨w1, w2, w3, w4, w5, w6⟩ := w
  have hps : PasOK (((s.2.1, s.2.2.1) :: s.2.2.2.1).take 8) := by
    intro q hq
    rcases List.mem_cons.mp (List.mem_of_mem_take hq) with z | z
    · rw [z]; exact c.2.1.2
    · exact c.2.2.1.2 q z
  exact ⟨w1, ⟨mTx_fr c.1 (w6 4 (by decide) (by decide)) (fun k => by rw [w5 158 (by decide) (by decide)]), ⟨mrow_fr c.2.1.1 (fun k q1 q2 => w4 k (by omega)), c.2.1.2⟩, ⟨w2, hps⟩, moSl_fr c.2.2.2.1 (fun k => by rw [w5 157 (by decide) (by decide)]) (fun k q1 q2 => w4 k (by omega)), mKn_0 w3⟩, w3, fun k hk => w4 k (Or.inl hk), w5, w6⟩
/-- a curve's row changed, after which nothing is known -/
theorem MI_row {s : Sta} {a : Nat} {h : Cv} {N N2 : mM} (ha : a < 2) (c : MI s N) (hh : Cok 999 h) (hr : mcur (25 * a) h N2) (k0 : N 155 21 = 0) (e1 : ∀ k, (k < 25 * a ∨ 25 * a + 25 ≤ k) → N2 156 k = N 156 k) (e2 : ∀ b, b ≠ 156 → b ≠ 175 → N2 b = N b) : MI (setS a h s) N2 := by
  have ha2 : a = 0 ∨ a = 1 := by omega
  have k2 : N2 155 21 = 0 := by rw [e2 155 (by decide) (by decide)]; exact k0
  rcases ha2 with rfl | rfl
  · exact ⟨mTx_fr c.1 (by rw [e2 155 (by decide) (by decide)]) (fun k => by rw [e2 158 (by decide) (by decide)]), ⟨⟨hr, mcur_fr c.2.1.1.2 (fun k q1 q2 => e1 k (by omega))⟩, hh, c.2.1.2.2⟩, ⟨mPa_fr c.2.2.1.1 (by rw [e2 155 (by decide) (by decide)]) (fun k q1 q2 => e1 k (by omega)), c.2.2.1.2⟩, moSl_fr c.2.2.2.1 (fun k => by rw [e2 157 (by decide) (by decide)]) (fun k q1 q2 => e1 k (by omega)), mKn_0 k2⟩
  · exact ⟨mTx_fr c.1 (by rw [e2 155 (by decide) (by decide)]) (fun k => by rw [e2 158 (by decide) (by decide)]), ⟨⟨mcur_fr c.2.1.1.1 (fun k q1 q2 => e1 k (by omega)), hr⟩, c.2.1.2.1, hh⟩, ⟨mPa_fr c.2.2.1.1 (by rw [e2 155 (by decide) (by decide)]) (fun k q1 q2 => e1 k (by omega)), c.2.2.1.2⟩, moSl_fr c.2.2.2.1 (fun k => by rw [e2 157 (by decide) (by decide)]) (fun k q1 q2 => e1 k (by omega)), mKn_0 k2⟩
theorem mcur_up {B p : Nat} {f : Cv} {M : mM} (o : Option Int) (h : mcur B f M) : mcur B (upF f p o) (upI M 156 (B + p) (o.getD 5000)) := by
  intro k hk
  unfold upI mv upF
  by_cases q : k = p
  · rw [if_pos ⟨rfl, by omega⟩, if_pos q]
  · rw [if_neg (by omega), if_neg q]; exact h k hk
theorem mo_put {s : Sta} {M : mM} {a i j v : Int} (c : MI s M) (ha : i32 a) (hi : i32 i) (hj : i32 j) (hv : i32 v) : EQ 12 173 [vR 155, vI a, vI i, vI j, vI v] M (MoQ M (dPut a i j v s).1 (dPut a i j v s).2) := by
  refine q_in (ls := [vR 155, vI a, vI i, vI j, vI v]) mq_173 (ml_173 rfl) rfl fun D hD => ?_
  unfold dPut
  by_cases q : isCu a = true
  · rw [if_pos q]
    have q := isCu_iff.mp q
    obtain ⟨a, rfl⟩ : ∃ z : Nat, a = (z : Int) := ⟨a.toNat, by omega⟩
    have ha2 : a < 2 := by omega
    by_cases qp : putOK i j v = true
    · rw [if_pos qp]
      obtain ⟨qp, qv⟩ := of_decide_eq_true qp
      obtain ⟨e1, e2, e3⟩ := plN_ok qp
      have hre := m_kept c
      have hf := Cok_sel (a := (a : Int)) c.2.1.2.1 c.2.1.2.2
      have hh := Cok_up hf e2 e3 qv
      have hix : (25 * (a : Int) + 5 * i + j).toNat = 25 * a + plN i j := by omega
      have hgo : ∀ N : mM, MI (remS s) N → N 155 21 = 0 → (∀ k, k < 50 → N 156 k = M 156 k) → (∀ a, a ≠ 155 → a ≠ 156 → N a = M a) → MI (setS a (upF (selF a s.2.1 s.2.2.1) (plN i j) (some v)) (remS s)) (upI N 156 (25 * a + plN i j) v) ∧ mFr M (upI N 156 (25 * a + plN i j) v) ∧ mcur (25 * a) (upF (selF a s.2.1 s.2.2.1) (plN i j) (some v)) (upI N 156 (25 * a + plN i j) v) := by
        intro N cN k0 w1 w2
        have hr : mcur (25 * a) (upF (selF a s.2.1 s.2.2.1) (plN i j) (some v)) (upI N 156 (25 * a + plN i j) v) := mcur_up (some v) (mcur_sel ha2 cN.2.1.1)
        exact ⟨MI_row ha2 cN hh hr k0 (fun k hk => if_neg (by omega)) (fun b hb _ => upI_ne _ _ _ _ hb), fun b hb => by rw [upI_ne _ _ _ _ (by omega)]; exact w2 b (by omega) (by omega), hr⟩
      have hpq : 0 ≤ i ∧ 0 ≤ j ∧ i ≤ 4 ∧ j ≤ 4 - i := qp
      refine w_iload rfl rfl ?_
      refine w_call (Or.inl rfl) (m_isCurve1 M q) (by omega) nof_165 rfl rfl rfl rfl trivial rfl ?_
      refine w_if_ne (tgt := 10) rfl (by first | assumption | exact i32_0 | (unfold i32 at *; omega)) rfl (fun _ => ?_) (fun c => absurd c (by decide))
      refine w_iload rfl rfl (w_iload rfl rfl ?_)
      refine w_call (Or.inl rfl) (m_isPlace1 M qp) (by omega) nof_166 rfl rfl rfl rfl trivial rfl ?_
      refine w_if_eq (tgt := 26) rfl (by first | assumption | exact i32_0 | (unfold i32 at *; omega)) rfl (fun c => absurd c (by decide)) (fun _ => ?_)
      refine w_iload rfl rfl ?_
      refine w_call (Or.inl rfl) (m_isTerm1 M qv) (by omega) nof_174 rfl rfl rfl rfl trivial rfl ?_
      refine w_if_ne (tgt := 29) rfl (by first | assumption | exact i32_0 | (unfold i32 at *; omega)) rfl (fun _ => ?_) (fun c => absurd c (by decide))
      refine w_aload rfl rfl ?_
      refine w_callQ (Or.inr rfl) (hre) (by omega) nof_175 rfl rfl rfl rfl (by first | rfl | (show cKB[_]? = _; assumption)) (fun r30 M30 hq30 => ?_)
      obtain ⟨rfl, w1, w2, w3, w4, w5⟩ := hq30
      have hfin := hgo M30 w1 w2 w3 w4
      refine w_aload rfl rfl (w_getR rfl (by first | rfl | assumption) rfl (by first | rfl | assumption) (w_iconst rfl (w_iload rfl rfl (w_imul rfl (w_iconst rfl (w_iload rfl rfl (w_imul rfl ?_)))))))
      refine w_iadd rfl (w_iload rfl rfl (w_iadd rfl (w_iload rfl rfl (w_iastore rfl (by first | rfl | assumption) (by omega) (by omega) ?_))))
      rw [hix]
      refine w_aload rfl rfl (w_iload rfl rfl ?_)
      refine w_call (Or.inr rfl) ((m_terms ha2 hfin.2.2 hh)) (by omega) nof_169 rfl rfl rfl rfl (by first | rfl | (show cKB[_]? = _; assumption)) rfl ?_
      exact w_ireturn rfl ⟨by first | rfl | (congr 2; omega), by exact ⟨hfin.1, hfin.2.1⟩⟩
    · rw [if_neg qp]
      have qp := of_decide_eq_false (Bool.eq_false_iff.mpr qp)
      by_cases v1 : isPl i j
      · have v2 : ¬ (-999 ≤ v ∧ v ≤ 999) := fun z => qp ⟨v1, z⟩
        refine w_iload rfl rfl ?_
        refine w_call (Or.inl rfl) (m_isCurve1 M q) (by omega) nof_165 rfl rfl rfl rfl trivial rfl ?_
        refine w_if_ne (tgt := 10) rfl (by first | assumption | exact i32_0 | (unfold i32 at *; omega)) rfl (fun _ => ?_) (fun c => absurd c (by decide))
        refine w_iload rfl rfl (w_iload rfl rfl ?_)
        refine w_call (Or.inl rfl) (m_isPlace1 M v1) (by omega) nof_166 rfl rfl rfl rfl trivial rfl ?_
        refine w_if_eq (tgt := 26) rfl (by first | assumption | exact i32_0 | (unfold i32 at *; omega)) rfl (fun c => absurd c (by decide)) (fun _ => ?_)
        refine w_iload rfl rfl ?_
        refine w_call (Or.inl rfl) (m_isTerm0 M hv v2) (by omega) nof_174 rfl rfl rfl rfl trivial rfl ?_
        refine w_if_ne (tgt := 29) rfl (by first | assumption | exact i32_0 | (unfold i32 at *; omega)) rfl (fun c => absurd c (by decide)) (fun _ => ?_)
        refine w_iconst rfl ?_
        exact w_ireturn rfl ⟨by first | rfl | (congr 2; omega), by exact MI_same c⟩
      · skip
        refine w_iload rfl rfl ?_
        refine w_call (Or.inl rfl) (m_isCurve1 M q) (by omega) nof_165 rfl rfl rfl rfl trivial rfl ?_
        refine w_if_ne (tgt := 10) rfl (by first | assumption | exact i32_0 | (unfold i32 at *; omega)) rfl (fun _ => ?_) (fun c => absurd c (by decide))
        refine w_iload rfl rfl (w_iload rfl rfl ?_)
        refine w_call (Or.inl rfl) (m_isPlace0 M hi hj v1) (by omega) nof_166 rfl rfl rfl rfl trivial rfl ?_
        refine w_if_eq (tgt := 26) rfl (by first | assumption | exact i32_0 | (unfold i32 at *; omega)) rfl (fun _ => ?_) (fun c => absurd c (by decide))
        refine w_iconst rfl ?_
        exact w_ireturn rfl ⟨by first | rfl | (congr 2; omega), by exact MI_same c⟩
  · rw [if_neg q]
    have q : ¬ (a = 0 ∨ a = 1) := fun z => q (isCu_iff.mpr z)
    refine w_iload rfl rfl ?_
    refine w_call (Or.inl rfl) (m_isCurve0 M ha q) (by omega) nof_165 rfl rfl rfl rfl trivial rfl ?_
    refine w_if_ne (tgt := 10) rfl (by first | assumption | exact i32_0 | (unfold i32 at *; omega)) rfl (fun c => absurd c (by decide)) (fun _ => ?_)
    refine w_iconst rfl ?_
    exact w_ireturn rfl ⟨by first | rfl | (congr 2; omega), by exact MI_same c⟩
theorem mo_drop {s : Sta} {M : mM} {a i j : Int} (c : MI s M) (ha : i32 a) (hi : i32 i) (hj : i32 j) : EQ 12 177 [vR 155, vI a, vI i, vI j] M (MoQ M (dDrop a i j s).1 (dDrop a i j s).2) := by
  refine q_in (ls := [vR 155, vI a, vI i, vI j]) mq_177 (ml_177 rfl) rfl fun D hD => ?_
  unfold dDrop
  by_cases q : isCu a = true
  · rw [if_pos q]
    have q := isCu_iff.mp q
    obtain ⟨a, rfl⟩ : ∃ z : Nat, a = (z : Int) := ⟨a.toNat, by omega⟩
    have ha2 : a < 2 := by omega
    by_cases qp : isPlB i j = true
    · rw [if_pos qp]
      have qp := isPlB_iff.mp qp
      obtain ⟨e1, e2, e3⟩ := plN_ok qp
      have hre := m_kept c
      have hf := Cok_sel (a := (a : Int)) c.2.1.2.1 c.2.1.2.2
      have hh := Cok_dn (p := plN i j) hf
      have hc := mcur_sel ha2 c.2.1.1
      have hix : (25 * (a : Int) + 5 * i + j).toNat = 25 * a + plN i j := by omega
      have hgo : ∀ N : mM, MI (remS s) N → N 155 21 = 0 → (∀ k, k < 50 → N 156 k = M 156 k) → (∀ a, a ≠ 155 → a ≠ 156 → N a = M a) → MI (setS a (upF (selF a s.2.1 s.2.2.1) (plN i j) none) (remS s)) (upI N 156 (25 * a + plN i j) 5000) ∧ mFr M (upI N 156 (25 * a + plN i j) 5000) ∧ mcur (25 * a) (upF (selF a s.2.1 s.2.2.1) (plN i j) none) (upI N 156 (25 * a + plN i j) 5000) := by
        intro N cN k0 w1 w2
        have hr : mcur (25 * a) (upF (selF a s.2.1 s.2.2.1) (plN i j) none) (upI N 156 (25 * a + plN i j) 5000) := mcur_up none (mcur_sel ha2 cN.2.1.1)
        exact ⟨MI_row ha2 cN hh hr k0 (fun k hk => if_neg (by omega)) (fun b hb _ => upI_ne _ _ _ _ hb), fun b hb => by rw [upI_ne _ _ _ _ (by omega)]; exact w2 b (by omega) (by omega), hr⟩
      have hpq : 0 ≤ i ∧ 0 ≤ j ∧ i ≤ 4 ∧ j ≤ 4 - i := qp
      cases e : hasF (selF a s.2.1 s.2.2.1) (plN i j) with
      | true =>
        rw [if_pos rfl]
        refine w_iload rfl rfl ?_
        refine w_call (Or.inl rfl) (m_isCurve1 M q) (by omega) nof_165 rfl rfl rfl rfl trivial rfl ?_
        refine w_if_ne (tgt := 10) rfl (by first | assumption | exact i32_0 | (unfold i32 at *; omega)) rfl (fun _ => ?_) (fun c => absurd c (by decide))
        refine w_iload rfl rfl (w_iload rfl rfl ?_)
        refine w_call (Or.inl rfl) (m_isPlace1 M qp) (by omega) nof_166 rfl rfl rfl rfl trivial rfl ?_
        refine w_if_ne (tgt := 21) rfl (by first | assumption | exact i32_0 | (unfold i32 at *; omega)) rfl (fun _ => ?_) (fun c => absurd c (by decide))
        refine w_aload rfl rfl (w_iload rfl rfl (w_iconst rfl (w_iload rfl rfl (w_imul rfl (w_iload rfl rfl (w_iadd rfl ?_))))))
        rw [e1]
        refine w_call (Or.inr rfl) (m_has1 ha2 hc hf (by omega) e) (by omega) nof_167 rfl rfl rfl rfl (by first | rfl | (show cKB[_]? = _; assumption)) rfl ?_
        refine w_if_ne (tgt := 37) rfl (by first | assumption | exact i32_0 | (unfold i32 at *; omega)) rfl (fun _ => ?_) (fun c => absurd c (by decide))
        refine w_aload rfl rfl ?_
        refine w_callQ (Or.inr rfl) (hre) (by omega) nof_175 rfl rfl rfl rfl (by first | rfl | (show cKB[_]? = _; assumption)) (fun r38 M38 hq38 => ?_)
        obtain ⟨rfl, w1, w2, w3, w4, w5⟩ := hq38
        have hfin := hgo M38 w1 w2 w3 w4
        refine w_aload rfl rfl (w_getR rfl (by first | rfl | assumption) rfl (by first | rfl | assumption) (w_iconst rfl (w_iload rfl rfl (w_imul rfl (w_iconst rfl (w_iload rfl rfl (w_imul rfl ?_)))))))
        refine w_iadd rfl (w_iload rfl rfl (w_iadd rfl (w_iconst rfl (w_iastore rfl (by first | rfl | assumption) (by omega) (by omega) ?_))))
        rw [hix]
        refine w_aload rfl rfl (w_iload rfl rfl ?_)
        refine w_call (Or.inr rfl) ((m_terms ha2 hfin.2.2 hh)) (by omega) nof_169 rfl rfl rfl rfl (by first | rfl | (show cKB[_]? = _; assumption)) rfl ?_
        exact w_ireturn rfl ⟨by first | rfl | (congr 2; omega), by exact ⟨hfin.1, hfin.2.1⟩⟩
      | false =>
        rw [if_neg (by decide)]
        refine w_iload rfl rfl ?_
        refine w_call (Or.inl rfl) (m_isCurve1 M q) (by omega) nof_165 rfl rfl rfl rfl trivial rfl ?_
        refine w_if_ne (tgt := 10) rfl (by first | assumption | exact i32_0 | (unfold i32 at *; omega)) rfl (fun _ => ?_) (fun c => absurd c (by decide))
        refine w_iload rfl rfl (w_iload rfl rfl ?_)
        refine w_call (Or.inl rfl) (m_isPlace1 M qp) (by omega) nof_166 rfl rfl rfl rfl trivial rfl ?_
        refine w_if_ne (tgt := 21) rfl (by first | assumption | exact i32_0 | (unfold i32 at *; omega)) rfl (fun _ => ?_) (fun c => absurd c (by decide))
        refine w_aload rfl rfl (w_iload rfl rfl (w_iconst rfl (w_iload rfl rfl (w_imul rfl (w_iload rfl rfl (w_iadd rfl ?_))))))
        rw [e1]
        refine w_call (Or.inr rfl) (m_has0 ha2 hc hf (by omega) e) (by omega) nof_167 rfl rfl rfl rfl (by first | rfl | (show cKB[_]? = _; assumption)) rfl ?_
        refine w_if_ne (tgt := 37) rfl (by first | assumption | exact i32_0 | (unfold i32 at *; omega)) rfl (fun c => absurd c (by decide)) (fun _ => ?_)
        refine w_iconst rfl ?_
        exact w_ireturn rfl ⟨by first | rfl | (congr 2; omega), by exact MI_same c⟩
    · rw [if_neg qp]
      have qp : ¬ isPl i j := fun z => qp (isPlB_iff.mpr z)
      refine w_iload rfl rfl ?_
      refine w_call (Or.inl rfl) (m_isCurve1 M q) (by omega) nof_165 rfl rfl rfl rfl trivial rfl ?_
      refine w_if_ne (tgt := 10) rfl (by first | assumption | exact i32_0 | (unfold i32 at *; omega)) rfl (fun _ => ?_) (fun c => absurd c (by decide))
      refine w_iload rfl rfl (w_iload rfl rfl ?_)
      refine w_call (Or.inl rfl) (m_isPlace0 M hi hj qp) (by omega) nof_166 rfl rfl rfl rfl trivial rfl ?_
      refine w_if_ne (tgt := 21) rfl (by first | assumption | exact i32_0 | (unfold i32 at *; omega)) rfl (fun c => absurd c (by decide)) (fun _ => ?_)
      refine w_iconst rfl ?_
      exact w_ireturn rfl ⟨by first | rfl | (congr 2; omega), by exact MI_same c⟩
  · rw [if_neg q]
    have q : ¬ (a = 0 ∨ a = 1) := fun z => q (isCu_iff.mpr z)
    refine w_iload rfl rfl ?_
    refine w_call (Or.inl rfl) (m_isCurve0 M ha q) (by omega) nof_165 rfl rfl rfl rfl trivial rfl ?_
    refine w_if_ne (tgt := 10) rfl (by first | assumption | exact i32_0 | (unfold i32 at *; omega)) rfl (fun c => absurd c (by decide)) (fun _ => ?_)
    refine w_iconst rfl ?_
    exact w_ireturn rfl ⟨by first | rfl | (congr 2; omega), by exact MI_same c⟩
