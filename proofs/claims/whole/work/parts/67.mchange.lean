/-! ===== the model's changing calls ===== -/
def thenR (h : Cv) (M : mM) : Prop := ∀ p, p < 25 → M 175 p = mv h p
theorem m_becomes {s : Sta} {a : Nat} {h : Cv} {M : mM} (ha : a < 2) (c : MI s M) (ht : thenR h M) (hh : Cok 999 h) : EQ 3 180 [vR 155, vI a] M (MoQ M (cntF h) (setS a h (remS s))) := by
  refine q_in (ls := [vR 155, vI a, vN]) mq_180 (ml_180 rfl) rfl fun D hD => ?_
  have hre := m_kept c
  have loop : ∀ (N0 : mM), MI (remS s) N0 → N0 155 21 = 0 → (∀ b, b ≠ 155 → b ≠ 156 → N0 b = M b) → ∀ (z n : Nat) (N : mM), 25 - n = z → n ≤ 25 → (∀ p, p < n → N 156 (25 * a + p) = mv h p) → (∀ k, (k < 25 * a ∨ 25 * a + 25 ≤ k) → N 156 k = N0 156 k) → (∀ b, b ≠ 156 → N b = N0 b) → Wp mc_180 D 6 [vR 155, vI a, vI n] [] N (MoQ M (cntF h) (setS a h (remS s))) := by
    intro N0 c0 k0 w0 z
    induction z with
    | zero =>
      intro n N hz hn h1 h2 h3
      obtain rfl : n = 25 := by omega
      have hr : mcur (25 * a) h N := h1
      have hfin := MI_row ha c0 hh hr k0 h2 (fun b hb _ => h3 b hb)
      have hfr : mFr M N := fun b hb => by rw [h3 b (by omega)]; exact w0 b (by omega) (by omega)
      refine w_iload rfl rfl (w_iconst rfl ?_)
      refine w_icmp_ge (tgt := 35) rfl (by first | assumption | exact i32_0 | (unfold i32 at *; omega)) (by first | assumption | exact i32_0 | (unfold i32 at *; omega)) rfl (fun c9 => ?_) (fun c9 => ?_)
      · skip
        refine w_aload rfl rfl (w_iload rfl rfl ?_)
        refine w_call (Or.inr rfl) ((m_terms ha hr hh)) (by omega) nof_169 rfl rfl rfl rfl (by first | rfl | (show cKB[_]? = _; assumption)) rfl ?_
        exact w_ireturn rfl ⟨by first | rfl | (congr 2; omega), by exact ⟨hfin, hfr⟩⟩
      · skip
        exfalso; omega
    | succ z ih =>
      intro n N hz hn h1 h2 h3
      have hx : N 175 n = mv h n := by rw [h3 175 (by decide), w0 175 (by decide) (by decide)]; exact ht n (by omega)
      have e1 : (25 * (a : Int) + (n : Int)).toNat = 25 * a + n := by omega
      have ihn := ih (n + 1) (upI N 156 (25 * a + n) (mv h n)) (by omega) (by omega) (fun k hk => by
        unfold upI
        by_cases q : k = n
        · rw [if_pos ⟨rfl, by omega⟩, q]
        · rw [if_neg (by omega)]; exact h1 k (by omega)) (fun k hk => (if_neg (by omega)).trans (h2 k hk)) (fun b hb => by rw [upI_ne _ _ _ _ hb]; exact h3 b hb)
      refine w_iload rfl rfl (w_iconst rfl ?_)
      refine w_icmp_ge (tgt := 35) rfl (by first | assumption | exact i32_0 | (unfold i32 at *; omega)) (by first | assumption | exact i32_0 | (unfold i32 at *; omega)) rfl (fun c9 => ?_) (fun c9 => ?_)
      · skip
        exfalso; omega
      · skip
        refine w_aload rfl rfl (w_getR rfl (by first | rfl | assumption) rfl (by first | rfl | assumption) (w_iconst rfl (w_iload rfl rfl (w_imul rfl (w_iload rfl rfl (w_iadd rfl (w_aload rfl rfl ?_)))))))
        refine w_getR rfl (by first | rfl | assumption) rfl (by first | rfl | assumption) (w_iload rfl rfl (w_ialoadV rfl (by first | rfl | assumption) (by omega) (by omega) (hx) (w_iastore rfl (by first | rfl | assumption) (by omega) (by omega) (w_iinc (ls2 := [_, _, _]) rfl rfl rfl (w_goto (tgt := 6) rfl rfl ?_)))))
        rw [e1]
        exact ihn
  refine w_aload rfl rfl ?_
  refine w_callQ (Or.inr rfl) (hre) (by omega) nof_175 rfl rfl rfl rfl (by first | rfl | (show cKB[_]? = _; assumption)) (fun r1 M1 hq1 => ?_)
  obtain ⟨rfl, w1, w2, w3, w4, w5⟩ := hq1
  have hgo := loop M1 w1 w2 w4 25 0 M1 rfl (by decide) (fun k hk => absurd hk (Nat.not_lt_zero k)) (fun _ _ => rfl) (fun _ _ => rfl)
  refine w_iconst rfl (w_istore (ls2 := [_, _, _]) rfl rfl rfl ?_)
  exact hgo
theorem MI_175 {s : Sta} {M N : mM} (c : MI s M) (h : ∀ b, b ≠ 175 → N b = M b) : MI s N ∧ mFr M N := ⟨MI_fr c (fun k _ => by rw [h 155 (by decide)]) (fun b hb => h b (by omega)), fun b hb => h b (by omega)⟩
theorem mir_eq : ∀ p, p < 25 → (mir p = p ↔ p / 5 = p % 5) := by decide +kernel
theorem mv_mir {f : Cv} {p : Nat} (hp : p < 25) : mv (mirF f) p = mv f (mir p) := by unfold mv mirF; rw [if_pos hp]
theorem mo_mirror {s : Sta} {M : mM} {a : Int} (c : MI s M) (ha : i32 a) : EQ 12 179 [vR 155, vI a] M (MoQ M (dMirror a s).1 (dMirror a s).2) := by
  refine q_in (ls := [vR 155, vI a, vN, vN]) mq_179 (ml_179 rfl) rfl fun D hD => ?_
  unfold dMirror
  by_cases q : isCu a = true
  · rw [if_pos q]
    have q := isCu_iff.mp q
    obtain ⟨a, rfl⟩ : ∃ z : Nat, a = (z : Int) := ⟨a.toNat, by omega⟩
    have ha2 : a < 2 := by omega
    have hc := mcur_sel ha2 c.2.1.1
    have hf := Cok_sel (a := (a : Int)) c.2.1.2.1 c.2.1.2.2
    have hh := Cok_mir hf
    generalize hsel : selF (a : Int) s.2.1 s.2.2.1 = f at *
    have hm25 : mirC f 21 = fb_ct (fun p => hasF f p && !decide (mir p = p)) 25 := (fb_ct25 fun k hk => by rw [hasF_hi hf hk]; rfl).symm
    rw [hm25]
    have loop : ∀ (z n : Nat) (N : mM), 25 - n = z → n ≤ 25 → (∀ p, p < n → N 175 p = mv (mirF f) p) → (∀ b, b ≠ 175 → N b = M b) → Wp mc_179 D 14 [vR 155, vI a, vI (fb_ct (fun p => hasF f p && !decide (mir p = p)) n : Nat), vI n] [] N (MoQ M (fb_ct (fun p => hasF f p && !decide (mir p = p)) 25 : Nat) (setS a (mirF f) (remS s))) := by
      intro z
      induction z with
      | zero =>
        intro n N hz hn h1 h2
        obtain rfl : n = 25 := by omega
        obtain ⟨cN, fN⟩ := MI_175 c h2
        have hbe := m_becomes ha2 cN h1 hh
        refine w_iload rfl rfl (w_iconst rfl ?_)
        refine w_icmp_ge (tgt := 77) rfl (by first | assumption | exact i32_0 | (unfold i32 at *; omega)) (by first | assumption | exact i32_0 | (unfold i32 at *; omega)) rfl (fun c17 => ?_) (fun c17 => ?_)
        · skip
          refine w_aload rfl rfl (w_iload rfl rfl ?_)
          refine w_callQ (Or.inr rfl) (hbe) (by omega) nof_180 rfl rfl rfl rfl (by first | rfl | (show cKB[_]? = _; assumption)) (fun r79 M79 hq79 => ?_)
          obtain ⟨rfl, w1, w2⟩ := hq79
          refine w_pop rfl rfl (w_iload rfl rfl ?_)
          exact w_ireturn rfl ⟨by first | rfl | (congr 2; omega), by exact ⟨w1, mFr_tr fN w2⟩⟩
        · skip
          exfalso; omega
      | succ z ih =>
        intro n N hz hn h1 h2
        obtain ⟨cN, fN⟩ := MI_175 c h2
        have hcN : mcur (25 * a) f N := mcur_fr hc (fun k _ _ => by rw [h2 156 (by decide)])
        have hmm := (mir_mir n (by omega)).2
        have hme : mir n = n % 5 * 5 + n / 5 := rfl
        have hx : N 156 ((25 * (a : Int) + (n : Int).tmod 5 * 5 + (n : Int).tdiv 5).toNat) = mv (mirF f) n := by
          rw [show (n : Int).tmod 5 = ((n % 5 : Nat) : Int) from rfl, show (n : Int).tdiv 5 = ((n / 5 : Nat) : Int) from rfl, show (25 * (a : Int) + ((n % 5 : Nat) : Int) * 5 + ((n / 5 : Nat) : Int)).toNat = 25 * a + mir n by omega, hcN _ hmm, mv_mir (by omega)]
        have t5 : (n : Int).tmod 5 = ((n % 5 : Nat) : Int) := rfl
        have d5 : (n : Int).tdiv 5 = ((n / 5 : Nat) : Int) := rfl
        have ihn := ih (n + 1) (upI N 175 n (mv (mirF f) n)) (by omega) (by omega) (fun k hk => by
          unfold upI
          by_cases q : k = n
          · rw [if_pos ⟨rfl, q⟩, q]
          · rw [if_neg (by omega)]; exact h1 k (by omega)) (fun b hb => by rw [upI_ne _ _ _ _ hb]; exact h2 b hb)
        rw [fb_ct_succ] at ihn
        have hcl := fb_ct_le (fun p => hasF f p && !decide (mir p = p)) n
        have hms := mir_eq n (by omega)
        have hcN2 : mcur (25 * a) f (upI N 175 n (mv (mirF f) n)) := mcur_fr hcN (fun k _ _ => by rw [upI_ne _ _ _ _ (by decide)])
        generalize fb_ct (fun p => hasF f p && !decide (mir p = p)) n = ct at *
        cases e : hasF f n with
        | false =>
          rw [e] at ihn
          refine w_iload rfl rfl (w_iconst rfl ?_)
          refine w_icmp_ge (tgt := 77) rfl (by first | assumption | exact i32_0 | (unfold i32 at *; omega)) (by first | assumption | exact i32_0 | (unfold i32 at *; omega)) rfl (fun c17 => ?_) (fun c17 => ?_)
          · skip
            exfalso; omega
          · skip
            refine w_aload rfl rfl (w_getR rfl (by first | rfl | assumption) rfl (by first | rfl | assumption) (w_iload rfl rfl (w_aload rfl rfl (w_getR rfl (by first | rfl | assumption) rfl (by first | rfl | assumption) (w_iconst rfl (w_iload rfl rfl (w_imul rfl ?_)))))))
            refine w_iload rfl rfl (w_iconst rfl (w_irem rfl (by first | assumption | exact i32_0 | (unfold i32 at *; omega)) (by first | assumption | exact i32_0 | (unfold i32 at *; omega)) (by first | decide | omega | assumption) (w_iconst rfl (w_imul rfl (w_iadd rfl (w_iload rfl rfl (w_iconst rfl ?_)))))))
            refine w_idiv rfl (by first | assumption | exact i32_0 | (unfold i32 at *; omega)) (by first | assumption | exact i32_0 | (unfold i32 at *; omega)) (by first | decide | omega | assumption) (w_iadd rfl (w_ialoadV rfl (by first | rfl | assumption) (by omega) (by omega) (hx) (w_iastore rfl (by first | rfl | assumption) (by omega) (by omega) (w_iload rfl rfl (w_aload rfl rfl (w_iload rfl rfl (w_iload rfl rfl ?_)))))))
            refine w_call (Or.inr rfl) (m_has0 ha2 hcN2 hf (by omega) e) (by omega) nof_167 rfl rfl rfl rfl (by first | rfl | (show cKB[_]? = _; assumption)) rfl ?_
            refine w_if_eq (tgt := 68) rfl (by first | assumption | exact i32_0 | (unfold i32 at *; omega)) rfl (fun _ => ?_) (fun c => absurd c (by decide))
            refine w_iconst rfl (w_iadd rfl (w_istore (ls2 := [_, _, _, _]) rfl rfl rfl (w_iinc (ls2 := [_, _, _, _]) rfl rfl rfl (w_goto (tgt := 14) rfl rfl ?_))))
            exact ihn
        | true =>
          rw [e] at ihn
          by_cases qm : mir n = n
          · rw [decide_eq_true qm] at ihn
            have qd := hms.mp qm
            refine w_iload rfl rfl (w_iconst rfl ?_)
            refine w_icmp_ge (tgt := 77) rfl (by first | assumption | exact i32_0 | (unfold i32 at *; omega)) (by first | assumption | exact i32_0 | (unfold i32 at *; omega)) rfl (fun c17 => ?_) (fun c17 => ?_)
            · skip
              exfalso; omega
            · skip
              refine w_aload rfl rfl (w_getR rfl (by first | rfl | assumption) rfl (by first | rfl | assumption) (w_iload rfl rfl (w_aload rfl rfl (w_getR rfl (by first | rfl | assumption) rfl (by first | rfl | assumption) (w_iconst rfl (w_iload rfl rfl (w_imul rfl ?_)))))))
              refine w_iload rfl rfl (w_iconst rfl (w_irem rfl (by first | assumption | exact i32_0 | (unfold i32 at *; omega)) (by first | assumption | exact i32_0 | (unfold i32 at *; omega)) (by first | decide | omega | assumption) (w_iconst rfl (w_imul rfl (w_iadd rfl (w_iload rfl rfl (w_iconst rfl ?_)))))))
              refine w_idiv rfl (by first | assumption | exact i32_0 | (unfold i32 at *; omega)) (by first | assumption | exact i32_0 | (unfold i32 at *; omega)) (by first | decide | omega | assumption) (w_iadd rfl (w_ialoadV rfl (by first | rfl | assumption) (by omega) (by omega) (hx) (w_iastore rfl (by first | rfl | assumption) (by omega) (by omega) (w_iload rfl rfl (w_aload rfl rfl (w_iload rfl rfl (w_iload rfl rfl ?_)))))))
              refine w_call (Or.inr rfl) (m_has1 ha2 hcN2 hf (by omega) e) (by omega) nof_167 rfl rfl rfl rfl (by first | rfl | (show cKB[_]? = _; assumption)) rfl ?_
              refine w_if_eq (tgt := 68) rfl (by first | assumption | exact i32_0 | (unfold i32 at *; omega)) rfl (fun c => absurd c (by decide)) (fun _ => ?_)
              refine w_iload rfl rfl (w_iconst rfl (w_idiv rfl (by first | assumption | exact i32_0 | (unfold i32 at *; omega)) (by first | assumption | exact i32_0 | (unfold i32 at *; omega)) (by first | decide | omega | assumption) (w_iload rfl rfl (w_iconst rfl (w_irem rfl (by first | assumption | exact i32_0 | (unfold i32 at *; omega)) (by first | assumption | exact i32_0 | (unfold i32 at *; omega)) (by first | decide | omega | assumption) ?_)))))
              rw [t5, d5]
              refine w_icmp_eq (tgt := 68) rfl (by first | assumption | exact i32_0 | (unfold i32 at *; omega)) (by first | assumption | exact i32_0 | (unfold i32 at *; omega)) rfl (fun c61 => ?_) (fun c61 => ?_)
              · skip
                refine w_iconst rfl (w_iadd rfl (w_istore (ls2 := [_, _, _, _]) rfl rfl rfl (w_iinc (ls2 := [_, _, _, _]) rfl rfl rfl (w_goto (tgt := 14) rfl rfl ?_))))
                exact ihn
              · skip
                exfalso; omega
          · rw [decide_eq_false qm] at ihn
            have qd : ¬ n / 5 = n % 5 := fun z => qm (hms.mpr z)
            refine w_iload rfl rfl (w_iconst rfl ?_)
            refine w_icmp_ge (tgt := 77) rfl (by first | assumption | exact i32_0 | (unfold i32 at *; omega)) (by first | assumption | exact i32_0 | (unfold i32 at *; omega)) rfl (fun c17 => ?_) (fun c17 => ?_)
            · skip
              exfalso; omega
            · skip
              refine w_aload rfl rfl (w_getR rfl (by first | rfl | assumption) rfl (by first | rfl | assumption) (w_iload rfl rfl (w_aload rfl rfl (w_getR rfl (by first | rfl | assumption) rfl (by first | rfl | assumption) (w_iconst rfl (w_iload rfl rfl (w_imul rfl ?_)))))))
              refine w_iload rfl rfl (w_iconst rfl (w_irem rfl (by first | assumption | exact i32_0 | (unfold i32 at *; omega)) (by first | assumption | exact i32_0 | (unfold i32 at *; omega)) (by first | decide | omega | assumption) (w_iconst rfl (w_imul rfl (w_iadd rfl (w_iload rfl rfl (w_iconst rfl ?_)))))))
              refine w_idiv rfl (by first | assumption | exact i32_0 | (unfold i32 at *; omega)) (by first | assumption | exact i32_0 | (unfold i32 at *; omega)) (by first | decide | omega | assumption) (w_iadd rfl (w_ialoadV rfl (by first | rfl | assumption) (by omega) (by omega) (hx) (w_iastore rfl (by first | rfl | assumption) (by omega) (by omega) (w_iload rfl rfl (w_aload rfl rfl (w_iload rfl rfl (w_iload rfl rfl ?_)))))))
              refine w_call (Or.inr rfl) (m_has1 ha2 hcN2 hf (by omega) e) (by omega) nof_167 rfl rfl rfl rfl (by first | rfl | (show cKB[_]? = _; assumption)) rfl ?_
              refine w_if_eq (tgt := 68) rfl (by first | assumption | exact i32_0 | (unfold i32 at *; omega)) rfl (fun c => absurd c (by decide)) (fun _ => ?_)
              refine w_iload rfl rfl (w_iconst rfl (w_idiv rfl (by first | assumption | exact i32_0 | (unfold i32 at *; omega)) (by first | assumption | exact i32_0 | (unfold i32 at *; omega)) (by first | decide | omega | assumption) (w_iload rfl rfl (w_iconst rfl (w_irem rfl (by first | assumption | exact i32_0 | (unfold i32 at *; omega)) (by first | assumption | exact i32_0 | (unfold i32 at *; omega)) (by first | decide | omega | assumption) ?_)))))
              rw [t5, d5]
              refine w_icmp_eq (tgt := 68) rfl (by first | assumption | exact i32_0 | (unfold i32 at *; omega)) (by first | assumption | exact i32_0 | (unfold i32 at *; omega)) rfl (fun c61 => ?_) (fun c61 => ?_)
              · skip
                exfalso; omega
              · skip
                refine w_iconst rfl (w_goto (tgt := 69) rfl rfl (w_iadd rfl (w_istore (ls2 := [_, _, _, _]) rfl rfl rfl (w_iinc (ls2 := [_, _, _, _]) rfl rfl rfl (w_goto (tgt := 14) rfl rfl ?_)))))
                exact ihn
    have hgo := loop 25 0 M rfl (by decide) (fun k hk => absurd hk (Nat.not_lt_zero k)) (fun _ _ => rfl)
    refine w_iload rfl rfl ?_
    refine w_call (Or.inl rfl) (m_isCurve1 M q) (by omega) nof_165 rfl rfl rfl rfl trivial rfl ?_
    refine w_if_ne (tgt := 10) rfl (by first | assumption | exact i32_0 | (unfold i32 at *; omega)) rfl (fun _ => ?_) (fun c => absurd c (by decide))
    refine w_iconst rfl (w_istore (ls2 := [_, _, _, _]) rfl rfl rfl (w_iconst rfl (w_istore (ls2 := [_, _, _, _]) rfl rfl rfl ?_)))
    exact hgo
  · rw [if_neg q]
    have q : ¬ (a = 0 ∨ a = 1) := fun z => q (isCu_iff.mpr z)
    refine w_iload rfl rfl ?_
    refine w_call (Or.inl rfl) (m_isCurve0 M ha q) (by omega) nof_165 rfl rfl rfl rfl trivial rfl ?_
    refine w_if_ne (tgt := 10) rfl (by first | assumption | exact i32_0 | (unfold i32 at *; omega)) rfl (fun c => absurd c (by decide)) (fun _ => ?_)
    refine w_iconst rfl ?_
    exact w_ireturn rfl ⟨by first | rfl | (congr 2; omega), by exact MI_same c⟩
theorem mv_join {f g : Cv} (hf : Cok 999 f) (hg : Cok 999 g) (p : Nat) : mv (joinF f g) p = if mv f p < mv g p then mv f p else mv g p := by
  unfold mv joinF
  cases ef : f p with
  | none =>
    cases eg : g p with
    | none => rfl
    | some b =>
      have := (hg p b eg).2.2.2
      show b = if (5000 : Int) < b then 5000 else b
      rw [if_neg (by omega)]
  | some a =>
    have := (hf p a ef).2.2.2
    cases eg : g p with
    | none =>
      show a = if a < (5000 : Int) then a else 5000
      rw [if_pos (by omega)]
    | some b =>
      show min a b = if a < b then a else b
      split <;> omega
theorem mo_join {s : Sta} {M : mM} {a : Int} (c : MI s M) (ha : i32 a) : EQ 12 181 [vR 155, vI a] M (MoQ M (dJoin a s).1 (dJoin a s).2) := by
  refine q_in (ls := [vR 155, vI a, vN]) mq_181 (ml_181 rfl) rfl fun D hD => ?_
  unfold dJoin
  by_cases q : isCu a = true
  · rw [if_pos q]
    have q := isCu_iff.mp q
    obtain ⟨a, rfl⟩ : ∃ z : Nat, a = (z : Int) := ⟨a.toNat, by omega⟩
    have ha2 : a < 2 := by omega
    have hf := c.2.1.2.1
    have hg := c.2.1.2.2
    have hh := Cok_join hf hg
    have loop : ∀ (z n : Nat) (N : mM), 25 - n = z → n ≤ 25 → (∀ p, p < n → N 175 p = mv (joinF s.2.1 s.2.2.1) p) → (∀ b, b ≠ 175 → N b = M b) → Wp mc_181 D 12 [vR 155, vI a, vI n] [] N (MoQ M (cntF (joinF s.2.1 s.2.2.1) : Nat) (setS a (joinF s.2.1 s.2.2.1) (remS s))) := by
      intro z
      induction z with
      | zero =>
        intro n N hz hn h1 h2
        obtain rfl : n = 25 := by omega
        obtain ⟨cN, fN⟩ := MI_175 c h2
        have hbe := m_becomes ha2 cN h1 hh
        refine w_iload rfl rfl (w_iconst rfl ?_)
        refine w_icmp_ge (tgt := 66) rfl (by first | assumption | exact i32_0 | (unfold i32 at *; omega)) (by first | assumption | exact i32_0 | (unfold i32 at *; omega)) rfl (fun c15 => ?_) (fun c15 => ?_)
        · skip
          refine w_aload rfl rfl (w_iload rfl rfl ?_)
          refine w_callQ (Or.inr rfl) (hbe) (by omega) nof_180 rfl rfl rfl rfl (by first | rfl | (show cKB[_]? = _; assumption)) (fun r68 M68 hq68 => ?_)
          obtain ⟨rfl, w1, w2⟩ := hq68
          exact w_ireturn rfl ⟨by first | rfl | (congr 2; omega), by exact ⟨w1, mFr_tr fN w2⟩⟩
        · skip
          exfalso; omega
      | succ z ih =>
        intro n N hz hn h1 h2
        have hx : N 156 n = mv s.2.1 n := by rw [h2 156 (by decide)]; have := c.2.1.1.1 n (by omega); rw [Nat.zero_add] at this; exact this
        have hy : N 156 ((25 + (n : Int)).toNat) = mv s.2.2.1 n := by rw [h2 156 (by decide), show (25 + (n : Int)).toNat = 0 + 25 + n by omega]; exact c.2.1.1.2 n (by omega)
        have ihn := ih (n + 1) (upI N 175 n (mv (joinF s.2.1 s.2.2.1) n)) (by omega) (by omega) (fun k hk => by
          unfold upI
          by_cases q : k = n
          · rw [if_pos ⟨rfl, q⟩, q]
          · rw [if_neg (by omega)]; exact h1 k (by omega)) (fun b hb => by rw [upI_ne _ _ _ _ hb]; exact h2 b hb)
        rw [mv_join hf hg] at ihn
        have b1 := mv_le hf n
        have b2 := mv_le hg n
        generalize mv s.2.1 n = u at *
        generalize mv s.2.2.1 n = v at *
        by_cases huv : u < v
        · rw [if_pos huv] at ihn
          refine w_iload rfl rfl (w_iconst rfl ?_)
          refine w_icmp_ge (tgt := 66) rfl (by first | assumption | exact i32_0 | (unfold i32 at *; omega)) (by first | assumption | exact i32_0 | (unfold i32 at *; omega)) rfl (fun c15 => ?_) (fun c15 => ?_)
          · skip
            exfalso; omega
          · skip
            refine w_aload rfl rfl (w_getR rfl (by first | rfl | assumption) rfl (by first | rfl | assumption) (w_iload rfl rfl (w_aload rfl rfl (w_getR rfl (by first | rfl | assumption) rfl (by first | rfl | assumption) (w_iload rfl rfl (w_ialoadV rfl (by first | rfl | assumption) (by omega) (by omega) (hx) (w_aload rfl rfl ?_)))))))
            refine w_getR rfl (by first | rfl | assumption) rfl (by first | rfl | assumption) (w_iconst rfl (w_iload rfl rfl (w_iadd rfl (w_ialoadV rfl (by first | rfl | assumption) (by omega) (by omega) (hy) ?_))))
            refine w_icmp_ge (tgt := 50) rfl (by first | assumption | exact i32_0 | (unfold i32 at *; omega)) (by first | assumption | exact i32_0 | (unfold i32 at *; omega)) rfl (fun c38 => ?_) (fun c38 => ?_)
            · skip
              exfalso; omega
            · skip
              refine w_aload rfl rfl (w_getR rfl (by first | rfl | assumption) rfl (by first | rfl | assumption) (w_iload rfl rfl (w_ialoadV rfl (by first | rfl | assumption) (by omega) (by omega) (hx) (w_goto (tgt := 59) rfl rfl (w_iastore rfl (by first | rfl | assumption) (by omega) (by omega) (w_iinc (ls2 := [_, _, _]) rfl rfl rfl (w_goto (tgt := 12) rfl rfl ?_)))))))
              exact ihn
        · rw [if_neg huv] at ihn
          refine w_iload rfl rfl (w_iconst rfl ?_)
          refine w_icmp_ge (tgt := 66) rfl (by first | assumption | exact i32_0 | (unfold i32 at *; omega)) (by first | assumption | exact i32_0 | (unfold i32 at *; omega)) rfl (fun c15 => ?_) (fun c15 => ?_)
          · skip
            exfalso; omega
          · skip
            refine w_aload rfl rfl (w_getR rfl (by first | rfl | assumption) rfl (by first | rfl | assumption) (w_iload rfl rfl (w_aload rfl rfl (w_getR rfl (by first | rfl | assumption) rfl (by first | rfl | assumption) (w_iload rfl rfl (w_ialoadV rfl (by first | rfl | assumption) (by omega) (by omega) (hx) (w_aload rfl rfl ?_)))))))
            refine w_getR rfl (by first | rfl | assumption) rfl (by first | rfl | assumption) (w_iconst rfl (w_iload rfl rfl (w_iadd rfl (w_ialoadV rfl (by first | rfl | assumption) (by omega) (by omega) (hy) ?_))))
            refine w_icmp_ge (tgt := 50) rfl (by first | assumption | exact i32_0 | (unfold i32 at *; omega)) (by first | assumption | exact i32_0 | (unfold i32 at *; omega)) rfl (fun c38 => ?_) (fun c38 => ?_)
            · skip
              refine w_aload rfl rfl (w_getR rfl (by first | rfl | assumption) rfl (by first | rfl | assumption) (w_iconst rfl (w_iload rfl rfl (w_iadd rfl (w_ialoadV rfl (by first | rfl | assumption) (by omega) (by omega) (hy) (w_iastore rfl (by first | rfl | assumption) (by omega) (by omega) (w_iinc (ls2 := [_, _, _]) rfl rfl rfl ?_)))))))
              refine w_goto (tgt := 12) rfl rfl ?_
              exact ihn
            · skip
              exfalso; omega
    have hgo := loop 25 0 M rfl (by decide) (fun k hk => absurd hk (Nat.not_lt_zero k)) (fun _ _ => rfl)
    refine w_iload rfl rfl ?_
    refine w_call (Or.inl rfl) (m_isCurve1 M q) (by omega) nof_165 rfl rfl rfl rfl trivial rfl ?_
    refine w_if_ne (tgt := 10) rfl (by first | assumption | exact i32_0 | (unfold i32 at *; omega)) rfl (fun _ => ?_) (fun c => absurd c (by decide))
    refine w_iconst rfl (w_istore (ls2 := [_, _, _]) rfl rfl rfl ?_)
    exact hgo
  · rw [if_neg q]
    have q : ¬ (a = 0 ∨ a = 1) := fun z => q (isCu_iff.mpr z)
    refine w_iload rfl rfl ?_
    refine w_call (Or.inl rfl) (m_isCurve0 M ha q) (by omega) nof_165 rfl rfl rfl rfl trivial rfl ?_
    refine w_if_ne (tgt := 10) rfl (by first | assumption | exact i32_0 | (unfold i32 at *; omega)) rfl (fun c => absurd c (by decide)) (fun _ => ?_)
    refine w_iconst rfl ?_
    exact w_ireturn rfl ⟨by first | rfl | (congr 2; omega), by exact MI_same c⟩
theorem mo_undo {s : Sta} {M : mM} (c : MI s M) : EQ 12 183 [vR 155] M (MoQ M (dUndo s).1 (dUndo s).2) := by
  refine q_in (ls := [vR 155]) mq_183 (ml_183 rfl) rfl fun D hD => ?_
  obtain ⟨⟨h1, h2, h3⟩, hps⟩ := c.2.2.1
  unfold dUndo
  cases e : s.2.2.2.1 with
  | nil =>
    rw [e] at h1
    have h1 : M 155 1 = 0 := h1
    refine w_aload rfl rfl (w_getIV rfl (by first | rfl | assumption) (by first | exact Or.inl rfl | exact Or.inr rfl) (h1) ?_)
    refine w_if_ne (tgt := 10) rfl (by first | assumption | exact i32_0 | (unfold i32 at *; omega)) rfl (fun c => absurd c (by decide)) (fun _ => ?_)
    refine w_iconst rfl ?_
    exact w_ireturn rfl ⟨by first | rfl | (congr 2; omega), by exact MI_same c⟩
  | cons p ps =>
    rw [e] at h1 h2 h3 hps
    have h1 : M 155 1 = (ps.length : Int) + 1 := h1
    have hl : ps.length + 1 ≤ 8 := h2
    have hp := hps p List.mem_cons_self
    have hr := h3 0 p rfl
    rw [List.length_cons, show ps.length + 1 - 1 - 0 = ps.length by omega] at hr
    have e1 : (ps.length : Int) + 1 - 1 = (ps.length : Int) := by omega
    have e2 : (50 + 50 * (ps.length : Int)) = ((50 + 50 * ps.length : Nat) : Int) := by omega
    have hcp := m_copyRow (A := 50 + 50 * ps.length) (B := 0) (M := upI M 155 1 (ps.length : Int)) (by omega) (by decide) (by omega) (mrow_fr hr (fun k _ _ => by rw [upI_ne _ _ _ _ (by decide)]))
    rw [← e2] at hcp
    have e26 : upI M 155 1 (ps.length : Int) 155 1 = (ps.length : Int) := upI_same _ _ _ _
    have hfin : ∀ N : mM, mrow 0 p.1 p.2 N → (∀ k, (k < 0 ∨ 0 + 50 ≤ k) → N 156 k = upI M 155 1 (ps.length : Int) 156 k) → (∀ a, a ≠ 156 → N a = upI M 155 1 (ps.length : Int) a) → (MI (s.1, p.1, p.2, ps, s.2.2.2.2) (upI N 155 21 0) ∧ mFr M (upI N 155 21 0)) ∧ upI N 155 21 0 155 1 = (ps.length : Int) := by
      intro N w1 w2 w3
      have g1 : upI N 155 21 0 155 1 = (ps.length : Int) := (if_neg (by omega)).trans (by rw [w3 155 (by decide)]; exact e26)
      have gk : ∀ k, 50 ≤ k → upI N 155 21 0 156 k = M 156 k := fun k hk => by rw [upI_ne _ _ _ _ (by decide), w2 k (by omega), upI_ne _ _ _ _ (by decide)]
      have gb : ∀ b, b ≠ 155 → b ≠ 156 → upI N 155 21 0 b = M b := fun b b1 b2 => by rw [upI_ne _ _ _ _ b1, w3 b b2, upI_ne _ _ _ _ b1]
      have g4 : upI N 155 21 0 155 4 = M 155 4 := (if_neg (by omega)).trans (by rw [w3 155 (by decide)]; exact if_neg (by omega))
      refine ⟨⟨⟨mTx_fr c.1 g4 (fun k => by rw [gb 158 (by decide) (by decide)]), ⟨mrow_fr w1 (fun k _ _ => by rw [upI_ne _ _ _ _ (by decide)]), hp⟩, ⟨⟨g1, show ps.length ≤ 8 by omega, fun j q hq => ?_⟩, fun q hq => hps q (List.mem_cons_of_mem _ hq)⟩, moSl_fr c.2.2.2.1 (fun k => by rw [gb 157 (by decide) (by decide)]) (fun k q1 q2 => gk k (by omega)), mKn_0 (upI_same _ _ _ _)⟩, fun b hb => gb b (by omega) (by omega)⟩, g1⟩
      have hjl := (List.getElem?_eq_some_iff.mp (show ps[j]? = some q from hq)).1
      have := h3 (j + 1) q (by simpa using hq)
      rw [List.length_cons, show ps.length + 1 - 1 - (j + 1) = ps.length - 1 - j by omega] at this
      exact mrow_fr this (fun k q1 q2 => gk k (by omega))
    refine w_aload rfl rfl (w_getIV rfl (by first | rfl | assumption) (by first | exact Or.inl rfl | exact Or.inr rfl) (h1) ?_)
    refine w_if_ne (tgt := 10) rfl (by first | assumption | exact i32_0 | (unfold i32 at *; omega)) rfl (fun c4 => ?_) (fun c4 => ?_)
    · skip
      refine w_aload rfl rfl (w_dup rfl rfl (w_getIV rfl (by first | rfl | assumption) (by first | exact Or.inl rfl | exact Or.inr rfl) (h1) (w_iconst rfl (w_isub rfl ?_))))
      rw [e1]
      refine w_putI rfl (by first | rfl | assumption) rfl (w_aload rfl rfl (w_iconst rfl (w_iconst rfl (w_aload rfl rfl (w_getIV rfl (by first | rfl | assumption) (by first | exact Or.inl rfl | exact Or.inr rfl) (e26) (w_imul rfl (w_iadd rfl ?_)))))))
      refine w_iconst rfl ?_
      refine w_callQ (Or.inr rfl) (hcp) (by omega) nof_176 rfl rfl rfl rfl (by first | rfl | (show cKB[_]? = _; assumption)) (fun r32 M32 hq32 => ?_)
      obtain ⟨rfl, w1, w2, w3⟩ := hq32
      have hf := hfin M32 w1 w2 w3
      refine w_aload rfl rfl (w_iconst rfl (w_putZ rfl (by first | rfl | assumption) rfl (by first | exact Or.inl rfl | exact Or.inr rfl | omega | assumption) (w_aload rfl rfl (w_getIV rfl (by first | rfl | assumption) (by first | exact Or.inl rfl | exact Or.inr rfl) (hf.2) ?_))))
      exact w_ireturn rfl ⟨by first | rfl | (congr 2; omega), by exact hf.1⟩
    · exfalso; omega
