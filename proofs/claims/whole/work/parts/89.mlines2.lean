/-! ===== the model's lines placed, the code ===== -/
theorem m_findsLines {a : Nat} {f : Cv} {M : mM} (ha : a < 2) (hc : mcur (25 * a) f M) (hf : Cok 999 f) (h : mE a [] M) (hlen : (lnA f 25).length ≤ 40) : EQ 3 194 [vR 155, vI a] M (fun z N => z = none ∧ mE a (lnA f 25) N ∧ MeF a M N) := by
  have hcN : ∀ N : mM, MeF a M N → mcur (25 * a) f N := fun N h => mcur_fr hc (fun k _ _ => by rw [h.1 156 (by omega)])
  refine q_in (ls := [vR 155, vI a, vN, vN, vN, vN, vN, vN, vN]) mq_194 (ml_194 rfl) rfl fun D hD => ?_
  generalize hPost : (fun (z : Option mV) (N : mM) => z = none ∧ mE a (lnA f 25) N ∧ MeF a M N) = Post
  have put : ∀ (p q : Nat) (g u v : Int) (k : Nat) (N : mM) (w8 : mV), k < 80 → q < 25 → (-4 ≤ u ∧ u ≤ 4) → (-4 ≤ v ∧ v ≤ 4) → (∀ w8, Wp mc_194 D 164 [vR 155, vI a, vI p, vI q, vI g, vI u, vI v, vI k, w8] [] (upI (upI N 170 k (if lFl u v = true then -v else v)) 171 k (if lFl u v = true then u else -u)) Post) → Wp mc_194 D 102 [vR 155, vI a, vI p, vI q, vI g, vI u, vI v, vI k, w8] [] N Post := by
    intro p q g u v k N w8 hk hq hu hv hgo
    have hfl : lFl u v = (decide (v < 0) || (decide (v = 0) && decide (0 < u))) := rfl
    rw [hfl] at hgo
    clear hfl hPost
    by_cases h1 : v < 0
    · rw [decide_eq_true h1, Bool.true_or, if_pos rfl, if_pos rfl] at hgo
      refine w_iload rfl rfl ?_
      refine w_if_lt (tgt := 117) rfl (by first | assumption | exact i32_0 | (unfold i32 at *; omega)) rfl (fun c104 => ?_) (fun c104 => ?_)
      · skip
        refine w_iconst rfl (w_goto (tgt := 122) rfl rfl (w_istore (ls2 := [_, _, _, _, _, _, _, _, _]) rfl rfl rfl (w_aload rfl rfl (w_getR rfl (by first | rfl | assumption) rfl (by first | rfl | assumption) (w_iload rfl rfl (w_iload rfl rfl ?_))))))
        refine w_if_eq (tgt := 141) rfl (by first | assumption | exact i32_0 | (unfold i32 at *; omega)) rfl (fun c => absurd c (by decide)) (fun _ => ?_)
        refine w_iload rfl rfl (w_ineg rfl (w_goto (tgt := 143) rfl rfl (w_iastore rfl (by first | rfl | assumption) (by omega) (by omega) (w_aload rfl rfl (w_getR rfl (by first | rfl | assumption) rfl (by first | rfl | assumption) (w_iload rfl rfl (w_iload rfl rfl ?_)))))))
        refine w_if_eq (tgt := 160) rfl (by first | assumption | exact i32_0 | (unfold i32 at *; omega)) rfl (fun c => absurd c (by decide)) (fun _ => ?_)
        refine w_iload rfl rfl (w_goto (tgt := 163) rfl rfl (w_iastore rfl (by first | rfl | assumption) (by omega) (by omega) ?_))
        exact hgo _
      · exfalso; omega
    · by_cases h2 : v = 0
      · by_cases h3 : 0 < u
        · rw [decide_eq_false h1, decide_eq_true h2, decide_eq_true h3, Bool.true_and, Bool.false_or, if_pos rfl, if_pos rfl] at hgo
          refine w_iload rfl rfl ?_
          refine w_if_lt (tgt := 117) rfl (by first | assumption | exact i32_0 | (unfold i32 at *; omega)) rfl (fun c104 => ?_) (fun c104 => ?_)
          · exfalso; omega
          · skip
            refine w_iload rfl rfl ?_
            refine w_if_ne (tgt := 121) rfl (by first | assumption | exact i32_0 | (unfold i32 at *; omega)) rfl (fun c109 => ?_) (fun c109 => ?_)
            · exfalso; omega
            · skip
              refine w_iload rfl rfl ?_
              refine w_if_le (tgt := 121) rfl (by first | assumption | exact i32_0 | (unfold i32 at *; omega)) rfl (fun c114 => ?_) (fun c114 => ?_)
              · exfalso; omega
              · skip
                refine w_iconst rfl (w_goto (tgt := 122) rfl rfl (w_istore (ls2 := [_, _, _, _, _, _, _, _, _]) rfl rfl rfl (w_aload rfl rfl (w_getR rfl (by first | rfl | assumption) rfl (by first | rfl | assumption) (w_iload rfl rfl (w_iload rfl rfl ?_))))))
                refine w_if_eq (tgt := 141) rfl (by first | assumption | exact i32_0 | (unfold i32 at *; omega)) rfl (fun c => absurd c (by decide)) (fun _ => ?_)
                refine w_iload rfl rfl (w_ineg rfl (w_goto (tgt := 143) rfl rfl (w_iastore rfl (by first | rfl | assumption) (by omega) (by omega) (w_aload rfl rfl (w_getR rfl (by first | rfl | assumption) rfl (by first | rfl | assumption) (w_iload rfl rfl (w_iload rfl rfl ?_)))))))
                refine w_if_eq (tgt := 160) rfl (by first | assumption | exact i32_0 | (unfold i32 at *; omega)) rfl (fun c => absurd c (by decide)) (fun _ => ?_)
                refine w_iload rfl rfl (w_goto (tgt := 163) rfl rfl (w_iastore rfl (by first | rfl | assumption) (by omega) (by omega) ?_))
                exact hgo _
        · rw [decide_eq_false h1, decide_eq_true h2, decide_eq_false h3, Bool.true_and, Bool.false_or, if_neg (by decide), if_neg (by decide)] at hgo
          refine w_iload rfl rfl ?_
          refine w_if_lt (tgt := 117) rfl (by first | assumption | exact i32_0 | (unfold i32 at *; omega)) rfl (fun c104 => ?_) (fun c104 => ?_)
          · exfalso; omega
          · skip
            refine w_iload rfl rfl ?_
            refine w_if_ne (tgt := 121) rfl (by first | assumption | exact i32_0 | (unfold i32 at *; omega)) rfl (fun c109 => ?_) (fun c109 => ?_)
            · exfalso; omega
            · skip
              refine w_iload rfl rfl ?_
              refine w_if_le (tgt := 121) rfl (by first | assumption | exact i32_0 | (unfold i32 at *; omega)) rfl (fun c114 => ?_) (fun c114 => ?_)
              · skip
                refine w_iconst rfl (w_istore (ls2 := [_, _, _, _, _, _, _, _, _]) rfl rfl rfl (w_aload rfl rfl (w_getR rfl (by first | rfl | assumption) rfl (by first | rfl | assumption) (w_iload rfl rfl (w_iload rfl rfl ?_)))))
                refine w_if_eq (tgt := 141) rfl (by first | assumption | exact i32_0 | (unfold i32 at *; omega)) rfl (fun _ => ?_) (fun c => absurd c (by decide))
                refine w_iload rfl rfl (w_iastore rfl (by first | rfl | assumption) (by omega) (by omega) (w_aload rfl rfl (w_getR rfl (by first | rfl | assumption) rfl (by first | rfl | assumption) (w_iload rfl rfl (w_iload rfl rfl ?_)))))
                refine w_if_eq (tgt := 160) rfl (by first | assumption | exact i32_0 | (unfold i32 at *; omega)) rfl (fun _ => ?_) (fun c => absurd c (by decide))
                refine w_iload rfl rfl (w_ineg rfl (w_iastore rfl (by first | rfl | assumption) (by omega) (by omega) ?_))
                exact hgo _
              · exfalso; omega
      · rw [decide_eq_false h1, decide_eq_false h2, Bool.false_and, Bool.false_or, if_neg (by decide), if_neg (by decide)] at hgo
        refine w_iload rfl rfl ?_
        refine w_if_lt (tgt := 117) rfl (by first | assumption | exact i32_0 | (unfold i32 at *; omega)) rfl (fun c104 => ?_) (fun c104 => ?_)
        · exfalso; omega
        · skip
          refine w_iload rfl rfl ?_
          refine w_if_ne (tgt := 121) rfl (by first | assumption | exact i32_0 | (unfold i32 at *; omega)) rfl (fun c109 => ?_) (fun c109 => ?_)
          · skip
            refine w_iconst rfl (w_istore (ls2 := [_, _, _, _, _, _, _, _, _]) rfl rfl rfl (w_aload rfl rfl (w_getR rfl (by first | rfl | assumption) rfl (by first | rfl | assumption) (w_iload rfl rfl (w_iload rfl rfl ?_)))))
            refine w_if_eq (tgt := 141) rfl (by first | assumption | exact i32_0 | (unfold i32 at *; omega)) rfl (fun _ => ?_) (fun c => absurd c (by decide))
            refine w_iload rfl rfl (w_iastore rfl (by first | rfl | assumption) (by omega) (by omega) (w_aload rfl rfl (w_getR rfl (by first | rfl | assumption) rfl (by first | rfl | assumption) (w_iload rfl rfl (w_iload rfl rfl ?_)))))
            refine w_if_eq (tgt := 160) rfl (by first | assumption | exact i32_0 | (unfold i32 at *; omega)) rfl (fun _ => ?_) (fun c => absurd c (by decide))
            refine w_iload rfl rfl (w_ineg rfl (w_iastore rfl (by first | rfl | assumption) (by omega) (by omega) ?_))
            exact hgo _
          · exfalso; omega
  have loopB : ∀ (p : Nat), p < 25 → (∀ (N : mM) (w4 w5 w6 w7 w8 : mV), mE a (lnA f (p + 1)) N → MeF a M N → Wp mc_194 D 170 [vR 155, vI a, vI p, vI (25 : Nat), w4, w5, w6, w7, w8] [] N Post) → ∀ (z n : Nat) (N : mM) (w4 w5 w6 w7 w8 : mV), 25 - n = z → p < n → n ≤ 25 → mE a (lnB f p (lnA f p) n) N → MeF a M N → Wp mc_194 D 12 [vR 155, vI a, vI p, vI n, w4, w5, w6, w7, w8] [] N Post := by
    intro p hp hout z
    induction z with
    | zero =>
      intro n N w4 w5 w6 w7 w8 hz hpn hn hE hF
      obtain rfl : n = 25 := by omega
      have hgo := hout N w4 w5 w6 w7 w8 hE hF
      clear put hPost
      refine w_iload rfl rfl (w_iconst rfl ?_)
      refine w_icmp_ge (tgt := 170) rfl (by first | assumption | exact i32_0 | (unfold i32 at *; omega)) (by first | assumption | exact i32_0 | (unfold i32 at *; omega)) rfl (fun c15 => ?_) (fun c15 => ?_)
      · skip
        exact hgo
      · skip
        exfalso; omega
    | succ z ih =>
      intro n N w4 w5 w6 w7 w8 hz hpn hn hE hF
      have ihn := fun N w4 w5 w6 w7 w8 => ih (n + 1) N w4 w5 w6 w7 w8 (by omega) (by omega) (by omega)
      have hcn := hcN N hF
      have hB : lnB f p (lnA f p) (n + 1) = if p < n ∧ hasF f p = true ∧ hasF f n = true ∧ arL f p n (luA p n) (lvA p n) 25 = true then lnStep p n (lnB f p (lnA f p) n) else lnB f p (lnA f p) n := rfl
      have hl1 := lnB_len f p (lnA f p) (n + 1) 25 (by omega)
      have hA : lnB f p (lnA f p) 25 = lnA f (p + 1) := rfl
      have hl2 := lnA_len f (p + 1) 25 (by omega)
      rw [hA] at hl1
      rw [hB] at ihn hl1
      cases e1 : hasF f p with
      | false =>
        rw [if_neg (fun z => by rw [e1] at z; exact absurd z.2.1 (by decide))] at ihn
        have hgo := ihn N w4 w5 w6 w7 w8 hE hF
        clear put hPost ihn ih hout hB hl1 hl2 hA
        refine w_iload rfl rfl (w_iconst rfl ?_)
        refine w_icmp_ge (tgt := 170) rfl (by first | assumption | exact i32_0 | (unfold i32 at *; omega)) (by first | assumption | exact i32_0 | (unfold i32 at *; omega)) rfl (fun c15 => ?_) (fun c15 => ?_)
        · exfalso; omega
        · skip
          refine w_aload rfl rfl (w_iload rfl rfl (w_iload rfl rfl ?_))
          refine w_call (Or.inr rfl) (m_has0 ha hcn hf (by omega) e1) (by omega) nof_167 rfl rfl rfl rfl (by first | rfl | (show cKB[_]? = _; assumption)) rfl ?_
          refine w_if_eq (tgt := 164) rfl (by first | assumption | exact i32_0 | (unfold i32 at *; omega)) rfl (fun _ => ?_) (fun c => absurd c (by decide))
          refine w_iinc (ls2 := [_, _, _, _, _, _, _, _, _]) rfl rfl rfl (w_goto (tgt := 12) rfl rfl ?_)
          exact hgo
      | true =>
        cases e2 : hasF f n with
        | false =>
          rw [if_neg (fun z => by rw [e2] at z; exact absurd z.2.2.1 (by decide))] at ihn
          have hgo := ihn N w4 w5 w6 w7 w8 hE hF
          clear put hPost ihn ih hout hB hl1 hl2 hA
          refine w_iload rfl rfl (w_iconst rfl ?_)
          refine w_icmp_ge (tgt := 170) rfl (by first | assumption | exact i32_0 | (unfold i32 at *; omega)) (by first | assumption | exact i32_0 | (unfold i32 at *; omega)) rfl (fun c15 => ?_) (fun c15 => ?_)
          · exfalso; omega
          · skip
            refine w_aload rfl rfl (w_iload rfl rfl (w_iload rfl rfl ?_))
            refine w_call (Or.inr rfl) ((m_has1 ha hcn hf (by omega) e1)) (by omega) nof_167 rfl rfl rfl rfl (by first | rfl | (show cKB[_]? = _; assumption)) rfl ?_
            refine w_if_eq (tgt := 164) rfl (by first | assumption | exact i32_0 | (unfold i32 at *; omega)) rfl (fun c => absurd c (by decide)) (fun _ => ?_)
            refine w_aload rfl rfl (w_iload rfl rfl (w_iload rfl rfl ?_))
            refine w_call (Or.inr rfl) ((m_has0 ha hcn hf (by omega) e2)) (by omega) nof_167 rfl rfl rfl rfl (by first | rfl | (show cKB[_]? = _; assumption)) rfl ?_
            refine w_if_eq (tgt := 164) rfl (by first | assumption | exact i32_0 | (unfold i32 at *; omega)) rfl (fun _ => ?_) (fun c => absurd c (by decide))
            refine w_iinc (ls2 := [_, _, _, _, _, _, _, _, _]) rfl rfl rfl (w_goto (tgt := 12) rfl rfl ?_)
            exact hgo
        | true =>
          have b1 := pi_le (p := p) (by omega)
          have b2 := pi_le (p := n) (by omega)
          have b3 := pj_le p
          have b4 := pj_le n
          have t1 : (p : Int).tdiv 5 = pi p := rfl
          have t2 : (p : Int).tmod 5 = pj p := rfl
          have t3 : (n : Int).tdiv 5 = pi n := rfl
          have t4 : (n : Int).tmod 5 = pj n := rfl
          have hdv := m_divisor (pi n - pi p) (pj n - pj p) N (by omega) (by omega)
          have hG : Nat.gcd (pi n - pi p).natAbs (pj n - pj p).natAbs = lnG p n := rfl
          rw [hG] at hdv
          have hg := lg_pos (p := p) (q := n) (by omega) (by omega) (by omega)
          have hu : (pi n - pi p).tdiv (lnG p n : Int) = luA p n := rfl
          have hv : (pj n - pj p).tdiv (lnG p n : Int) = lvA p n := rfl
          have bu : -4 ≤ luA p n ∧ luA p n ≤ 4 := tdivN_le4 (by omega)
          have bv : -4 ≤ lvA p n ∧ lvA p n ≤ 4 := tdivN_le4 (by omega)
          have hal := m_areLine ha hcn hf e1 e2 bu bv (luv_ne (by omega))
          cases e3 : arL f p n (luA p n) (lvA p n) 25 with
          | false =>
            rw [if_neg (fun z => by rw [e3] at z; exact absurd z.2.2.2 (by decide))] at ihn
            have hgo := fun w4 w5 w6 => ihn N w4 w5 w6 w7 w8 hE hF
            rw [e3, if_neg (by decide)] at hal
            clear put hPost ihn ih hout hB hl1 hl2 hA e3 hG
            generalize luA p n = u at *
            generalize lvA p n = v at *
            generalize lnG p n = g at *
            refine w_iload rfl rfl (w_iconst rfl ?_)
            refine w_icmp_ge (tgt := 170) rfl (by first | assumption | exact i32_0 | (unfold i32 at *; omega)) (by first | assumption | exact i32_0 | (unfold i32 at *; omega)) rfl (fun c15 => ?_) (fun c15 => ?_)
            · exfalso; omega
            · skip
              refine w_aload rfl rfl (w_iload rfl rfl (w_iload rfl rfl ?_))
              refine w_call (Or.inr rfl) ((m_has1 ha hcn hf (by omega) e1)) (by omega) nof_167 rfl rfl rfl rfl (by first | rfl | (show cKB[_]? = _; assumption)) rfl ?_
              refine w_if_eq (tgt := 164) rfl (by first | assumption | exact i32_0 | (unfold i32 at *; omega)) rfl (fun c => absurd c (by decide)) (fun _ => ?_)
              refine w_aload rfl rfl (w_iload rfl rfl (w_iload rfl rfl ?_))
              refine w_call (Or.inr rfl) ((m_has1 ha hcn hf (by omega) e2)) (by omega) nof_167 rfl rfl rfl rfl (by first | rfl | (show cKB[_]? = _; assumption)) rfl ?_
              refine w_if_eq (tgt := 164) rfl (by first | assumption | exact i32_0 | (unfold i32 at *; omega)) rfl (fun c => absurd c (by decide)) (fun _ => ?_)
              refine w_iload rfl rfl (w_iconst rfl (w_idiv rfl (by first | assumption | exact i32_0 | (unfold i32 at *; omega)) (by first | assumption | exact i32_0 | (unfold i32 at *; omega)) (by first | decide | omega | assumption) ?_))
              rw [t3]
              refine w_iload rfl rfl (w_iconst rfl (w_idiv rfl (by first | assumption | exact i32_0 | (unfold i32 at *; omega)) (by first | assumption | exact i32_0 | (unfold i32 at *; omega)) (by first | decide | omega | assumption) ?_))
              rw [t1]
              refine w_isub rfl (w_iload rfl rfl (w_iconst rfl (w_irem rfl (by first | assumption | exact i32_0 | (unfold i32 at *; omega)) (by first | assumption | exact i32_0 | (unfold i32 at *; omega)) (by first | decide | omega | assumption) ?_)))
              rw [t4]
              refine w_iload rfl rfl (w_iconst rfl (w_irem rfl (by first | assumption | exact i32_0 | (unfold i32 at *; omega)) (by first | assumption | exact i32_0 | (unfold i32 at *; omega)) (by first | decide | omega | assumption) ?_))
              rw [t2]
              refine w_isub rfl ?_
              refine w_call (Or.inl rfl) ((hdv)) (by omega) nof_195 rfl rfl rfl rfl trivial rfl ?_
              refine w_istore (ls2 := [_, _, _, _, _, _, _, _, _]) rfl rfl rfl (w_iload rfl rfl (w_iconst rfl (w_idiv rfl (by first | assumption | exact i32_0 | (unfold i32 at *; omega)) (by first | assumption | exact i32_0 | (unfold i32 at *; omega)) (by first | decide | omega | assumption) ?_)))
              rw [t3]
              refine w_iload rfl rfl (w_iconst rfl (w_idiv rfl (by first | assumption | exact i32_0 | (unfold i32 at *; omega)) (by first | assumption | exact i32_0 | (unfold i32 at *; omega)) (by first | decide | omega | assumption) ?_))
              rw [t1]
              refine w_isub rfl (w_iload rfl rfl (w_idiv rfl (by first | assumption | exact i32_0 | (unfold i32 at *; omega)) (by first | assumption | exact i32_0 | (unfold i32 at *; omega)) (by first | decide | omega | assumption) ?_))
              rw [hu]
              refine w_istore (ls2 := [_, _, _, _, _, _, _, _, _]) rfl rfl rfl (w_iload rfl rfl (w_iconst rfl (w_irem rfl (by first | assumption | exact i32_0 | (unfold i32 at *; omega)) (by first | assumption | exact i32_0 | (unfold i32 at *; omega)) (by first | decide | omega | assumption) ?_)))
              rw [t4]
              refine w_iload rfl rfl (w_iconst rfl (w_irem rfl (by first | assumption | exact i32_0 | (unfold i32 at *; omega)) (by first | assumption | exact i32_0 | (unfold i32 at *; omega)) (by first | decide | omega | assumption) ?_))
              rw [t2]
              refine w_isub rfl (w_iload rfl rfl (w_idiv rfl (by first | assumption | exact i32_0 | (unfold i32 at *; omega)) (by first | assumption | exact i32_0 | (unfold i32 at *; omega)) (by first | decide | omega | assumption) ?_))
              rw [hv]
              refine w_istore (ls2 := [_, _, _, _, _, _, _, _, _]) rfl rfl rfl (w_aload rfl rfl (w_iload rfl rfl (w_iload rfl rfl (w_iload rfl rfl (w_iload rfl rfl (w_iload rfl rfl ?_))))))
              refine w_call (Or.inr rfl) ((hal)) (by omega) nof_196 rfl rfl rfl rfl (by first | rfl | (show cKB[_]? = _; assumption)) rfl ?_
              refine w_if_eq (tgt := 164) rfl (by first | assumption | exact i32_0 | (unfold i32 at *; omega)) rfl (fun _ => ?_) (fun c => absurd c (by decide))
              refine w_iinc (ls2 := [_, _, _, _, _, _, _, _, _]) rfl rfl rfl (w_goto (tgt := 12) rfl rfl ?_)
              exact hgo _ _ _
          | true =>
            rw [if_pos ⟨hpn, e1, e2, e3⟩] at ihn hl1
            rw [e3, if_pos rfl] at hal
            have hst : lnStep p n (lnB f p (lnA f p) n) = lnPut (lnB f p (lnA f p) n) p n (if lFl (luA p n) (lvA p n) = true then -(lvA p n) else lvA p n) (if lFl (luA p n) (lvA p n) = true then luA p n else -(luA p n)) := rfl
            rw [hst] at ihn hl1
            have bU : -4 ≤ (if lFl (luA p n) (lvA p n) = true then -(lvA p n) else lvA p n) ∧ (if lFl (luA p n) (lvA p n) = true then -(lvA p n) else lvA p n) ≤ 4 := by split <;> omega
            have bV : -4 ≤ (if lFl (luA p n) (lvA p n) = true then luA p n else -(luA p n)) ∧ (if lFl (luA p n) (lvA p n) = true then luA p n else -(luA p n)) ≤ 4 := by split <;> omega
            clear hB hA hst e3 ih hout hG
            generalize lnB f p (lnA f p) n = R at *
            have hroom : R.length < 40 ∨ ∃ e, R[posE p n R]? = some e ∧ e 0 = (p : Int) ∧ e 1 = (n : Int) := by
              by_cases z : ∃ e, R[posE p n R]? = some e ∧ e 0 = (p : Int) ∧ e 1 = (n : Int)
              · exact Or.inr z
              · refine Or.inl ?_
                have hl3 : (lnPut R p n (if lFl (luA p n) (lvA p n) = true then -(lvA p n) else lvA p n) (if lFl (luA p n) (lvA p n) = true then luA p n else -(luA p n))).length = R.length + 1 := by
                  unfold lnPut
                  split
                  · next e4 he4 => rw [if_neg (fun w => z ⟨e4, he4, w⟩), insE_len]
                  · rw [insE_len]
                omega
            have hpe := m_placesEdge ha (p := p) (q := n) (by omega) (by omega) hE hroom
            have hpos := posE_le (p : Int) (n : Int) R
            have hk80 : 40 * a + posE p n R < 80 := by
              have hb := hE.2.1
              rcases hroom with z | ⟨e, z, _⟩
              · omega
              · have := (List.getElem?_eq_some_iff.mp z).1
                omega
            sorry
  sorry
