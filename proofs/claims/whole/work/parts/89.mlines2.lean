/-! ===== the model's lines placed, the code ===== -/
theorem m_findsLines {a : Nat} {f : Cv} {M : mM} (ha : a < 2) (hc : mcur (25 * a) f M) (hf : Cok 999 f) (h : mE a [] M) (hlen : (lnA f 25).length ≤ 40) : EQ 3 194 [vR 155, vI a] M (fun z N => z = none ∧ mE a (lnA f 25) N ∧ MeF a M N) := by
  have hcN : ∀ N : mM, MeF a M N → mcur (25 * a) f N := fun N h => mcur_fr hc (fun k _ _ => by rw [h.1 156 (by omega)])
  refine q_in (ls := [vR 155, vI a, vN, vN, vN, vN, vN, vN, vN]) mq_194 (ml_194 rfl) rfl fun D hD => ?_
  generalize hPost : (fun (z : Option mV) (N : mM) => z = none ∧ mE a (lnA f 25) N ∧ MeF a M N) = Post
  have put : ∀ (p q : Nat) (g u v : Int) (k : Nat) (N : mM) (w8 : mV), k < 80 → q < 25 → (-4 ≤ u ∧ u ≤ 4) → (-4 ≤ v ∧ v ≤ 4) → (∀ w8, Wp mc_194 D 164 [vR 155, vI a, vI p, vI q, vI g, vI u, vI v, vI k, w8] [] (upI (upI N 170 k (if lFl u v = true then -v else v)) 171 k (if lFl u v = true then u else -u)) Post) → Wp mc_194 D 102 [vR 155, vI a, vI p, vI q, vI g, vI u, vI v, vI k, w8] [] N Post := by
    intro p q g u v k N w8 hk hq hu hv hgo
    have hfl : lFl u v = (decide (v < 0) || (decide (v = 0) && decide (0 < u))) := rfl
    rw [hfl] at hgo
    clear hfl hPost
    by_cases h1 : v < 0
    · rw [decide_eq_true h1, Bool.true_or, if_pos rfl, if_pos rfl] at hgo
      refine w_iload rfl rfl ?_
      refine w_if_lt (tgt := 117) rfl (by first | assumption | exact i32_0 | (unfold i32 at *; omega)) rfl (fun c104 => ?_) (fun c104 => ?_)
      · skip
        refine w_iconst rfl (w_goto (tgt := 122) rfl rfl (w_istore (ls2 := [_, _, _, _, _, _, _, _, _]) rfl rfl rfl (w_aload rfl rfl (w_getR rfl (by first | rfl | assumption) rfl (by first | rfl | assumption) (w_iload rfl rfl (w_iload rfl rfl ?_))))))
        refine w_if_eq (tgt := 141) rfl (by first | assumption | exact i32_0 | (unfold i32 at *; omega)) rfl (fun c => absurd c (by decide)) (fun _ => ?_)
        refine w_iload rfl rfl (w_ineg rfl (w_goto (tgt := 143) rfl rfl (w_iastore rfl (by first | rfl | assumption) (by omega) (by omega) (w_aload rfl rfl (w_getR rfl (by first | rfl | assumption) rfl (by first | rfl | assumption) (w_iload rfl rfl (w_iload rfl rfl ?_)))))))
        refine w_if_eq (tgt := 160) rfl (by first | assumption | exact i32_0 | (unfold i32 at *; omega)) rfl (fun c => absurd c (by decide)) (fun _ => ?_)
        refine w_iload rfl rfl (w_goto (tgt := 163) rfl rfl (w_iastore rfl (by first | rfl | assumption) (by omega) (by omega) ?_))
        exact hgo _
      · exfalso; omega
    · by_cases h2 : v = 0
      · by_cases h3 : 0 < u
        · rw [decide_eq_false h1, decide_eq_true h2, decide_eq_true h3, Bool.true_and, Bool.false_or, if_pos rfl, if_pos rfl] at hgo
          refine w_iload rfl rfl ?_
          refine w_if_lt (tgt := 117) rfl (by first | assumption | exact i32_0 | (unfold i32 at *; omega)) rfl (fun c104 => ?_) (fun c104 => ?_)
          · exfalso; omega
          · skip
            refine w_iload rfl rfl ?_
            refine w_if_ne (tgt := 121) rfl (by first | assumption | exact i32_0 | (unfold i32 at *; omega)) rfl (fun c109 => ?_) (fun c109 => ?_)
            · exfalso; omega
            · skip
              refine w_iload rfl rfl ?_
              refine w_if_le (tgt := 121) rfl (by first | assumption | exact i32_0 | (unfold i32 at *; omega)) rfl (fun c114 => ?_) (fun c114 => ?_)
              · exfalso; omega
              · skip
                refine w_iconst rfl (w_goto (tgt := 122) rfl rfl (w_istore (ls2 := [_, _, _, _, _, _, _, _, _]) rfl rfl rfl (w_aload rfl rfl (w_getR rfl (by first | rfl | assumption) rfl (by first | rfl | assumption) (w_iload rfl rfl (w_iload rfl rfl ?_))))))
                refine w_if_eq (tgt := 141) rfl (by first | assumption | exact i32_0 | (unfold i32 at *; omega)) rfl (fun c => absurd c (by decide)) (fun _ => ?_)
                refine w_iload rfl rfl (w_ineg rfl (w_goto (tgt := 143) rfl rfl (w_iastore rfl (by first | rfl | assumption) (by omega) (by omega) (w_aload rfl rfl (w_getR rfl (by first | rfl | assumption) rfl (by first | rfl | assumption) (w_iload rfl rfl (w_iload rfl rfl ?_)))))))
                refine w_if_eq (tgt := 160) rfl (by first | assumption | exact i32_0 | (unfold i32 at *; omega)) rfl (fun c => absurd c (by decide)) (fun _ => ?_)
                refine w_iload rfl rfl (w_goto (tgt := 163) rfl rfl (w_iastore rfl (by first | rfl | assumption) (by omega) (by omega) ?_))
                exact hgo _
        · rw [decide_eq_false h1, decide_eq_true h2, decide_eq_false h3, Bool.true_and, Bool.false_or, if_neg (by decide), if_neg (by decide)] at hgo
          refine w_iload rfl rfl ?_
          refine w_if_lt (tgt := 117) rfl (by first | assumption | exact i32_0 | (unfold i32 at *; omega)) rfl (fun c104 => ?_) (fun c104 => ?_)
          · exfalso; omega
          · skip
            refine w_iload rfl rfl ?_
            refine w_if_ne (tgt := 121) rfl (by first | assumption | exact i32_0 | (unfold i32 at *; omega)) rfl (fun c109 => ?_) (fun c109 => ?_)
            · exfalso; omega
            · skip
              refine w_iload rfl rfl ?_
              refine w_if_le (tgt := 121) rfl (by first | assumption | exact i32_0 | (unfold i32 at *; omega)) rfl (fun c114 => ?_) (fun c114 => ?_)
              · skip
                refine w_iconst rfl (w_istore (ls2 := [_, _, _, _, _, _, _, _, _]) rfl rfl rfl (w_aload rfl rfl (w_getR rfl (by first | rfl | assumption) rfl (by first | rfl | assumption) (w_iload rfl rfl (w_iload rfl rfl ?_)))))
                refine w_if_eq (tgt := 141) rfl (by first | assumption | exact i32_0 | (unfold i32 at *; omega)) rfl (fun _ => ?_) (fun c => absurd c (by decide))
                refine w_iload rfl rfl (w_iastore rfl (by first | rfl | assumption) (by omega) (by omega) (w_aload rfl rfl (w_getR rfl (by first | rfl | assumption) rfl (by first | rfl | assumption) (w_iload rfl rfl (w_iload rfl rfl ?_)))))
                refine w_if_eq (tgt := 160) rfl (by first | assumption | exact i32_0 | (unfold i32 at *; omega)) rfl (fun _ => ?_) (fun c => absurd c (by decide))
                refine w_iload rfl rfl (w_ineg rfl (w_iastore rfl (by first | rfl | assumption) (by omega) (by omega) ?_))
                exact hgo _
              · exfalso; omega
      · rw [decide_eq_false h1, decide_eq_false h2, Bool.false_and, Bool.false_or, if_neg (by decide), if_neg (by decide)] at hgo
        refine w_iload rfl rfl ?_
        refine w_if_lt (tgt := 117) rfl (by first | assumption | exact i32_0 | (unfold i32 at *; omega)) rfl (fun c104 => ?_) (fun c104 => ?_)
        · exfalso; omega
        · skip
          refine w_iload rfl rfl ?_
          refine w_if_ne (tgt := 121) rfl (by first | assumption | exact i32_0 | (unfold i32 at *; omega)) rfl (fun c109 => ?_) (fun c109 => ?_)
          · skip
            refine w_iconst rfl (w_istore (ls2 := [_, _, _, _, _, _, _, _, _]) rfl rfl rfl (w_aload rfl rfl (w_getR rfl (by first | rfl | assumption) rfl (by first | rfl | assumption) (w_iload rfl rfl (w_iload rfl rfl ?_)))))
            refine w_if_eq (tgt := 141) rfl (by first | assumption | exact i32_0 | (unfold i32 at *; omega)) rfl (fun _ => ?_) (fun c => absurd c (by decide))
            refine w_iload rfl rfl (w_iastore rfl (by first | rfl | assumption) (by omega) (by omega) (w_aload rfl rfl (w_getR rfl (by first | rfl | assumption) rfl (by first | rfl | assumption) (w_iload rfl rfl (w_iload rfl rfl ?_)))))
            refine w_if_eq (tgt := 160) rfl (by first | assumption | exact i32_0 | (unfold i32 at *; omega)) rfl (fun _ => ?_) (fun c => absurd c (by decide))
            refine w_iload rfl rfl (w_ineg rfl (w_iastore rfl (by first | rfl | assumption) (by omega) (by omega) ?_))
            exact hgo _
          · exfalso; omega
  have loopB : ∀ (p : Nat), p < 25 → (∀ (N : mM) (w4 w5 w6 w7 w8 : mV), mE a (lnA f (p + 1)) N → MeF a M N → Wp mc_194 D 170 [vR 155, vI a, vI p, vI (25 : Nat), w4, w5, w6, w7, w8] [] N Post) → ∀ (z n : Nat) (N : mM) (w4 w5 w6 w7 w8 : mV), 25 - n = z → p < n → n ≤ 25 → mE a (lnB f p (lnA f p) n) N → MeF a M N → Wp mc_194 D 12 [vR 155, vI a, vI p, vI n, w4, w5, w6, w7, w8] [] N Post := by
    intro p hp hout z
    induction z with
    | zero =>
      intro n N w4 w5 w6 w7 w8 hz hpn hn hE hF
      obtain rfl : n = 25 := by omega
      have hgo := hout N w4 w5 w6 w7 w8 hE hF
      clear put hPost
      refine w_iload rfl rfl (w_iconst rfl ?_)
      refine w_icmp_ge (tgt := 170) rfl (by first | assumption | exact i32_0 | (unfold i32 at *; omega)) (by first | assumption | exact i32_0 | (unfold i32 at *; omega)) rfl (fun c15 => ?_) (fun c15 => ?_)
      · skip
        exact hgo
      · skip
        exfalso; omega
    | succ z ih =>
      intro n N w4 w5 w6 w7 w8 hz hpn hn hE hF
      have ihn := fun N w4 w5 w6 w7 w8 => ih (n + 1) N w4 w5 w6 w7 w8 (by omega) (by omega) (by omega)
      have hcn := hcN N hF
      have hB : lnB f p (lnA f p) (n + 1) = if p < n ∧ hasF f p = true ∧ hasF f n = true ∧ arL f p n (luA p n) (lvA p n) 25 = true then lnStep p n (lnB f p (lnA f p) n) else lnB f p (lnA f p) n := rfl
      have hl1 := lnB_len f p (lnA f p) (n + 1) 25 (by omega)
      have hA : lnB f p (lnA f p) 25 = lnA f (p + 1) := rfl
      have hl2 := lnA_len f (p + 1) 25 (by omega)
      rw [hA] at hl1
      rw [hB] at ihn hl1
      cases e1 : hasF f p with
      | false =>
        rw [if_neg (fun z => by rw [e1] at z; exact absurd z.2.1 (by decide))] at ihn
        have hgo := ihn N w4 w5 w6 w7 w8 hE hF
        clear put hPost ihn ih hout hB hl1 hl2 hA
        refine w_iload rfl rfl (w_iconst rfl ?_)
        refine w_icmp_ge (tgt := 170) rfl (by first | assumption | exact i32_0 | (unfold i32 at *; omega)) (by first | assumption | exact i32_0 | (unfold i32 at *; omega)) rfl (fun c15 => ?_) (fun c15 => ?_)
        · exfalso; omega
        · skip
          refine w_aload rfl rfl (w_iload rfl rfl (w_iload rfl rfl ?_))
          refine w_call (Or.inr rfl) (m_has0 ha hcn hf (by omega) e1) (by omega) nof_167 rfl rfl rfl rfl (by first | rfl | (show cKB[_]? = _; assumption)) rfl ?_
          refine w_if_eq (tgt := 164) rfl (by first | assumption | exact i32_0 | (unfold i32 at *; omega)) rfl (fun _ => ?_) (fun c => absurd c (by decide))
          refine w_iinc (ls2 := [_, _, _, _, _, _, _, _, _]) rfl rfl rfl (w_goto (tgt := 12) rfl rfl ?_)
          exact hgo
      | true =>
        cases e2 : hasF f n with
        | false =>
          rw [if_neg (fun z => by rw [e2] at z; exact absurd z.2.2.1 (by decide))] at ihn
          have hgo := ihn N w4 w5 w6 w7 w8 hE hF
          clear put hPost ihn ih hout hB hl1 hl2 hA
          refine w_iload rfl rfl (w_iconst rfl ?_)
          refine w_icmp_ge (tgt := 170) rfl (by first | assumption | exact i32_0 | (unfold i32 at *; omega)) (by first | assumption | exact i32_0 | (unfold i32 at *; omega)) rfl (fun c15 => ?_) (fun c15 => ?_)
          · exfalso; omega
          · skip
            refine w_aload rfl rfl (w_iload rfl rfl (w_iload rfl rfl ?_))
            refine w_call (Or.inr rfl) ((m_has1 ha hcn hf (by omega) e1)) (by omega) nof_167 rfl rfl rfl rfl (by first | rfl | (show cKB[_]? = _; assumption)) rfl ?_
            refine w_if_eq (tgt := 164) rfl (by first | assumption | exact i32_0 | (unfold i32 at *; omega)) rfl (fun c => absurd c (by decide)) (fun _ => ?_)
            refine w_aload rfl rfl (w_iload rfl rfl (w_iload rfl rfl ?_))
            refine w_call (Or.inr rfl) ((m_has0 ha hcn hf (by omega) e2)) (by omega) nof_167 rfl rfl rfl rfl (by first | rfl | (show cKB[_]? = _; assumption)) rfl ?_
            refine w_if_eq (tgt := 164) rfl (by first | assumption | exact i32_0 | (unfold i32 at *; omega)) rfl (fun _ => ?_) (fun c => absurd c (by decide))
            refine w_iinc (ls2 := [_, _, _, _, _, _, _, _, _]) rfl rfl rfl (w_goto (tgt := 12) rfl rfl ?_)
            exact hgo
        | true =>
          have b1 := pi_le (p := p) (by omega)
          have b2 := pi_le (p := n) (by omega)
          have b3 := pj_le p
          have b4 := pj_le n
          have t1 : (p : Int).tdiv 5 = pi p := rfl
          have t2 : (p : Int).tmod 5 = pj p := rfl
          have t3 : (n : Int).tdiv 5 = pi n := rfl
          have t4 : (n : Int).tmod 5 = pj n := rfl
          have hdv := m_divisor (pi n - pi p) (pj n - pj p) N (by omega) (by omega)
          have hG : Nat.gcd (pi n - pi p).natAbs (pj n - pj p).natAbs = lnG p n := rfl
          rw [hG] at hdv
          have hg := lg_pos (p := p) (q := n) (by omega) (by omega) (by omega)
          have hu : (pi n - pi p).tdiv (lnG p n : Int) = luA p n := rfl
          have hv : (pj n - pj p).tdiv (lnG p n : Int) = lvA p n := rfl
          have bu : -4 ≤ luA p n ∧ luA p n ≤ 4 := tdivN_le4 (by omega)
          have bv : -4 ≤ lvA p n ∧ lvA p n ≤ 4 := tdivN_le4 (by omega)
          have hn25 : n < 25 := by omega
          have hal := m_areLine ha hcn hf e1 e2 bu bv (luv_ne (by omega))
          cases e3 : arL f p n (luA p n) (lvA p n) 25 with
          | false =>
            rw [if_neg (fun z => by rw [e3] at z; exact absurd z.2.2.2 (by decide))] at ihn
            have hgo := fun w4 w5 w6 => ihn N w4 w5 w6 w7 w8 hE hF
            rw [e3, if_neg (by decide)] at hal
            clear put hPost ihn ih hout hB hl1 hl2 hA e3 hG
            generalize luA p n = u at *
            generalize lvA p n = v at *
            generalize lnG p n = g at *
            refine w_iload rfl rfl (w_iconst rfl ?_)
            refine w_icmp_ge (tgt := 170) rfl (by first | assumption | exact i32_0 | (unfold i32 at *; omega)) (by first | assumption | exact i32_0 | (unfold i32 at *; omega)) rfl (fun c15 => ?_) (fun c15 => ?_)
            · exfalso; omega
            · skip
              refine w_aload rfl rfl (w_iload rfl rfl (w_iload rfl rfl ?_))
              refine w_call (Or.inr rfl) ((m_has1 ha hcn hf (by omega) e1)) (by omega) nof_167 rfl rfl rfl rfl (by first | rfl | (show cKB[_]? = _; assumption)) rfl ?_
              refine w_if_eq (tgt := 164) rfl (by first | assumption | exact i32_0 | (unfold i32 at *; omega)) rfl (fun c => absurd c (by decide)) (fun _ => ?_)
              refine w_aload rfl rfl (w_iload rfl rfl (w_iload rfl rfl ?_))
              refine w_call (Or.inr rfl) ((m_has1 ha hcn hf (by omega) e2)) (by omega) nof_167 rfl rfl rfl rfl (by first | rfl | (show cKB[_]? = _; assumption)) rfl ?_
              refine w_if_eq (tgt := 164) rfl (by first | assumption | exact i32_0 | (unfold i32 at *; omega)) rfl (fun c => absurd c (by decide)) (fun _ => ?_)
              refine w_iload rfl rfl (w_iconst rfl (w_idiv rfl (by first | assumption | exact i32_0 | (unfold i32 at *; omega)) (by first | assumption | exact i32_0 | (unfold i32 at *; omega)) (by first | decide | omega | assumption) ?_))
              rw [t3]
              refine w_iload rfl rfl (w_iconst rfl (w_idiv rfl (by first | assumption | exact i32_0 | (unfold i32 at *; omega)) (by first | assumption | exact i32_0 | (unfold i32 at *; omega)) (by first | decide | omega | assumption) ?_))
              rw [t1]
              refine w_isub rfl (w_iload rfl rfl (w_iconst rfl (w_irem rfl (by first | assumption | exact i32_0 | (unfold i32 at *; omega)) (by first | assumption | exact i32_0 | (unfold i32 at *; omega)) (by first | decide | omega | assumption) ?_)))
              rw [t4]
              refine w_iload rfl rfl (w_iconst rfl (w_irem rfl (by first | assumption | exact i32_0 | (unfold i32 at *; omega)) (by first | assumption | exact i32_0 | (unfold i32 at *; omega)) (by first | decide | omega | assumption) ?_))
              rw [t2]
              refine w_isub rfl ?_
              refine w_call (Or.inl rfl) ((hdv)) (by omega) nof_195 rfl rfl rfl rfl trivial rfl ?_
              refine w_istore (ls2 := [_, _, _, _, _, _, _, _, _]) rfl rfl rfl (w_iload rfl rfl (w_iconst rfl (w_idiv rfl (by first | assumption | exact i32_0 | (unfold i32 at *; omega)) (by first | assumption | exact i32_0 | (unfold i32 at *; omega)) (by first | decide | omega | assumption) ?_)))
              rw [t3]
              refine w_iload rfl rfl (w_iconst rfl (w_idiv rfl (by first | assumption | exact i32_0 | (unfold i32 at *; omega)) (by first | assumption | exact i32_0 | (unfold i32 at *; omega)) (by first | decide | omega | assumption) ?_))
              rw [t1]
              refine w_isub rfl (w_iload rfl rfl (w_idiv rfl (by first | assumption | exact i32_0 | (unfold i32 at *; omega)) (by first | assumption | exact i32_0 | (unfold i32 at *; omega)) (by first | decide | omega | assumption) ?_))
              rw [hu]
              refine w_istore (ls2 := [_, _, _, _, _, _, _, _, _]) rfl rfl rfl (w_iload rfl rfl (w_iconst rfl (w_irem rfl (by first | assumption | exact i32_0 | (unfold i32 at *; omega)) (by first | assumption | exact i32_0 | (unfold i32 at *; omega)) (by first | decide | omega | assumption) ?_)))
              rw [t4]
              refine w_iload rfl rfl (w_iconst rfl (w_irem rfl (by first | assumption | exact i32_0 | (unfold i32 at *; omega)) (by first | assumption | exact i32_0 | (unfold i32 at *; omega)) (by first | decide | omega | assumption) ?_))
              rw [t2]
              refine w_isub rfl (w_iload rfl rfl (w_idiv rfl (by first | assumption | exact i32_0 | (unfold i32 at *; omega)) (by first | assumption | exact i32_0 | (unfold i32 at *; omega)) (by first | decide | omega | assumption) ?_))
              rw [hv]
              refine w_istore (ls2 := [_, _, _, _, _, _, _, _, _]) rfl rfl rfl (w_aload rfl rfl (w_iload rfl rfl (w_iload rfl rfl (w_iload rfl rfl (w_iload rfl rfl (w_iload rfl rfl ?_))))))
              refine w_call (Or.inr rfl) ((hal)) (by omega) nof_196 rfl rfl rfl rfl (by first | rfl | (show cKB[_]? = _; assumption)) rfl ?_
              refine w_if_eq (tgt := 164) rfl (by first | assumption | exact i32_0 | (unfold i32 at *; omega)) rfl (fun _ => ?_) (fun c => absurd c (by decide))
              refine w_iinc (ls2 := [_, _, _, _, _, _, _, _, _]) rfl rfl rfl (w_goto (tgt := 12) rfl rfl ?_)
              exact hgo _ _ _
          | true =>
            rw [if_pos ⟨hpn, e1, e2, e3⟩] at ihn hl1
            rw [e3, if_pos rfl] at hal
            have hst : lnStep p n (lnB f p (lnA f p) n) = lnPut (lnB f p (lnA f p) n) p n (if lFl (luA p n) (lvA p n) = true then -(lvA p n) else lvA p n) (if lFl (luA p n) (lvA p n) = true then luA p n else -(luA p n)) := rfl
            rw [hst] at ihn hl1
            have bU : -4 ≤ (if lFl (luA p n) (lvA p n) = true then -(lvA p n) else lvA p n) ∧ (if lFl (luA p n) (lvA p n) = true then -(lvA p n) else lvA p n) ≤ 4 := by split <;> omega
            have bV : -4 ≤ (if lFl (luA p n) (lvA p n) = true then luA p n else -(luA p n)) ∧ (if lFl (luA p n) (lvA p n) = true then luA p n else -(luA p n)) ≤ 4 := by split <;> omega
            clear hB hA hst e3 ih hout hG
            generalize lnB f p (lnA f p) n = R at *
            have hroom : R.length < 40 ∨ ∃ e, R[posE p n R]? = some e ∧ e 0 = (p : Int) ∧ e 1 = (n : Int) := by
              by_cases z : ∃ e, R[posE p n R]? = some e ∧ e 0 = (p : Int) ∧ e 1 = (n : Int)
              · exact Or.inr z
              · refine Or.inl ?_
                have hl3 : (lnPut R p n (if lFl (luA p n) (lvA p n) = true then -(lvA p n) else lvA p n) (if lFl (luA p n) (lvA p n) = true then luA p n else -(luA p n))).length = R.length + 1 := by
                  unfold lnPut
                  split
                  · next e4 he4 => rw [if_neg (fun w => z ⟨e4, he4, w⟩), insE_len]
                  · rw [insE_len]
                omega
            have hpe := m_placesEdge ha (p := p) (q := n) (by omega) (by omega) hE hroom
            have hpos := posE_le (p : Int) (n : Int) R
            have hk80 : 40 * a + posE p n R < 80 := by
              have hb := hE.2.1
              rcases hroom with z | ⟨e, z, _⟩
              · omega
              · have := (List.getElem?_eq_some_iff.mp z).1
                omega
            have after : ∀ (N2 : mM) (w4 w5 w6 w8 : mV), MeF a N N2 → (((∃ e, R[posE p n R]? = some e ∧ e 0 = (p : Int) ∧ e 1 = (n : Int)) ∧ N2 = N) ∨ ((¬ ∃ e, R[posE p n R]? = some e ∧ e 0 = (p : Int) ∧ e 1 = (n : Int)) ∧ ∃ e, e 0 = (p : Int) ∧ e 1 = (n : Int) ∧ e 2 = -1000000 ∧ e 3 = -1000000 ∧ ∀ u v, (-1000000 ≤ u ∧ u ≤ 1000000) → (-1000000 ≤ v ∧ v ≤ 1000000) → mE a (R.take (posE p n R) ++ (sR (sR e 4 u) 5 v) :: R.drop (posE p n R)) (upI (upI N2 170 (40 * a + posE p n R) u) 171 (40 * a + posE p n R) v))) → Wp mc_194 D 164 [vR 155, vI a, vI p, vI n, w4, w5, w6, vI ((40 * a + posE p n R : Nat) : Int), w8] [] (upI (upI N2 170 (40 * a + posE p n R) (if lFl (luA p n) (lvA p n) = true then -(lvA p n) else lvA p n)) 171 (40 * a + posE p n R) (if lFl (luA p n) (lvA p n) = true then luA p n else -(luA p n))) Post := by
              intro N2 w4 w5 w6 w8 hF2 hcase
              clear hu hv hal hdv hpe
              generalize (if lFl (luA p n) (lvA p n) = true then -(lvA p n) else lvA p n) = U at *
              generalize (if lFl (luA p n) (lvA p n) = true then luA p n else -(luA p n)) = V at *
              have hE2 : mE a (lnPut R p n U V) (upI (upI N2 170 (40 * a + posE p n R) U) 171 (40 * a + posE p n R) V) := by
                rcases hcase with ⟨⟨e, he, e0, e5⟩, rfl⟩ | ⟨hno, e, e0, e5, e6, e7, hmE⟩
                · have hput : lnPut R p n U V = R.set (posE p n R) (sR (sR e 4 U) 5 V) := by
                    unfold lnPut
                    rw [he]
                    exact if_pos ⟨e0, e5⟩
                  have hrw := hE.2.2.1 e (List.mem_of_getElem? he)
                  rw [hput]
                  refine mE_set hE (List.getElem?_eq_some_iff.mp he).1 ?_ ?_ ?_ ?_
                  · intro t ht
                    have := hrw t ht
                    unfold sR
                    split
                    · omega
                    · split <;> omega
                  · rw [upI_ne _ _ _ _ (by decide), upI_ne _ _ _ _ (by decide)]
                  · intro t ht
                    have h4 := hE.2.2.2 _ e he t ht
                    by_cases z5 : t = 5
                    · subst z5
                      exact upI_same _ _ _ _
                    · by_cases z4 : t = 4
                      · subst z4
                        rw [upI_ne _ _ _ _ (by decide)]
                        exact upI_same _ _ _ _
                      · rw [upI_ne _ _ _ _ (by omega), upI_ne _ _ _ _ (by omega), h4]
                        unfold sR
                        rw [if_neg z5, if_neg z4]
                  · intro t k ht hk
                    unfold upI
                    rw [if_neg (by omega), if_neg (by omega)]
                · have hput : lnPut R p n U V = insE R p n (-1000000) U V := by
                    unfold lnPut
                    split
                    · next e4 he4 => exact if_neg (fun w => hno ⟨e4, he4, w⟩)
                    · rfl
                  rw [hput]
                  refine mE_cg (hmE U V (by omega) (by omega)) hpos ?_
                  intro t ht
                  have hc6 : t = 0 ∨ t = 1 ∨ t = 2 ∨ t = 3 ∨ t = 4 ∨ t = 5 := by omega
                  rcases hc6 with rfl | rfl | rfl | rfl | rfl | rfl
                  · exact e0
                  · exact e5
                  · exact e6
                  · exact e7
                  · rfl
                  · rfl
              have hposl : 40 * a + posE p n R < 40 * a + 40 := by
                have := hE2.2.1
                rcases hcase with ⟨⟨e, he, _⟩, _⟩ | ⟨hno, _⟩
                · have := (List.getElem?_eq_some_iff.mp he).1
                  have := hE.2.1
                  omega
                · rcases hroom with z | z
                  · omega
                  · exact absurd z hno
              have hF3 : MeF a M (upI (upI N2 170 (40 * a + posE p n R) U) 171 (40 * a + posE p n R) V) := MeF_tr hF (MeF_tr hF2 ⟨fun b hb => by rw [upI_ne _ _ _ _ (by omega), upI_ne _ _ _ _ (by omega)], fun b k hk hb => by unfold upI; rw [if_neg (by omega), if_neg (by omega)], fun k hk => by unfold upI; rw [if_neg (by omega), if_neg (by omega)]⟩)
              have hgo := ihn _ w4 w5 w6 (vI ((40 * a + posE p n R : Nat) : Int)) w8 hE2 hF3
              clear put hPost ihn hE2 hF3 hcase
              refine w_iinc (ls2 := [_, _, _, _, _, _, _, _, _]) rfl rfl rfl (w_goto (tgt := 12) rfl rfl ?_)
              exact hgo
            have hgo := fun N2 w8 q1 q2 => put p n (lnG p n) (luA p n) (lvA p n) (40 * a + posE p n R) N2 w8 hk80 hn25 bu bv (fun w8 => after N2 _ _ _ w8 q1 q2)
            clear after put hPost ihn hl1 hl2 hroom bU bV
            generalize luA p n = u at *
            generalize lvA p n = v at *
            generalize lnG p n = g at *
            refine w_iload rfl rfl (w_iconst rfl ?_)
            refine w_icmp_ge (tgt := 170) rfl (by first | assumption | exact i32_0 | (unfold i32 at *; omega)) (by first | assumption | exact i32_0 | (unfold i32 at *; omega)) rfl (fun c15 => ?_) (fun c15 => ?_)
            · exfalso; omega
            · skip
              refine w_aload rfl rfl (w_iload rfl rfl (w_iload rfl rfl ?_))
              refine w_call (Or.inr rfl) ((m_has1 ha hcn hf (by omega) e1)) (by omega) nof_167 rfl rfl rfl rfl (by first | rfl | (show cKB[_]? = _; assumption)) rfl ?_
              refine w_if_eq (tgt := 164) rfl (by first | assumption | exact i32_0 | (unfold i32 at *; omega)) rfl (fun c => absurd c (by decide)) (fun _ => ?_)
              refine w_aload rfl rfl (w_iload rfl rfl (w_iload rfl rfl ?_))
              refine w_call (Or.inr rfl) ((m_has1 ha hcn hf (by omega) e2)) (by omega) nof_167 rfl rfl rfl rfl (by first | rfl | (show cKB[_]? = _; assumption)) rfl ?_
              refine w_if_eq (tgt := 164) rfl (by first | assumption | exact i32_0 | (unfold i32 at *; omega)) rfl (fun c => absurd c (by decide)) (fun _ => ?_)
              refine w_iload rfl rfl (w_iconst rfl (w_idiv rfl (by first | assumption | exact i32_0 | (unfold i32 at *; omega)) (by first | assumption | exact i32_0 | (unfold i32 at *; omega)) (by first | decide | omega | assumption) ?_))
              rw [t3]
              refine w_iload rfl rfl (w_iconst rfl (w_idiv rfl (by first | assumption | exact i32_0 | (unfold i32 at *; omega)) (by first | assumption | exact i32_0 | (unfold i32 at *; omega)) (by first | decide | omega | assumption) ?_))
              rw [t1]
              refine w_isub rfl (w_iload rfl rfl (w_iconst rfl (w_irem rfl (by first | assumption | exact i32_0 | (unfold i32 at *; omega)) (by first | assumption | exact i32_0 | (unfold i32 at *; omega)) (by first | decide | omega | assumption) ?_)))
              rw [t4]
              refine w_iload rfl rfl (w_iconst rfl (w_irem rfl (by first | assumption | exact i32_0 | (unfold i32 at *; omega)) (by first | assumption | exact i32_0 | (unfold i32 at *; omega)) (by first | decide | omega | assumption) ?_))
              rw [t2]
              refine w_isub rfl ?_
              refine w_call (Or.inl rfl) ((hdv)) (by omega) nof_195 rfl rfl rfl rfl trivial rfl ?_
              refine w_istore (ls2 := [_, _, _, _, _, _, _, _, _]) rfl rfl rfl (w_iload rfl rfl (w_iconst rfl (w_idiv rfl (by first | assumption | exact i32_0 | (unfold i32 at *; omega)) (by first | assumption | exact i32_0 | (unfold i32 at *; omega)) (by first | decide | omega | assumption) ?_)))
              rw [t3]
              refine w_iload rfl rfl (w_iconst rfl (w_idiv rfl (by first | assumption | exact i32_0 | (unfold i32 at *; omega)) (by first | assumption | exact i32_0 | (unfold i32 at *; omega)) (by first | decide | omega | assumption) ?_))
              rw [t1]
              refine w_isub rfl (w_iload rfl rfl (w_idiv rfl (by first | assumption | exact i32_0 | (unfold i32 at *; omega)) (by first | assumption | exact i32_0 | (unfold i32 at *; omega)) (by first | decide | omega | assumption) ?_))
              rw [hu]
              refine w_istore (ls2 := [_, _, _, _, _, _, _, _, _]) rfl rfl rfl (w_iload rfl rfl (w_iconst rfl (w_irem rfl (by first | assumption | exact i32_0 | (unfold i32 at *; omega)) (by first | assumption | exact i32_0 | (unfold i32 at *; omega)) (by first | decide | omega | assumption) ?_)))
              rw [t4]
              refine w_iload rfl rfl (w_iconst rfl (w_irem rfl (by first | assumption | exact i32_0 | (unfold i32 at *; omega)) (by first | assumption | exact i32_0 | (unfold i32 at *; omega)) (by first | decide | omega | assumption) ?_))
              rw [t2]
              refine w_isub rfl (w_iload rfl rfl (w_idiv rfl (by first | assumption | exact i32_0 | (unfold i32 at *; omega)) (by first | assumption | exact i32_0 | (unfold i32 at *; omega)) (by first | decide | omega | assumption) ?_))
              rw [hv]
              refine w_istore (ls2 := [_, _, _, _, _, _, _, _, _]) rfl rfl rfl (w_aload rfl rfl (w_iload rfl rfl (w_iload rfl rfl (w_iload rfl rfl (w_iload rfl rfl (w_iload rfl rfl ?_))))))
              refine w_call (Or.inr rfl) ((hal)) (by omega) nof_196 rfl rfl rfl rfl (by first | rfl | (show cKB[_]? = _; assumption)) rfl ?_
              refine w_if_eq (tgt := 164) rfl (by first | assumption | exact i32_0 | (unfold i32 at *; omega)) rfl (fun c => absurd c (by decide)) (fun _ => ?_)
              refine w_aload rfl rfl (w_iload rfl rfl (w_iload rfl rfl (w_iload rfl rfl ?_)))
              refine w_callQ (Or.inr rfl) (hpe) (by omega) nof_197 rfl rfl rfl rfl (by first | rfl | (show cKB[_]? = _; assumption)) (fun r97 M97 hq97 => ?_)
              obtain ⟨rfl, w1, w2⟩ := hq97
              refine w_istore (ls2 := [_, _, _, _, _, _, _, _, _]) rfl rfl rfl ?_
              exact hgo _ _ w1 w2
  have loopA : ∀ (z n : Nat) (N : mM) (w3 w4 w5 w6 w7 w8 : mV), 25 - n = z → n ≤ 25 → mE a (lnA f n) N → MeF a M N → Wp mc_194 D 2 [vR 155, vI a, vI n, w3, w4, w5, w6, w7, w8] [] N Post := by
    intro z
    induction z with
    | zero =>
      intro n N w3 w4 w5 w6 w7 w8 hz hn hE hF
      obtain rfl : n = 25 := by omega
      have hfin : Post none N := by
        rw [← hPost]
        exact ⟨rfl, hE, hF⟩
      clear put loopB hPost
      refine w_iload rfl rfl (w_iconst rfl ?_)
      refine w_icmp_ge (tgt := 176) rfl (by first | assumption | exact i32_0 | (unfold i32 at *; omega)) (by first | assumption | exact i32_0 | (unfold i32 at *; omega)) rfl (fun c5 => ?_) (fun c5 => ?_)
      · skip
        exact w_return rfl hfin
      · skip
        exfalso; omega
    | succ z ih =>
      intro n N w3 w4 w5 w6 w7 w8 hz hn hE hF
      have after : ∀ (N : mM) (w4 w5 w6 w7 w8 : mV), mE a (lnA f (n + 1)) N → MeF a M N → Wp mc_194 D 170 [vR 155, vI a, vI n, vI (25 : Nat), w4, w5, w6, w7, w8] [] N Post := by
        intro N w4 w5 w6 w7 w8 q1 q2
        have hgo := ih (n + 1) N (vI (25 : Nat)) w4 w5 w6 w7 w8 (by omega) (by omega) q1 q2
        clear put loopB hPost ih
        refine w_iinc (ls2 := [_, _, _, _, _, _, _, _, _]) rfl rfl rfl (w_goto (tgt := 2) rfl rfl ?_)
        exact hgo
      have hgo := loopB n (by omega) after (25 - (n + 1)) (n + 1) N w4 w5 w6 w7 w8 rfl (by omega) (by omega) (by rw [lnB_lo f n (lnA f n) (n + 1) (Nat.le_refl _)]; exact hE) hF
      clear put loopB hPost ih after
      refine w_iload rfl rfl (w_iconst rfl ?_)
      refine w_icmp_ge (tgt := 176) rfl (by first | assumption | exact i32_0 | (unfold i32 at *; omega)) (by first | assumption | exact i32_0 | (unfold i32 at *; omega)) rfl (fun c5 => ?_) (fun c5 => ?_)
      · exfalso; omega
      · skip
        refine w_iload rfl rfl (w_iconst rfl (w_iadd rfl (w_istore (ls2 := [_, _, _, _, _, _, _, _, _]) rfl rfl rfl ?_)))
        exact hgo
  have hgo := loopA 25 0 M vN vN vN vN vN vN rfl (by decide) h (MeF_rfl a M)
  clear put loopB loopA hPost
  refine w_iconst rfl (w_istore (ls2 := [_, _, _, _, _, _, _, _, _]) rfl rfl rfl ?_)
  exact hgo
