/-! ===== the model's bars of two terms and a third one ===== -/
def dotP (k p q : Nat) : Int := (pi p - pi k) * (pi q - pi k) + (pj p - pj k) * (pj q - pj k)
def sgV (f : Cv) (k p q : Nat) : Int := (720720 : Int).tdiv ((lnG k p : Int) + (lnG k q : Int)) * (cv f p * (lnG k q : Int) + cv f q * (lnG k p : Int))
def sgC (k p q : Nat) : Prop := turn k p q = 0 ∧ dotP k p q < 0
def trA (k p q r : Nat) : Int := turn k q r + turn k r p + turn k p q
def trV (f : Cv) (k p q r : Nat) : Int := (720720 : Int).tdiv (trA k p q r) * (cv f p * turn k q r + cv f q * turn k r p + cv f r * turn k p q)
def trC (k p q r : Nat) : Prop := trA k p q r ≠ 0 ∧ ((0 ≤ turn k q r ∧ 0 ≤ turn k r p ∧ 0 ≤ turn k p q) ∨ (turn k q r ≤ 0 ∧ turn k r p ≤ 0 ∧ turn k p q ≤ 0))
theorem tdW_le (m : Int) : -720720 ≤ (720720 : Int).tdiv m ∧ (720720 : Int).tdiv m ≤ 720720 := by
  have h1 : ((720720 : Int).tdiv m).natAbs ≤ (720720 : Int).natAbs := by
    rw [Int.natAbs_tdiv]; exact Nat.div_le_self _ _
  omega
set_option maxRecDepth 100000 in
theorem m_barsOf {A k p q : Nat} {f : Cv} {o : Option Int} {M : mM} (hA : A < 2) (hc : mcur (25 * A) f M) (hf : Cok 999 f) (hk : k < 21) (hp : p < 25) (hq : q < 25) (fp : hasF f p = true) (fq : hasF f q = true) (kp : p ≠ k) (h : baR o M) : EQ 2 225 [vR 155, vI A, vI k, vI p, vI q] M (fun z N => z = none ∧ ∃ o', baR o' N ∧ (∀ c, loO o' c ↔ loO o c ∧ (sgC k p q → c * 720720 < sgV f k p q) ∧ ∀ r, q < r → r < 25 → hasF f r = true → r ≠ k → trC k p q r → c * 720720 < trV f k p q r) ∧ brF M N) := by
  have tk1 : (k : Int).tdiv 5 = pi k := rfl
  have tk2 : (k : Int).tmod 5 = pj k := rfl
  have tp1 : (p : Int).tdiv 5 = pi p := rfl
  have tp2 : (p : Int).tmod 5 = pj p := rfl
  have tq1 : (q : Int).tdiv 5 = pi q := rfl
  have tq2 : (q : Int).tmod 5 = pj q := rfl
  have bk := pi_le (p := k) (by omega)
  have bp := pi_le (p := p) (by omega)
  have bq := pi_le (p := q) (by omega)
  have ck := pj_le k
  have cp := pj_le p
  have cq := pj_le q
  have vp := cv_le hf p
  have vq := cv_le hf q
  have hrow : ∀ N, brF M N → mcur (25 * A) f N := fun N z => mcur_fr hc (fun j _ _ => by rw [z.1 156 (by decide)])
  have hix : ∀ j : Nat, (25 * (A : Int) + (j : Int)).toNat = 25 * A + j := fun j => by omega
  have rp : ∀ N, brF M N → N 156 (25 * (A : Int) + (p : Int)).toNat = cv f p := fun N z => by rw [hix]; exact ((hrow N z) p hp).trans (mv_some fp)
  have rq : ∀ N, brF M N → N 156 (25 * (A : Int) + (q : Int)).toNat = cv f q := fun N z => by rw [hix]; exact ((hrow N z) q hq).trans (mv_some fq)
  have wpq := turn_le k (by omega) p hp q hq
  have g1 := lnG_le8 (p := k) (q := p) (by omega) hp
  have g2 := lnG_le8 (p := k) (q := q) (by omega) hq
  refine q_in (ls := [vR 155, vI A, vI k, vI p, vI q, vN, vN, vN, vN, vN, vN, vN, vN, vN, vN, vN, vN, vN, vN]) mq_225 (ml_225 rfl) rfl fun D hD => ?_
  generalize hPost : (fun (z : Option mV) (N : mM) => z = none ∧ ∃ o', baR o' N ∧ (∀ c, loO o' c ↔ loO o c ∧ (sgC k p q → c * 720720 < sgV f k p q) ∧ ∀ r, q < r → r < 25 → hasF f r = true → r ≠ k → trC k p q r → c * 720720 < trV f k p q r) ∧ brF M N) = Post
  have loop : ∀ (m n : Nat) (N : mM) (o2 : Option Int) (w10 w11 w12 w13 w14 w15 w16 w17 w18 : mV), 25 - n = m → q < n → n ≤ 25 → baR o2 N → brF M N → (∀ c, loO o2 c ↔ loO o c ∧ (sgC k p q → c * 720720 < sgV f k p q) ∧ ∀ r, q < r → r < n → hasF f r = true → r ≠ k → trC k p q r → c * 720720 < trV f k p q r) → Wp mc_225 D 140 [vR 155, vI A, vI k, vI p, vI q, vI (pi p - pi k), vI (pj p - pj k), vI (pi q - pi k), vI (pj q - pj k), vI n, w10, w11, w12, w13, w14, w15, w16, w17, w18] [] N Post := by
    intro m
    induction m with
    | zero =>
      intro n N o2 w10 w11 w12 w13 w14 w15 w16 w17 w18 hm hqn hn hb hF hI
      obtain rfl : n = 25 := by omega
      have hgo : Post none N := by
        rw [← hPost]
        exact ⟨rfl, o2, hb, hI, hF⟩
      clear hPost hI
      refine w_iload rfl rfl (w_iconst rfl ?_)
      refine w_icmp_ge (tgt := 348) rfl (by first | assumption | exact i32_0 | (unfold i32 at *; omega)) (by first | assumption | exact i32_0 | (unfold i32 at *; omega)) rfl (fun c144 => ?_) (fun c144 => ?_)
      · skip
        exact w_return rfl hgo
      · skip
        exfalso; omega
    | succ m ih =>
      intro n N o2 w10 w11 w12 w13 w14 w15 w16 w17 w18 hm hqn hn hb hF hI
      have hn25 : n < 25 := by omega
      have hcN := hrow N hF
      have skip : (¬ (hasF f n = true ∧ n ≠ k ∧ trC k p q n)) → ∀ (u10 u11 u12 u13 u14 u15 u16 u17 u18 : mV), Wp mc_225 D 140 [vR 155, vI A, vI k, vI p, vI q, vI (pi p - pi k), vI (pj p - pj k), vI (pi q - pi k), vI (pj q - pj k), vI ((n : Int) + 1), u10, u11, u12, u13, u14, u15, u16, u17, u18] [] N Post := by
        intro hno u10 u11 u12 u13 u14 u15 u16 u17 u18
        refine ih (n + 1) N o2 u10 u11 u12 u13 u14 u15 u16 u17 u18 (by omega) (by omega) (by omega) hb hF (fun c => ?_)
        rw [hI c]
        constructor
        · rintro ⟨a1, a2, a3⟩
          refine ⟨a1, a2, fun r r1 r2 r3 r4 r5 => ?_⟩
          by_cases e : r = n
          · subst e
            exact absurd ⟨r3, r4, r5⟩ hno
          · exact a3 r r1 (by omega) r3 r4 r5
        · rintro ⟨a1, a2, a3⟩
          exact ⟨a1, a2, fun r r1 r2 => a3 r r1 (by omega)⟩
      have add : ∀ (N2 : mM) (o3 : Option Int), baR o3 N2 → (∀ c, loO o3 c ↔ loO o2 c ∧ c * 720720 < trV f k p q n) → brF N N2 → hasF f n = true → n ≠ k → trC k p q n → ∀ (u10 u11 u12 u13 u14 u15 u16 u17 u18 : mV), Wp mc_225 D 140 [vR 155, vI A, vI k, vI p, vI q, vI (pi p - pi k), vI (pj p - pj k), vI (pi q - pi k), vI (pj q - pj k), vI ((n : Int) + 1), u10, u11, u12, u13, u14, u15, u16, u17, u18] [] N2 Post := by
        intro N2 o3 b1 b2 b3 b4 b5 b6 u10 u11 u12 u13 u14 u15 u16 u17 u18
        refine ih (n + 1) N2 o3 u10 u11 u12 u13 u14 u15 u16 u17 u18 (by omega) (by omega) (by omega) b1 (brF_tr hF b3) (fun c => ?_)
        rw [b2 c, hI c]
        constructor
        · rintro ⟨⟨a1, a2, a3⟩, a4⟩
          refine ⟨a1, a2, fun r r1 r2 r3 r4 r5 => ?_⟩
          by_cases e : r = n
          · rw [e]; exact a4
          · exact a3 r r1 (by omega) r3 r4 r5
        · rintro ⟨a1, a2, a3⟩
          exact ⟨⟨a1, a2, fun r r1 r2 => a3 r r1 (by omega)⟩, a3 n (by omega) (by omega) b4 b5 b6⟩
      clear hPost hI ih
      cases e : hasF f n with
      | false =>
        have hgo := skip (fun z => by rw [e] at z; cases z.1)
        clear skip add
        refine w_iload rfl rfl (w_iconst rfl ?_)
        refine w_icmp_ge (tgt := 348) rfl (by first | assumption | exact i32_0 | (unfold i32 at *; omega)) (by first | assumption | exact i32_0 | (unfold i32 at *; omega)) rfl (fun c144 => ?_) (fun c144 => ?_)
        · skip
          exfalso; omega
        · skip
          refine w_aload rfl rfl (w_iload rfl rfl (w_iload rfl rfl ?_))
          refine w_call (Or.inr rfl) (m_has0 hA hcN hf (by omega) e) (by omega) nof_167 rfl rfl rfl rfl (by first | rfl | (show cKB[_]? = _; assumption)) rfl ?_
          refine w_if_eq (tgt := 342) rfl (by first | assumption | exact i32_0 | (unfold i32 at *; omega)) rfl (fun _ => ?_) (fun c => absurd c (by decide))
          refine w_iinc (ls2 := [_, _, _, _, _, _, _, _, _, _, _, _, _, _, _, _, _, _, _]) rfl rfl rfl (w_goto (tgt := 140) rfl rfl ?_)
          exact hgo _ _ _ _ _ _ _ _ _
      | true =>
        by_cases ek : n = k
        · have hgo := skip (fun z => z.2.1 ek)
          clear skip add
          refine w_iload rfl rfl (w_iconst rfl ?_)
          refine w_icmp_ge (tgt := 348) rfl (by first | assumption | exact i32_0 | (unfold i32 at *; omega)) (by first | assumption | exact i32_0 | (unfold i32 at *; omega)) rfl (fun c144 => ?_) (fun c144 => ?_)
          · skip
            exfalso; omega
          · skip
            refine w_aload rfl rfl (w_iload rfl rfl (w_iload rfl rfl ?_))
            refine w_call (Or.inr rfl) (m_has1 hA hcN hf (by omega) e) (by omega) nof_167 rfl rfl rfl rfl (by first | rfl | (show cKB[_]? = _; assumption)) rfl ?_
            refine w_if_eq (tgt := 342) rfl (by first | assumption | exact i32_0 | (unfold i32 at *; omega)) rfl (fun c => absurd c (by decide)) (fun _ => ?_)
            refine w_iload rfl rfl (w_iload rfl rfl ?_)
            refine w_icmp_eq (tgt := 342) rfl (by first | assumption | exact i32_0 | (unfold i32 at *; omega)) (by first | assumption | exact i32_0 | (unfold i32 at *; omega)) rfl (fun c160 => ?_) (fun c160 => ?_)
            · skip
              refine w_iinc (ls2 := [_, _, _, _, _, _, _, _, _, _, _, _, _, _, _, _, _, _, _]) rfl rfl rfl (w_goto (tgt := 140) rfl rfl ?_)
              exact hgo _ _ _ _ _ _ _ _ _
            · skip
              exfalso; omega
        · have tr1 : (n : Int).tdiv 5 = pi n := rfl
          have tr2 : (n : Int).tmod 5 = pj n := rfl
          have br := pi_le (p := n) (by omega)
          have cr := pj_le n
          have vr := cv_le hf n
          have rr : N 156 (25 * (A : Int) + (n : Int)).toNat = cv f n := by rw [hix]; exact (hcN n hn25).trans (mv_some e)
          have rp := rp N hF
          have rq := rq N hF
          have x1 := m_cross (pi q - pi k) (pj q - pj k) (pi n - pi k) (pj n - pj k) N
          have x2 := m_cross (pi n - pi k) (pj n - pj k) (pi p - pi k) (pj p - pj k) N
          have x3 := m_cross (pi p - pi k) (pj p - pj k) (pi q - pi k) (pj q - pj k) N
          have x1 : E 1 190 [vI (pi q - pi k), vI (pj q - pj k), vI (pi n - pi k), vI (pj n - pj k)] N (some (vI (turn k q n))) N := x1
          have x2 : E 1 190 [vI (pi n - pi k), vI (pj n - pj k), vI (pi p - pi k), vI (pj p - pj k)] N (some (vI (turn k n p))) N := x2
          have x3 : E 1 190 [vI (pi p - pi k), vI (pj p - pj k), vI (pi q - pi k), vI (pj q - pj k)] N (some (vI (turn k p q))) N := x3
          have w1 := turn_le k (by omega) q hq n hn25
          have w2 := turn_le k (by omega) n hn25 p hp
          have hC : trC k p q n ↔ trA k p q n ≠ 0 ∧ ((0 ≤ turn k q n ∧ 0 ≤ turn k n p ∧ 0 ≤ turn k p q) ∨ (turn k q n ≤ 0 ∧ turn k n p ≤ 0 ∧ turn k p q ≤ 0)) := Iff.rfl
          have hAe : trA k p q n = turn k q n + turn k n p + turn k p q := rfl
          have hV : trV f k p q n = (720720 : Int).tdiv (trA k p q n) * (cv f p * turn k q n + cv f q * turn k n p + cv f n * turn k p q) := rfl
          have mm1 := mul_le (d := cv f p) (c := turn k q n) (A := 999) (B := 64) vp w1
          have mm2 := mul_le (d := cv f q) (c := turn k n p) (A := 999) (B := 64) vq w2
          have mm3 := mul_le (d := cv f n) (c := turn k p q) (A := 999) (B := 64) vr wpq
          have td := tdW_le (trA k p q n)
          have mm4 := mul_le (d := (720720 : Int).tdiv (trA k p q n)) (c := cv f p * turn k q n + cv f q * turn k n p + cv f n * turn k p q) (A := 720720) (B := 200000) td (by omega)
          have hbar := m_bars (x := (720720 : Int).tdiv (trA k p q n) * (cv f p * turn k q n + cv f q * turn k n p + cv f n * turn k p q)) hb (by omega)
          rw [← hV] at hbar mm4
          rw [hAe] at hV hC td
          have s1 := fun z => skip z
          have a1 := fun N2 o3 z1 z2 z3 z4 => add N2 o3 z1 z2 z3 e ek z4
          clear skip add
          generalize trV f k p q n = V at *
          generalize turn k q n = T1 at *
          generalize turn k n p = T2 at *
          generalize turn k p q = T3 at *
          generalize cv f p = c1 at *
          generalize cv f q = c2 at *
          generalize cv f n = c3 at *
          by_cases qc : trC k p q n
          · have a1 := fun N2 o3 z1 z2 z3 => a1 N2 o3 z1 z2 z3 qc
            have qc := hC.mp qc
            clear s1 hC
            refine w_iload rfl rfl (w_iconst rfl ?_)
            refine w_icmp_ge (tgt := 348) rfl (by first | assumption | exact i32_0 | (unfold i32 at *; omega)) (by first | assumption | exact i32_0 | (unfold i32 at *; omega)) rfl (fun c144 => ?_) (fun c144 => ?_)
            · skip
              exfalso; omega
            · skip
              refine w_aload rfl rfl (w_iload rfl rfl (w_iload rfl rfl ?_))
              refine w_call (Or.inr rfl) (m_has1 hA hcN hf (by omega) e) (by omega) nof_167 rfl rfl rfl rfl (by first | rfl | (show cKB[_]? = _; assumption)) rfl ?_
              refine w_if_eq (tgt := 342) rfl (by first | assumption | exact i32_0 | (unfold i32 at *; omega)) rfl (fun c => absurd c (by decide)) (fun _ => ?_)
              refine w_iload rfl rfl (w_iload rfl rfl ?_)
              refine w_icmp_eq (tgt := 342) rfl (by first | assumption | exact i32_0 | (unfold i32 at *; omega)) (by first | assumption | exact i32_0 | (unfold i32 at *; omega)) rfl (fun c160 => ?_) (fun c160 => ?_)
              · skip
                refine w_iinc (ls2 := [_, _, _, _, _, _, _, _, _, _, _, _, _, _, _, _, _, _, _]) rfl rfl rfl (w_goto (tgt := 140) rfl rfl ?_)
                first | exact a1 _ _ u1 u2 u3 _ _ _ _ _ _ _ _ _ | (exfalso; omega)
              · skip
                refine w_iload rfl rfl (w_iconst rfl (w_idiv rfl (by first | assumption | exact i32_0 | (unfold i32 at *; omega)) (by first | assumption | exact i32_0 | (unfold i32 at *; omega)) (by first | decide | omega | assumption) ?_))
                rw [tr1]
                refine w_iload rfl rfl (w_iconst rfl (w_idiv rfl (by first | assumption | exact i32_0 | (unfold i32 at *; omega)) (by first | assumption | exact i32_0 | (unfold i32 at *; omega)) (by first | decide | omega | assumption) ?_))
                rw [tk1]
                refine w_isub rfl (w_istore (ls2 := [_, _, _, _, _, _, _, _, _, _, _, _, _, _, _, _, _, _, _]) rfl rfl rfl (w_iload rfl rfl (w_iconst rfl (w_irem rfl (by first | assumption | exact i32_0 | (unfold i32 at *; omega)) (by first | assumption | exact i32_0 | (unfold i32 at *; omega)) (by first | decide | omega | assumption) ?_))))
                rw [tr2]
                refine w_iload rfl rfl (w_iconst rfl (w_irem rfl (by first | assumption | exact i32_0 | (unfold i32 at *; omega)) (by first | assumption | exact i32_0 | (unfold i32 at *; omega)) (by first | decide | omega | assumption) ?_))
                rw [tk2]
                refine w_isub rfl (w_istore (ls2 := [_, _, _, _, _, _, _, _, _, _, _, _, _, _, _, _, _, _, _]) rfl rfl rfl (w_iload rfl rfl (w_iload rfl rfl (w_iload rfl rfl (w_iload rfl rfl ?_)))))
                refine w_call (Or.inl rfl) ((x1)) (by omega) nof_190 rfl rfl rfl rfl trivial rfl ?_
                refine w_istore (ls2 := [_, _, _, _, _, _, _, _, _, _, _, _, _, _, _, _, _, _, _]) rfl rfl rfl (w_iload rfl rfl (w_iload rfl rfl (w_iload rfl rfl (w_iload rfl rfl ?_))))
                refine w_call (Or.inl rfl) ((x2)) (by omega) nof_190 rfl rfl rfl rfl trivial rfl ?_
                refine w_istore (ls2 := [_, _, _, _, _, _, _, _, _, _, _, _, _, _, _, _, _, _, _]) rfl rfl rfl (w_iload rfl rfl (w_iload rfl rfl (w_iload rfl rfl (w_iload rfl rfl ?_))))
                refine w_call (Or.inl rfl) ((x3)) (by omega) nof_190 rfl rfl rfl rfl trivial rfl ?_
                refine w_istore (ls2 := [_, _, _, _, _, _, _, _, _, _, _, _, _, _, _, _, _, _, _]) rfl rfl rfl (w_iload rfl rfl (w_iload rfl rfl (w_iadd rfl (w_iload rfl rfl (w_iadd rfl (w_istore (ls2 := [_, _, _, _, _, _, _, _, _, _, _, _, _, _, _, _, _, _, _]) rfl rfl rfl (w_iload rfl rfl ?_)))))))
                refine w_if_lt (tgt := 247) rfl (by first | assumption | exact i32_0 | (unfold i32 at *; omega)) rfl (fun c234 => ?_) (fun c234 => ?_)
                · skip
                  refine w_iload rfl rfl ?_
                  refine w_if_gt (tgt := 266) rfl (by first | assumption | exact i32_0 | (unfold i32 at *; omega)) rfl (fun c249 => ?_) (fun c249 => ?_)
                  · skip
                    exfalso; omega
                  · skip
                    refine w_iload rfl rfl ?_
                    refine w_if_gt (tgt := 266) rfl (by first | assumption | exact i32_0 | (unfold i32 at *; omega)) rfl (fun c254 => ?_) (fun c254 => ?_)
                    · skip
                      exfalso; omega
                    · skip
                      refine w_iload rfl rfl ?_
                      refine w_if_gt (tgt := 266) rfl (by first | assumption | exact i32_0 | (unfold i32 at *; omega)) rfl (fun c259 => ?_) (fun c259 => ?_)
                      · skip
                        exfalso; omega
                      · skip
                        refine w_iconst rfl (w_goto (tgt := 267) rfl rfl (w_istore (ls2 := [_, _, _, _, _, _, _, _, _, _, _, _, _, _, _, _, _, _, _]) rfl rfl rfl (w_iload rfl rfl ?_)))
                        refine w_if_eq (tgt := 342) rfl (by first | assumption | exact i32_0 | (unfold i32 at *; omega)) rfl (fun c271 => ?_) (fun c271 => ?_)
                        · skip
                          refine w_iinc (ls2 := [_, _, _, _, _, _, _, _, _, _, _, _, _, _, _, _, _, _, _]) rfl rfl rfl (w_goto (tgt := 140) rfl rfl ?_)
                          first | exact a1 _ _ u1 u2 u3 _ _ _ _ _ _ _ _ _ | (exfalso; omega)
                        · skip
                          refine w_iload rfl rfl ?_
                          refine w_if_eq (tgt := 342) rfl (by first | assumption | exact i32_0 | (unfold i32 at *; omega)) rfl (fun c276 => ?_) (fun c276 => ?_)
                          · skip
                            refine w_iinc (ls2 := [_, _, _, _, _, _, _, _, _, _, _, _, _, _, _, _, _, _, _]) rfl rfl rfl (w_goto (tgt := 140) rfl rfl ?_)
                            first | exact a1 _ _ u1 u2 u3 _ _ _ _ _ _ _ _ _ | (exfalso; omega)
                          · skip
                            refine w_lconst rfl (w_iload rfl rfl (w_i2l rfl (by first | assumption | exact i32_0 | (unfold i32 at *; omega)) (w_ldiv rfl (by first | assumption | exact i64_0 | (unfold i64 at *; omega)) (by first | assumption | exact i64_0 | (unfold i64 at *; omega)) (by first | decide | omega | assumption) (w_lstore (ls2 := [_, _, _, _, _, _, _, _, _, _, _, _, _, _, _, _, _, _, _]) rfl rfl rfl (w_aload rfl rfl (w_lload rfl rfl (w_aload rfl rfl ?_)))))))
                            refine w_getR rfl (by first | rfl | assumption) rfl (by first | rfl | assumption) (w_iconst rfl (w_iload rfl rfl (w_imul rfl (w_iload rfl rfl (w_iadd rfl (w_ialoadV rfl (by first | rfl | assumption) (by omega) (by omega) (rp) (w_iload rfl rfl ?_)))))))
                            refine w_imul rfl (w_aload rfl rfl (w_getR rfl (by first | rfl | assumption) rfl (by first | rfl | assumption) (w_iconst rfl (w_iload rfl rfl (w_imul rfl (w_iload rfl rfl (w_iadd rfl ?_)))))))
                            refine w_ialoadV rfl (by first | rfl | assumption) (by omega) (by omega) (rq) (w_iload rfl rfl (w_imul rfl (w_iadd rfl (w_aload rfl rfl (w_getR rfl (by first | rfl | assumption) rfl (by first | rfl | assumption) (w_iconst rfl (w_iload rfl rfl ?_)))))))
                            refine w_imul rfl (w_iload rfl rfl (w_iadd rfl (w_ialoadV rfl (by first | rfl | assumption) (by omega) (by omega) (rr) (w_iload rfl rfl (w_imul rfl (w_iadd rfl (w_i2l rfl (by first | assumption | exact i32_0 | (unfold i32 at *; omega)) ?_)))))))
                            refine w_lmul rfl ?_
                            rw [← hV]
                            refine w_callQ (Or.inr rfl) ((hbar)) (by omega) nof_226 rfl rfl rfl rfl (by first | rfl | (show cKB[_]? = _; assumption)) (fun r339 M339 hq339 => ?_)
                            obtain ⟨rfl, o3, u1, u2, u3⟩ := hq339
                            refine w_iinc (ls2 := [_, _, _, _, _, _, _, _, _, _, _, _, _, _, _, _, _, _, _]) rfl rfl rfl (w_goto (tgt := 140) rfl rfl ?_)
                            first | exact a1 _ _ u1 u2 u3 _ _ _ _ _ _ _ _ _ | (exfalso; omega)
                · skip
                  refine w_iload rfl rfl ?_
                  refine w_if_lt (tgt := 247) rfl (by first | assumption | exact i32_0 | (unfold i32 at *; omega)) rfl (fun c239 => ?_) (fun c239 => ?_)
                  · skip
                    refine w_iload rfl rfl ?_
                    refine w_if_gt (tgt := 266) rfl (by first | assumption | exact i32_0 | (unfold i32 at *; omega)) rfl (fun c249 => ?_) (fun c249 => ?_)
                    · skip
                      exfalso; omega
                    · skip
                      refine w_iload rfl rfl ?_
                      refine w_if_gt (tgt := 266) rfl (by first | assumption | exact i32_0 | (unfold i32 at *; omega)) rfl (fun c254 => ?_) (fun c254 => ?_)
                      · skip
                        exfalso; omega
                      · skip
                        refine w_iload rfl rfl ?_
                        refine w_if_gt (tgt := 266) rfl (by first | assumption | exact i32_0 | (unfold i32 at *; omega)) rfl (fun c259 => ?_) (fun c259 => ?_)
                        · skip
                          exfalso; omega
                        · skip
                          refine w_iconst rfl (w_goto (tgt := 267) rfl rfl (w_istore (ls2 := [_, _, _, _, _, _, _, _, _, _, _, _, _, _, _, _, _, _, _]) rfl rfl rfl (w_iload rfl rfl ?_)))
                          refine w_if_eq (tgt := 342) rfl (by first | assumption | exact i32_0 | (unfold i32 at *; omega)) rfl (fun c271 => ?_) (fun c271 => ?_)
                          · skip
                            refine w_iinc (ls2 := [_, _, _, _, _, _, _, _, _, _, _, _, _, _, _, _, _, _, _]) rfl rfl rfl (w_goto (tgt := 140) rfl rfl ?_)
                            first | exact a1 _ _ u1 u2 u3 _ _ _ _ _ _ _ _ _ | (exfalso; omega)
                          · skip
                            refine w_iload rfl rfl ?_
                            refine w_if_eq (tgt := 342) rfl (by first | assumption | exact i32_0 | (unfold i32 at *; omega)) rfl (fun c276 => ?_) (fun c276 => ?_)
                            · skip
                              refine w_iinc (ls2 := [_, _, _, _, _, _, _, _, _, _, _, _, _, _, _, _, _, _, _]) rfl rfl rfl (w_goto (tgt := 140) rfl rfl ?_)
                              first | exact a1 _ _ u1 u2 u3 _ _ _ _ _ _ _ _ _ | (exfalso; omega)
                            · skip
                              refine w_lconst rfl (w_iload rfl rfl (w_i2l rfl (by first | assumption | exact i32_0 | (unfold i32 at *; omega)) (w_ldiv rfl (by first | assumption | exact i64_0 | (unfold i64 at *; omega)) (by first | assumption | exact i64_0 | (unfold i64 at *; omega)) (by first | decide | omega | assumption) (w_lstore (ls2 := [_, _, _, _, _, _, _, _, _, _, _, _, _, _, _, _, _, _, _]) rfl rfl rfl (w_aload rfl rfl (w_lload rfl rfl (w_aload rfl rfl ?_)))))))
                              refine w_getR rfl (by first | rfl | assumption) rfl (by first | rfl | assumption) (w_iconst rfl (w_iload rfl rfl (w_imul rfl (w_iload rfl rfl (w_iadd rfl (w_ialoadV rfl (by first | rfl | assumption) (by omega) (by omega) (rp) (w_iload rfl rfl ?_)))))))
                              refine w_imul rfl (w_aload rfl rfl (w_getR rfl (by first | rfl | assumption) rfl (by first | rfl | assumption) (w_iconst rfl (w_iload rfl rfl (w_imul rfl (w_iload rfl rfl (w_iadd rfl ?_)))))))
                              refine w_ialoadV rfl (by first | rfl | assumption) (by omega) (by omega) (rq) (w_iload rfl rfl (w_imul rfl (w_iadd rfl (w_aload rfl rfl (w_getR rfl (by first | rfl | assumption) rfl (by first | rfl | assumption) (w_iconst rfl (w_iload rfl rfl ?_)))))))
                              refine w_imul rfl (w_iload rfl rfl (w_iadd rfl (w_ialoadV rfl (by first | rfl | assumption) (by omega) (by omega) (rr) (w_iload rfl rfl (w_imul rfl (w_iadd rfl (w_i2l rfl (by first | assumption | exact i32_0 | (unfold i32 at *; omega)) ?_)))))))
                              refine w_lmul rfl ?_
                              rw [← hV]
                              refine w_callQ (Or.inr rfl) ((hbar)) (by omega) nof_226 rfl rfl rfl rfl (by first | rfl | (show cKB[_]? = _; assumption)) (fun r339 M339 hq339 => ?_)
                              obtain ⟨rfl, o3, u1, u2, u3⟩ := hq339
                              refine w_iinc (ls2 := [_, _, _, _, _, _, _, _, _, _, _, _, _, _, _, _, _, _, _]) rfl rfl rfl (w_goto (tgt := 140) rfl rfl ?_)
                              first | exact a1 _ _ u1 u2 u3 _ _ _ _ _ _ _ _ _ | (exfalso; omega)
                  · skip
                    refine w_iload rfl rfl ?_
                    refine w_if_ge (tgt := 262) rfl (by first | assumption | exact i32_0 | (unfold i32 at *; omega)) rfl (fun c244 => ?_) (fun c244 => ?_)
                    · skip
                      refine w_iconst rfl (w_goto (tgt := 267) rfl rfl (w_istore (ls2 := [_, _, _, _, _, _, _, _, _, _, _, _, _, _, _, _, _, _, _]) rfl rfl rfl (w_iload rfl rfl ?_)))
                      refine w_if_eq (tgt := 342) rfl (by first | assumption | exact i32_0 | (unfold i32 at *; omega)) rfl (fun c271 => ?_) (fun c271 => ?_)
                      · skip
                        refine w_iinc (ls2 := [_, _, _, _, _, _, _, _, _, _, _, _, _, _, _, _, _, _, _]) rfl rfl rfl (w_goto (tgt := 140) rfl rfl ?_)
                        first | exact a1 _ _ u1 u2 u3 _ _ _ _ _ _ _ _ _ | (exfalso; omega)
                      · skip
                        refine w_iload rfl rfl ?_
                        refine w_if_eq (tgt := 342) rfl (by first | assumption | exact i32_0 | (unfold i32 at *; omega)) rfl (fun c276 => ?_) (fun c276 => ?_)
                        · skip
                          refine w_iinc (ls2 := [_, _, _, _, _, _, _, _, _, _, _, _, _, _, _, _, _, _, _]) rfl rfl rfl (w_goto (tgt := 140) rfl rfl ?_)
                          first | exact a1 _ _ u1 u2 u3 _ _ _ _ _ _ _ _ _ | (exfalso; omega)
                        · skip
                          refine w_lconst rfl (w_iload rfl rfl (w_i2l rfl (by first | assumption | exact i32_0 | (unfold i32 at *; omega)) (w_ldiv rfl (by first | assumption | exact i64_0 | (unfold i64 at *; omega)) (by first | assumption | exact i64_0 | (unfold i64 at *; omega)) (by first | decide | omega | assumption) (w_lstore (ls2 := [_, _, _, _, _, _, _, _, _, _, _, _, _, _, _, _, _, _, _]) rfl rfl rfl (w_aload rfl rfl (w_lload rfl rfl (w_aload rfl rfl ?_)))))))
                          refine w_getR rfl (by first | rfl | assumption) rfl (by first | rfl | assumption) (w_iconst rfl (w_iload rfl rfl (w_imul rfl (w_iload rfl rfl (w_iadd rfl (w_ialoadV rfl (by first | rfl | assumption) (by omega) (by omega) (rp) (w_iload rfl rfl ?_)))))))
                          refine w_imul rfl (w_aload rfl rfl (w_getR rfl (by first | rfl | assumption) rfl (by first | rfl | assumption) (w_iconst rfl (w_iload rfl rfl (w_imul rfl (w_iload rfl rfl (w_iadd rfl ?_)))))))
                          refine w_ialoadV rfl (by first | rfl | assumption) (by omega) (by omega) (rq) (w_iload rfl rfl (w_imul rfl (w_iadd rfl (w_aload rfl rfl (w_getR rfl (by first | rfl | assumption) rfl (by first | rfl | assumption) (w_iconst rfl (w_iload rfl rfl ?_)))))))
                          refine w_imul rfl (w_iload rfl rfl (w_iadd rfl (w_ialoadV rfl (by first | rfl | assumption) (by omega) (by omega) (rr) (w_iload rfl rfl (w_imul rfl (w_iadd rfl (w_i2l rfl (by first | assumption | exact i32_0 | (unfold i32 at *; omega)) ?_)))))))
                          refine w_lmul rfl ?_
                          rw [← hV]
                          refine w_callQ (Or.inr rfl) ((hbar)) (by omega) nof_226 rfl rfl rfl rfl (by first | rfl | (show cKB[_]? = _; assumption)) (fun r339 M339 hq339 => ?_)
                          obtain ⟨rfl, o3, u1, u2, u3⟩ := hq339
                          refine w_iinc (ls2 := [_, _, _, _, _, _, _, _, _, _, _, _, _, _, _, _, _, _, _]) rfl rfl rfl (w_goto (tgt := 140) rfl rfl ?_)
                          first | exact a1 _ _ u1 u2 u3 _ _ _ _ _ _ _ _ _ | (exfalso; omega)
                    · skip
                      refine w_iload rfl rfl ?_
                      refine w_if_gt (tgt := 266) rfl (by first | assumption | exact i32_0 | (unfold i32 at *; omega)) rfl (fun c249 => ?_) (fun c249 => ?_)
                      · skip
                        exfalso; omega
                      · skip
                        refine w_iload rfl rfl ?_
                        refine w_if_gt (tgt := 266) rfl (by first | assumption | exact i32_0 | (unfold i32 at *; omega)) rfl (fun c254 => ?_) (fun c254 => ?_)
                        · skip
                          exfalso; omega
                        · skip
                          refine w_iload rfl rfl ?_
                          refine w_if_gt (tgt := 266) rfl (by first | assumption | exact i32_0 | (unfold i32 at *; omega)) rfl (fun c259 => ?_) (fun c259 => ?_)
                          · skip
                            exfalso; omega
                          · skip
                            refine w_iconst rfl (w_goto (tgt := 267) rfl rfl (w_istore (ls2 := [_, _, _, _, _, _, _, _, _, _, _, _, _, _, _, _, _, _, _]) rfl rfl rfl (w_iload rfl rfl ?_)))
                            refine w_if_eq (tgt := 342) rfl (by first | assumption | exact i32_0 | (unfold i32 at *; omega)) rfl (fun c271 => ?_) (fun c271 => ?_)
                            · skip
                              refine w_iinc (ls2 := [_, _, _, _, _, _, _, _, _, _, _, _, _, _, _, _, _, _, _]) rfl rfl rfl (w_goto (tgt := 140) rfl rfl ?_)
                              first | exact a1 _ _ u1 u2 u3 _ _ _ _ _ _ _ _ _ | (exfalso; omega)
                            · skip
                              refine w_iload rfl rfl ?_
                              refine w_if_eq (tgt := 342) rfl (by first | assumption | exact i32_0 | (unfold i32 at *; omega)) rfl (fun c276 => ?_) (fun c276 => ?_)
                              · skip
                                refine w_iinc (ls2 := [_, _, _, _, _, _, _, _, _, _, _, _, _, _, _, _, _, _, _]) rfl rfl rfl (w_goto (tgt := 140) rfl rfl ?_)
                                first | exact a1 _ _ u1 u2 u3 _ _ _ _ _ _ _ _ _ | (exfalso; omega)
                              · skip
                                refine w_lconst rfl (w_iload rfl rfl (w_i2l rfl (by first | assumption | exact i32_0 | (unfold i32 at *; omega)) (w_ldiv rfl (by first | assumption | exact i64_0 | (unfold i64 at *; omega)) (by first | assumption | exact i64_0 | (unfold i64 at *; omega)) (by first | decide | omega | assumption) (w_lstore (ls2 := [_, _, _, _, _, _, _, _, _, _, _, _, _, _, _, _, _, _, _]) rfl rfl rfl (w_aload rfl rfl (w_lload rfl rfl (w_aload rfl rfl ?_)))))))
                                refine w_getR rfl (by first | rfl | assumption) rfl (by first | rfl | assumption) (w_iconst rfl (w_iload rfl rfl (w_imul rfl (w_iload rfl rfl (w_iadd rfl (w_ialoadV rfl (by first | rfl | assumption) (by omega) (by omega) (rp) (w_iload rfl rfl ?_)))))))
                                refine w_imul rfl (w_aload rfl rfl (w_getR rfl (by first | rfl | assumption) rfl (by first | rfl | assumption) (w_iconst rfl (w_iload rfl rfl (w_imul rfl (w_iload rfl rfl (w_iadd rfl ?_)))))))
                                refine w_ialoadV rfl (by first | rfl | assumption) (by omega) (by omega) (rq) (w_iload rfl rfl (w_imul rfl (w_iadd rfl (w_aload rfl rfl (w_getR rfl (by first | rfl | assumption) rfl (by first | rfl | assumption) (w_iconst rfl (w_iload rfl rfl ?_)))))))
                                refine w_imul rfl (w_iload rfl rfl (w_iadd rfl (w_ialoadV rfl (by first | rfl | assumption) (by omega) (by omega) (rr) (w_iload rfl rfl (w_imul rfl (w_iadd rfl (w_i2l rfl (by first | assumption | exact i32_0 | (unfold i32 at *; omega)) ?_)))))))
                                refine w_lmul rfl ?_
                                rw [← hV]
                                refine w_callQ (Or.inr rfl) ((hbar)) (by omega) nof_226 rfl rfl rfl rfl (by first | rfl | (show cKB[_]? = _; assumption)) (fun r339 M339 hq339 => ?_)
                                obtain ⟨rfl, o3, u1, u2, u3⟩ := hq339
                                refine w_iinc (ls2 := [_, _, _, _, _, _, _, _, _, _, _, _, _, _, _, _, _, _, _]) rfl rfl rfl (w_goto (tgt := 140) rfl rfl ?_)
                                first | exact a1 _ _ u1 u2 u3 _ _ _ _ _ _ _ _ _ | (exfalso; omega)
          · have s1 := s1 (fun z => qc z.2.2)
            have qc : ¬ (T1 + T2 + T3 ≠ 0 ∧ ((0 ≤ T1 ∧ 0 ≤ T2 ∧ 0 ≤ T3) ∨ (T1 ≤ 0 ∧ T2 ≤ 0 ∧ T3 ≤ 0))) := fun z => qc (hC.mpr z)
            clear a1 hC hbar
            refine w_iload rfl rfl (w_iconst rfl ?_)
            refine w_icmp_ge (tgt := 348) rfl (by first | assumption | exact i32_0 | (unfold i32 at *; omega)) (by first | assumption | exact i32_0 | (unfold i32 at *; omega)) rfl (fun c144 => ?_) (fun c144 => ?_)
            · skip
              exfalso; omega
            · skip
              refine w_aload rfl rfl (w_iload rfl rfl (w_iload rfl rfl ?_))
              refine w_call (Or.inr rfl) (m_has1 hA hcN hf (by omega) e) (by omega) nof_167 rfl rfl rfl rfl (by first | rfl | (show cKB[_]? = _; assumption)) rfl ?_
              refine w_if_eq (tgt := 342) rfl (by first | assumption | exact i32_0 | (unfold i32 at *; omega)) rfl (fun c => absurd c (by decide)) (fun _ => ?_)
              refine w_iload rfl rfl (w_iload rfl rfl ?_)
              refine w_icmp_eq (tgt := 342) rfl (by first | assumption | exact i32_0 | (unfold i32 at *; omega)) (by first | assumption | exact i32_0 | (unfold i32 at *; omega)) rfl (fun c160 => ?_) (fun c160 => ?_)
              · skip
                refine w_iinc (ls2 := [_, _, _, _, _, _, _, _, _, _, _, _, _, _, _, _, _, _, _]) rfl rfl rfl (w_goto (tgt := 140) rfl rfl ?_)
                exact s1 _ _ _ _ _ _ _ _ _
              · skip
                refine w_iload rfl rfl (w_iconst rfl (w_idiv rfl (by first | assumption | exact i32_0 | (unfold i32 at *; omega)) (by first | assumption | exact i32_0 | (unfold i32 at *; omega)) (by first | decide | omega | assumption) ?_))
                rw [tr1]
                refine w_iload rfl rfl (w_iconst rfl (w_idiv rfl (by first | assumption | exact i32_0 | (unfold i32 at *; omega)) (by first | assumption | exact i32_0 | (unfold i32 at *; omega)) (by first | decide | omega | assumption) ?_))
                rw [tk1]
                refine w_isub rfl (w_istore (ls2 := [_, _, _, _, _, _, _, _, _, _, _, _, _, _, _, _, _, _, _]) rfl rfl rfl (w_iload rfl rfl (w_iconst rfl (w_irem rfl (by first | assumption | exact i32_0 | (unfold i32 at *; omega)) (by first | assumption | exact i32_0 | (unfold i32 at *; omega)) (by first | decide | omega | assumption) ?_))))
                rw [tr2]
                refine w_iload rfl rfl (w_iconst rfl (w_irem rfl (by first | assumption | exact i32_0 | (unfold i32 at *; omega)) (by first | assumption | exact i32_0 | (unfold i32 at *; omega)) (by first | decide | omega | assumption) ?_))
                rw [tk2]
                refine w_isub rfl (w_istore (ls2 := [_, _, _, _, _, _, _, _, _, _, _, _, _, _, _, _, _, _, _]) rfl rfl rfl (w_iload rfl rfl (w_iload rfl rfl (w_iload rfl rfl (w_iload rfl rfl ?_)))))
                refine w_call (Or.inl rfl) ((x1)) (by omega) nof_190 rfl rfl rfl rfl trivial rfl ?_
                refine w_istore (ls2 := [_, _, _, _, _, _, _, _, _, _, _, _, _, _, _, _, _, _, _]) rfl rfl rfl (w_iload rfl rfl (w_iload rfl rfl (w_iload rfl rfl (w_iload rfl rfl ?_))))
                refine w_call (Or.inl rfl) ((x2)) (by omega) nof_190 rfl rfl rfl rfl trivial rfl ?_
                refine w_istore (ls2 := [_, _, _, _, _, _, _, _, _, _, _, _, _, _, _, _, _, _, _]) rfl rfl rfl (w_iload rfl rfl (w_iload rfl rfl (w_iload rfl rfl (w_iload rfl rfl ?_))))
                refine w_call (Or.inl rfl) ((x3)) (by omega) nof_190 rfl rfl rfl rfl trivial rfl ?_
                refine w_istore (ls2 := [_, _, _, _, _, _, _, _, _, _, _, _, _, _, _, _, _, _, _]) rfl rfl rfl (w_iload rfl rfl (w_iload rfl rfl (w_iadd rfl (w_iload rfl rfl (w_iadd rfl (w_istore (ls2 := [_, _, _, _, _, _, _, _, _, _, _, _, _, _, _, _, _, _, _]) rfl rfl rfl (w_iload rfl rfl ?_)))))))
                refine w_if_lt (tgt := 247) rfl (by first | assumption | exact i32_0 | (unfold i32 at *; omega)) rfl (fun c234 => ?_) (fun c234 => ?_)
                · skip
                  refine w_iload rfl rfl ?_
                  refine w_if_gt (tgt := 266) rfl (by first | assumption | exact i32_0 | (unfold i32 at *; omega)) rfl (fun c249 => ?_) (fun c249 => ?_)
                  · skip
                    refine w_iconst rfl (w_istore (ls2 := [_, _, _, _, _, _, _, _, _, _, _, _, _, _, _, _, _, _, _]) rfl rfl rfl (w_iload rfl rfl ?_))
                    refine w_if_eq (tgt := 342) rfl (by first | assumption | exact i32_0 | (unfold i32 at *; omega)) rfl (fun c271 => ?_) (fun c271 => ?_)
                    · skip
                      refine w_iinc (ls2 := [_, _, _, _, _, _, _, _, _, _, _, _, _, _, _, _, _, _, _]) rfl rfl rfl (w_goto (tgt := 140) rfl rfl ?_)
                      exact s1 _ _ _ _ _ _ _ _ _
                    · skip
                      refine w_iload rfl rfl ?_
                      refine w_if_eq (tgt := 342) rfl (by first | assumption | exact i32_0 | (unfold i32 at *; omega)) rfl (fun c276 => ?_) (fun c276 => ?_)
                      · skip
                        refine w_iinc (ls2 := [_, _, _, _, _, _, _, _, _, _, _, _, _, _, _, _, _, _, _]) rfl rfl rfl (w_goto (tgt := 140) rfl rfl ?_)
                        exact s1 _ _ _ _ _ _ _ _ _
                      · skip
                        exfalso; omega
                  · skip
                    refine w_iload rfl rfl ?_
                    refine w_if_gt (tgt := 266) rfl (by first | assumption | exact i32_0 | (unfold i32 at *; omega)) rfl (fun c254 => ?_) (fun c254 => ?_)
                    · skip
                      refine w_iconst rfl (w_istore (ls2 := [_, _, _, _, _, _, _, _, _, _, _, _, _, _, _, _, _, _, _]) rfl rfl rfl (w_iload rfl rfl ?_))
                      refine w_if_eq (tgt := 342) rfl (by first | assumption | exact i32_0 | (unfold i32 at *; omega)) rfl (fun c271 => ?_) (fun c271 => ?_)
                      · skip
                        refine w_iinc (ls2 := [_, _, _, _, _, _, _, _, _, _, _, _, _, _, _, _, _, _, _]) rfl rfl rfl (w_goto (tgt := 140) rfl rfl ?_)
                        exact s1 _ _ _ _ _ _ _ _ _
                      · skip
                        refine w_iload rfl rfl ?_
                        refine w_if_eq (tgt := 342) rfl (by first | assumption | exact i32_0 | (unfold i32 at *; omega)) rfl (fun c276 => ?_) (fun c276 => ?_)
                        · skip
                          refine w_iinc (ls2 := [_, _, _, _, _, _, _, _, _, _, _, _, _, _, _, _, _, _, _]) rfl rfl rfl (w_goto (tgt := 140) rfl rfl ?_)
                          exact s1 _ _ _ _ _ _ _ _ _
                        · skip
                          exfalso; omega
                    · skip
                      refine w_iload rfl rfl ?_
                      refine w_if_gt (tgt := 266) rfl (by first | assumption | exact i32_0 | (unfold i32 at *; omega)) rfl (fun c259 => ?_) (fun c259 => ?_)
                      · skip
                        refine w_iconst rfl (w_istore (ls2 := [_, _, _, _, _, _, _, _, _, _, _, _, _, _, _, _, _, _, _]) rfl rfl rfl (w_iload rfl rfl ?_))
                        refine w_if_eq (tgt := 342) rfl (by first | assumption | exact i32_0 | (unfold i32 at *; omega)) rfl (fun c271 => ?_) (fun c271 => ?_)
                        · skip
                          refine w_iinc (ls2 := [_, _, _, _, _, _, _, _, _, _, _, _, _, _, _, _, _, _, _]) rfl rfl rfl (w_goto (tgt := 140) rfl rfl ?_)
                          exact s1 _ _ _ _ _ _ _ _ _
                        · skip
                          refine w_iload rfl rfl ?_
                          refine w_if_eq (tgt := 342) rfl (by first | assumption | exact i32_0 | (unfold i32 at *; omega)) rfl (fun c276 => ?_) (fun c276 => ?_)
                          · skip
                            refine w_iinc (ls2 := [_, _, _, _, _, _, _, _, _, _, _, _, _, _, _, _, _, _, _]) rfl rfl rfl (w_goto (tgt := 140) rfl rfl ?_)
                            exact s1 _ _ _ _ _ _ _ _ _
                          · skip
                            exfalso; omega
                      · skip
                        refine w_iconst rfl (w_goto (tgt := 267) rfl rfl (w_istore (ls2 := [_, _, _, _, _, _, _, _, _, _, _, _, _, _, _, _, _, _, _]) rfl rfl rfl (w_iload rfl rfl ?_)))
                        refine w_if_eq (tgt := 342) rfl (by first | assumption | exact i32_0 | (unfold i32 at *; omega)) rfl (fun c271 => ?_) (fun c271 => ?_)
                        · skip
                          refine w_iinc (ls2 := [_, _, _, _, _, _, _, _, _, _, _, _, _, _, _, _, _, _, _]) rfl rfl rfl (w_goto (tgt := 140) rfl rfl ?_)
                          exact s1 _ _ _ _ _ _ _ _ _
                        · skip
                          refine w_iload rfl rfl ?_
                          refine w_if_eq (tgt := 342) rfl (by first | assumption | exact i32_0 | (unfold i32 at *; omega)) rfl (fun c276 => ?_) (fun c276 => ?_)
                          · skip
                            refine w_iinc (ls2 := [_, _, _, _, _, _, _, _, _, _, _, _, _, _, _, _, _, _, _]) rfl rfl rfl (w_goto (tgt := 140) rfl rfl ?_)
                            exact s1 _ _ _ _ _ _ _ _ _
                          · skip
                            exfalso; omega
                · skip
                  refine w_iload rfl rfl ?_
                  refine w_if_lt (tgt := 247) rfl (by first | assumption | exact i32_0 | (unfold i32 at *; omega)) rfl (fun c239 => ?_) (fun c239 => ?_)
                  · skip
                    refine w_iload rfl rfl ?_
                    refine w_if_gt (tgt := 266) rfl (by first | assumption | exact i32_0 | (unfold i32 at *; omega)) rfl (fun c249 => ?_) (fun c249 => ?_)
                    · skip
                      refine w_iconst rfl (w_istore (ls2 := [_, _, _, _, _, _, _, _, _, _, _, _, _, _, _, _, _, _, _]) rfl rfl rfl (w_iload rfl rfl ?_))
                      refine w_if_eq (tgt := 342) rfl (by first | assumption | exact i32_0 | (unfold i32 at *; omega)) rfl (fun c271 => ?_) (fun c271 => ?_)
                      · skip
                        refine w_iinc (ls2 := [_, _, _, _, _, _, _, _, _, _, _, _, _, _, _, _, _, _, _]) rfl rfl rfl (w_goto (tgt := 140) rfl rfl ?_)
                        exact s1 _ _ _ _ _ _ _ _ _
                      · skip
                        refine w_iload rfl rfl ?_
                        refine w_if_eq (tgt := 342) rfl (by first | assumption | exact i32_0 | (unfold i32 at *; omega)) rfl (fun c276 => ?_) (fun c276 => ?_)
                        · skip
                          refine w_iinc (ls2 := [_, _, _, _, _, _, _, _, _, _, _, _, _, _, _, _, _, _, _]) rfl rfl rfl (w_goto (tgt := 140) rfl rfl ?_)
                          exact s1 _ _ _ _ _ _ _ _ _
                        · skip
                          exfalso; omega
                    · skip
                      refine w_iload rfl rfl ?_
                      refine w_if_gt (tgt := 266) rfl (by first | assumption | exact i32_0 | (unfold i32 at *; omega)) rfl (fun c254 => ?_) (fun c254 => ?_)
                      · skip
                        refine w_iconst rfl (w_istore (ls2 := [_, _, _, _, _, _, _, _, _, _, _, _, _, _, _, _, _, _, _]) rfl rfl rfl (w_iload rfl rfl ?_))
                        refine w_if_eq (tgt := 342) rfl (by first | assumption | exact i32_0 | (unfold i32 at *; omega)) rfl (fun c271 => ?_) (fun c271 => ?_)
                        · skip
                          refine w_iinc (ls2 := [_, _, _, _, _, _, _, _, _, _, _, _, _, _, _, _, _, _, _]) rfl rfl rfl (w_goto (tgt := 140) rfl rfl ?_)
                          exact s1 _ _ _ _ _ _ _ _ _
                        · skip
                          refine w_iload rfl rfl ?_
                          refine w_if_eq (tgt := 342) rfl (by first | assumption | exact i32_0 | (unfold i32 at *; omega)) rfl (fun c276 => ?_) (fun c276 => ?_)
                          · skip
                            refine w_iinc (ls2 := [_, _, _, _, _, _, _, _, _, _, _, _, _, _, _, _, _, _, _]) rfl rfl rfl (w_goto (tgt := 140) rfl rfl ?_)
                            exact s1 _ _ _ _ _ _ _ _ _
                          · skip
                            exfalso; omega
                      · skip
                        refine w_iload rfl rfl ?_
                        refine w_if_gt (tgt := 266) rfl (by first | assumption | exact i32_0 | (unfold i32 at *; omega)) rfl (fun c259 => ?_) (fun c259 => ?_)
                        · skip
                          refine w_iconst rfl (w_istore (ls2 := [_, _, _, _, _, _, _, _, _, _, _, _, _, _, _, _, _, _, _]) rfl rfl rfl (w_iload rfl rfl ?_))
                          refine w_if_eq (tgt := 342) rfl (by first | assumption | exact i32_0 | (unfold i32 at *; omega)) rfl (fun c271 => ?_) (fun c271 => ?_)
                          · skip
                            refine w_iinc (ls2 := [_, _, _, _, _, _, _, _, _, _, _, _, _, _, _, _, _, _, _]) rfl rfl rfl (w_goto (tgt := 140) rfl rfl ?_)
                            exact s1 _ _ _ _ _ _ _ _ _
                          · skip
                            refine w_iload rfl rfl ?_
                            refine w_if_eq (tgt := 342) rfl (by first | assumption | exact i32_0 | (unfold i32 at *; omega)) rfl (fun c276 => ?_) (fun c276 => ?_)
                            · skip
                              refine w_iinc (ls2 := [_, _, _, _, _, _, _, _, _, _, _, _, _, _, _, _, _, _, _]) rfl rfl rfl (w_goto (tgt := 140) rfl rfl ?_)
                              exact s1 _ _ _ _ _ _ _ _ _
                            · skip
                              exfalso; omega
                        · skip
                          refine w_iconst rfl (w_goto (tgt := 267) rfl rfl (w_istore (ls2 := [_, _, _, _, _, _, _, _, _, _, _, _, _, _, _, _, _, _, _]) rfl rfl rfl (w_iload rfl rfl ?_)))
                          refine w_if_eq (tgt := 342) rfl (by first | assumption | exact i32_0 | (unfold i32 at *; omega)) rfl (fun c271 => ?_) (fun c271 => ?_)
                          · skip
                            refine w_iinc (ls2 := [_, _, _, _, _, _, _, _, _, _, _, _, _, _, _, _, _, _, _]) rfl rfl rfl (w_goto (tgt := 140) rfl rfl ?_)
                            exact s1 _ _ _ _ _ _ _ _ _
                          · skip
                            refine w_iload rfl rfl ?_
                            refine w_if_eq (tgt := 342) rfl (by first | assumption | exact i32_0 | (unfold i32 at *; omega)) rfl (fun c276 => ?_) (fun c276 => ?_)
                            · skip
                              refine w_iinc (ls2 := [_, _, _, _, _, _, _, _, _, _, _, _, _, _, _, _, _, _, _]) rfl rfl rfl (w_goto (tgt := 140) rfl rfl ?_)
                              exact s1 _ _ _ _ _ _ _ _ _
                            · skip
                              exfalso; omega
                  · skip
                    refine w_iload rfl rfl ?_
                    refine w_if_ge (tgt := 262) rfl (by first | assumption | exact i32_0 | (unfold i32 at *; omega)) rfl (fun c244 => ?_) (fun c244 => ?_)
                    · skip
                      refine w_iconst rfl (w_goto (tgt := 267) rfl rfl (w_istore (ls2 := [_, _, _, _, _, _, _, _, _, _, _, _, _, _, _, _, _, _, _]) rfl rfl rfl (w_iload rfl rfl ?_)))
                      refine w_if_eq (tgt := 342) rfl (by first | assumption | exact i32_0 | (unfold i32 at *; omega)) rfl (fun c271 => ?_) (fun c271 => ?_)
                      · skip
                        refine w_iinc (ls2 := [_, _, _, _, _, _, _, _, _, _, _, _, _, _, _, _, _, _, _]) rfl rfl rfl (w_goto (tgt := 140) rfl rfl ?_)
                        exact s1 _ _ _ _ _ _ _ _ _
                      · skip
                        refine w_iload rfl rfl ?_
                        refine w_if_eq (tgt := 342) rfl (by first | assumption | exact i32_0 | (unfold i32 at *; omega)) rfl (fun c276 => ?_) (fun c276 => ?_)
                        · skip
                          refine w_iinc (ls2 := [_, _, _, _, _, _, _, _, _, _, _, _, _, _, _, _, _, _, _]) rfl rfl rfl (w_goto (tgt := 140) rfl rfl ?_)
                          exact s1 _ _ _ _ _ _ _ _ _
                        · skip
                          exfalso; omega
                    · skip
                      refine w_iload rfl rfl ?_
                      refine w_if_gt (tgt := 266) rfl (by first | assumption | exact i32_0 | (unfold i32 at *; omega)) rfl (fun c249 => ?_) (fun c249 => ?_)
                      · skip
                        refine w_iconst rfl (w_istore (ls2 := [_, _, _, _, _, _, _, _, _, _, _, _, _, _, _, _, _, _, _]) rfl rfl rfl (w_iload rfl rfl ?_))
                        refine w_if_eq (tgt := 342) rfl (by first | assumption | exact i32_0 | (unfold i32 at *; omega)) rfl (fun c271 => ?_) (fun c271 => ?_)
                        · skip
                          refine w_iinc (ls2 := [_, _, _, _, _, _, _, _, _, _, _, _, _, _, _, _, _, _, _]) rfl rfl rfl (w_goto (tgt := 140) rfl rfl ?_)
                          exact s1 _ _ _ _ _ _ _ _ _
                        · skip
                          refine w_iload rfl rfl ?_
                          refine w_if_eq (tgt := 342) rfl (by first | assumption | exact i32_0 | (unfold i32 at *; omega)) rfl (fun c276 => ?_) (fun c276 => ?_)
                          · skip
                            refine w_iinc (ls2 := [_, _, _, _, _, _, _, _, _, _, _, _, _, _, _, _, _, _, _]) rfl rfl rfl (w_goto (tgt := 140) rfl rfl ?_)
                            exact s1 _ _ _ _ _ _ _ _ _
                          · skip
                            exfalso; omega
                      · skip
                        refine w_iload rfl rfl ?_
                        refine w_if_gt (tgt := 266) rfl (by first | assumption | exact i32_0 | (unfold i32 at *; omega)) rfl (fun c254 => ?_) (fun c254 => ?_)
                        · skip
                          refine w_iconst rfl (w_istore (ls2 := [_, _, _, _, _, _, _, _, _, _, _, _, _, _, _, _, _, _, _]) rfl rfl rfl (w_iload rfl rfl ?_))
                          refine w_if_eq (tgt := 342) rfl (by first | assumption | exact i32_0 | (unfold i32 at *; omega)) rfl (fun c271 => ?_) (fun c271 => ?_)
                          · skip
                            refine w_iinc (ls2 := [_, _, _, _, _, _, _, _, _, _, _, _, _, _, _, _, _, _, _]) rfl rfl rfl (w_goto (tgt := 140) rfl rfl ?_)
                            exact s1 _ _ _ _ _ _ _ _ _
                          · skip
                            refine w_iload rfl rfl ?_
                            refine w_if_eq (tgt := 342) rfl (by first | assumption | exact i32_0 | (unfold i32 at *; omega)) rfl (fun c276 => ?_) (fun c276 => ?_)
                            · skip
                              refine w_iinc (ls2 := [_, _, _, _, _, _, _, _, _, _, _, _, _, _, _, _, _, _, _]) rfl rfl rfl (w_goto (tgt := 140) rfl rfl ?_)
                              exact s1 _ _ _ _ _ _ _ _ _
                            · skip
                              exfalso; omega
                        · skip
                          refine w_iload rfl rfl ?_
                          refine w_if_gt (tgt := 266) rfl (by first | assumption | exact i32_0 | (unfold i32 at *; omega)) rfl (fun c259 => ?_) (fun c259 => ?_)
                          · skip
                            refine w_iconst rfl (w_istore (ls2 := [_, _, _, _, _, _, _, _, _, _, _, _, _, _, _, _, _, _, _]) rfl rfl rfl (w_iload rfl rfl ?_))
                            refine w_if_eq (tgt := 342) rfl (by first | assumption | exact i32_0 | (unfold i32 at *; omega)) rfl (fun c271 => ?_) (fun c271 => ?_)
                            · skip
                              refine w_iinc (ls2 := [_, _, _, _, _, _, _, _, _, _, _, _, _, _, _, _, _, _, _]) rfl rfl rfl (w_goto (tgt := 140) rfl rfl ?_)
                              exact s1 _ _ _ _ _ _ _ _ _
                            · skip
                              refine w_iload rfl rfl ?_
                              refine w_if_eq (tgt := 342) rfl (by first | assumption | exact i32_0 | (unfold i32 at *; omega)) rfl (fun c276 => ?_) (fun c276 => ?_)
                              · skip
                                refine w_iinc (ls2 := [_, _, _, _, _, _, _, _, _, _, _, _, _, _, _, _, _, _, _]) rfl rfl rfl (w_goto (tgt := 140) rfl rfl ?_)
                                exact s1 _ _ _ _ _ _ _ _ _
                              · skip
                                exfalso; omega
                          · skip
                            refine w_iconst rfl (w_goto (tgt := 267) rfl rfl (w_istore (ls2 := [_, _, _, _, _, _, _, _, _, _, _, _, _, _, _, _, _, _, _]) rfl rfl rfl (w_iload rfl rfl ?_)))
                            refine w_if_eq (tgt := 342) rfl (by first | assumption | exact i32_0 | (unfold i32 at *; omega)) rfl (fun c271 => ?_) (fun c271 => ?_)
                            · skip
                              refine w_iinc (ls2 := [_, _, _, _, _, _, _, _, _, _, _, _, _, _, _, _, _, _, _]) rfl rfl rfl (w_goto (tgt := 140) rfl rfl ?_)
                              exact s1 _ _ _ _ _ _ _ _ _
                            · skip
                              refine w_iload rfl rfl ?_
                              refine w_if_eq (tgt := 342) rfl (by first | assumption | exact i32_0 | (unfold i32 at *; omega)) rfl (fun c276 => ?_) (fun c276 => ?_)
                              · skip
                                refine w_iinc (ls2 := [_, _, _, _, _, _, _, _, _, _, _, _, _, _, _, _, _, _, _]) rfl rfl rfl (w_goto (tgt := 140) rfl rfl ?_)
                                exact s1 _ _ _ _ _ _ _ _ _
                              · skip
                                exfalso; omega
  have p2 : ∀ (N : mM) (o2 : Option Int) (w9 w10 w11 w12 w13 w14 w15 w16 w17 w18 : mV), baR o2 N → brF M N → (∀ c, loO o2 c ↔ loO o c ∧ (sgC k p q → c * 720720 < sgV f k p q)) → Wp mc_225 D 134 [vR 155, vI A, vI k, vI p, vI q, vI (pi p - pi k), vI (pj p - pj k), vI (pi q - pi k), vI (pj q - pj k), w9, w10, w11, w12, w13, w14, w15, w16, w17, w18] [] N Post := by
    intro N o2 w9 w10 w11 w12 w13 w14 w15 w16 w17 w18 hb hF hI
    have hgo := fun w10 w11 w12 w13 w14 w15 w16 w17 w18 => loop (25 - (q + 1)) (q + 1) N o2 w10 w11 w12 w13 w14 w15 w16 w17 w18 rfl (by omega) (by omega) hb hF (fun c => by
      rw [hI c]
      constructor
      · rintro ⟨a1, a2⟩
        exact ⟨a1, a2, fun r r1 r2 => by omega⟩
      · rintro ⟨a1, a2, -⟩
        exact ⟨a1, a2⟩)
    clear loop hPost hI
    refine w_iload rfl rfl (w_iconst rfl (w_iadd rfl (w_istore (ls2 := [_, _, _, _, _, _, _, _, _, _, _, _, _, _, _, _, _, _, _]) rfl rfl rfl ?_)))
    exact hgo _ _ _ _ _ _ _ _ _
  clear loop hPost
  have x3 := m_cross (pi p - pi k) (pj p - pj k) (pi q - pi k) (pj q - pj k) M
  have x3 : E 1 190 [vI (pi p - pi k), vI (pj p - pj k), vI (pi q - pi k), vI (pj q - pj k)] M (some (vI (turn k p q))) M := x3
  have dv1 := m_divisor (pi p - pi k) (pj p - pj k) M (by omega) (by omega)
  have dv2 := m_divisor (pi q - pi k) (pj q - pj k) M (by omega) (by omega)
  have dv1 : E 1 195 [vI (pi p - pi k), vI (pj p - pj k)] M (some (vI (lnG k p : Int))) M := dv1
  have dv2 : E 1 195 [vI (pi q - pi k), vI (pj q - pj k)] M (some (vI (lnG k q : Int))) M := dv2
  have hg0 : 0 < lnG k p := by
    rcases Nat.eq_zero_or_pos (lnG k p) with z | z
    · exfalso
      unfold lnG at z
      have z1 := Nat.eq_zero_of_gcd_eq_zero_left z
      have z2 := Nat.eq_zero_of_gcd_eq_zero_right z
      unfold pi at z1
      unfold pj at z2
      omega
    · exact z
  have hdot : (pi p - pi k) * (pi q - pi k) + (pj p - pj k) * (pj q - pj k) = dotP k p q := rfl
  have dm1 := mul_le (d := pi p - pi k) (c := pi q - pi k) (A := 4) (B := 4) (by omega) (by omega)
  have dm2 := mul_le (d := pj p - pj k) (c := pj q - pj k) (A := 4) (B := 4) (by omega) (by omega)
  have hsg : sgV f k p q = (720720 : Int).tdiv ((lnG k p : Int) + (lnG k q : Int)) * (cv f p * (lnG k q : Int) + cv f q * (lnG k p : Int)) := rfl
  have mm1 := mul_le (d := cv f p) (c := (lnG k q : Int)) (A := 999) (B := 8) vp (by omega)
  have mm2 := mul_le (d := cv f q) (c := (lnG k p : Int)) (A := 999) (B := 8) vq (by omega)
  have td := tdW_le ((lnG k p : Int) + (lnG k q : Int))
  have mm4 := mul_le (d := (720720 : Int).tdiv ((lnG k p : Int) + (lnG k q : Int))) (c := cv f p * (lnG k q : Int) + cv f q * (lnG k p : Int)) (A := 720720) (B := 20000) td (by omega)
  rw [← hsg] at mm4
  have hbar := m_bars (x := sgV f k p q) h (by omega)
  have rp := rp M (brF_rfl M)
  have rq := rq M (brF_rfl M)
  have hC : sgC k p q ↔ turn k p q = 0 ∧ dotP k p q < 0 := Iff.rfl
  have q1 := fun N o2 b1 b2 b3 w9 w10 w11 w12 w13 w14 w15 w16 w17 w18 => p2 N o2 w9 w10 w11 w12 w13 w14 w15 w16 w17 w18 b1 b2 b3
  clear p2 hrow hix
  generalize sgV f k p q = V at *
  generalize hT : turn k p q = T at *
  generalize lnG k p = g1 at *
  generalize lnG k q = g2 at *
  generalize cv f p = c1 at *
  generalize cv f q = c2 at *
  by_cases qc : sgC k p q
  · have qd := hC.mp qc
    have q1 := fun N o2 b1 b2 (b3 : ∀ c, loO o2 c ↔ loO o c ∧ c * 720720 < V) => q1 N o2 b1 b2 (fun c => by rw [b3 c]; exact ⟨fun z => ⟨z.1, fun _ => z.2⟩, fun z => ⟨z.1, z.2 qc⟩⟩)
    clear hC qc
    generalize dotP k p q = dp at *
    refine w_iload rfl rfl (w_iconst rfl (w_idiv rfl (by first | assumption | exact i32_0 | (unfold i32 at *; omega)) (by first | assumption | exact i32_0 | (unfold i32 at *; omega)) (by first | decide | omega | assumption) ?_))
    rw [tp1]
    refine w_iload rfl rfl (w_iconst rfl (w_idiv rfl (by first | assumption | exact i32_0 | (unfold i32 at *; omega)) (by first | assumption | exact i32_0 | (unfold i32 at *; omega)) (by first | decide | omega | assumption) ?_))
    rw [tk1]
    refine w_isub rfl (w_istore (ls2 := [_, _, _, _, _, _, _, _, _, _, _, _, _, _, _, _, _, _, _]) rfl rfl rfl (w_iload rfl rfl (w_iconst rfl (w_irem rfl (by first | assumption | exact i32_0 | (unfold i32 at *; omega)) (by first | assumption | exact i32_0 | (unfold i32 at *; omega)) (by first | decide | omega | assumption) ?_))))
    rw [tp2]
    refine w_iload rfl rfl (w_iconst rfl (w_irem rfl (by first | assumption | exact i32_0 | (unfold i32 at *; omega)) (by first | assumption | exact i32_0 | (unfold i32 at *; omega)) (by first | decide | omega | assumption) ?_))
    rw [tk2]
    refine w_isub rfl (w_istore (ls2 := [_, _, _, _, _, _, _, _, _, _, _, _, _, _, _, _, _, _, _]) rfl rfl rfl (w_iload rfl rfl (w_iconst rfl (w_idiv rfl (by first | assumption | exact i32_0 | (unfold i32 at *; omega)) (by first | assumption | exact i32_0 | (unfold i32 at *; omega)) (by first | decide | omega | assumption) ?_))))
    rw [tq1]
    refine w_iload rfl rfl (w_iconst rfl (w_idiv rfl (by first | assumption | exact i32_0 | (unfold i32 at *; omega)) (by first | assumption | exact i32_0 | (unfold i32 at *; omega)) (by first | decide | omega | assumption) ?_))
    rw [tk1]
    refine w_isub rfl (w_istore (ls2 := [_, _, _, _, _, _, _, _, _, _, _, _, _, _, _, _, _, _, _]) rfl rfl rfl (w_iload rfl rfl (w_iconst rfl (w_irem rfl (by first | assumption | exact i32_0 | (unfold i32 at *; omega)) (by first | assumption | exact i32_0 | (unfold i32 at *; omega)) (by first | decide | omega | assumption) ?_))))
    rw [tq2]
    refine w_iload rfl rfl (w_iconst rfl (w_irem rfl (by first | assumption | exact i32_0 | (unfold i32 at *; omega)) (by first | assumption | exact i32_0 | (unfold i32 at *; omega)) (by first | decide | omega | assumption) ?_))
    rw [tk2]
    refine w_isub rfl (w_istore (ls2 := [_, _, _, _, _, _, _, _, _, _, _, _, _, _, _, _, _, _, _]) rfl rfl rfl (w_iload rfl rfl (w_iload rfl rfl (w_iload rfl rfl (w_iload rfl rfl ?_)))))
    refine w_call (Or.inl rfl) ((x3)) (by omega) nof_190 rfl rfl rfl rfl trivial rfl ?_
    refine w_if_ne (tgt := 134) rfl (by first | assumption | exact i32_0 | (unfold i32 at *; omega)) rfl (fun c49 => ?_) (fun c49 => ?_)
    · skip
      first | exact q1 _ _ u1 u3 u2 _ _ _ _ _ _ _ _ _ _ | (exfalso; omega)
    · skip
      refine w_iload rfl rfl (w_iload rfl rfl (w_imul rfl (w_iload rfl rfl (w_iload rfl rfl (w_imul rfl (w_iadd rfl ?_))))))
      rw [hdot]
      refine w_if_ge (tgt := 134) rfl (by first | assumption | exact i32_0 | (unfold i32 at *; omega)) rfl (fun c63 => ?_) (fun c63 => ?_)
      · skip
        first | exact q1 _ _ u1 u3 u2 _ _ _ _ _ _ _ _ _ _ | (exfalso; omega)
      · skip
        refine w_iload rfl rfl (w_iload rfl rfl ?_)
        refine w_call (Or.inl rfl) ((dv1)) (by omega) nof_195 rfl rfl rfl rfl trivial rfl ?_
        refine w_istore (ls2 := [_, _, _, _, _, _, _, _, _, _, _, _, _, _, _, _, _, _, _]) rfl rfl rfl (w_iload rfl rfl (w_iload rfl rfl ?_))
        refine w_call (Or.inl rfl) ((dv2)) (by omega) nof_195 rfl rfl rfl rfl trivial rfl ?_
        refine w_istore (ls2 := [_, _, _, _, _, _, _, _, _, _, _, _, _, _, _, _, _, _, _]) rfl rfl rfl (w_lconst rfl (w_iload rfl rfl (w_iload rfl rfl (w_iadd rfl (w_i2l rfl (by first | assumption | exact i32_0 | (unfold i32 at *; omega)) (w_ldiv rfl (by first | assumption | exact i64_0 | (unfold i64 at *; omega)) (by first | assumption | exact i64_0 | (unfold i64 at *; omega)) (by first | decide | omega | assumption) (w_lstore (ls2 := [_, _, _, _, _, _, _, _, _, _, _, _, _, _, _, _, _, _, _]) rfl rfl rfl ?_)))))))
        refine w_aload rfl rfl (w_lload rfl rfl (w_aload rfl rfl (w_getR rfl (by first | rfl | assumption) rfl (by first | rfl | assumption) (w_iconst rfl (w_iload rfl rfl (w_imul rfl (w_iload rfl rfl ?_)))))))
        refine w_iadd rfl (w_ialoadV rfl (by first | rfl | assumption) (by omega) (by omega) (rp) (w_iload rfl rfl (w_imul rfl (w_aload rfl rfl (w_getR rfl (by first | rfl | assumption) rfl (by first | rfl | assumption) (w_iconst rfl (w_iload rfl rfl ?_)))))))
        refine w_imul rfl (w_iload rfl rfl (w_iadd rfl (w_ialoadV rfl (by first | rfl | assumption) (by omega) (by omega) (rq) (w_iload rfl rfl (w_imul rfl (w_iadd rfl (w_i2l rfl (by first | assumption | exact i32_0 | (unfold i32 at *; omega)) ?_)))))))
        refine w_lmul rfl ?_
        rw [← hsg]
        refine w_callQ (Or.inr rfl) ((hbar)) (by omega) nof_226 rfl rfl rfl rfl (by first | rfl | (show cKB[_]? = _; assumption)) (fun r131 M131 hq131 => ?_)
        obtain ⟨rfl, o3, u1, u2, u3⟩ := hq131
        first | exact q1 _ _ u1 u3 u2 _ _ _ _ _ _ _ _ _ _ | (exfalso; omega)
  · have q1 := q1 M o h (brF_rfl M) (fun c => ⟨fun z => ⟨z, fun w => absurd w qc⟩, fun z => z.1⟩)
    have qd : ¬ (T = 0 ∧ dotP k p q < 0) := fun z => qc (hC.mpr z)
    clear hC qc hbar dv1 dv2
    generalize dotP k p q = dp at *
    refine w_iload rfl rfl (w_iconst rfl (w_idiv rfl (by first | assumption | exact i32_0 | (unfold i32 at *; omega)) (by first | assumption | exact i32_0 | (unfold i32 at *; omega)) (by first | decide | omega | assumption) ?_))
    rw [tp1]
    refine w_iload rfl rfl (w_iconst rfl (w_idiv rfl (by first | assumption | exact i32_0 | (unfold i32 at *; omega)) (by first | assumption | exact i32_0 | (unfold i32 at *; omega)) (by first | decide | omega | assumption) ?_))
    rw [tk1]
    refine w_isub rfl (w_istore (ls2 := [_, _, _, _, _, _, _, _, _, _, _, _, _, _, _, _, _, _, _]) rfl rfl rfl (w_iload rfl rfl (w_iconst rfl (w_irem rfl (by first | assumption | exact i32_0 | (unfold i32 at *; omega)) (by first | assumption | exact i32_0 | (unfold i32 at *; omega)) (by first | decide | omega | assumption) ?_))))
    rw [tp2]
    refine w_iload rfl rfl (w_iconst rfl (w_irem rfl (by first | assumption | exact i32_0 | (unfold i32 at *; omega)) (by first | assumption | exact i32_0 | (unfold i32 at *; omega)) (by first | decide | omega | assumption) ?_))
    rw [tk2]
    refine w_isub rfl (w_istore (ls2 := [_, _, _, _, _, _, _, _, _, _, _, _, _, _, _, _, _, _, _]) rfl rfl rfl (w_iload rfl rfl (w_iconst rfl (w_idiv rfl (by first | assumption | exact i32_0 | (unfold i32 at *; omega)) (by first | assumption | exact i32_0 | (unfold i32 at *; omega)) (by first | decide | omega | assumption) ?_))))
    rw [tq1]
    refine w_iload rfl rfl (w_iconst rfl (w_idiv rfl (by first | assumption | exact i32_0 | (unfold i32 at *; omega)) (by first | assumption | exact i32_0 | (unfold i32 at *; omega)) (by first | decide | omega | assumption) ?_))
    rw [tk1]
    refine w_isub rfl (w_istore (ls2 := [_, _, _, _, _, _, _, _, _, _, _, _, _, _, _, _, _, _, _]) rfl rfl rfl (w_iload rfl rfl (w_iconst rfl (w_irem rfl (by first | assumption | exact i32_0 | (unfold i32 at *; omega)) (by first | assumption | exact i32_0 | (unfold i32 at *; omega)) (by first | decide | omega | assumption) ?_))))
    rw [tq2]
    refine w_iload rfl rfl (w_iconst rfl (w_irem rfl (by first | assumption | exact i32_0 | (unfold i32 at *; omega)) (by first | assumption | exact i32_0 | (unfold i32 at *; omega)) (by first | decide | omega | assumption) ?_))
    rw [tk2]
    refine w_isub rfl (w_istore (ls2 := [_, _, _, _, _, _, _, _, _, _, _, _, _, _, _, _, _, _, _]) rfl rfl rfl (w_iload rfl rfl (w_iload rfl rfl (w_iload rfl rfl (w_iload rfl rfl ?_)))))
    refine w_call (Or.inl rfl) ((x3)) (by omega) nof_190 rfl rfl rfl rfl trivial rfl ?_
    refine w_if_ne (tgt := 134) rfl (by first | assumption | exact i32_0 | (unfold i32 at *; omega)) rfl (fun c49 => ?_) (fun c49 => ?_)
    · skip
      exact q1 _ _ _ _ _ _ _ _ _ _
    · skip
      refine w_iload rfl rfl (w_iload rfl rfl (w_imul rfl (w_iload rfl rfl (w_iload rfl rfl (w_imul rfl (w_iadd rfl ?_))))))
      rw [hdot]
      refine w_if_ge (tgt := 134) rfl (by first | assumption | exact i32_0 | (unfold i32 at *; omega)) rfl (fun c63 => ?_) (fun c63 => ?_)
      · skip
        exact q1 _ _ _ _ _ _ _ _ _ _
      · skip
        exfalso; omega
