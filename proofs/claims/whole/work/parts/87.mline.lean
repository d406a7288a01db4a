/-! ===== the model's lines ===== -/
def tAt (u v : Int) (p k : Nat) : Int := if u ≠ 0 then (pi k - pi p).tdiv u else (pj k - pj p).tdiv v
def lnV (f : Cv) (p q : Nat) (u v : Int) (k : Nat) : Int := cv f k * tAt u v p q - cv f p * (tAt u v p q - tAt u v p k) - cv f q * tAt u v p k
def lnOK (f : Cv) (p q : Nat) (u v : Int) (k : Nat) : Bool := !(hasF f k) || (decide (k = p) || (decide (k = q) || (if 0 ≤ tAt u v p k ∧ tAt u v p k ≤ tAt u v p q then decide (0 ≤ lnV f p q u v k) else decide (0 < lnV f p q u v k))))
def arL (f : Cv) (p q : Nat) (u v : Int) : Nat → Bool
  | 0 => true
  | n + 1 => arL f p q u v n && lnOK f p q u v n
theorem arL_mono {f : Cv} {p q : Nat} {u v : Int} {n : Nat} (h : arL f p q u v n = false) : ∀ m, n ≤ m → arL f p q u v m = false
  | 0, hm => by obtain rfl : n = 0 := by omega
                exact h
  | m + 1, hm => by
    by_cases z : n = m + 1
    · rw [← z]; exact h
    · have := arL_mono h m (by omega)
      unfold arL
      rw [this, Bool.false_and]
theorem tAt_le {u v : Int} {p k : Nat} (hp : p < 25) (hk : k < 25) : -4 ≤ tAt u v p k ∧ tAt u v p k ≤ 4 := by
  have b1 := pi_le hp
  have b2 := pj_le p
  have b3 := pi_le hk
  have b4 := pj_le k
  unfold tAt
  split
  · have : ((pi k - pi p).tdiv u).natAbs ≤ (pi k - pi p).natAbs := by rw [Int.natAbs_tdiv]; exact Nat.div_le_self _ _
    omega
  · have : ((pj k - pj p).tdiv v).natAbs ≤ (pj k - pj p).natAbs := by rw [Int.natAbs_tdiv]; exact Nat.div_le_self _ _
    omega
theorem m_areLine {a p q : Nat} {f : Cv} {u v : Int} {M : mM} (ha : a < 2) (h : mcur (25 * a) f M) (hf : Cok 999 f) (hp : hasF f p = true) (hq : hasF f q = true) (hu : -4 ≤ u ∧ u ≤ 4) (hv : -4 ≤ v ∧ v ≤ 4) (h0 : ¬ (u = 0 ∧ v = 0)) : E 2 196 [vR 155, vI a, vI p, vI q, vI u, vI v] M (some (vI (if arL f p q u v 25 = true then 1 else 0))) M := by
  have fp := hf p _ (hasF_some hp)
  have fq := hf q _ (hasF_some hq)
  have q1 := cv_le hf p
  have q2 := cv_le hf q
  have b1 := pi_le (p := p) (by omega)
  have b2 := pi_le (p := q) (by omega)
  have b4 := pj_le p
  have b5 := pj_le q
  have xp : M 156 ((25 * (a : Int) + (p : Int)).toNat) = cv f p := by rw [show (25 * (a : Int) + (p : Int)).toNat = 25 * a + p by omega, h p (by omega), mv_some hp]
  have xq : M 156 ((25 * (a : Int) + (q : Int)).toNat) = cv f q := by rw [show (25 * (a : Int) + (q : Int)).toNat = 25 * a + q by omega, h q (by omega), mv_some hq]
  have p1 : (p : Int).tdiv 5 = pi p := rfl
  have p2 : (p : Int).tmod 5 = pj p := rfl
  have r1 : (q : Int).tdiv 5 = pi q := rfl
  have r2 : (q : Int).tmod 5 = pj q := rfl
  have bT := tAt_le (u := u) (v := v) (p := p) (k := q) (by omega) (by omega)
  refine e_in (ls := [vR 155, vI a, vI p, vI q, vI u, vI v, vN, vN, vN, vN, vN]) mq_196 (ml_196 rfl) rfl fun D hD => ?_
  generalize hres : arL f p q u v 25 = res
  have loop : ∀ (z n : Nat) (w8 w9 w10 : mV), 25 - n = z → n ≤ 25 → Wp mc_196 D 6 [vR 155, vI a, vI p, vI q, vI u, vI v, vI (if arL f p q u v n = true then 1 else 0), vI n, w8, w9, w10] [] M (fun r N => r = some (vI (if res = true then 1 else 0)) ∧ N = M) := by
    intro z
    induction z with
    | zero =>
      intro n w8 w9 w10 hz hn
      obtain rfl : n = 25 := by omega
      rw [hres]
      refine w_iload rfl rfl (w_iconst rfl ?_)
      refine w_icmp_ge (tgt := 196) rfl (by first | assumption | exact i32_0 | (unfold i32 at *; omega)) (by first | assumption | exact i32_0 | (unfold i32 at *; omega)) rfl (fun c10 => ?_) (fun c10 => ?_)
      · skip
        refine w_iload rfl rfl ?_
        exact w_zreturn rfl (by first | exact Or.inl rfl | exact Or.inr rfl | omega | assumption) ⟨by first | rfl | (congr 2; omega), by rfl⟩
      · skip
        exfalso; omega
    | succ z ih =>
      intro n w8 w9 w10 hz hn
      have ihn := fun w8 w9 w10 => ih (n + 1) w8 w9 w10 (by omega) (by omega)
      have hA : arL f p q u v (n + 1) = (arL f p q u v n && lnOK f p q u v n) := rfl
      rw [hA] at ihn
      clear hA ih
      cases e : arL f p q u v n with
      | false =>
        have hr : res = false := by rw [← hres]; exact arL_mono e 25 (by omega)
        rw [hr]
        refine w_iload rfl rfl (w_iconst rfl ?_)
        refine w_icmp_ge (tgt := 196) rfl (by first | assumption | exact i32_0 | (unfold i32 at *; omega)) (by first | assumption | exact i32_0 | (unfold i32 at *; omega)) rfl (fun c10 => ?_) (fun c10 => ?_)
        · exfalso; omega
        · skip
          refine w_iload rfl rfl ?_
          refine w_if_eq (tgt := 196) rfl (by first | assumption | exact i32_0 | (unfold i32 at *; omega)) rfl (fun _ => ?_) (fun c => absurd c (by decide))
          refine w_iload rfl rfl ?_
          exact w_zreturn rfl (by first | exact Or.inl rfl | exact Or.inr rfl | omega | assumption) ⟨by first | rfl | (congr 2; omega), by rfl⟩
      | true =>
        rw [e, Bool.true_and] at ihn
        have hok : lnOK f p q u v n = (!(hasF f n) || (decide (n = p) || (decide (n = q) || (if 0 ≤ tAt u v p n ∧ tAt u v p n ≤ tAt u v p q then decide (0 ≤ lnV f p q u v n) else decide (0 < lnV f p q u v n))))) := rfl
        rw [hok] at ihn
        clear hok
        cases eh : hasF f n with
        | false =>
          rw [eh] at ihn
          have hgo := ihn w8 w9 w10
          refine w_iload rfl rfl (w_iconst rfl ?_)
          refine w_icmp_ge (tgt := 196) rfl (by first | assumption | exact i32_0 | (unfold i32 at *; omega)) (by first | assumption | exact i32_0 | (unfold i32 at *; omega)) rfl (fun c10 => ?_) (fun c10 => ?_)
          · exfalso; omega
          · skip
            refine w_iload rfl rfl ?_
            refine w_if_eq (tgt := 196) rfl (by first | assumption | exact i32_0 | (unfold i32 at *; omega)) rfl (fun c => absurd c (by decide)) (fun _ => ?_)
            refine w_aload rfl rfl (w_iload rfl rfl (w_iload rfl rfl ?_))
            refine w_call (Or.inr rfl) (m_has0 ha h hf (by omega) eh) (by omega) nof_167 rfl rfl rfl rfl (by first | rfl | (show cKB[_]? = _; assumption)) rfl ?_
            refine w_if_eq (tgt := 190) rfl (by first | assumption | exact i32_0 | (unfold i32 at *; omega)) rfl (fun _ => ?_) (fun c => absurd c (by decide))
            refine w_iinc (ls2 := [_, _, _, _, _, _, _, _, _, _, _]) rfl rfl rfl (w_goto (tgt := 6) rfl rfl ?_)
            exact hgo
        | true =>
          rw [eh, Bool.not_true, Bool.false_or] at ihn
          by_cases ep : n = p
          · rw [decide_eq_true ep, Bool.true_or] at ihn
            have hgo := ihn w8 w9 w10
            refine w_iload rfl rfl (w_iconst rfl ?_)
            refine w_icmp_ge (tgt := 196) rfl (by first | assumption | exact i32_0 | (unfold i32 at *; omega)) (by first | assumption | exact i32_0 | (unfold i32 at *; omega)) rfl (fun c10 => ?_) (fun c10 => ?_)
            · exfalso; omega
            · skip
              refine w_iload rfl rfl ?_
              refine w_if_eq (tgt := 196) rfl (by first | assumption | exact i32_0 | (unfold i32 at *; omega)) rfl (fun c => absurd c (by decide)) (fun _ => ?_)
              refine w_aload rfl rfl (w_iload rfl rfl (w_iload rfl rfl ?_))
              refine w_call (Or.inr rfl) ((m_has1 ha h hf (by omega) eh)) (by omega) nof_167 rfl rfl rfl rfl (by first | rfl | (show cKB[_]? = _; assumption)) rfl ?_
              refine w_if_eq (tgt := 190) rfl (by first | assumption | exact i32_0 | (unfold i32 at *; omega)) rfl (fun c => absurd c (by decide)) (fun _ => ?_)
              refine w_iload rfl rfl (w_iload rfl rfl ?_)
              refine w_icmp_eq (tgt := 190) rfl (by first | assumption | exact i32_0 | (unfold i32 at *; omega)) (by first | assumption | exact i32_0 | (unfold i32 at *; omega)) rfl (fun c31 => ?_) (fun c31 => ?_)
              · skip
                refine w_iinc (ls2 := [_, _, _, _, _, _, _, _, _, _, _]) rfl rfl rfl (w_goto (tgt := 6) rfl rfl ?_)
                exact hgo
              · skip
                exfalso; omega
          · rw [decide_eq_false ep, Bool.false_or] at ihn
            by_cases eq : n = q
            · rw [decide_eq_true eq, Bool.true_or] at ihn
              have hgo := ihn w8 w9 w10
              refine w_iload rfl rfl (w_iconst rfl ?_)
              refine w_icmp_ge (tgt := 196) rfl (by first | assumption | exact i32_0 | (unfold i32 at *; omega)) (by first | assumption | exact i32_0 | (unfold i32 at *; omega)) rfl (fun c10 => ?_) (fun c10 => ?_)
              · exfalso; omega
              · skip
                refine w_iload rfl rfl ?_
                refine w_if_eq (tgt := 196) rfl (by first | assumption | exact i32_0 | (unfold i32 at *; omega)) rfl (fun c => absurd c (by decide)) (fun _ => ?_)
                refine w_aload rfl rfl (w_iload rfl rfl (w_iload rfl rfl ?_))
                refine w_call (Or.inr rfl) ((m_has1 ha h hf (by omega) eh)) (by omega) nof_167 rfl rfl rfl rfl (by first | rfl | (show cKB[_]? = _; assumption)) rfl ?_
                refine w_if_eq (tgt := 190) rfl (by first | assumption | exact i32_0 | (unfold i32 at *; omega)) rfl (fun c => absurd c (by decide)) (fun _ => ?_)
                refine w_iload rfl rfl (w_iload rfl rfl ?_)
                refine w_icmp_eq (tgt := 190) rfl (by first | assumption | exact i32_0 | (unfold i32 at *; omega)) (by first | assumption | exact i32_0 | (unfold i32 at *; omega)) rfl (fun c31 => ?_) (fun c31 => ?_)
                · exfalso; omega
                · skip
                  refine w_iload rfl rfl (w_iload rfl rfl ?_)
                  refine w_icmp_eq (tgt := 190) rfl (by first | assumption | exact i32_0 | (unfold i32 at *; omega)) (by first | assumption | exact i32_0 | (unfold i32 at *; omega)) rfl (fun c37 => ?_) (fun c37 => ?_)
                  · skip
                    refine w_iinc (ls2 := [_, _, _, _, _, _, _, _, _, _, _]) rfl rfl rfl (w_goto (tgt := 6) rfl rfl ?_)
                    exact hgo
                  · skip
                    exfalso; omega
            · rw [decide_eq_false eq, Bool.false_or] at ihn
              have q3 := cv_le hf n
              have b3 := pi_le (p := n) (by omega)
              have b6 := pj_le n
              have bt := tAt_le (u := u) (v := v) (p := p) (k := n) (by omega) (by omega)
              have xn : M 156 ((25 * (a : Int) + (n : Int)).toNat) = cv f n := by rw [show (25 * (a : Int) + (n : Int)).toNat = 25 * a + n by omega, h n (by omega), mv_some eh]
              have n1 : (n : Int).tdiv 5 = pi n := rfl
              have n2 : (n : Int).tmod 5 = pj n := rfl
              have hV : cv f n * tAt u v p q - cv f p * (tAt u v p q - tAt u v p n) - cv f q * tAt u v p n = lnV f p q u v n := rfl
              have m1 := mul_le (d := cv f n) (c := tAt u v p q) (A := 999) (B := 4) (by omega) bT
              have m2 := mul_le (d := cv f p) (c := tAt u v p q - tAt u v p n) (A := 999) (B := 8) (by omega) (by omega)
              have m3 := mul_le (d := cv f q) (c := tAt u v p n) (A := 999) (B := 4) (by omega) bt
              have at102 : ∀ w10 : mV, Wp mc_196 D 102 [vR 155, vI a, vI p, vI q, vI u, vI v, vI 1, vI n, vI (tAt u v p n), vI (tAt u v p q), w10] [] M (fun r N => r = some (vI (if res = true then 1 else 0)) ∧ N = M) := by
                intro w10
                have hgo := ihn (vI (tAt u v p n)) (vI (tAt u v p q)) (vI (lnV f p q u v n))
                generalize lnV f p q u v n = V at *
                generalize tAt u v p q = T at *
                generalize tAt u v p n = t at *
                by_cases hin : 0 ≤ t ∧ t ≤ T
                · rw [if_pos hin] at hgo
                  have hi := m_in1 (v := t) (l := 0) (m := T) M (by unfold i64; omega) (by unfold i64; omega) (by unfold i64; omega) hin
                  by_cases hs : 0 ≤ V
                  · rw [decide_eq_true hs] at hgo
                    refine w_aload rfl rfl (w_getR rfl (by first | rfl | assumption) rfl (by first | rfl | assumption) (w_iconst rfl (w_iload rfl rfl (w_imul rfl (w_iload rfl rfl (w_iadd rfl (w_ialoadV rfl (by first | rfl | assumption) (by omega) (by omega) (xn) ?_)))))))
                    refine w_iload rfl rfl (w_imul rfl (w_aload rfl rfl (w_getR rfl (by first | rfl | assumption) rfl (by first | rfl | assumption) (w_iconst rfl (w_iload rfl rfl (w_imul rfl (w_iload rfl rfl ?_)))))))
                    refine w_iadd rfl (w_ialoadV rfl (by first | rfl | assumption) (by omega) (by omega) (xp) (w_iload rfl rfl (w_iload rfl rfl (w_isub rfl (w_imul rfl (w_isub rfl (w_aload rfl rfl ?_)))))))
                    refine w_getR rfl (by first | rfl | assumption) rfl (by first | rfl | assumption) (w_iconst rfl (w_iload rfl rfl (w_imul rfl (w_iload rfl rfl (w_iadd rfl (w_ialoadV rfl (by first | rfl | assumption) (by omega) (by omega) (xq) (w_iload rfl rfl ?_)))))))
                    refine w_imul rfl (w_isub rfl ?_)
                    rw [hV]
                    refine w_istore (ls2 := [_, _, _, _, _, _, _, _, _, _, _]) rfl rfl rfl (w_iload rfl rfl (w_i2l rfl (by first | assumption | exact i32_0 | (unfold i32 at *; omega)) (w_lconst rfl (w_iload rfl rfl (w_i2l rfl (by first | assumption | exact i32_0 | (unfold i32 at *; omega)) ?_)))))
                    refine w_call (Or.inl rfl) ((hi)) (by omega) nof_150 rfl rfl rfl rfl trivial rfl ?_
                    refine w_if_eq (tgt := 178) rfl (by first | assumption | exact i32_0 | (unfold i32 at *; omega)) rfl (fun c => absurd c (by decide)) (fun _ => ?_)
                    refine w_iload rfl rfl ?_
                    refine w_if_lt (tgt := 174) rfl (by first | assumption | exact i32_0 | (unfold i32 at *; omega)) rfl (fun c167 => ?_) (fun c167 => ?_)
                    · exfalso; omega
                    · skip
                      refine w_iconst rfl (w_goto (tgt := 188) rfl rfl (w_istore (ls2 := [_, _, _, _, _, _, _, _, _, _, _]) rfl rfl rfl (w_iinc (ls2 := [_, _, _, _, _, _, _, _, _, _, _]) rfl rfl rfl (w_goto (tgt := 6) rfl rfl ?_))))
                      exact hgo
                  · rw [decide_eq_false hs] at hgo
                    refine w_aload rfl rfl (w_getR rfl (by first | rfl | assumption) rfl (by first | rfl | assumption) (w_iconst rfl (w_iload rfl rfl (w_imul rfl (w_iload rfl rfl (w_iadd rfl (w_ialoadV rfl (by first | rfl | assumption) (by omega) (by omega) (xn) ?_)))))))
                    refine w_iload rfl rfl (w_imul rfl (w_aload rfl rfl (w_getR rfl (by first | rfl | assumption) rfl (by first | rfl | assumption) (w_iconst rfl (w_iload rfl rfl (w_imul rfl (w_iload rfl rfl ?_)))))))
                    refine w_iadd rfl (w_ialoadV rfl (by first | rfl | assumption) (by omega) (by omega) (xp) (w_iload rfl rfl (w_iload rfl rfl (w_isub rfl (w_imul rfl (w_isub rfl (w_aload rfl rfl ?_)))))))
                    refine w_getR rfl (by first | rfl | assumption) rfl (by first | rfl | assumption) (w_iconst rfl (w_iload rfl rfl (w_imul rfl (w_iload rfl rfl (w_iadd rfl (w_ialoadV rfl (by first | rfl | assumption) (by omega) (by omega) (xq) (w_iload rfl rfl ?_)))))))
                    refine w_imul rfl (w_isub rfl ?_)
                    rw [hV]
                    refine w_istore (ls2 := [_, _, _, _, _, _, _, _, _, _, _]) rfl rfl rfl (w_iload rfl rfl (w_i2l rfl (by first | assumption | exact i32_0 | (unfold i32 at *; omega)) (w_lconst rfl (w_iload rfl rfl (w_i2l rfl (by first | assumption | exact i32_0 | (unfold i32 at *; omega)) ?_)))))
                    refine w_call (Or.inl rfl) ((hi)) (by omega) nof_150 rfl rfl rfl rfl trivial rfl ?_
                    refine w_if_eq (tgt := 178) rfl (by first | assumption | exact i32_0 | (unfold i32 at *; omega)) rfl (fun c => absurd c (by decide)) (fun _ => ?_)
                    refine w_iload rfl rfl ?_
                    refine w_if_lt (tgt := 174) rfl (by first | assumption | exact i32_0 | (unfold i32 at *; omega)) rfl (fun c167 => ?_) (fun c167 => ?_)
                    · skip
                      refine w_iconst rfl (w_goto (tgt := 188) rfl rfl (w_istore (ls2 := [_, _, _, _, _, _, _, _, _, _, _]) rfl rfl rfl (w_iinc (ls2 := [_, _, _, _, _, _, _, _, _, _, _]) rfl rfl rfl (w_goto (tgt := 6) rfl rfl ?_))))
                      exact hgo
                    · exfalso; omega
                · rw [if_neg hin] at hgo
                  have hi := m_in0 (v := t) (l := 0) (m := T) M (by unfold i64; omega) (by unfold i64; omega) (by unfold i64; omega) hin
                  by_cases hs : 0 < V
                  · rw [decide_eq_true hs] at hgo
                    refine w_aload rfl rfl (w_getR rfl (by first | rfl | assumption) rfl (by first | rfl | assumption) (w_iconst rfl (w_iload rfl rfl (w_imul rfl (w_iload rfl rfl (w_iadd rfl (w_ialoadV rfl (by first | rfl | assumption) (by omega) (by omega) (xn) ?_)))))))
                    refine w_iload rfl rfl (w_imul rfl (w_aload rfl rfl (w_getR rfl (by first | rfl | assumption) rfl (by first | rfl | assumption) (w_iconst rfl (w_iload rfl rfl (w_imul rfl (w_iload rfl rfl ?_)))))))
                    refine w_iadd rfl (w_ialoadV rfl (by first | rfl | assumption) (by omega) (by omega) (xp) (w_iload rfl rfl (w_iload rfl rfl (w_isub rfl (w_imul rfl (w_isub rfl (w_aload rfl rfl ?_)))))))
                    refine w_getR rfl (by first | rfl | assumption) rfl (by first | rfl | assumption) (w_iconst rfl (w_iload rfl rfl (w_imul rfl (w_iload rfl rfl (w_iadd rfl (w_ialoadV rfl (by first | rfl | assumption) (by omega) (by omega) (xq) (w_iload rfl rfl ?_)))))))
                    refine w_imul rfl (w_isub rfl ?_)
                    rw [hV]
                    refine w_istore (ls2 := [_, _, _, _, _, _, _, _, _, _, _]) rfl rfl rfl (w_iload rfl rfl (w_i2l rfl (by first | assumption | exact i32_0 | (unfold i32 at *; omega)) (w_lconst rfl (w_iload rfl rfl (w_i2l rfl (by first | assumption | exact i32_0 | (unfold i32 at *; omega)) ?_)))))
                    refine w_call (Or.inl rfl) ((hi)) (by omega) nof_150 rfl rfl rfl rfl trivial rfl ?_
                    refine w_if_eq (tgt := 178) rfl (by first | assumption | exact i32_0 | (unfold i32 at *; omega)) rfl (fun _ => ?_) (fun c => absurd c (by decide))
                    refine w_iload rfl rfl ?_
                    refine w_if_le (tgt := 187) rfl (by first | assumption | exact i32_0 | (unfold i32 at *; omega)) rfl (fun c180 => ?_) (fun c180 => ?_)
                    · exfalso; omega
                    · skip
                      refine w_iconst rfl (w_goto (tgt := 188) rfl rfl (w_istore (ls2 := [_, _, _, _, _, _, _, _, _, _, _]) rfl rfl rfl (w_iinc (ls2 := [_, _, _, _, _, _, _, _, _, _, _]) rfl rfl rfl (w_goto (tgt := 6) rfl rfl ?_))))
                      exact hgo
                  · rw [decide_eq_false hs] at hgo
                    refine w_aload rfl rfl (w_getR rfl (by first | rfl | assumption) rfl (by first | rfl | assumption) (w_iconst rfl (w_iload rfl rfl (w_imul rfl (w_iload rfl rfl (w_iadd rfl (w_ialoadV rfl (by first | rfl | assumption) (by omega) (by omega) (xn) ?_)))))))
                    refine w_iload rfl rfl (w_imul rfl (w_aload rfl rfl (w_getR rfl (by first | rfl | assumption) rfl (by first | rfl | assumption) (w_iconst rfl (w_iload rfl rfl (w_imul rfl (w_iload rfl rfl ?_)))))))
                    refine w_iadd rfl (w_ialoadV rfl (by first | rfl | assumption) (by omega) (by omega) (xp) (w_iload rfl rfl (w_iload rfl rfl (w_isub rfl (w_imul rfl (w_isub rfl (w_aload rfl rfl ?_)))))))
                    refine w_getR rfl (by first | rfl | assumption) rfl (by first | rfl | assumption) (w_iconst rfl (w_iload rfl rfl (w_imul rfl (w_iload rfl rfl (w_iadd rfl (w_ialoadV rfl (by first | rfl | assumption) (by omega) (by omega) (xq) (w_iload rfl rfl ?_)))))))
                    refine w_imul rfl (w_isub rfl ?_)
                    rw [hV]
                    refine w_istore (ls2 := [_, _, _, _, _, _, _, _, _, _, _]) rfl rfl rfl (w_iload rfl rfl (w_i2l rfl (by first | assumption | exact i32_0 | (unfold i32 at *; omega)) (w_lconst rfl (w_iload rfl rfl (w_i2l rfl (by first | assumption | exact i32_0 | (unfold i32 at *; omega)) ?_)))))
                    refine w_call (Or.inl rfl) ((hi)) (by omega) nof_150 rfl rfl rfl rfl trivial rfl ?_
                    refine w_if_eq (tgt := 178) rfl (by first | assumption | exact i32_0 | (unfold i32 at *; omega)) rfl (fun _ => ?_) (fun c => absurd c (by decide))
                    refine w_iload rfl rfl ?_
                    refine w_if_le (tgt := 187) rfl (by first | assumption | exact i32_0 | (unfold i32 at *; omega)) rfl (fun c180 => ?_) (fun c180 => ?_)
                    · skip
                      refine w_iconst rfl (w_istore (ls2 := [_, _, _, _, _, _, _, _, _, _, _]) rfl rfl rfl (w_iinc (ls2 := [_, _, _, _, _, _, _, _, _, _, _]) rfl rfl rfl (w_goto (tgt := 6) rfl rfl ?_)))
                      exact hgo
                    · exfalso; omega
              by_cases hu0 : u = 0
              · have ht : (pj n - pj p).tdiv v = tAt u v p n := by unfold tAt; rw [if_neg (by omega)]
                have hT : (pj q - pj p).tdiv v = tAt u v p q := by unfold tAt; rw [if_neg (by omega)]
                clear ihn hV m1 m2 m3
                generalize tAt u v p q = T at *
                generalize tAt u v p n = t at *
                refine w_iload rfl rfl (w_iconst rfl ?_)
                refine w_icmp_ge (tgt := 196) rfl (by first | assumption | exact i32_0 | (unfold i32 at *; omega)) (by first | assumption | exact i32_0 | (unfold i32 at *; omega)) rfl (fun c10 => ?_) (fun c10 => ?_)
                · exfalso; omega
                · skip
                  refine w_iload rfl rfl ?_
                  refine w_if_eq (tgt := 196) rfl (by first | assumption | exact i32_0 | (unfold i32 at *; omega)) rfl (fun c => absurd c (by decide)) (fun _ => ?_)
                  refine w_aload rfl rfl (w_iload rfl rfl (w_iload rfl rfl ?_))
                  refine w_call (Or.inr rfl) ((m_has1 ha h hf (by omega) eh)) (by omega) nof_167 rfl rfl rfl rfl (by first | rfl | (show cKB[_]? = _; assumption)) rfl ?_
                  refine w_if_eq (tgt := 190) rfl (by first | assumption | exact i32_0 | (unfold i32 at *; omega)) rfl (fun c => absurd c (by decide)) (fun _ => ?_)
                  refine w_iload rfl rfl (w_iload rfl rfl ?_)
                  refine w_icmp_eq (tgt := 190) rfl (by first | assumption | exact i32_0 | (unfold i32 at *; omega)) (by first | assumption | exact i32_0 | (unfold i32 at *; omega)) rfl (fun c31 => ?_) (fun c31 => ?_)
                  · exfalso; omega
                  · skip
                    refine w_iload rfl rfl (w_iload rfl rfl ?_)
                    refine w_icmp_eq (tgt := 190) rfl (by first | assumption | exact i32_0 | (unfold i32 at *; omega)) (by first | assumption | exact i32_0 | (unfold i32 at *; omega)) rfl (fun c37 => ?_) (fun c37 => ?_)
                    · exfalso; omega
                    · skip
                      refine w_iload rfl rfl ?_
                      refine w_if_eq (tgt := 59) rfl (by first | assumption | exact i32_0 | (unfold i32 at *; omega)) rfl (fun c42 => ?_) (fun c42 => ?_)
                      · skip
                        refine w_iload rfl rfl (w_iconst rfl (w_irem rfl (by first | assumption | exact i32_0 | (unfold i32 at *; omega)) (by first | assumption | exact i32_0 | (unfold i32 at *; omega)) (by first | decide | omega | assumption) ?_))
                        rw [n2]
                        refine w_iload rfl rfl (w_iconst rfl (w_irem rfl (by first | assumption | exact i32_0 | (unfold i32 at *; omega)) (by first | assumption | exact i32_0 | (unfold i32 at *; omega)) (by first | decide | omega | assumption) ?_))
                        rw [p2]
                        refine w_isub rfl (w_iload rfl rfl (w_idiv rfl (by first | assumption | exact i32_0 | (unfold i32 at *; omega)) (by first | assumption | exact i32_0 | (unfold i32 at *; omega)) (by first | decide | omega | assumption) ?_))
                        rw [ht]
                        refine w_istore (ls2 := [_, _, _, _, _, _, _, _, _, _, _]) rfl rfl rfl (w_iload rfl rfl ?_)
                        refine w_if_eq (tgt := 90) rfl (by first | assumption | exact i32_0 | (unfold i32 at *; omega)) rfl (fun c74 => ?_) (fun c74 => ?_)
                        · skip
                          refine w_iload rfl rfl (w_iconst rfl (w_irem rfl (by first | assumption | exact i32_0 | (unfold i32 at *; omega)) (by first | assumption | exact i32_0 | (unfold i32 at *; omega)) (by first | decide | omega | assumption) ?_))
                          rw [r2]
                          refine w_iload rfl rfl (w_iconst rfl (w_irem rfl (by first | assumption | exact i32_0 | (unfold i32 at *; omega)) (by first | assumption | exact i32_0 | (unfold i32 at *; omega)) (by first | decide | omega | assumption) ?_))
                          rw [p2]
                          refine w_isub rfl (w_iload rfl rfl (w_idiv rfl (by first | assumption | exact i32_0 | (unfold i32 at *; omega)) (by first | assumption | exact i32_0 | (unfold i32 at *; omega)) (by first | decide | omega | assumption) ?_))
                          rw [hT]
                          refine w_istore (ls2 := [_, _, _, _, _, _, _, _, _, _, _]) rfl rfl rfl ?_
                          exact at102 _
                        · exfalso; omega
                      · exfalso; omega
              · have ht : (pi n - pi p).tdiv u = tAt u v p n := by unfold tAt; rw [if_pos hu0]
                have hT : (pi q - pi p).tdiv u = tAt u v p q := by unfold tAt; rw [if_pos hu0]
                clear ihn hV m1 m2 m3
                generalize tAt u v p q = T at *
                generalize tAt u v p n = t at *
                refine w_iload rfl rfl (w_iconst rfl ?_)
                refine w_icmp_ge (tgt := 196) rfl (by first | assumption | exact i32_0 | (unfold i32 at *; omega)) (by first | assumption | exact i32_0 | (unfold i32 at *; omega)) rfl (fun c10 => ?_) (fun c10 => ?_)
                · exfalso; omega
                · skip
                  refine w_iload rfl rfl ?_
                  refine w_if_eq (tgt := 196) rfl (by first | assumption | exact i32_0 | (unfold i32 at *; omega)) rfl (fun c => absurd c (by decide)) (fun _ => ?_)
                  refine w_aload rfl rfl (w_iload rfl rfl (w_iload rfl rfl ?_))
                  refine w_call (Or.inr rfl) ((m_has1 ha h hf (by omega) eh)) (by omega) nof_167 rfl rfl rfl rfl (by first | rfl | (show cKB[_]? = _; assumption)) rfl ?_
                  refine w_if_eq (tgt := 190) rfl (by first | assumption | exact i32_0 | (unfold i32 at *; omega)) rfl (fun c => absurd c (by decide)) (fun _ => ?_)
                  refine w_iload rfl rfl (w_iload rfl rfl ?_)
                  refine w_icmp_eq (tgt := 190) rfl (by first | assumption | exact i32_0 | (unfold i32 at *; omega)) (by first | assumption | exact i32_0 | (unfold i32 at *; omega)) rfl (fun c31 => ?_) (fun c31 => ?_)
                  · exfalso; omega
                  · skip
                    refine w_iload rfl rfl (w_iload rfl rfl ?_)
                    refine w_icmp_eq (tgt := 190) rfl (by first | assumption | exact i32_0 | (unfold i32 at *; omega)) (by first | assumption | exact i32_0 | (unfold i32 at *; omega)) rfl (fun c37 => ?_) (fun c37 => ?_)
                    · exfalso; omega
                    · skip
                      refine w_iload rfl rfl ?_
                      refine w_if_eq (tgt := 59) rfl (by first | assumption | exact i32_0 | (unfold i32 at *; omega)) rfl (fun c42 => ?_) (fun c42 => ?_)
                      · exfalso; omega
                      · skip
                        refine w_iload rfl rfl (w_iconst rfl (w_idiv rfl (by first | assumption | exact i32_0 | (unfold i32 at *; omega)) (by first | assumption | exact i32_0 | (unfold i32 at *; omega)) (by first | decide | omega | assumption) ?_))
                        rw [n1]
                        refine w_iload rfl rfl (w_iconst rfl (w_idiv rfl (by first | assumption | exact i32_0 | (unfold i32 at *; omega)) (by first | assumption | exact i32_0 | (unfold i32 at *; omega)) (by first | decide | omega | assumption) ?_))
                        rw [p1]
                        refine w_isub rfl (w_iload rfl rfl (w_idiv rfl (by first | assumption | exact i32_0 | (unfold i32 at *; omega)) (by first | assumption | exact i32_0 | (unfold i32 at *; omega)) (by first | decide | omega | assumption) (w_goto (tgt := 70) rfl rfl ?_)))
                        rw [ht]
                        refine w_istore (ls2 := [_, _, _, _, _, _, _, _, _, _, _]) rfl rfl rfl (w_iload rfl rfl ?_)
                        refine w_if_eq (tgt := 90) rfl (by first | assumption | exact i32_0 | (unfold i32 at *; omega)) rfl (fun c74 => ?_) (fun c74 => ?_)
                        · exfalso; omega
                        · skip
                          refine w_iload rfl rfl (w_iconst rfl (w_idiv rfl (by first | assumption | exact i32_0 | (unfold i32 at *; omega)) (by first | assumption | exact i32_0 | (unfold i32 at *; omega)) (by first | decide | omega | assumption) ?_))
                          rw [r1]
                          refine w_iload rfl rfl (w_iconst rfl (w_idiv rfl (by first | assumption | exact i32_0 | (unfold i32 at *; omega)) (by first | assumption | exact i32_0 | (unfold i32 at *; omega)) (by first | decide | omega | assumption) ?_))
                          rw [p1]
                          refine w_isub rfl (w_iload rfl rfl (w_idiv rfl (by first | assumption | exact i32_0 | (unfold i32 at *; omega)) (by first | assumption | exact i32_0 | (unfold i32 at *; omega)) (by first | decide | omega | assumption) (w_goto (tgt := 100) rfl rfl ?_)))
                          rw [hT]
                          refine w_istore (ls2 := [_, _, _, _, _, _, _, _, _, _, _]) rfl rfl rfl ?_
                          exact at102 _
  have hgo := loop 25 0 vN vN vN rfl (by decide)
  refine w_iconst rfl (w_istore (ls2 := [_, _, _, _, _, _, _, _, _, _, _]) rfl rfl rfl (w_iconst rfl (w_istore (ls2 := [_, _, _, _, _, _, _, _, _, _, _]) rfl rfl rfl ?_)))
  exact hgo
