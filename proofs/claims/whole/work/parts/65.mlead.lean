/-! ===== what is least in the model ===== -/
theorem f_hi {f : Cv} (hf : Cok 999 f) {k : Nat} (h : 21 ≤ k) : f k = none := by
  cases e : f k with
  | none => rfl
  | some c => have := (hf k c e).1; omega
theorem minF_25 {f : Cv} (hf : Cok 999 f) (x y d : Int) : minF f x y d 25 = minF f x y d 21 := by
  have s : ∀ n, 21 ≤ n → minF f x y d (n + 1) = minF f x y d n := fun n hn => by rw [minF, f_hi hf hn]
  rw [s 24 (by decide), s 23 (by decide), s 22 (by decide), s 21 (by decide)]
theorem m_tells {a p : Nat} {f : Cv} {M : mM} {c x y d : Int} (ha : a < 2) (h : mcur (25 * a) f M) (hp : p < 25) (hfp : f p = some c) (hc : -999 ≤ c ∧ c ≤ 999) : E 1 171 [vR 155, vI a, vI p, vL x, vL y, vL d] M (some (vL (wv c p x y d))) M := by
  have hx : M 156 ((25 * (a : Int) + (p : Int)).toNat) = c := by rw [show (25 * (a : Int) + (p : Int)).toNat = 25 * a + p by omega, h p hp]; unfold mv; rw [hfp]; rfl
  have b1 := pi_le hp
  have b2 := pj_le p
  have e1 : (p : Int).tdiv 5 = pi p := rfl
  have e2 : (p : Int).tmod 5 = pj p := rfl
  refine e_in (ls := [vR 155, vI a, vI p, vL x, vN, vL y, vN, vL d, vN]) mq_171 (ml_171 rfl) rfl fun D hD => ?_
  refine w_aload rfl rfl (w_getR rfl (by first | rfl | assumption) rfl (by first | rfl | assumption) (w_iconst rfl (w_iload rfl rfl (w_imul rfl (w_iload rfl rfl (w_iadd rfl (w_ialoadV rfl (by first | rfl | assumption) (by omega) (by omega) (hx) ?_)))))))
  refine w_i2l rfl (by first | assumption | exact i32_0 | (unfold i32 at *; omega)) (w_lload rfl rfl (w_lmul rfl (w_iload rfl rfl (w_iconst rfl (w_idiv rfl (by first | assumption | exact i32_0 | (unfold i32 at *; omega)) (by first | assumption | exact i32_0 | (unfold i32 at *; omega)) (by first | decide | omega | assumption) ?_)))))
  rw [e1]
  refine w_i2l rfl (by first | assumption | exact i32_0 | (unfold i32 at *; omega)) (w_lload rfl rfl (w_lmul rfl (w_ladd rfl (w_iload rfl rfl (w_iconst rfl (w_irem rfl (by first | assumption | exact i32_0 | (unfold i32 at *; omega)) (by first | assumption | exact i32_0 | (unfold i32 at *; omega)) (by first | decide | omega | assumption) ?_))))))
  rw [e2]
  refine w_i2l rfl (by first | assumption | exact i32_0 | (unfold i32 at *; omega)) (w_lload rfl rfl (w_lmul rfl (w_ladd rfl ?_)))
  exact w_lreturn rfl ⟨by (unfold wv; rw [Int.mul_comm d]), by rfl⟩
theorem m_leastAt {a : Nat} {f : Cv} {M : mM} {x y d : Int} (ha : a < 2) (h : mcur (25 * a) f M) (hf : Cok 999 f) (hd : -1000000 ≤ d ∧ d ≤ 1000000) (hx : -10000000000000 ≤ x ∧ x ≤ 10000000000000) (hy : -10000000000000 ≤ y ∧ y ≤ 10000000000000) : E 2 170 [vR 155, vI a, vL x, vL y, vL d] M (some (vL ((minF f x y d 21).getD 0))) M := by
  rw [← minF_25 hf]
  refine e_in (ls := [vR 155, vI a, vL x, vN, vL y, vN, vL d, vN, vN, vN, vN, vN, vN, vN]) mq_170 (ml_170 rfl) rfl fun D hD => ?_
  have loop : ∀ (z n : Nat) (w : mV), 25 - n = z → n ≤ 25 → Wp mc_170 D 9 [vR 155, vI a, vL x, vN, vL y, vN, vL d, vN, vL ((minF f x y d n).getD 0), vN, vI (if (minF f x y d n).isSome = true then 1 else 0), vI n, w, vN] [] M (fun r N => r = some (vL ((minF f x y d 25).getD 0)) ∧ N = M) := by
    intro z
    induction z with
    | zero =>
      intro n w hz hn
      obtain rfl : n = 25 := by omega
      refine w_iload rfl rfl (w_iconst rfl ?_)
      refine w_icmp_ge (tgt := 71) rfl (by first | assumption | exact i32_0 | (unfold i32 at *; omega)) (by first | assumption | exact i32_0 | (unfold i32 at *; omega)) rfl (fun c13 => ?_) (fun c13 => ?_)
      · skip
        refine w_lload rfl rfl ?_
        exact w_lreturn rfl ⟨by first | rfl | (congr 2; omega), by rfl⟩
      · skip
        exfalso; omega
    | succ z ih =>
      intro n w hz hn
      have ihn := fun w => ih (n + 1) w (by omega) (by omega)
      have hun : minF f x y d (n + 1) = match f n with | none => minF f x y d n | some c => match minF f x y d n with | none => some (wv c n x y d) | some m => some (min m (wv c n x y d)) := rfl
      cases q : hasF f n with
      | false =>
        have hn0 : f n = none := by
          cases z : f n with
          | none => rfl
          | some v => unfold hasF at q; rw [z] at q; cases q
        rw [hun, hn0] at ihn
        refine w_iload rfl rfl (w_iconst rfl ?_)
        refine w_icmp_ge (tgt := 71) rfl (by first | assumption | exact i32_0 | (unfold i32 at *; omega)) (by first | assumption | exact i32_0 | (unfold i32 at *; omega)) rfl (fun c13 => ?_) (fun c13 => ?_)
        · skip
          exfalso; omega
        · skip
          refine w_aload rfl rfl (w_iload rfl rfl (w_iload rfl rfl ?_))
          refine w_call (Or.inr rfl) (m_has0 ha h hf (by omega) q) (by omega) nof_167 rfl rfl rfl rfl (by first | rfl | (show cKB[_]? = _; assumption)) rfl ?_
          refine w_if_eq (tgt := 65) rfl (by first | assumption | exact i32_0 | (unfold i32 at *; omega)) rfl (fun _ => ?_) (fun c => absurd c (by decide))
          refine w_iinc (ls2 := [_, _, _, _, _, _, _, _, _, _, _, _, _, _]) rfl rfl rfl (w_goto (tgt := 9) rfl rfl ?_)
          exact ihn _
      | true =>
        have hs := hasF_some q
        have hc := cv_le hf n
        have hte := m_tells (x := x) (y := y) (d := d) ha h (by omega) hs hc
        have hwl := wv_le (c := cv f n) (p := n) (x := x) (y := y) (d := d) (A := 1000000) (B := 999) (X := 10000000000000) (by omega) hd hc hx hy
        have hun2 : minF f x y d (n + 1) = (match minF f x y d n with | none => some (wv (cv f n) n x y d) | some m => some (min m (wv (cv f n) n x y d))) := by rw [hun, hs]
        rw [hun2] at ihn
        clear hun hun2
        generalize wv (cv f n) n x y d = v at *
        cases e : minF f x y d n with
        | none =>
          rw [e] at ihn
          have ihn : ∀ w, Wp _ _ _ [vR 155, vI a, vL x, vN, vL y, vN, vL d, vN, vL v, vN, vI 1, vI ((n + 1 : Nat) : Int), w, vN] _ _ _ := ihn
          show Wp mc_170 D 9 [vR 155, vI a, vL x, vN, vL y, vN, vL d, vN, vL 0, vN, vI 0, vI n, w, vN] [] M _
          refine w_iload rfl rfl (w_iconst rfl ?_)
          refine w_icmp_ge (tgt := 71) rfl (by first | assumption | exact i32_0 | (unfold i32 at *; omega)) (by first | assumption | exact i32_0 | (unfold i32 at *; omega)) rfl (fun c13 => ?_) (fun c13 => ?_)
          · skip
            exfalso; omega
          · skip
            refine w_aload rfl rfl (w_iload rfl rfl (w_iload rfl rfl ?_))
            refine w_call (Or.inr rfl) (m_has1 ha h hf (by omega) q) (by omega) nof_167 rfl rfl rfl rfl (by first | rfl | (show cKB[_]? = _; assumption)) rfl ?_
            refine w_if_eq (tgt := 65) rfl (by first | assumption | exact i32_0 | (unfold i32 at *; omega)) rfl (fun c => absurd c (by decide)) (fun _ => ?_)
            refine w_aload rfl rfl (w_iload rfl rfl (w_iload rfl rfl (w_lload rfl rfl (w_lload rfl rfl (w_lload rfl rfl ?_)))))
            refine w_call (Or.inr rfl) (hte) (by omega) nof_171 rfl rfl rfl rfl (by first | rfl | (show cKB[_]? = _; assumption)) rfl ?_
            refine w_lstore (ls2 := [_, _, _, _, _, _, _, _, _, _, _, _, _, _]) rfl rfl rfl (w_iload rfl rfl ?_)
            refine w_if_eq (tgt := 53) rfl (by first | assumption | exact i32_0 | (unfold i32 at *; omega)) rfl (fun _ => ?_) (fun c => absurd c (by decide))
            refine w_lload rfl rfl (w_goto (tgt := 60) rfl rfl (w_lstore (ls2 := [_, _, _, _, _, _, _, _, _, _, _, _, _, _]) rfl rfl rfl (w_iconst rfl (w_istore (ls2 := [_, _, _, _, _, _, _, _, _, _, _, _, _, _]) rfl rfl rfl (w_iinc (ls2 := [_, _, _, _, _, _, _, _, _, _, _, _, _, _]) rfl rfl rfl (w_goto (tgt := 9) rfl rfl ?_))))))
            exact ihn _
        | some m =>
          rw [e] at ihn
          have hml := minF_le hf hd hx hy e
          have ihn : ∀ w, Wp _ _ _ [vR 155, vI a, vL x, vN, vL y, vN, vL d, vN, vL (min m v), vN, vI 1, vI ((n + 1 : Nat) : Int), w, vN] _ _ _ := ihn
          show Wp mc_170 D 9 [vR 155, vI a, vL x, vN, vL y, vN, vL d, vN, vL m, vN, vI 1, vI n, w, vN] [] M _
          by_cases hlt : v < m
          · rw [show min m v = v by omega] at ihn
            refine w_iload rfl rfl (w_iconst rfl ?_)
            refine w_icmp_ge (tgt := 71) rfl (by first | assumption | exact i32_0 | (unfold i32 at *; omega)) (by first | assumption | exact i32_0 | (unfold i32 at *; omega)) rfl (fun c13 => ?_) (fun c13 => ?_)
            · skip
              exfalso; omega
            · skip
              refine w_aload rfl rfl (w_iload rfl rfl (w_iload rfl rfl ?_))
              refine w_call (Or.inr rfl) (m_has1 ha h hf (by omega) q) (by omega) nof_167 rfl rfl rfl rfl (by first | rfl | (show cKB[_]? = _; assumption)) rfl ?_
              refine w_if_eq (tgt := 65) rfl (by first | assumption | exact i32_0 | (unfold i32 at *; omega)) rfl (fun c => absurd c (by decide)) (fun _ => ?_)
              refine w_aload rfl rfl (w_iload rfl rfl (w_iload rfl rfl (w_lload rfl rfl (w_lload rfl rfl (w_lload rfl rfl ?_)))))
              refine w_call (Or.inr rfl) (hte) (by omega) nof_171 rfl rfl rfl rfl (by first | rfl | (show cKB[_]? = _; assumption)) rfl ?_
              refine w_lstore (ls2 := [_, _, _, _, _, _, _, _, _, _, _, _, _, _]) rfl rfl rfl (w_iload rfl rfl ?_)
              refine w_if_eq (tgt := 53) rfl (by first | assumption | exact i32_0 | (unfold i32 at *; omega)) rfl (fun c => absurd c (by decide)) (fun _ => ?_)
              refine w_lload rfl rfl (w_lload rfl rfl ?_)
              refine w_lcmp rfl (by first | assumption | exact i64_0 | (unfold i64 at *; omega)) (by first | assumption | exact i64_0 | (unfold i64 at *; omega)) (fun c49 => ?_) (fun c49 => ?_) (fun c49 => ?_)
              · skip
                refine w_if_ge (tgt := 58) rfl (by first | assumption | exact i32_0 | (unfold i32 at *; omega)) rfl (fun c => absurd c (by decide)) (fun _ => ?_)
                refine w_lload rfl rfl (w_goto (tgt := 60) rfl rfl (w_lstore (ls2 := [_, _, _, _, _, _, _, _, _, _, _, _, _, _]) rfl rfl rfl (w_iconst rfl (w_istore (ls2 := [_, _, _, _, _, _, _, _, _, _, _, _, _, _]) rfl rfl rfl (w_iinc (ls2 := [_, _, _, _, _, _, _, _, _, _, _, _, _, _]) rfl rfl rfl (w_goto (tgt := 9) rfl rfl ?_))))))
                exact ihn _
              · exfalso; omega
              · exfalso; omega
          · rw [show min m v = m by omega] at ihn
            refine w_iload rfl rfl (w_iconst rfl ?_)
            refine w_icmp_ge (tgt := 71) rfl (by first | assumption | exact i32_0 | (unfold i32 at *; omega)) (by first | assumption | exact i32_0 | (unfold i32 at *; omega)) rfl (fun c13 => ?_) (fun c13 => ?_)
            · skip
              exfalso; omega
            · skip
              refine w_aload rfl rfl (w_iload rfl rfl (w_iload rfl rfl ?_))
              refine w_call (Or.inr rfl) (m_has1 ha h hf (by omega) q) (by omega) nof_167 rfl rfl rfl rfl (by first | rfl | (show cKB[_]? = _; assumption)) rfl ?_
              refine w_if_eq (tgt := 65) rfl (by first | assumption | exact i32_0 | (unfold i32 at *; omega)) rfl (fun c => absurd c (by decide)) (fun _ => ?_)
              refine w_aload rfl rfl (w_iload rfl rfl (w_iload rfl rfl (w_lload rfl rfl (w_lload rfl rfl (w_lload rfl rfl ?_)))))
              refine w_call (Or.inr rfl) (hte) (by omega) nof_171 rfl rfl rfl rfl (by first | rfl | (show cKB[_]? = _; assumption)) rfl ?_
              refine w_lstore (ls2 := [_, _, _, _, _, _, _, _, _, _, _, _, _, _]) rfl rfl rfl (w_iload rfl rfl ?_)
              refine w_if_eq (tgt := 53) rfl (by first | assumption | exact i32_0 | (unfold i32 at *; omega)) rfl (fun c => absurd c (by decide)) (fun _ => ?_)
              refine w_lload rfl rfl (w_lload rfl rfl ?_)
              refine w_lcmp rfl (by first | assumption | exact i64_0 | (unfold i64 at *; omega)) (by first | assumption | exact i64_0 | (unfold i64 at *; omega)) (fun c49 => ?_) (fun c49 => ?_) (fun c49 => ?_)
              · exfalso; omega
              · skip
                refine w_if_ge (tgt := 58) rfl (by first | assumption | exact i32_0 | (unfold i32 at *; omega)) rfl (fun _ => ?_) (fun c => absurd c (by decide))
                refine w_lload rfl rfl (w_lstore (ls2 := [_, _, _, _, _, _, _, _, _, _, _, _, _, _]) rfl rfl rfl (w_iconst rfl (w_istore (ls2 := [_, _, _, _, _, _, _, _, _, _, _, _, _, _]) rfl rfl rfl (w_iinc (ls2 := [_, _, _, _, _, _, _, _, _, _, _, _, _, _]) rfl rfl rfl (w_goto (tgt := 9) rfl rfl ?_)))))
                exact ihn _
              · skip
                refine w_if_ge (tgt := 58) rfl (by first | assumption | exact i32_0 | (unfold i32 at *; omega)) rfl (fun _ => ?_) (fun c => absurd c (by decide))
                refine w_lload rfl rfl (w_lstore (ls2 := [_, _, _, _, _, _, _, _, _, _, _, _, _, _]) rfl rfl rfl (w_iconst rfl (w_istore (ls2 := [_, _, _, _, _, _, _, _, _, _, _, _, _, _]) rfl rfl rfl (w_iinc (ls2 := [_, _, _, _, _, _, _, _, _, _, _, _, _, _]) rfl rfl rfl (w_goto (tgt := 9) rfl rfl ?_)))))
                exact ihn _
  have hgo := loop 25 0 vN rfl (by decide)
  refine w_lconst rfl (w_lstore (ls2 := [_, _, _, _, _, _, _, _, _, _, _, _, _, _]) rfl rfl rfl (w_iconst rfl (w_istore (ls2 := [_, _, _, _, _, _, _, _, _, _, _, _, _, _]) rfl rfl rfl (w_iconst rfl (w_istore (ls2 := [_, _, _, _, _, _, _, _, _, _, _, _, _, _]) rfl rfl rfl ?_)))))
  exact hgo
theorem lead_mk {f : Cv} (hf : Cok 999 f) (x y d : Int) : leadF f x y d = mk (atF f x y d ((minF f x y d 21).getD 0)) 25 := by
  have hh : ∀ m k, 21 ≤ k → atF f x y d m k = false := fun m k hk => by unfold atF; rw [f_hi hf hk]
  unfold leadF
  cases e : minF f x y d 21 with
  | none =>
    have hn := minF_none e
    refine Nat.eq_of_testBit_eq fun k => ?_
    rw [mk_tb]
    have : atF f x y d ((none : Option Int).getD 0) k = false := by
      rcases Nat.lt_or_ge k 21 with q | q
      · unfold atF; rw [hn k q]
      · exact hh _ k q
    rw [this]
    simp
  | some m =>
    refine mk_cong fun k => ?_
    rcases Nat.lt_or_ge k 21 with q | q
    · rw [decide_eq_true q, decide_eq_true (show k < 25 by omega)]; rfl
    · rw [show atF f x y d ((some m).getD 0) k = false from hh _ k q, show atF f x y d m k = false from hh _ k q, Bool.and_false, Bool.and_false]
theorem m_leadAt {a : Nat} {f : Cv} {M : mM} {x y d : Int} (ha : a < 2) (h : mcur (25 * a) f M) (hf : Cok 999 f) (hd : -1000000 ≤ d ∧ d ≤ 1000000) (hx : -10000000000000 ≤ x ∧ x ≤ 10000000000000) (hy : -10000000000000 ≤ y ∧ y ≤ 10000000000000) : E 3 172 [vR 155, vI a, vL x, vL y, vL d] M (some (vI (leadF f x y d))) M := by
  have hls := m_leastAt ha h hf hd hx hy
  rw [lead_mk hf]
  have hb : -(1000000 * 999 + 8 * 10000000000000) ≤ (minF f x y d 21).getD 0 ∧ (minF f x y d 21).getD 0 ≤ 1000000 * 999 + 8 * 10000000000000 := by
    cases e : minF f x y d 21 with
    | none => exact ⟨by decide, by decide⟩
    | some m => exact minF_le hf hd hx hy e
  generalize hm : (minF f x y d 21).getD 0 = m at *
  refine e_in (ls := [vR 155, vI a, vL x, vN, vL y, vN, vL d, vN, vN, vN, vN, vN]) mq_172 (ml_172 rfl) rfl fun D hD => ?_
  have loop : ∀ (z n : Nat), 25 - n = z → n ≤ 25 → Wp mc_172 D 18 [vR 155, vI a, vL x, vN, vL y, vN, vL d, vN, vL m, vN, vI (mk (atF f x y d m) n : Nat), vI n] [] M (fun r N => r = some (vI (mk (atF f x y d m) 25 : Nat)) ∧ N = M) := by
    intro z
    induction z with
    | zero =>
      intro n hz hn
      obtain rfl : n = 25 := by omega
      refine w_iload rfl rfl (w_iconst rfl ?_)
      refine w_icmp_ge (tgt := 72) rfl (by first | assumption | exact i32_0 | (unfold i32 at *; omega)) (by first | assumption | exact i32_0 | (unfold i32 at *; omega)) rfl (fun c22 => ?_) (fun c22 => ?_)
      · skip
        refine w_iload rfl rfl ?_
        exact w_ireturn rfl ⟨by first | rfl | (congr 2; omega), by rfl⟩
      · skip
        exfalso; omega
    | succ z ih =>
      intro n hz hn
      have ihn := ih (n + 1) (by omega) (by omega)
      have hun : mk (atF f x y d m) (n + 1) = mk (atF f x y d m) n ||| (if atF f x y d m n = true then 2 ^ n else 0) := rfl
      rw [hun] at ihn
      have hlt := mk_lt (atF f x y d m) n
      have hp : 2 ^ n ≤ 2 ^ 24 := Nat.pow_le_pow_right (by decide) (by omega)
      generalize mk (atF f x y d m) n = acc at *
      have e58 := bitI_shl n (by omega)
      have e63 := bitI_or (a := acc) (b := 2 ^ n) (by omega) (by omega)
      have e63z : bitI (· ||| ·) (acc : Int) 0 = (acc : Int) := by
        have := bitI_or (a := acc) (b := 0) (by omega) (by decide)
        rw [Nat.or_zero] at this; exact this
      cases q : hasF f n with
      | false =>
        have hn0 : f n = none := by
          cases z : f n with
          | none => rfl
          | some v => unfold hasF at q; rw [z] at q; cases q
        have ha0 : atF f x y d m n = false := by unfold atF; rw [hn0]
        rw [ha0, if_neg (by decide), Nat.or_zero] at ihn
        refine w_iload rfl rfl (w_iconst rfl ?_)
        refine w_icmp_ge (tgt := 72) rfl (by first | assumption | exact i32_0 | (unfold i32 at *; omega)) (by first | assumption | exact i32_0 | (unfold i32 at *; omega)) rfl (fun c22 => ?_) (fun c22 => ?_)
        · skip
          exfalso; omega
        · skip
          refine w_iload rfl rfl (w_aload rfl rfl (w_iload rfl rfl (w_iload rfl rfl ?_)))
          refine w_call (Or.inr rfl) (m_has0 ha h hf (by omega) q) (by omega) nof_167 rfl rfl rfl rfl (by first | rfl | (show cKB[_]? = _; assumption)) rfl ?_
          refine w_if_eq (tgt := 62) rfl (by first | assumption | exact i32_0 | (unfold i32 at *; omega)) rfl (fun _ => ?_) (fun c => absurd c (by decide))
          refine w_iconst rfl (w_ior rfl (e63z) (w_istore (ls2 := [_, _, _, _, _, _, _, _, _, _, _, _]) rfl rfl rfl (w_iinc (ls2 := [_, _, _, _, _, _, _, _, _, _, _, _]) rfl rfl rfl (w_goto (tgt := 18) rfl rfl ?_))))
          exact ihn
      | true =>
        have hs := hasF_some q
        have hc := cv_le hf n
        have hte := m_tells (x := x) (y := y) (d := d) ha h (by omega) hs hc
        have hwl := wv_le (c := cv f n) (p := n) (x := x) (y := y) (d := d) (A := 1000000) (B := 999) (X := 10000000000000) (by omega) hd hc hx hy
        have hat : atF f x y d m n = decide (wv (cv f n) n x y d = m) := by unfold atF; rw [hs]
        rw [hat] at ihn
        generalize wv (cv f n) n x y d = v at *
        by_cases hv : v = m
        · rw [if_pos (decide_eq_true hv)] at ihn
          refine w_iload rfl rfl (w_iconst rfl ?_)
          refine w_icmp_ge (tgt := 72) rfl (by first | assumption | exact i32_0 | (unfold i32 at *; omega)) (by first | assumption | exact i32_0 | (unfold i32 at *; omega)) rfl (fun c22 => ?_) (fun c22 => ?_)
          · skip
            exfalso; omega
          · skip
            refine w_iload rfl rfl (w_aload rfl rfl (w_iload rfl rfl (w_iload rfl rfl ?_)))
            refine w_call (Or.inr rfl) (m_has1 ha h hf (by omega) q) (by omega) nof_167 rfl rfl rfl rfl (by first | rfl | (show cKB[_]? = _; assumption)) rfl ?_
            refine w_if_eq (tgt := 62) rfl (by first | assumption | exact i32_0 | (unfold i32 at *; omega)) rfl (fun c => absurd c (by decide)) (fun _ => ?_)
            refine w_aload rfl rfl (w_iload rfl rfl (w_iload rfl rfl (w_lload rfl rfl (w_lload rfl rfl (w_lload rfl rfl ?_)))))
            refine w_call (Or.inr rfl) (hte) (by omega) nof_171 rfl rfl rfl rfl (by first | rfl | (show cKB[_]? = _; assumption)) rfl ?_
            refine w_lload rfl rfl ?_
            refine w_lcmp rfl (by first | assumption | exact i64_0 | (unfold i64 at *; omega)) (by first | assumption | exact i64_0 | (unfold i64 at *; omega)) (fun c51 => ?_) (fun c51 => ?_) (fun c51 => ?_)
            · exfalso; omega
            · exfalso; omega
            · skip
              refine w_if_ne (tgt := 62) rfl (by first | assumption | exact i32_0 | (unfold i32 at *; omega)) rfl (fun c => absurd c (by decide)) (fun _ => ?_)
              refine w_iconst rfl (w_iload rfl rfl (w_ishl rfl (e58) (w_goto (tgt := 63) rfl rfl (w_ior rfl (e63) (w_istore (ls2 := [_, _, _, _, _, _, _, _, _, _, _, _]) rfl rfl rfl (w_iinc (ls2 := [_, _, _, _, _, _, _, _, _, _, _, _]) rfl rfl rfl (w_goto (tgt := 18) rfl rfl ?_)))))))
              exact ihn
        · rw [if_neg (by rw [decide_eq_false hv]; decide), Nat.or_zero] at ihn
          refine w_iload rfl rfl (w_iconst rfl ?_)
          refine w_icmp_ge (tgt := 72) rfl (by first | assumption | exact i32_0 | (unfold i32 at *; omega)) (by first | assumption | exact i32_0 | (unfold i32 at *; omega)) rfl (fun c22 => ?_) (fun c22 => ?_)
          · skip
            exfalso; omega
          · skip
            refine w_iload rfl rfl (w_aload rfl rfl (w_iload rfl rfl (w_iload rfl rfl ?_)))
            refine w_call (Or.inr rfl) (m_has1 ha h hf (by omega) q) (by omega) nof_167 rfl rfl rfl rfl (by first | rfl | (show cKB[_]? = _; assumption)) rfl ?_
            refine w_if_eq (tgt := 62) rfl (by first | assumption | exact i32_0 | (unfold i32 at *; omega)) rfl (fun c => absurd c (by decide)) (fun _ => ?_)
            refine w_aload rfl rfl (w_iload rfl rfl (w_iload rfl rfl (w_lload rfl rfl (w_lload rfl rfl (w_lload rfl rfl ?_)))))
            refine w_call (Or.inr rfl) (hte) (by omega) nof_171 rfl rfl rfl rfl (by first | rfl | (show cKB[_]? = _; assumption)) rfl ?_
            refine w_lload rfl rfl ?_
            refine w_lcmp rfl (by first | assumption | exact i64_0 | (unfold i64 at *; omega)) (by first | assumption | exact i64_0 | (unfold i64 at *; omega)) (fun c51 => ?_) (fun c51 => ?_) (fun c51 => ?_)
            · skip
              refine w_if_ne (tgt := 62) rfl (by first | assumption | exact i32_0 | (unfold i32 at *; omega)) rfl (fun _ => ?_) (fun c => absurd c (by decide))
              refine w_iconst rfl (w_ior rfl (e63z) (w_istore (ls2 := [_, _, _, _, _, _, _, _, _, _, _, _]) rfl rfl rfl (w_iinc (ls2 := [_, _, _, _, _, _, _, _, _, _, _, _]) rfl rfl rfl (w_goto (tgt := 18) rfl rfl ?_))))
              exact ihn
            · skip
              refine w_if_ne (tgt := 62) rfl (by first | assumption | exact i32_0 | (unfold i32 at *; omega)) rfl (fun _ => ?_) (fun c => absurd c (by decide))
              refine w_iconst rfl (w_ior rfl (e63z) (w_istore (ls2 := [_, _, _, _, _, _, _, _, _, _, _, _]) rfl rfl rfl (w_iinc (ls2 := [_, _, _, _, _, _, _, _, _, _, _, _]) rfl rfl rfl (w_goto (tgt := 18) rfl rfl ?_))))
              exact ihn
            · exfalso; omega
  have hgo := loop 25 0 rfl (by decide)
  refine w_aload rfl rfl (w_iload rfl rfl (w_lload rfl rfl (w_lload rfl rfl (w_lload rfl rfl ?_))))
  refine w_call (Or.inr rfl) ((hls)) (by omega) nof_170 rfl rfl rfl rfl (by first | rfl | (show cKB[_]? = _; assumption)) rfl ?_
  refine w_lstore (ls2 := [_, _, _, _, _, _, _, _, _, _, _, _]) rfl rfl rfl (w_iconst rfl (w_istore (ls2 := [_, _, _, _, _, _, _, _, _, _, _, _]) rfl rfl rfl (w_iconst rfl (w_istore (ls2 := [_, _, _, _, _, _, _, _, _, _, _, _]) rfl rfl rfl ?_))))
  exact hgo
theorem m_value {s : Sta} {M : mM} {a x y d w : Int} (c : MI s M) (ha : i32 a) (hx : i32 x) (hy : i32 y) (hd : i32 d) (hw : i32 w) : EQ 12 168 [vR 155, vI a, vI x, vI y, vI d, vI w] M (MoQ M (dValue a x y d w s) s) := by
  refine q_in (ls := [vR 155, vI a, vI x, vI y, vI d, vI w]) mq_168 (ml_168 rfl) rfl fun D hD => ?_
  have hx' : -2147483648 ≤ x ∧ x ≤ 2147483647 := hx
  have hy' : -2147483648 ≤ y ∧ y ≤ 2147483647 := hy
  have hd' : -2147483648 ≤ d ∧ d ≤ 2147483647 := hd
  have hw' : -2147483648 ≤ w ∧ w ≤ 2147483647 := hw
  unfold dValue
  by_cases q : isCu a = true
  · rw [if_pos q]
    have q := isCu_iff.mp q
    obtain ⟨a, rfl⟩ : ∃ z : Nat, a = (z : Int) := ⟨a.toNat, by omega⟩
    have ha2 : a < 2 := by omega
    by_cases qv : valOK x y d w = true
    · rw [if_pos qv]
      obtain ⟨v1, v2, v3, v4⟩ := of_decide_eq_true qv
      have hc := mcur_sel ha2 c.2.1.1
      have hf := Cok_sel (a := (a : Int)) c.2.1.2.1 c.2.1.2.2
      generalize selF (a : Int) s.2.1 s.2.2.1 = f at *
      have i1 := m_in1 (v := x) (l := -9999) (m := 9999) M (by unfold i64; omega) (by unfold i64; omega) (by unfold i64; omega) v1
      have i2 := m_in1 (v := y) (l := -9999) (m := 9999) M (by unfold i64; omega) (by unfold i64; omega) (by unfold i64; omega) v2
      have i3 := m_in1 (v := d) (l := 1) (m := 60) M (by unfold i64; omega) (by unfold i64; omega) (by unfold i64; omega) v3
      have i4 := m_in1 (v := w) (l := 0) (m := 1) M (by unfold i64; omega) (by unfold i64; omega) (by unfold i64; omega) v4
      have hsz := m_terms ha2 hc hf
      have hcl := cntF_le f
      by_cases q0 : cntF f = 0
      · rw [if_pos q0]
        rw [q0] at hsz
        refine w_iload rfl rfl ?_
        refine w_call (Or.inl rfl) (m_isCurve1 M q) (by omega) nof_165 rfl rfl rfl rfl trivial rfl ?_
        refine w_if_ne (tgt := 10) rfl (by first | assumption | exact i32_0 | (unfold i32 at *; omega)) rfl (fun _ => ?_) (fun c => absurd c (by decide))
        refine w_iload rfl rfl (w_i2l rfl (by first | assumption | exact i32_0 | (unfold i32 at *; omega)) (w_lconst rfl (w_lconst rfl ?_)))
        refine w_call (Or.inl rfl) (i1) (by omega) nof_150 rfl rfl rfl rfl trivial rfl ?_
        refine w_if_eq (tgt := 62) rfl (by first | assumption | exact i32_0 | (unfold i32 at *; omega)) rfl (fun c => absurd c (by decide)) (fun _ => ?_)
        refine w_iload rfl rfl (w_i2l rfl (by first | assumption | exact i32_0 | (unfold i32 at *; omega)) (w_lconst rfl (w_lconst rfl ?_)))
        refine w_call (Or.inl rfl) ((i2)) (by omega) nof_150 rfl rfl rfl rfl trivial rfl ?_
        refine w_if_eq (tgt := 62) rfl (by first | assumption | exact i32_0 | (unfold i32 at *; omega)) rfl (fun c => absurd c (by decide)) (fun _ => ?_)
        refine w_iload rfl rfl (w_i2l rfl (by first | assumption | exact i32_0 | (unfold i32 at *; omega)) (w_lconst rfl (w_lconst rfl ?_)))
        refine w_call (Or.inl rfl) ((i3)) (by omega) nof_150 rfl rfl rfl rfl trivial rfl ?_
        refine w_if_eq (tgt := 62) rfl (by first | assumption | exact i32_0 | (unfold i32 at *; omega)) rfl (fun c => absurd c (by decide)) (fun _ => ?_)
        refine w_iload rfl rfl (w_i2l rfl (by first | assumption | exact i32_0 | (unfold i32 at *; omega)) (w_lconst rfl (w_lconst rfl ?_)))
        refine w_call (Or.inl rfl) ((i4)) (by omega) nof_150 rfl rfl rfl rfl trivial rfl ?_
        refine w_if_ne (tgt := 65) rfl (by first | assumption | exact i32_0 | (unfold i32 at *; omega)) rfl (fun _ => ?_) (fun c => absurd c (by decide))
        refine w_aload rfl rfl (w_iload rfl rfl ?_)
        refine w_call (Or.inr rfl) ((hsz)) (by omega) nof_169 rfl rfl rfl rfl (by first | rfl | (show cKB[_]? = _; assumption)) rfl ?_
        refine w_if_ne (tgt := 76) rfl (by first | assumption | exact i32_0 | (unfold i32 at *; omega)) rfl (fun c => absurd c (by decide)) (fun _ => ?_)
        refine w_iconst rfl ?_
        exact w_ireturn rfl ⟨by first | rfl | (congr 2; omega), by exact MI_same c⟩
      · rw [if_neg q0]
        have hls := m_leastAt (M := M) ha2 hc hf (d := d) (x := x) (y := y) (by omega) (by omega) (by omega)
        have hld := m_leadAt (M := M) ha2 hc hf (d := d) (x := x) (y := y) (by omega) (by omega) (by omega)
        by_cases qw : w = 0
        · rw [if_pos qw]
          refine w_iload rfl rfl ?_
          refine w_call (Or.inl rfl) (m_isCurve1 M q) (by omega) nof_165 rfl rfl rfl rfl trivial rfl ?_
          refine w_if_ne (tgt := 10) rfl (by first | assumption | exact i32_0 | (unfold i32 at *; omega)) rfl (fun _ => ?_) (fun c => absurd c (by decide))
          refine w_iload rfl rfl (w_i2l rfl (by first | assumption | exact i32_0 | (unfold i32 at *; omega)) (w_lconst rfl (w_lconst rfl ?_)))
          refine w_call (Or.inl rfl) (i1) (by omega) nof_150 rfl rfl rfl rfl trivial rfl ?_
          refine w_if_eq (tgt := 62) rfl (by first | assumption | exact i32_0 | (unfold i32 at *; omega)) rfl (fun c => absurd c (by decide)) (fun _ => ?_)
          refine w_iload rfl rfl (w_i2l rfl (by first | assumption | exact i32_0 | (unfold i32 at *; omega)) (w_lconst rfl (w_lconst rfl ?_)))
          refine w_call (Or.inl rfl) ((i2)) (by omega) nof_150 rfl rfl rfl rfl trivial rfl ?_
          refine w_if_eq (tgt := 62) rfl (by first | assumption | exact i32_0 | (unfold i32 at *; omega)) rfl (fun c => absurd c (by decide)) (fun _ => ?_)
          refine w_iload rfl rfl (w_i2l rfl (by first | assumption | exact i32_0 | (unfold i32 at *; omega)) (w_lconst rfl (w_lconst rfl ?_)))
          refine w_call (Or.inl rfl) ((i3)) (by omega) nof_150 rfl rfl rfl rfl trivial rfl ?_
          refine w_if_eq (tgt := 62) rfl (by first | assumption | exact i32_0 | (unfold i32 at *; omega)) rfl (fun c => absurd c (by decide)) (fun _ => ?_)
          refine w_iload rfl rfl (w_i2l rfl (by first | assumption | exact i32_0 | (unfold i32 at *; omega)) (w_lconst rfl (w_lconst rfl ?_)))
          refine w_call (Or.inl rfl) ((i4)) (by omega) nof_150 rfl rfl rfl rfl trivial rfl ?_
          refine w_if_ne (tgt := 65) rfl (by first | assumption | exact i32_0 | (unfold i32 at *; omega)) rfl (fun _ => ?_) (fun c => absurd c (by decide))
          refine w_aload rfl rfl (w_iload rfl rfl ?_)
          refine w_call (Or.inr rfl) ((hsz)) (by omega) nof_169 rfl rfl rfl rfl (by first | rfl | (show cKB[_]? = _; assumption)) rfl ?_
          refine w_if_ne (tgt := 76) rfl (by first | assumption | exact i32_0 | (unfold i32 at *; omega)) rfl (fun c70 => ?_) (fun c70 => ?_)
          · skip
            refine w_iload rfl rfl ?_
            refine w_if_ne (tgt := 97) rfl (by first | assumption | exact i32_0 | (unfold i32 at *; omega)) rfl (fun c78 => ?_) (fun c78 => ?_)
            · skip
              exfalso; omega
            · skip
              refine w_aload rfl rfl (w_iload rfl rfl (w_iload rfl rfl (w_i2l rfl (by first | assumption | exact i32_0 | (unfold i32 at *; omega)) (w_iload rfl rfl (w_i2l rfl (by first | assumption | exact i32_0 | (unfold i32 at *; omega)) (w_iload rfl rfl (w_i2l rfl (by first | assumption | exact i32_0 | (unfold i32 at *; omega)) ?_)))))))
              refine w_call (Or.inr rfl) ((hls)) (by omega) nof_170 rfl rfl rfl rfl (by first | rfl | (show cKB[_]? = _; assumption)) rfl ?_
              refine w_l2i rfl (w_goto (tgt := 109) rfl rfl ?_)
              exact w_ireturn rfl ⟨by first | rfl | (congr 2; omega), by exact MI_same c⟩
          · skip
            exfalso; omega
        · rw [if_neg qw]
          refine w_iload rfl rfl ?_
          refine w_call (Or.inl rfl) (m_isCurve1 M q) (by omega) nof_165 rfl rfl rfl rfl trivial rfl ?_
          refine w_if_ne (tgt := 10) rfl (by first | assumption | exact i32_0 | (unfold i32 at *; omega)) rfl (fun _ => ?_) (fun c => absurd c (by decide))
          refine w_iload rfl rfl (w_i2l rfl (by first | assumption | exact i32_0 | (unfold i32 at *; omega)) (w_lconst rfl (w_lconst rfl ?_)))
          refine w_call (Or.inl rfl) (i1) (by omega) nof_150 rfl rfl rfl rfl trivial rfl ?_
          refine w_if_eq (tgt := 62) rfl (by first | assumption | exact i32_0 | (unfold i32 at *; omega)) rfl (fun c => absurd c (by decide)) (fun _ => ?_)
          refine w_iload rfl rfl (w_i2l rfl (by first | assumption | exact i32_0 | (unfold i32 at *; omega)) (w_lconst rfl (w_lconst rfl ?_)))
          refine w_call (Or.inl rfl) ((i2)) (by omega) nof_150 rfl rfl rfl rfl trivial rfl ?_
          refine w_if_eq (tgt := 62) rfl (by first | assumption | exact i32_0 | (unfold i32 at *; omega)) rfl (fun c => absurd c (by decide)) (fun _ => ?_)
          refine w_iload rfl rfl (w_i2l rfl (by first | assumption | exact i32_0 | (unfold i32 at *; omega)) (w_lconst rfl (w_lconst rfl ?_)))
          refine w_call (Or.inl rfl) ((i3)) (by omega) nof_150 rfl rfl rfl rfl trivial rfl ?_
          refine w_if_eq (tgt := 62) rfl (by first | assumption | exact i32_0 | (unfold i32 at *; omega)) rfl (fun c => absurd c (by decide)) (fun _ => ?_)
          refine w_iload rfl rfl (w_i2l rfl (by first | assumption | exact i32_0 | (unfold i32 at *; omega)) (w_lconst rfl (w_lconst rfl ?_)))
          refine w_call (Or.inl rfl) ((i4)) (by omega) nof_150 rfl rfl rfl rfl trivial rfl ?_
          refine w_if_ne (tgt := 65) rfl (by first | assumption | exact i32_0 | (unfold i32 at *; omega)) rfl (fun _ => ?_) (fun c => absurd c (by decide))
          refine w_aload rfl rfl (w_iload rfl rfl ?_)
          refine w_call (Or.inr rfl) ((hsz)) (by omega) nof_169 rfl rfl rfl rfl (by first | rfl | (show cKB[_]? = _; assumption)) rfl ?_
          refine w_if_ne (tgt := 76) rfl (by first | assumption | exact i32_0 | (unfold i32 at *; omega)) rfl (fun c70 => ?_) (fun c70 => ?_)
          · skip
            refine w_iload rfl rfl ?_
            refine w_if_ne (tgt := 97) rfl (by first | assumption | exact i32_0 | (unfold i32 at *; omega)) rfl (fun c78 => ?_) (fun c78 => ?_)
            · skip
              refine w_aload rfl rfl (w_iload rfl rfl (w_iload rfl rfl (w_i2l rfl (by first | assumption | exact i32_0 | (unfold i32 at *; omega)) (w_iload rfl rfl (w_i2l rfl (by first | assumption | exact i32_0 | (unfold i32 at *; omega)) (w_iload rfl rfl (w_i2l rfl (by first | assumption | exact i32_0 | (unfold i32 at *; omega)) ?_)))))))
              refine w_call (Or.inr rfl) ((hld)) (by omega) nof_172 rfl rfl rfl rfl (by first | rfl | (show cKB[_]? = _; assumption)) rfl ?_
              exact w_ireturn rfl ⟨by first | rfl | (congr 2; omega), by exact MI_same c⟩
            · skip
              exfalso; omega
          · skip
            exfalso; omega
    · rw [if_neg qv]
      have qv := of_decide_eq_false (Bool.eq_false_iff.mpr qv)
      by_cases v1 : -9999 ≤ x ∧ x ≤ 9999
      · have i1 := m_in1 (v := x) (l := -9999) (m := 9999) M (by unfold i64; omega) (by unfold i64; omega) (by unfold i64; omega) v1
        by_cases v2 : -9999 ≤ y ∧ y ≤ 9999
        · have i2 := m_in1 (v := y) (l := -9999) (m := 9999) M (by unfold i64; omega) (by unfold i64; omega) (by unfold i64; omega) v2
          by_cases v3 : 1 ≤ d ∧ d ≤ 60
          · have i3 := m_in1 (v := d) (l := 1) (m := 60) M (by unfold i64; omega) (by unfold i64; omega) (by unfold i64; omega) v3
            have v4 : ¬ (0 ≤ w ∧ w ≤ 1) := fun z => qv ⟨v1, v2, v3, z⟩
            have i4 := m_in0 (v := w) (l := 0) (m := 1) M (by unfold i64; omega) (by unfold i64; omega) (by unfold i64; omega) v4
            refine w_iload rfl rfl ?_
            refine w_call (Or.inl rfl) (m_isCurve1 M q) (by omega) nof_165 rfl rfl rfl rfl trivial rfl ?_
            refine w_if_ne (tgt := 10) rfl (by first | assumption | exact i32_0 | (unfold i32 at *; omega)) rfl (fun _ => ?_) (fun c => absurd c (by decide))
            refine w_iload rfl rfl (w_i2l rfl (by first | assumption | exact i32_0 | (unfold i32 at *; omega)) (w_lconst rfl (w_lconst rfl ?_)))
            refine w_call (Or.inl rfl) (i1) (by omega) nof_150 rfl rfl rfl rfl trivial rfl ?_
            refine w_if_eq (tgt := 62) rfl (by first | assumption | exact i32_0 | (unfold i32 at *; omega)) rfl (fun c => absurd c (by decide)) (fun _ => ?_)
            refine w_iload rfl rfl (w_i2l rfl (by first | assumption | exact i32_0 | (unfold i32 at *; omega)) (w_lconst rfl (w_lconst rfl ?_)))
            refine w_call (Or.inl rfl) ((i2)) (by omega) nof_150 rfl rfl rfl rfl trivial rfl ?_
            refine w_if_eq (tgt := 62) rfl (by first | assumption | exact i32_0 | (unfold i32 at *; omega)) rfl (fun c => absurd c (by decide)) (fun _ => ?_)
            refine w_iload rfl rfl (w_i2l rfl (by first | assumption | exact i32_0 | (unfold i32 at *; omega)) (w_lconst rfl (w_lconst rfl ?_)))
            refine w_call (Or.inl rfl) ((i3)) (by omega) nof_150 rfl rfl rfl rfl trivial rfl ?_
            refine w_if_eq (tgt := 62) rfl (by first | assumption | exact i32_0 | (unfold i32 at *; omega)) rfl (fun c => absurd c (by decide)) (fun _ => ?_)
            refine w_iload rfl rfl (w_i2l rfl (by first | assumption | exact i32_0 | (unfold i32 at *; omega)) (w_lconst rfl (w_lconst rfl ?_)))
            refine w_call (Or.inl rfl) ((i4)) (by omega) nof_150 rfl rfl rfl rfl trivial rfl ?_
            refine w_if_ne (tgt := 65) rfl (by first | assumption | exact i32_0 | (unfold i32 at *; omega)) rfl (fun c => absurd c (by decide)) (fun _ => ?_)
            refine w_iconst rfl ?_
            exact w_ireturn rfl ⟨by first | rfl | (congr 2; omega), by exact MI_same c⟩
          · have i3 := m_in0 (v := d) (l := 1) (m := 60) M (by unfold i64; omega) (by unfold i64; omega) (by unfold i64; omega) v3
            refine w_iload rfl rfl ?_
            refine w_call (Or.inl rfl) (m_isCurve1 M q) (by omega) nof_165 rfl rfl rfl rfl trivial rfl ?_
            refine w_if_ne (tgt := 10) rfl (by first | assumption | exact i32_0 | (unfold i32 at *; omega)) rfl (fun _ => ?_) (fun c => absurd c (by decide))
            refine w_iload rfl rfl (w_i2l rfl (by first | assumption | exact i32_0 | (unfold i32 at *; omega)) (w_lconst rfl (w_lconst rfl ?_)))
            refine w_call (Or.inl rfl) (i1) (by omega) nof_150 rfl rfl rfl rfl trivial rfl ?_
            refine w_if_eq (tgt := 62) rfl (by first | assumption | exact i32_0 | (unfold i32 at *; omega)) rfl (fun c => absurd c (by decide)) (fun _ => ?_)
            refine w_iload rfl rfl (w_i2l rfl (by first | assumption | exact i32_0 | (unfold i32 at *; omega)) (w_lconst rfl (w_lconst rfl ?_)))
            refine w_call (Or.inl rfl) ((i2)) (by omega) nof_150 rfl rfl rfl rfl trivial rfl ?_
            refine w_if_eq (tgt := 62) rfl (by first | assumption | exact i32_0 | (unfold i32 at *; omega)) rfl (fun c => absurd c (by decide)) (fun _ => ?_)
            refine w_iload rfl rfl (w_i2l rfl (by first | assumption | exact i32_0 | (unfold i32 at *; omega)) (w_lconst rfl (w_lconst rfl ?_)))
            refine w_call (Or.inl rfl) ((i3)) (by omega) nof_150 rfl rfl rfl rfl trivial rfl ?_
            refine w_if_eq (tgt := 62) rfl (by first | assumption | exact i32_0 | (unfold i32 at *; omega)) rfl (fun _ => ?_) (fun c => absurd c (by decide))
            refine w_iconst rfl ?_
            exact w_ireturn rfl ⟨by first | rfl | (congr 2; omega), by exact MI_same c⟩
        · have i2 := m_in0 (v := y) (l := -9999) (m := 9999) M (by unfold i64; omega) (by unfold i64; omega) (by unfold i64; omega) v2
          refine w_iload rfl rfl ?_
          refine w_call (Or.inl rfl) (m_isCurve1 M q) (by omega) nof_165 rfl rfl rfl rfl trivial rfl ?_
          refine w_if_ne (tgt := 10) rfl (by first | assumption | exact i32_0 | (unfold i32 at *; omega)) rfl (fun _ => ?_) (fun c => absurd c (by decide))
          refine w_iload rfl rfl (w_i2l rfl (by first | assumption | exact i32_0 | (unfold i32 at *; omega)) (w_lconst rfl (w_lconst rfl ?_)))
          refine w_call (Or.inl rfl) (i1) (by omega) nof_150 rfl rfl rfl rfl trivial rfl ?_
          refine w_if_eq (tgt := 62) rfl (by first | assumption | exact i32_0 | (unfold i32 at *; omega)) rfl (fun c => absurd c (by decide)) (fun _ => ?_)
          refine w_iload rfl rfl (w_i2l rfl (by first | assumption | exact i32_0 | (unfold i32 at *; omega)) (w_lconst rfl (w_lconst rfl ?_)))
          refine w_call (Or.inl rfl) ((i2)) (by omega) nof_150 rfl rfl rfl rfl trivial rfl ?_
          refine w_if_eq (tgt := 62) rfl (by first | assumption | exact i32_0 | (unfold i32 at *; omega)) rfl (fun _ => ?_) (fun c => absurd c (by decide))
          refine w_iconst rfl ?_
          exact w_ireturn rfl ⟨by first | rfl | (congr 2; omega), by exact MI_same c⟩
      · have i1 := m_in0 (v := x) (l := -9999) (m := 9999) M (by unfold i64; omega) (by unfold i64; omega) (by unfold i64; omega) v1
        refine w_iload rfl rfl ?_
        refine w_call (Or.inl rfl) (m_isCurve1 M q) (by omega) nof_165 rfl rfl rfl rfl trivial rfl ?_
        refine w_if_ne (tgt := 10) rfl (by first | assumption | exact i32_0 | (unfold i32 at *; omega)) rfl (fun _ => ?_) (fun c => absurd c (by decide))
        refine w_iload rfl rfl (w_i2l rfl (by first | assumption | exact i32_0 | (unfold i32 at *; omega)) (w_lconst rfl (w_lconst rfl ?_)))
        refine w_call (Or.inl rfl) ((id i1)) (by omega) nof_150 rfl rfl rfl rfl trivial rfl ?_
        refine w_if_eq (tgt := 62) rfl (by first | assumption | exact i32_0 | (unfold i32 at *; omega)) rfl (fun _ => ?_) (fun c => absurd c (by decide))
        refine w_iconst rfl ?_
        exact w_ireturn rfl ⟨by first | rfl | (congr 2; omega), by exact MI_same c⟩
  · rw [if_neg q]
    have q : ¬ (a = 0 ∨ a = 1) := fun z => q (isCu_iff.mpr z)
    refine w_iload rfl rfl ?_
    refine w_call (Or.inl rfl) (m_isCurve0 M ha q) (by omega) nof_165 rfl rfl rfl rfl trivial rfl ?_
    refine w_if_ne (tgt := 10) rfl (by first | assumption | exact i32_0 | (unfold i32 at *; omega)) rfl (fun c => absurd c (by decide)) (fun _ => ?_)
    refine w_iconst rfl ?_
    exact w_ireturn rfl ⟨by first | rfl | (congr 2; omega), by exact MI_same c⟩
