/-! ===== the model's heaviest and highest ===== -/
theorem m_heaviest {a n0 : Nat} {h : Cv} {M : mM} (ha : a < 2) (hf : Cok 999 h) (hl : (cornF h).length ≤ 16) (hv : mvE a h M) (hok : rowsOK n0 (rowsF h)) : E 3 239 [vR 155, vI a] M (some (vI (maxW (rowsF h) (rowsF h).length))) M := by
  have hl30 := hv.2.1
  have h172 : M 172 ((a : Int)).toNat = ((rowsF h).length : Int) := hv.1
  have hwt : ∀ n (hn : n < (rowsF h).length), E 2 214 [vR 155, vI ((40 * a + n : Nat) : Int)] M (some (vI ((rowsF h)[n] 3))) M := by
    intro n hn
    obtain ⟨p, r, pr, r21, -, -, e0, e1, e3⟩ := rowsF_wt hf hl _ (List.getElem_mem hn)
    have hx := mv_at hv hok hn
    rw [e3]
    exact m_weight (by omega) (by omega) (by omega) (hx.1.1.trans e0) (hx.1.2.trans e1)
  have hmw := maxW_le hok
  have h34 : ∀ n (hn : n < (rowsF h).length), 0 ≤ (rowsF h)[n] 3 ∧ (rowsF h)[n] 3 ≤ 4 := fun n hn => (hok _ (List.getElem_mem hn)).1.2.2.2.2.2
  clear hv hok
  generalize rowsF h = R at *
  refine e_in (ls := [vR 155, vI a, vN, vN]) mq_239 (ml_239 rfl) rfl fun D hD => ?_
  have loop : ∀ (z n : Nat), R.length - n = z → n ≤ R.length → Wp mc_239 D 7 [vR 155, vI a, vI (maxW R n), vI ((40 * a + n : Nat) : Int)] [] M (fun r N => r = some (vI (maxW R R.length)) ∧ N = M) := by
    intro z
    induction z with
    | zero =>
      intro n hz hn
      obtain rfl : n = R.length := by omega
      clear hwt hmw h34
      generalize maxW R R.length = c at *
      generalize R.length = m at *
      refine w_iload rfl rfl (w_iconst rfl (w_iload rfl rfl (w_imul rfl (w_aload rfl rfl (w_getR rfl (by first | rfl | assumption) rfl (by first | rfl | assumption) (w_iload rfl rfl (w_ialoadV rfl (by first | rfl | assumption) (by omega) (by omega) (h172) ?_)))))))
      refine w_iadd rfl ?_
      refine w_icmp_ge (tgt := 47) rfl (by first | assumption | exact i32_0 | (unfold i32 at *; omega)) (by first | assumption | exact i32_0 | (unfold i32 at *; omega)) rfl (fun c19 => ?_) (fun c19 => ?_)
      · skip
        refine w_iload rfl rfl ?_
        exact w_ireturn rfl ⟨by first | rfl | (congr 2; omega), by rfl⟩
      · skip
        exfalso; omega
    | succ z ih =>
      intro n hz hn
      have hnl : n < R.length := by omega
      have hw := hwt n hnl
      have h3 := h34 n hnl
      have hm := hmw n hn
      have ihn := ih (n + 1) (by omega) (by omega)
      rw [maxW_snoc R n hnl] at ihn
      have hi : ((40 * a + n : Nat) : Int) + 1 = ((40 * a + (n + 1) : Nat) : Int) := by omega
      clear hwt hmw h34 ih
      generalize maxW R n = c at *
      generalize maxW R R.length = cc at *
      generalize R[n] 3 = w at *
      generalize R.length = m at *
      by_cases q : c < w
      · rw [show max c w = w by omega] at ihn
        refine w_iload rfl rfl (w_iconst rfl (w_iload rfl rfl (w_imul rfl (w_aload rfl rfl (w_getR rfl (by first | rfl | assumption) rfl (by first | rfl | assumption) (w_iload rfl rfl (w_ialoadV rfl (by first | rfl | assumption) (by omega) (by omega) (h172) ?_)))))))
        refine w_iadd rfl ?_
        refine w_icmp_ge (tgt := 47) rfl (by first | assumption | exact i32_0 | (unfold i32 at *; omega)) (by first | assumption | exact i32_0 | (unfold i32 at *; omega)) rfl (fun c19 => ?_) (fun c19 => ?_)
        · exfalso; omega
        · skip
          refine w_aload rfl rfl (w_iload rfl rfl ?_)
          refine w_call (Or.inr rfl) ((hw)) (by omega) nof_214 rfl rfl rfl rfl (by first | rfl | (show cKB[_]? = _; assumption)) rfl ?_
          refine w_iload rfl rfl ?_
          refine w_icmp_le (tgt := 39) rfl (by first | assumption | exact i32_0 | (unfold i32 at *; omega)) (by first | assumption | exact i32_0 | (unfold i32 at *; omega)) rfl (fun c28 => ?_) (fun c28 => ?_)
          · skip
            exfalso; omega
          · skip
            refine w_aload rfl rfl (w_iload rfl rfl ?_)
            refine w_call (Or.inr rfl) ((hw)) (by omega) nof_214 rfl rfl rfl rfl (by first | rfl | (show cKB[_]? = _; assumption)) rfl ?_
            refine w_goto (tgt := 40) rfl rfl (w_istore (ls2 := [_, _, _, _]) rfl rfl rfl (w_iinc (ls2 := [_, _, _, _]) rfl rfl rfl ?_))
            rw [hi]
            refine w_goto (tgt := 7) rfl rfl ?_
            exact ihn
      · rw [show max c w = c by omega] at ihn
        refine w_iload rfl rfl (w_iconst rfl (w_iload rfl rfl (w_imul rfl (w_aload rfl rfl (w_getR rfl (by first | rfl | assumption) rfl (by first | rfl | assumption) (w_iload rfl rfl (w_ialoadV rfl (by first | rfl | assumption) (by omega) (by omega) (h172) ?_)))))))
        refine w_iadd rfl ?_
        refine w_icmp_ge (tgt := 47) rfl (by first | assumption | exact i32_0 | (unfold i32 at *; omega)) (by first | assumption | exact i32_0 | (unfold i32 at *; omega)) rfl (fun c19 => ?_) (fun c19 => ?_)
        · exfalso; omega
        · skip
          refine w_aload rfl rfl (w_iload rfl rfl ?_)
          refine w_call (Or.inr rfl) ((hw)) (by omega) nof_214 rfl rfl rfl rfl (by first | rfl | (show cKB[_]? = _; assumption)) rfl ?_
          refine w_iload rfl rfl ?_
          refine w_icmp_le (tgt := 39) rfl (by first | assumption | exact i32_0 | (unfold i32 at *; omega)) (by first | assumption | exact i32_0 | (unfold i32 at *; omega)) rfl (fun c28 => ?_) (fun c28 => ?_)
          · skip
            refine w_iload rfl rfl (w_istore (ls2 := [_, _, _, _]) rfl rfl rfl (w_iinc (ls2 := [_, _, _, _]) rfl rfl rfl ?_))
            rw [hi]
            refine w_goto (tgt := 7) rfl rfl ?_
            exact ihn
          · skip
            exfalso; omega
  have hgo := loop R.length 0 (Nat.sub_zero _) (Nat.zero_le _)
  have hi0 : (40 : Int) * (a : Int) = ((40 * a + 0 : Nat) : Int) := by omega
  clear loop hwt hmw h34
  refine w_iconst rfl (w_istore (ls2 := [_, _, _, _]) rfl rfl rfl (w_iconst rfl (w_iload rfl rfl (w_imul rfl ?_))))
  rw [hi0]
  refine w_istore (ls2 := [_, _, _, _]) rfl rfl rfl ?_
  exact hgo
theorem degF_25 {f : Cv} (hf : Cok 999 f) : degF f 25 = degF f 21 := by
  have hs : ∀ k, 21 ≤ k → degF f (k + 1) = degF f k := fun k hk => by
    have : hasF f k = false := by unfold hasF; rw [f_hi hf hk]; rfl
    rw [degF, if_neg (by rw [this]; decide)]
  rw [hs 24 (by decide), hs 23 (by decide), hs 22 (by decide), hs 21 (by decide)]
theorem m_highest {a : Nat} {h : Cv} {M : mM} (ha : a < 2) (hc : mcur (25 * a) h M) (hf : Cok 999 h) : E 2 240 [vR 155, vI a] M (some (vI (degF h 21))) M := by
  rw [← degF_25 hf]
  refine e_in (ls := [vR 155, vI a, vN, vN]) mq_240 (ml_240 rfl) rfl fun D hD => ?_
  have loop : ∀ (z n : Nat), 25 - n = z → n ≤ 25 → Wp mc_240 D 5 [vR 155, vI a, vI (degF h n), vI n] [] M (fun r N => r = some (vI (degF h 25)) ∧ N = M) := by
    intro z
    induction z with
    | zero =>
      intro n hz hn
      obtain rfl : n = 25 := by omega
      refine w_iload rfl rfl (w_iconst rfl ?_)
      refine w_icmp_ge (tgt := 49) rfl (by first | assumption | exact i32_0 | (unfold i32 at *; omega)) (by first | assumption | exact i32_0 | (unfold i32 at *; omega)) rfl (fun c8 => ?_) (fun c8 => ?_)
      · skip
        refine w_iload rfl rfl ?_
        exact w_ireturn rfl ⟨by first | rfl | (congr 2; omega), by rfl⟩
      · skip
        exfalso; omega
    | succ z ih =>
      intro n hz hn
      have ihn := ih (n + 1) (by omega) (by omega)
      have h1 := degF_le h n (by omega)
      have h2 := pi_le (p := n) (by omega)
      have h3 := pj_le n
      cases e : hasF h n with
      | false =>
        rw [degF, if_neg (by rw [e]; decide)] at ihn
        clear ih
        refine w_iload rfl rfl (w_iconst rfl ?_)
        refine w_icmp_ge (tgt := 49) rfl (by first | assumption | exact i32_0 | (unfold i32 at *; omega)) (by first | assumption | exact i32_0 | (unfold i32 at *; omega)) rfl (fun c8 => ?_) (fun c8 => ?_)
        · exfalso; omega
        · skip
          refine w_aload rfl rfl (w_iload rfl rfl (w_iload rfl rfl ?_))
          refine w_call (Or.inr rfl) (m_has0 ha hc hf (by omega) e) (by omega) nof_167 rfl rfl rfl rfl (by first | rfl | (show cKB[_]? = _; assumption)) rfl ?_
          refine w_if_eq (tgt := 41) rfl (by first | assumption | exact i32_0 | (unfold i32 at *; omega)) rfl (fun _ => ?_) (fun c => absurd c (by decide))
          refine w_iload rfl rfl (w_istore (ls2 := [_, _, _, _]) rfl rfl rfl (w_iinc (ls2 := [_, _, _, _]) rfl rfl rfl (w_goto (tgt := 5) rfl rfl ?_)))
          exact ihn
      | true =>
        rw [degF, if_pos e] at ihn
        clear ih
        have d5 : (n : Int).tdiv 5 = pi n := rfl
        have m5 : (n : Int).tmod 5 = pj n := rfl
        generalize degF h n = c at *
        by_cases q : c < pi n + pj n
        · rw [show max c (pi n + pj n) = pi n + pj n by omega] at ihn
          refine w_iload rfl rfl (w_iconst rfl ?_)
          refine w_icmp_ge (tgt := 49) rfl (by first | assumption | exact i32_0 | (unfold i32 at *; omega)) (by first | assumption | exact i32_0 | (unfold i32 at *; omega)) rfl (fun c8 => ?_) (fun c8 => ?_)
          · exfalso; omega
          · skip
            refine w_aload rfl rfl (w_iload rfl rfl (w_iload rfl rfl ?_))
            refine w_call (Or.inr rfl) (m_has1 ha hc hf (by omega) e) (by omega) nof_167 rfl rfl rfl rfl (by first | rfl | (show cKB[_]? = _; assumption)) rfl ?_
            refine w_if_eq (tgt := 41) rfl (by first | assumption | exact i32_0 | (unfold i32 at *; omega)) rfl (fun c => absurd c (by decide)) (fun _ => ?_)
            refine w_iload rfl rfl (w_iconst rfl (w_idiv rfl (by first | assumption | exact i32_0 | (unfold i32 at *; omega)) (by first | assumption | exact i32_0 | (unfold i32 at *; omega)) (by first | decide | omega | assumption) (w_iload rfl rfl (w_iconst rfl (w_irem rfl (by first | assumption | exact i32_0 | (unfold i32 at *; omega)) (by first | assumption | exact i32_0 | (unfold i32 at *; omega)) (by first | decide | omega | assumption) (w_iadd rfl (w_iload rfl rfl ?_)))))))
            refine w_icmp_le (tgt := 41) rfl (by first | assumption | exact i32_0 | (unfold i32 at *; omega)) (by first | assumption | exact i32_0 | (unfold i32 at *; omega)) rfl (fun c28 => ?_) (fun c28 => ?_)
            · skip
              exfalso; omega
            · skip
              refine w_iload rfl rfl (w_iconst rfl (w_idiv rfl (by first | assumption | exact i32_0 | (unfold i32 at *; omega)) (by first | assumption | exact i32_0 | (unfold i32 at *; omega)) (by first | decide | omega | assumption) (w_iload rfl rfl (w_iconst rfl (w_irem rfl (by first | assumption | exact i32_0 | (unfold i32 at *; omega)) (by first | assumption | exact i32_0 | (unfold i32 at *; omega)) (by first | decide | omega | assumption) (w_iadd rfl (w_goto (tgt := 42) rfl rfl (w_istore (ls2 := [_, _, _, _]) rfl rfl rfl ?_))))))))
              refine w_iinc (ls2 := [_, _, _, _]) rfl rfl rfl (w_goto (tgt := 5) rfl rfl ?_)
              exact ihn
        · rw [show max c (pi n + pj n) = c by omega] at ihn
          refine w_iload rfl rfl (w_iconst rfl ?_)
          refine w_icmp_ge (tgt := 49) rfl (by first | assumption | exact i32_0 | (unfold i32 at *; omega)) (by first | assumption | exact i32_0 | (unfold i32 at *; omega)) rfl (fun c8 => ?_) (fun c8 => ?_)
          · exfalso; omega
          · skip
            refine w_aload rfl rfl (w_iload rfl rfl (w_iload rfl rfl ?_))
            refine w_call (Or.inr rfl) (m_has1 ha hc hf (by omega) e) (by omega) nof_167 rfl rfl rfl rfl (by first | rfl | (show cKB[_]? = _; assumption)) rfl ?_
            refine w_if_eq (tgt := 41) rfl (by first | assumption | exact i32_0 | (unfold i32 at *; omega)) rfl (fun c => absurd c (by decide)) (fun _ => ?_)
            refine w_iload rfl rfl (w_iconst rfl (w_idiv rfl (by first | assumption | exact i32_0 | (unfold i32 at *; omega)) (by first | assumption | exact i32_0 | (unfold i32 at *; omega)) (by first | decide | omega | assumption) (w_iload rfl rfl (w_iconst rfl (w_irem rfl (by first | assumption | exact i32_0 | (unfold i32 at *; omega)) (by first | assumption | exact i32_0 | (unfold i32 at *; omega)) (by first | decide | omega | assumption) (w_iadd rfl (w_iload rfl rfl ?_)))))))
            refine w_icmp_le (tgt := 41) rfl (by first | assumption | exact i32_0 | (unfold i32 at *; omega)) (by first | assumption | exact i32_0 | (unfold i32 at *; omega)) rfl (fun c28 => ?_) (fun c28 => ?_)
            · skip
              refine w_iload rfl rfl (w_istore (ls2 := [_, _, _, _]) rfl rfl rfl (w_iinc (ls2 := [_, _, _, _]) rfl rfl rfl (w_goto (tgt := 5) rfl rfl ?_)))
              exact ihn
            · skip
              exfalso; omega
  have hgo := loop 25 0 rfl (by decide)
  clear loop
  refine w_iconst rfl (w_istore (ls2 := [_, _, _, _]) rfl rfl rfl (w_iconst rfl (w_istore (ls2 := [_, _, _, _]) rfl rfl rfl ?_)))
  exact hgo
