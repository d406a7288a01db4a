/-! ===== ends of the model's edges counted ===== -/
theorem m_ending {a w n0 : Nat} {h : Cv} {M : mM} (ha : a < 2) (hv : mvE a h M) (hok : rowsOK n0 (rowsF h)) (hL : ∀ e ∈ rowsF h, lenQ h e) (hw : w < 1000) : E 1 235 [vR 155, vI a, vI w] M (some (vI ((rowsF h).countP (fun e => decide (endsR e = (w : Int))) : Nat))) M := by
  have hl30 := hv.2.1
  have h172 : M 172 ((a : Int)).toNat = ((rowsF h).length : Int) := hv.1
  have hat := fun k hk => mv_at (k := k) hv hok hk
  have h54 : ∀ k (hk : k < (rowsF h).length), ((rowsF h)[k]'hk) 5 ≠ -1000000 → ((rowsF h)[k]'hk) 4 ≠ -1000000 := fun k hk z => ((hL _ (List.getElem_mem hk)).2 z).1
  clear hv hok hL
  generalize rowsF h = R at *
  refine e_in (ls := [vR 155, vI a, vI w, vN, vN, vN]) mq_235 (ml_235 rfl) rfl fun D hD => ?_
  have loop : ∀ (z n : Nat) (v : mV), R.length - n = z → n ≤ R.length → Wp mc_235 D 8 [vR 155, vI a, vI w, vI ((R.take n).countP (fun e => decide (endsR e = (w : Int))) : Nat), vI ((40 * a + n : Nat) : Int), v] [] M (fun r N => r = some (vI (R.countP (fun e => decide (endsR e = (w : Int))) : Nat)) ∧ N = M) := by
    intro z
    induction z with
    | zero =>
      intro n v hz hn
      obtain rfl : n = R.length := by omega
      rw [List.take_length]
      generalize (R.countP (fun e => decide (endsR e = (w : Int)))) = c at *
      clear hat h54
      generalize R.length = m at *
      refine w_iload rfl rfl (w_iconst rfl (w_iload rfl rfl (w_imul rfl (w_aload rfl rfl (w_getR rfl (by first | rfl | assumption) rfl (by first | rfl | assumption) (w_iload rfl rfl (w_ialoadV rfl (by first | rfl | assumption) (by omega) (by omega) (h172) ?_)))))))
      refine w_iadd rfl ?_
      refine w_icmp_ge (tgt := 79) rfl (by first | assumption | exact i32_0 | (unfold i32 at *; omega)) (by first | assumption | exact i32_0 | (unfold i32 at *; omega)) rfl (fun c21 => ?_) (fun c21 => ?_)
      · skip
        refine w_iload rfl rfl ?_
        exact w_ireturn rfl ⟨by first | rfl | (congr 2; omega), by rfl⟩
      · skip
        exfalso; omega
    | succ z ih =>
      intro n v hz hn
      have hnl : n < R.length := by omega
      have hx := hat n hnl
      have h5 := h54 n hnl
      have ihn := fun v => ih (n + 1) v (by omega) (by omega)
      rw [cnt_snoc _ R n hnl] at ihn
      generalize (R.take n).countP (fun e => decide (endsR e = (w : Int))) = c at *
      generalize (R.countP (fun e => decide (endsR e = (w : Int)))) = cc at *
      generalize R[n] = e at *
      obtain ⟨-, ⟨x4, x5⟩, -, hed⟩ := hx
      have o4 := hed.2.2.1
      have o5 := hed.2.2.2.1
      have hen : endsR e = if e 4 = -1000000 then 0 else if e 5 = -1000000 then 1 else 2 := rfl
      rw [hen] at ihn
      have hi : ((40 * a + n : Nat) : Int) + 1 = ((40 * a + (n + 1) : Nat) : Int) := by omega
      clear hat ih h54 hed hen
      generalize R.length = m at *
      generalize e 4 = s4 at *
      generalize e 5 = s5 at *
      by_cases q5 : s5 = -1000000
      · by_cases q4 : s4 = -1000000
        · rw [if_pos q4] at ihn
          by_cases q : (0 : Int) = (w : Int)
          · rw [decide_eq_true q] at ihn
            refine w_iload rfl rfl (w_iconst rfl (w_iload rfl rfl (w_imul rfl (w_aload rfl rfl (w_getR rfl (by first | rfl | assumption) rfl (by first | rfl | assumption) (w_iload rfl rfl (w_ialoadV rfl (by first | rfl | assumption) (by omega) (by omega) (h172) ?_)))))))
            refine w_iadd rfl ?_
            refine w_icmp_ge (tgt := 79) rfl (by first | assumption | exact i32_0 | (unfold i32 at *; omega)) (by first | assumption | exact i32_0 | (unfold i32 at *; omega)) rfl (fun c21 => ?_) (fun c21 => ?_)
            · exfalso; omega
            · skip
              refine w_aload rfl rfl (w_getR rfl (by first | rfl | assumption) rfl (by first | rfl | assumption) (w_iload rfl rfl (w_ialoadV rfl (by first | rfl | assumption) (by omega) (by omega) (x5) (w_iconst rfl ?_))))
              refine w_icmp_eq (tgt := 40) rfl (by first | assumption | exact i32_0 | (unfold i32 at *; omega)) (by first | assumption | exact i32_0 | (unfold i32 at *; omega)) rfl (fun c33 => ?_) (fun c33 => ?_)
              · skip
                refine w_aload rfl rfl (w_getR rfl (by first | rfl | assumption) rfl (by first | rfl | assumption) (w_iload rfl rfl (w_ialoadV rfl (by first | rfl | assumption) (by omega) (by omega) (x4) (w_iconst rfl ?_))))
                refine w_icmp_eq (tgt := 56) rfl (by first | assumption | exact i32_0 | (unfold i32 at *; omega)) (by first | assumption | exact i32_0 | (unfold i32 at *; omega)) rfl (fun c49 => ?_) (fun c49 => ?_)
                · skip
                  refine w_iconst rfl (w_istore (ls2 := [_, _, _, _, _, _]) rfl rfl rfl (w_iload rfl rfl (w_iload rfl rfl (w_iload rfl rfl ?_))))
                  refine w_icmp_ne (tgt := 70) rfl (by first | assumption | exact i32_0 | (unfold i32 at *; omega)) (by first | assumption | exact i32_0 | (unfold i32 at *; omega)) rfl (fun c63 => ?_) (fun c63 => ?_)
                  · skip
                    exfalso; omega
                  · skip
                    refine w_iconst rfl (w_goto (tgt := 71) rfl rfl (w_iadd rfl (w_istore (ls2 := [_, _, _, _, _, _]) rfl rfl rfl (w_iinc (ls2 := [_, _, _, _, _, _]) rfl rfl rfl ?_))))
                    rw [hi]
                    refine w_goto (tgt := 8) rfl rfl ?_
                    exact ihn _
                · skip
                  exfalso; omega
              · skip
                exfalso; omega
          · rw [decide_eq_false q] at ihn
            refine w_iload rfl rfl (w_iconst rfl (w_iload rfl rfl (w_imul rfl (w_aload rfl rfl (w_getR rfl (by first | rfl | assumption) rfl (by first | rfl | assumption) (w_iload rfl rfl (w_ialoadV rfl (by first | rfl | assumption) (by omega) (by omega) (h172) ?_)))))))
            refine w_iadd rfl ?_
            refine w_icmp_ge (tgt := 79) rfl (by first | assumption | exact i32_0 | (unfold i32 at *; omega)) (by first | assumption | exact i32_0 | (unfold i32 at *; omega)) rfl (fun c21 => ?_) (fun c21 => ?_)
            · exfalso; omega
            · skip
              refine w_aload rfl rfl (w_getR rfl (by first | rfl | assumption) rfl (by first | rfl | assumption) (w_iload rfl rfl (w_ialoadV rfl (by first | rfl | assumption) (by omega) (by omega) (x5) (w_iconst rfl ?_))))
              refine w_icmp_eq (tgt := 40) rfl (by first | assumption | exact i32_0 | (unfold i32 at *; omega)) (by first | assumption | exact i32_0 | (unfold i32 at *; omega)) rfl (fun c33 => ?_) (fun c33 => ?_)
              · skip
                refine w_aload rfl rfl (w_getR rfl (by first | rfl | assumption) rfl (by first | rfl | assumption) (w_iload rfl rfl (w_ialoadV rfl (by first | rfl | assumption) (by omega) (by omega) (x4) (w_iconst rfl ?_))))
                refine w_icmp_eq (tgt := 56) rfl (by first | assumption | exact i32_0 | (unfold i32 at *; omega)) (by first | assumption | exact i32_0 | (unfold i32 at *; omega)) rfl (fun c49 => ?_) (fun c49 => ?_)
                · skip
                  refine w_iconst rfl (w_istore (ls2 := [_, _, _, _, _, _]) rfl rfl rfl (w_iload rfl rfl (w_iload rfl rfl (w_iload rfl rfl ?_))))
                  refine w_icmp_ne (tgt := 70) rfl (by first | assumption | exact i32_0 | (unfold i32 at *; omega)) (by first | assumption | exact i32_0 | (unfold i32 at *; omega)) rfl (fun c63 => ?_) (fun c63 => ?_)
                  · skip
                    refine w_iconst rfl (w_iadd rfl (w_istore (ls2 := [_, _, _, _, _, _]) rfl rfl rfl (w_iinc (ls2 := [_, _, _, _, _, _]) rfl rfl rfl ?_)))
                    rw [hi]
                    refine w_goto (tgt := 8) rfl rfl ?_
                    exact ihn _
                  · skip
                    exfalso; omega
                · skip
                  exfalso; omega
              · skip
                exfalso; omega
        · rw [if_neg q4, if_pos q5] at ihn
          by_cases q : (1 : Int) = (w : Int)
          · rw [decide_eq_true q] at ihn
            refine w_iload rfl rfl (w_iconst rfl (w_iload rfl rfl (w_imul rfl (w_aload rfl rfl (w_getR rfl (by first | rfl | assumption) rfl (by first | rfl | assumption) (w_iload rfl rfl (w_ialoadV rfl (by first | rfl | assumption) (by omega) (by omega) (h172) ?_)))))))
            refine w_iadd rfl ?_
            refine w_icmp_ge (tgt := 79) rfl (by first | assumption | exact i32_0 | (unfold i32 at *; omega)) (by first | assumption | exact i32_0 | (unfold i32 at *; omega)) rfl (fun c21 => ?_) (fun c21 => ?_)
            · exfalso; omega
            · skip
              refine w_aload rfl rfl (w_getR rfl (by first | rfl | assumption) rfl (by first | rfl | assumption) (w_iload rfl rfl (w_ialoadV rfl (by first | rfl | assumption) (by omega) (by omega) (x5) (w_iconst rfl ?_))))
              refine w_icmp_eq (tgt := 40) rfl (by first | assumption | exact i32_0 | (unfold i32 at *; omega)) (by first | assumption | exact i32_0 | (unfold i32 at *; omega)) rfl (fun c33 => ?_) (fun c33 => ?_)
              · skip
                refine w_aload rfl rfl (w_getR rfl (by first | rfl | assumption) rfl (by first | rfl | assumption) (w_iload rfl rfl (w_ialoadV rfl (by first | rfl | assumption) (by omega) (by omega) (x4) (w_iconst rfl ?_))))
                refine w_icmp_eq (tgt := 56) rfl (by first | assumption | exact i32_0 | (unfold i32 at *; omega)) (by first | assumption | exact i32_0 | (unfold i32 at *; omega)) rfl (fun c49 => ?_) (fun c49 => ?_)
                · skip
                  exfalso; omega
                · skip
                  refine w_iconst rfl (w_goto (tgt := 57) rfl rfl (w_istore (ls2 := [_, _, _, _, _, _]) rfl rfl rfl (w_iload rfl rfl (w_iload rfl rfl (w_iload rfl rfl ?_)))))
                  refine w_icmp_ne (tgt := 70) rfl (by first | assumption | exact i32_0 | (unfold i32 at *; omega)) (by first | assumption | exact i32_0 | (unfold i32 at *; omega)) rfl (fun c63 => ?_) (fun c63 => ?_)
                  · skip
                    exfalso; omega
                  · skip
                    refine w_iconst rfl (w_goto (tgt := 71) rfl rfl (w_iadd rfl (w_istore (ls2 := [_, _, _, _, _, _]) rfl rfl rfl (w_iinc (ls2 := [_, _, _, _, _, _]) rfl rfl rfl ?_))))
                    rw [hi]
                    refine w_goto (tgt := 8) rfl rfl ?_
                    exact ihn _
              · skip
                exfalso; omega
          · rw [decide_eq_false q] at ihn
            refine w_iload rfl rfl (w_iconst rfl (w_iload rfl rfl (w_imul rfl (w_aload rfl rfl (w_getR rfl (by first | rfl | assumption) rfl (by first | rfl | assumption) (w_iload rfl rfl (w_ialoadV rfl (by first | rfl | assumption) (by omega) (by omega) (h172) ?_)))))))
            refine w_iadd rfl ?_
            refine w_icmp_ge (tgt := 79) rfl (by first | assumption | exact i32_0 | (unfold i32 at *; omega)) (by first | assumption | exact i32_0 | (unfold i32 at *; omega)) rfl (fun c21 => ?_) (fun c21 => ?_)
            · exfalso; omega
            · skip
              refine w_aload rfl rfl (w_getR rfl (by first | rfl | assumption) rfl (by first | rfl | assumption) (w_iload rfl rfl (w_ialoadV rfl (by first | rfl | assumption) (by omega) (by omega) (x5) (w_iconst rfl ?_))))
              refine w_icmp_eq (tgt := 40) rfl (by first | assumption | exact i32_0 | (unfold i32 at *; omega)) (by first | assumption | exact i32_0 | (unfold i32 at *; omega)) rfl (fun c33 => ?_) (fun c33 => ?_)
              · skip
                refine w_aload rfl rfl (w_getR rfl (by first | rfl | assumption) rfl (by first | rfl | assumption) (w_iload rfl rfl (w_ialoadV rfl (by first | rfl | assumption) (by omega) (by omega) (x4) (w_iconst rfl ?_))))
                refine w_icmp_eq (tgt := 56) rfl (by first | assumption | exact i32_0 | (unfold i32 at *; omega)) (by first | assumption | exact i32_0 | (unfold i32 at *; omega)) rfl (fun c49 => ?_) (fun c49 => ?_)
                · skip
                  exfalso; omega
                · skip
                  refine w_iconst rfl (w_goto (tgt := 57) rfl rfl (w_istore (ls2 := [_, _, _, _, _, _]) rfl rfl rfl (w_iload rfl rfl (w_iload rfl rfl (w_iload rfl rfl ?_)))))
                  refine w_icmp_ne (tgt := 70) rfl (by first | assumption | exact i32_0 | (unfold i32 at *; omega)) (by first | assumption | exact i32_0 | (unfold i32 at *; omega)) rfl (fun c63 => ?_) (fun c63 => ?_)
                  · skip
                    refine w_iconst rfl (w_iadd rfl (w_istore (ls2 := [_, _, _, _, _, _]) rfl rfl rfl (w_iinc (ls2 := [_, _, _, _, _, _]) rfl rfl rfl ?_)))
                    rw [hi]
                    refine w_goto (tgt := 8) rfl rfl ?_
                    exact ihn _
                  · skip
                    exfalso; omega
              · skip
                exfalso; omega
      · rw [if_neg (h5 q5), if_neg q5] at ihn
        by_cases q : (2 : Int) = (w : Int)
        · rw [decide_eq_true q] at ihn
          refine w_iload rfl rfl (w_iconst rfl (w_iload rfl rfl (w_imul rfl (w_aload rfl rfl (w_getR rfl (by first | rfl | assumption) rfl (by first | rfl | assumption) (w_iload rfl rfl (w_ialoadV rfl (by first | rfl | assumption) (by omega) (by omega) (h172) ?_)))))))
          refine w_iadd rfl ?_
          refine w_icmp_ge (tgt := 79) rfl (by first | assumption | exact i32_0 | (unfold i32 at *; omega)) (by first | assumption | exact i32_0 | (unfold i32 at *; omega)) rfl (fun c21 => ?_) (fun c21 => ?_)
          · exfalso; omega
          · skip
            refine w_aload rfl rfl (w_getR rfl (by first | rfl | assumption) rfl (by first | rfl | assumption) (w_iload rfl rfl (w_ialoadV rfl (by first | rfl | assumption) (by omega) (by omega) (x5) (w_iconst rfl ?_))))
            refine w_icmp_eq (tgt := 40) rfl (by first | assumption | exact i32_0 | (unfold i32 at *; omega)) (by first | assumption | exact i32_0 | (unfold i32 at *; omega)) rfl (fun c33 => ?_) (fun c33 => ?_)
            · skip
              exfalso; omega
            · skip
              refine w_iconst rfl (w_goto (tgt := 57) rfl rfl (w_istore (ls2 := [_, _, _, _, _, _]) rfl rfl rfl (w_iload rfl rfl (w_iload rfl rfl (w_iload rfl rfl ?_)))))
              refine w_icmp_ne (tgt := 70) rfl (by first | assumption | exact i32_0 | (unfold i32 at *; omega)) (by first | assumption | exact i32_0 | (unfold i32 at *; omega)) rfl (fun c63 => ?_) (fun c63 => ?_)
              · skip
                exfalso; omega
              · skip
                refine w_iconst rfl (w_goto (tgt := 71) rfl rfl (w_iadd rfl (w_istore (ls2 := [_, _, _, _, _, _]) rfl rfl rfl (w_iinc (ls2 := [_, _, _, _, _, _]) rfl rfl rfl ?_))))
                rw [hi]
                refine w_goto (tgt := 8) rfl rfl ?_
                exact ihn _
        · rw [decide_eq_false q] at ihn
          refine w_iload rfl rfl (w_iconst rfl (w_iload rfl rfl (w_imul rfl (w_aload rfl rfl (w_getR rfl (by first | rfl | assumption) rfl (by first | rfl | assumption) (w_iload rfl rfl (w_ialoadV rfl (by first | rfl | assumption) (by omega) (by omega) (h172) ?_)))))))
          refine w_iadd rfl ?_
          refine w_icmp_ge (tgt := 79) rfl (by first | assumption | exact i32_0 | (unfold i32 at *; omega)) (by first | assumption | exact i32_0 | (unfold i32 at *; omega)) rfl (fun c21 => ?_) (fun c21 => ?_)
          · exfalso; omega
          · skip
            refine w_aload rfl rfl (w_getR rfl (by first | rfl | assumption) rfl (by first | rfl | assumption) (w_iload rfl rfl (w_ialoadV rfl (by first | rfl | assumption) (by omega) (by omega) (x5) (w_iconst rfl ?_))))
            refine w_icmp_eq (tgt := 40) rfl (by first | assumption | exact i32_0 | (unfold i32 at *; omega)) (by first | assumption | exact i32_0 | (unfold i32 at *; omega)) rfl (fun c33 => ?_) (fun c33 => ?_)
            · skip
              exfalso; omega
            · skip
              refine w_iconst rfl (w_goto (tgt := 57) rfl rfl (w_istore (ls2 := [_, _, _, _, _, _]) rfl rfl rfl (w_iload rfl rfl (w_iload rfl rfl (w_iload rfl rfl ?_)))))
              refine w_icmp_ne (tgt := 70) rfl (by first | assumption | exact i32_0 | (unfold i32 at *; omega)) (by first | assumption | exact i32_0 | (unfold i32 at *; omega)) rfl (fun c63 => ?_) (fun c63 => ?_)
              · skip
                refine w_iconst rfl (w_iadd rfl (w_istore (ls2 := [_, _, _, _, _, _]) rfl rfl rfl (w_iinc (ls2 := [_, _, _, _, _, _]) rfl rfl rfl ?_)))
                rw [hi]
                refine w_goto (tgt := 8) rfl rfl ?_
                exact ihn _
              · skip
                exfalso; omega
  have hgo := loop R.length 0 vN (Nat.sub_zero _) (Nat.zero_le _)
  have hi0 : (40 : Int) * (a : Int) = ((40 * a + 0 : Nat) : Int) := by omega
  clear hat h54 loop
  refine w_iconst rfl (w_istore (ls2 := [_, _, _, _, _, _]) rfl rfl rfl (w_iconst rfl (w_iload rfl rfl (w_imul rfl ?_))))
  rw [hi0]
  refine w_istore (ls2 := [_, _, _, _, _, _]) rfl rfl rfl ?_
  exact hgo
theorem m_isHidden {a k n0 : Nat} {h : Cv} {M : mM} (ha : a < 2) (hc : mcur (25 * a) h M) (hf : Cok 999 h) (hv : mvE a h M) (hok : rowsOK n0 (rowsF h)) (hk : k < 1000) : E 3 222 [vR 155, vI a, vI k] M (some (vI (if 1 < cntF h ∧ (rowsF h).countP (fun e => sideR e k) = 0 then 1 else 0))) M := by
  have hsd := m_sides ha hv hok hk
  have htA := m_terms ha hc hf
  have hcl := cntF_le h
  have hl30 := hv.2.1
  have hcc : (rowsF h).countP (fun e => sideR e k) ≤ (rowsF h).length := List.countP_le_length
  generalize (rowsF h).countP (fun e => sideR e k) = c at *
  generalize cntF h = n at *
  refine e_in (ls := [vR 155, vI a, vI k]) mq_222 (ml_222 rfl) rfl fun D hD => ?_
  by_cases q : 1 < n
  · by_cases q2 : c = 0
    · rw [if_pos ⟨q, q2⟩]
      refine w_aload rfl rfl (w_iload rfl rfl ?_)
      refine w_call (Or.inr rfl) ((htA)) (by omega) nof_169 rfl rfl rfl rfl (by first | rfl | (show cKB[_]? = _; assumption)) rfl ?_
      refine w_iconst rfl ?_
      refine w_icmp_le (tgt := 22) rfl (by first | assumption | exact i32_0 | (unfold i32 at *; omega)) (by first | assumption | exact i32_0 | (unfold i32 at *; omega)) rfl (fun c6 => ?_) (fun c6 => ?_)
      · skip
        exfalso; omega
      · skip
        refine w_aload rfl rfl (w_iload rfl rfl (w_iload rfl rfl ?_))
        refine w_call (Or.inr rfl) ((hsd)) (by omega) nof_220 rfl rfl rfl rfl (by first | rfl | (show cKB[_]? = _; assumption)) rfl ?_
        refine w_if_ne (tgt := 22) rfl (by first | assumption | exact i32_0 | (unfold i32 at *; omega)) rfl (fun c15 => ?_) (fun c15 => ?_)
        · skip
          exfalso; omega
        · skip
          refine w_iconst rfl (w_goto (tgt := 23) rfl rfl ?_)
          exact w_zreturn rfl (by first | exact Or.inl rfl | exact Or.inr rfl | omega | assumption) ⟨by first | rfl | (congr 2; omega), by rfl⟩
    · rw [if_neg (fun z => q2 z.2)]
      refine w_aload rfl rfl (w_iload rfl rfl ?_)
      refine w_call (Or.inr rfl) ((htA)) (by omega) nof_169 rfl rfl rfl rfl (by first | rfl | (show cKB[_]? = _; assumption)) rfl ?_
      refine w_iconst rfl ?_
      refine w_icmp_le (tgt := 22) rfl (by first | assumption | exact i32_0 | (unfold i32 at *; omega)) (by first | assumption | exact i32_0 | (unfold i32 at *; omega)) rfl (fun c6 => ?_) (fun c6 => ?_)
      · skip
        refine w_iconst rfl ?_
        exact w_zreturn rfl (by first | exact Or.inl rfl | exact Or.inr rfl | omega | assumption) ⟨by first | rfl | (congr 2; omega), by rfl⟩
      · skip
        refine w_aload rfl rfl (w_iload rfl rfl (w_iload rfl rfl ?_))
        refine w_call (Or.inr rfl) ((hsd)) (by omega) nof_220 rfl rfl rfl rfl (by first | rfl | (show cKB[_]? = _; assumption)) rfl ?_
        refine w_if_ne (tgt := 22) rfl (by first | assumption | exact i32_0 | (unfold i32 at *; omega)) rfl (fun c15 => ?_) (fun c15 => ?_)
        · skip
          refine w_iconst rfl ?_
          exact w_zreturn rfl (by first | exact Or.inl rfl | exact Or.inr rfl | omega | assumption) ⟨by first | rfl | (congr 2; omega), by rfl⟩
        · skip
          exfalso; omega
  · rw [if_neg (fun z => q z.1)]
    refine w_aload rfl rfl (w_iload rfl rfl ?_)
    refine w_call (Or.inr rfl) ((htA)) (by omega) nof_169 rfl rfl rfl rfl (by first | rfl | (show cKB[_]? = _; assumption)) rfl ?_
    refine w_iconst rfl ?_
    refine w_icmp_le (tgt := 22) rfl (by first | assumption | exact i32_0 | (unfold i32 at *; omega)) (by first | assumption | exact i32_0 | (unfold i32 at *; omega)) rfl (fun c6 => ?_) (fun c6 => ?_)
    · skip
      refine w_iconst rfl ?_
      exact w_zreturn rfl (by first | exact Or.inl rfl | exact Or.inr rfl | omega | assumption) ⟨by first | rfl | (congr 2; omega), by rfl⟩
    · skip
      exfalso; omega
