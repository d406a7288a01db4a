/-! ===== the model's bridges and areas ===== -/
theorem BrF_tr {M N O : mM} (h : BrF M N) (h2 : BrF N O) : BrF M O := fun b hb => (h2 b hb).trans (h b hb)
theorem BrF_rfl (M : mM) : BrF M M := fun _ _ => rfl
theorem mvE_fr {a : Nat} {f : Cv} {M N : mM} (h : mvE a f M) (e : ∀ b, 166 ≤ b → b ≤ 172 → N b = M b) : mvE a f N := by
  refine ⟨by rw [e 172 (by decide) (by decide)]; exact h.1, h.2.1, fun k r hr => ?_⟩
  have z := h.2.2 k r hr
  rw [e 166 (by decide) (by decide), e 167 (by decide) (by decide), e 168 (by decide) (by decide), e 169 (by decide) (by decide), e 170 (by decide) (by decide), e 171 (by decide) (by decide)]
  exact z
theorem mvC_fr {a : Nat} {f : Cv} {M N : mM} (h : mvC a f M) (e : ∀ b, 162 ≤ b → b ≤ 165 → N b = M b) : mvC a f N := by
  refine ⟨by rw [e 165 (by decide) (by decide)]; exact h.1, h.2.1, fun k r hr => ?_⟩
  have z := h.2.2 k r hr
  rw [e 162 (by decide) (by decide), e 163 (by decide) (by decide), e 164 (by decide) (by decide)]
  exact z
theorem m_bridges {a n0 : Nat} {h : Cv} {M : mM} (ha : a < 2) (hv : mvE a h M) (hok : rowsOK n0 (rowsF h)) (hn0 : n0 ≤ 16) (hBr : ∀ (k : Nat) (e : Nat → Int), (rowsF h)[k]? = some e → e 10 = if mBrK ((rowsF h).map endK) k = true then 1 else 0) : EQ 3 237 [vR 155, vI a] M (fun z N => z = some (vI ((rowsF h).countP (fun e => decide (e 10 = 1)) : Nat)) ∧ BrF M N) := by
  have hl30 := hv.2.1
  have h172 : M 172 ((a : Int)).toNat = ((rowsF h).length : Int) := hv.1
  have hib : ∀ n N, BrF M N → (hn : n < (rowsF h).length) → EQ 2 217 [vR 155, vI a, vI ((40 * a + n : Nat) : Int)] N (fun z O => z = some (vI (if (rowsF h)[n] 10 = 1 then 1 else 0)) ∧ BrF M O) := by
    intro n N hF hn
    have hm := m_isBridge ha (mvE_fr hv (fun b h1 h2 => hF b (by omega))) hok hn0 hn
    have hbr := hBr n _ (List.getElem?_eq_getElem hn)
    have hif : (if (rowsF h)[n] 10 = 1 then (1 : Int) else 0) = if mBrK ((rowsF h).map endK) n = true then 1 else 0 := by
      rw [hbr]
      cases mBrK ((rowsF h).map endK) n <;> rfl
    rw [hif]
    exact hm.imp (fun z O hz => ⟨hz.1, BrF_tr hF hz.2⟩)
  refine q_in (ls := [vR 155, vI a, vN, vN]) mq_237 (ml_237 rfl) rfl fun D hD => ?_
  clear hBr hv hok
  generalize rowsF h = R at *
  generalize hPost : (fun (z : Option mV) (N : mM) => z = some (vI (R.countP (fun e => decide (e 10 = 1)) : Nat)) ∧ BrF M N) = Post
  have loop : ∀ (z n : Nat) (N : mM), R.length - n = z → n ≤ R.length → BrF M N → Wp mc_237 D 7 [vR 155, vI a, vI ((R.take n).countP (fun e => decide (e 10 = 1)) : Nat), vI ((40 * a + n : Nat) : Int)] [] N Post := by
    intro z
    induction z with
    | zero =>
      intro n N hz hn hF
      obtain rfl : n = R.length := by omega
      rw [List.take_length]
      have q172 : N 172 ((a : Int)).toNat = (R.length : Int) := by rw [hF 172 (by decide)]; exact h172
      have hgo : Post (some (vI (R.countP (fun e => decide (e 10 = 1)) : Nat))) N := by rw [← hPost]; exact ⟨rfl, hF⟩
      clear hPost
      generalize (R.countP (fun e => decide (e 10 = 1))) = c at *
      clear hib
      generalize R.length = m at *
      refine w_iload rfl rfl (w_iconst rfl (w_iload rfl rfl (w_imul rfl (w_aload rfl rfl (w_getR rfl (by first | rfl | assumption) rfl (by first | rfl | assumption) (w_iload rfl rfl (w_ialoadV rfl (by first | rfl | assumption) (by omega) (by omega) (q172) ?_)))))))
      refine w_iadd rfl ?_
      refine w_icmp_ge (tgt := 45) rfl (by first | assumption | exact i32_0 | (unfold i32 at *; omega)) (by first | assumption | exact i32_0 | (unfold i32 at *; omega)) rfl (fun c19 => ?_) (fun c19 => ?_)
      · skip
        refine w_iload rfl rfl ?_
        exact w_ireturn rfl hgo
      · skip
        exfalso; omega
    | succ z ih =>
      intro n N hz hn hF
      have hnl : n < R.length := by omega
      have q172 : N 172 ((a : Int)).toNat = (R.length : Int) := by rw [hF 172 (by decide)]; exact h172
      have hb := hib n N hF hnl
      have ihn := fun N => ih (n + 1) N (by omega) (by omega)
      rw [cnt_snoc _ R n hnl] at ihn
      clear hib ih hPost
      generalize (R.take n).countP (fun e => decide (e 10 = 1)) = c at *
      generalize (R.countP (fun e => decide (e 10 = 1))) = cc at *
      generalize R[n] = e at *
      have hi : ((40 * a + n : Nat) : Int) + 1 = ((40 * a + (n + 1) : Nat) : Int) := by omega
      generalize R.length = m at *
      by_cases q : e 10 = 1
      · rw [decide_eq_true q] at ihn
        rw [if_pos q] at hb
        clear q
        refine w_iload rfl rfl (w_iconst rfl (w_iload rfl rfl (w_imul rfl (w_aload rfl rfl (w_getR rfl (by first | rfl | assumption) rfl (by first | rfl | assumption) (w_iload rfl rfl (w_ialoadV rfl (by first | rfl | assumption) (by omega) (by omega) (q172) ?_)))))))
        refine w_iadd rfl ?_
        refine w_icmp_ge (tgt := 45) rfl (by first | assumption | exact i32_0 | (unfold i32 at *; omega)) (by first | assumption | exact i32_0 | (unfold i32 at *; omega)) rfl (fun c19 => ?_) (fun c19 => ?_)
        · exfalso; omega
        · skip
          refine w_iload rfl rfl (w_aload rfl rfl (w_iload rfl rfl (w_iload rfl rfl ?_)))
          refine w_callQ (Or.inr rfl) ((hb)) (by omega) nof_217 rfl rfl rfl rfl (by first | rfl | (show cKB[_]? = _; assumption)) (fun r26 M26 hq26 => ?_)
          obtain ⟨rfl, w1⟩ := hq26
          refine w_if_eq (tgt := 36) rfl (by first | assumption | exact i32_0 | (unfold i32 at *; omega)) rfl (fun c => absurd c (by decide)) (fun _ => ?_)
          refine w_iconst rfl (w_goto (tgt := 37) rfl rfl (w_iadd rfl (w_istore (ls2 := [_, _, _, _]) rfl rfl rfl (w_iinc (ls2 := [_, _, _, _]) rfl rfl rfl ?_))))
          rw [hi]
          refine w_goto (tgt := 7) rfl rfl ?_
          exact ihn _ w1
      · rw [decide_eq_false q] at ihn
        rw [if_neg q] at hb
        clear q
        refine w_iload rfl rfl (w_iconst rfl (w_iload rfl rfl (w_imul rfl (w_aload rfl rfl (w_getR rfl (by first | rfl | assumption) rfl (by first | rfl | assumption) (w_iload rfl rfl (w_ialoadV rfl (by first | rfl | assumption) (by omega) (by omega) (q172) ?_)))))))
        refine w_iadd rfl ?_
        refine w_icmp_ge (tgt := 45) rfl (by first | assumption | exact i32_0 | (unfold i32 at *; omega)) (by first | assumption | exact i32_0 | (unfold i32 at *; omega)) rfl (fun c19 => ?_) (fun c19 => ?_)
        · exfalso; omega
        · skip
          refine w_iload rfl rfl (w_aload rfl rfl (w_iload rfl rfl (w_iload rfl rfl ?_)))
          refine w_callQ (Or.inr rfl) ((hb)) (by omega) nof_217 rfl rfl rfl rfl (by first | rfl | (show cKB[_]? = _; assumption)) (fun r26 M26 hq26 => ?_)
          obtain ⟨rfl, w1⟩ := hq26
          refine w_if_eq (tgt := 36) rfl (by first | assumption | exact i32_0 | (unfold i32 at *; omega)) rfl (fun _ => ?_) (fun c => absurd c (by decide))
          refine w_iconst rfl (w_iadd rfl (w_istore (ls2 := [_, _, _, _]) rfl rfl rfl (w_iinc (ls2 := [_, _, _, _]) rfl rfl rfl ?_)))
          rw [hi]
          refine w_goto (tgt := 7) rfl rfl ?_
          exact ihn _ w1
  have hgo := loop R.length 0 M (Nat.sub_zero _) (Nat.zero_le _) (BrF_rfl M)
  have hi0 : (40 : Int) * (a : Int) = ((40 * a + 0 : Nat) : Int) := by omega
  clear loop hPost hib
  refine w_iconst rfl (w_istore (ls2 := [_, _, _, _]) rfl rfl rfl (w_iconst rfl (w_iload rfl rfl (w_imul rfl ?_))))
  rw [hi0]
  refine w_istore (ls2 := [_, _, _, _]) rfl rfl rfl ?_
  exact hgo
theorem m_areas {a : Nat} {h : Cv} {M : mM} (ha : a < 2) (hf : Cok 999 h) (hR : ARQ) (hc : mvC a h M) : EQ 7 238 [vR 155, vI a] M (fun z N => z = some (vI (areaC (cornF h) (cornF h).length)) ∧ MlF M N) := by
  have hpl := corn_plS hf
  have hal := areaC_le (cornF h)
  have h165 : M 165 ((a : Int)).toNat = ((cornF h).length : Int) := hc.1
  have hl16 := hc.2.1
  have hat : ∀ n (hn : n < (cornF h).length), M 164 (((16 * a + n : Nat) : Int)).toNat = (cornF h)[n].2.2 := fun n hn => (hc.2.2 n _ (List.getElem?_eq_getElem hn)).2.2
  clear hc
  refine q_in (ls := [vR 155, vI a, vN, vN]) mq_238 (ml_238 rfl) rfl fun D hD => ?_
  generalize cornF h = C at *
  generalize hPost : (fun (z : Option mV) (N : mM) => z = some (vI (areaC C C.length)) ∧ MlF M N) = Post
  have loop : ∀ (z n : Nat) (N : mM), C.length - n = z → n ≤ C.length → MlF M N → Wp mc_238 D 4 [vR 155, vI a, vI (areaC C n), vI n] [] N Post := by
    intro z
    induction z with
    | zero =>
      intro n N hz hn hF
      obtain rfl : n = C.length := by omega
      have q165 : N 165 ((a : Int)).toNat = (C.length : Int) := by rw [hF.1 165 (by decide) (by decide) (by decide)]; exact h165
      have hgo : Post (some (vI (areaC C C.length))) N := by rw [← hPost]; exact ⟨rfl, hF⟩
      clear hPost hal
      generalize areaC C C.length = c at *
      clear hat hpl
      generalize C.length = m at *
      refine w_iload rfl rfl (w_aload rfl rfl (w_getR rfl (by first | rfl | assumption) rfl (by first | rfl | assumption) (w_iload rfl rfl (w_iaload rfl (by first | rfl | assumption) (by omega) (by omega) ?_))))
      refine w_icmp_ge (tgt := 38) rfl (by first | assumption | exact i32_0 | (unfold i32 at *; omega)) (by first | assumption | exact i32_0 | (unfold i32 at *; omega)) rfl (fun c11 => ?_) (fun c11 => ?_)
      · skip
        refine w_iload rfl rfl ?_
        exact w_ireturn rfl hgo
      · skip
        exfalso; omega
    | succ z ih =>
      intro n N hz hn hF
      have hnl : n < C.length := by omega
      have q165 : N 165 ((a : Int)).toNat = (C.length : Int) := by rw [hF.1 165 (by decide) (by decide) (by decide)]; exact h165
      obtain ⟨st, hs1, hs2, hs3⟩ := hpl _ (List.getElem_mem hnl)
      have q164 : N 164 (((16 * a + n : Nat) : Int)).toNat = (st : Int) := by rw [hF.1 164 (by decide) (by decide) (by decide)]; exact (hat n hnl).trans hs3
      have har := m_area (s := st) (M := N) (by omega)
      rw [hR st hs1] at har
      have ihn := fun N => ih (n + 1) N (by omega) (by omega)
      rw [areaC_snoc C n hnl, hs3, Int.toNat_natCast] at ihn
      clear hat hpl ih hPost hs3 hal
      generalize areaC C n = c at *
      generalize C.length = m at *
      generalize mixed st st = ms at *
      have hi : (16 : Int) * (a : Int) + (n : Int) = ((16 * a + n : Nat) : Int) := by omega
      have hn1 : (n : Int) + 1 = ((n + 1 : Nat) : Int) := rfl
      refine w_iload rfl rfl (w_aload rfl rfl (w_getR rfl (by first | rfl | assumption) rfl (by first | rfl | assumption) (w_iload rfl rfl (w_iaload rfl (by first | rfl | assumption) (by omega) (by omega) ?_))))
      refine w_icmp_ge (tgt := 38) rfl (by first | assumption | exact i32_0 | (unfold i32 at *; omega)) (by first | assumption | exact i32_0 | (unfold i32 at *; omega)) rfl (fun c11 => ?_) (fun c11 => ?_)
      · exfalso; omega
      · skip
        refine w_iload rfl rfl (w_aload rfl rfl (w_aload rfl rfl (w_getR rfl (by first | rfl | assumption) rfl (by first | rfl | assumption) (w_iconst rfl (w_iload rfl rfl (w_imul rfl (w_iload rfl rfl ?_)))))))
        refine w_iadd rfl ?_
        rw [hi]
        refine w_ialoadV rfl (by first | rfl | assumption) (by omega) (by omega) (q164) ?_
        refine w_callQ (Or.inr rfl) (har) (by omega) nof_207 rfl rfl rfl rfl (by first | rfl | (show cKB[_]? = _; assumption)) (fun r27 M27 hq27 => ?_)
        obtain ⟨rfl, w1⟩ := hq27
        refine w_iadd rfl (w_istore (ls2 := [_, _, _, _]) rfl rfl rfl (w_iinc (ls2 := [_, _, _, _]) rfl rfl rfl (w_goto (tgt := 4) rfl rfl ?_)))
        exact ihn _ (MlF_tr hF w1)
  have hgo := loop C.length 0 M (Nat.sub_zero _) (Nat.zero_le _) (MlF_rfl M)
  clear loop hPost hat hpl hal
  refine w_iconst rfl (w_istore (ls2 := [_, _, _, _]) rfl rfl rfl (w_iconst rfl (w_istore (ls2 := [_, _, _, _]) rfl rfl rfl ?_)))
  exact hgo
