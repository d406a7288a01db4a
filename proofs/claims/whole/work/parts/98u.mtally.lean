/-! ===== the model's sums over meetings ===== -/
theorem mvM_at {f g : Cv} {M : mM} (h : mvM f g M) (n : Nat) (hn : n < (meetF f g).length) : M 173 ((n : Int)).toNat = (meetF f g)[n].1 ∧ M 174 ((n : Int)).toNat = (meetF f g)[n].2.1 := h.2.2 n _ (List.getElem?_eq_getElem hn)
theorem m_allCounts {f g : Cv} {M : mM} (hX : MXQ) (hcf : mcur 0 f M) (hcg : mcur 25 g M) (hf : Cok 999 f) (hg : Cok 999 g) (hv : mvM f g M) : EQ 9 242 [vR 155] M (fun z N => z = some (vI (sumM (meetF f g) (meetF f g).length)) ∧ MmF M N) := by
  have h35 : M 155 35 = ((meetF f g).length : Int) := hv.1
  have hl16 := hv.2.1
  have hct : ∀ n (hn : n < (meetF f g).length) N, MmF M N → EQ 8 231 [vR 155, vI n] N (fun z O => z = some (vI (meetF f g)[n].2.2) ∧ MmF M O) := by
    intro n hn N hF
    obtain ⟨hb, hm, hp1, hp2⟩ := meetF_all hf hg _ (List.getElem_mem hn)
    have hat := mvM_at hv n hn
    have hc := m_counts (mcur_fr hcf (fun k _ _ => by rw [hF.1 156 (by decide) (by decide) (by decide) (by decide)])) (mcur_fr hcg (fun k _ _ => by rw [hF.1 156 (by decide) (by decide) (by decide) (by decide)])) hf hg hb (k := n) (by omega) ((by rw [hF.1 173 (by decide) (by decide) (by decide) (by decide)]; exact hat.1) : N 173 ((n : Int)).toNat = _) ((by rw [hF.1 174 (by decide) (by decide) (by decide) (by decide)]; exact hat.2) : N 174 ((n : Int)).toNat = _)
    rw [hX (ledW f _ _) (ledW g _ _) (lead_plS hf _ _ _) (lead_plS hg _ _ _) hp1 hp2, ← hm] at hc
    exact EQ.imp hc (fun z O h => ⟨h.1, MmF_tr hF h.2⟩)
  clear hv hcf hcg hX
  generalize meetF f g = L at *
  refine q_in (ls := [vR 155, vN, vN]) mq_242 (ml_242 rfl) rfl fun D hD => ?_
  generalize hPost : (fun (z : Option mV) (N : mM) => z = some (vI (sumM L L.length)) ∧ MmF M N) = Post
  have loop : ∀ (z n : Nat) (N : mM), L.length - n = z → n ≤ L.length → MmF M N → Wp mc_242 D 4 [vR 155, vI (sumM L n), vI n] [] N Post := by
    intro z
    induction z with
    | zero =>
      intro n N hz hn hF
      obtain rfl : n = L.length := by omega
      have q35 : N 155 35 = (L.length : Int) := (hF.2 35 (by decide)).trans h35
      have hgo : Post (some (vI (sumM L L.length))) N := by rw [← hPost]; exact ⟨rfl, hF⟩
      clear hPost hct
      generalize sumM L L.length = c at *
      generalize L.length = m at *
      refine w_iload rfl rfl (w_aload rfl rfl (w_getIV rfl (by first | rfl | assumption) (by first | exact Or.inl rfl | exact Or.inr rfl) (q35) ?_))
      refine w_icmp_ge (tgt := 26) rfl (by first | assumption | exact i32_0 | (unfold i32 at *; omega)) (by first | assumption | exact i32_0 | (unfold i32 at *; omega)) rfl (fun c9 => ?_) (fun c9 => ?_)
      · skip
        refine w_iload rfl rfl ?_
        exact w_ireturn rfl hgo
      · skip
        exfalso; omega
    | succ z ih =>
      intro n N hz hn hF
      have hnl : n < L.length := by omega
      have q35 : N 155 35 = (L.length : Int) := (hF.2 35 (by decide)).trans h35
      have hc := hct n hnl N hF
      have ihn := fun N => ih (n + 1) N (by omega) (by omega)
      rw [sumM_snoc L n hnl] at ihn
      clear hct ih hPost
      generalize sumM L n = c at *
      generalize L[n].2.2 = v at *
      generalize L.length = m at *
      refine w_iload rfl rfl (w_aload rfl rfl (w_getIV rfl (by first | rfl | assumption) (by first | exact Or.inl rfl | exact Or.inr rfl) (q35) ?_))
      refine w_icmp_ge (tgt := 26) rfl (by first | assumption | exact i32_0 | (unfold i32 at *; omega)) (by first | assumption | exact i32_0 | (unfold i32 at *; omega)) rfl (fun c9 => ?_) (fun c9 => ?_)
      · skip
        exfalso; omega
      · skip
        refine w_iload rfl rfl (w_aload rfl rfl (w_iload rfl rfl ?_))
        refine w_callQ (Or.inr rfl) ((hc)) (by omega) nof_231 rfl rfl rfl rfl (by first | rfl | (show cKB[_]? = _; assumption)) (fun r15 M15 hq15 => ?_)
        obtain ⟨rfl, w1⟩ := hq15
        refine w_iadd rfl (w_istore (ls2 := [_, _, _]) rfl rfl rfl (w_iinc (ls2 := [_, _, _]) rfl rfl rfl (w_goto (tgt := 4) rfl rfl ?_)))
        exact ihn _ w1
  have hgo := loop L.length 0 M (Nat.sub_zero _) (Nat.zero_le _) (MmF_rfl M)
  clear loop hPost hct
  refine w_iconst rfl (w_istore (ls2 := [_, _, _]) rfl rfl rfl (w_iconst rfl (w_istore (ls2 := [_, _, _]) rfl rfl rfl ?_)))
  exact hgo
theorem m_plains {f g : Cv} {M : mM} (hL : PLQ) (hcf : mcur 0 f M) (hcg : mcur 25 g M) (hf : Cok 999 f) (hg : Cok 999 g) (hv : mvM f g M) : EQ 9 244 [vR 155] M (fun z N => z = some (vI ((meetF f g).countP (simP (cornF f) (cornF g)) : Nat)) ∧ MlF M N) := by
  have h35 : M 155 35 = ((meetF f g).length : Int) := hv.1
  have hl16 := hv.2.1
  have hct : ∀ n (hn : n < (meetF f g).length) N, MlF M N → EQ 8 232 [vR 155, vI n] N (fun z O => z = some (vI (if simP (cornF f) (cornF g) (meetF f g)[n] = true then 1 else 0)) ∧ MlF M O) := by
    intro n hn N hF
    obtain ⟨hb, -⟩ := meetF_all hf hg _ (List.getElem_mem hn)
    have hat := mvM_at hv n hn
    have hc := m_isPlain hL (mcur_fr hcf (fun k _ _ => by rw [hF.1 156 (by decide) (by decide) (by decide)])) (mcur_fr hcg (fun k _ _ => by rw [hF.1 156 (by decide) (by decide) (by decide)])) hf hg hb (k := n) (by omega) ((by rw [hF.1 173 (by decide) (by decide) (by decide)]; exact hat.1) : N 173 ((n : Int)).toNat = _) ((by rw [hF.1 174 (by decide) (by decide) (by decide)]; exact hat.2) : N 174 ((n : Int)).toNat = _)
    exact EQ.imp hc (fun z O h => ⟨h.1, MlF_tr hF h.2⟩)
  clear hv hcf hcg hL
  generalize meetF f g = L at *
  generalize hS : simP (cornF f) (cornF g) = S at *
  refine q_in (ls := [vR 155, vN, vN]) mq_244 (ml_244 rfl) rfl fun D hD => ?_
  generalize hPost : (fun (z : Option mV) (N : mM) => z = some (vI (L.countP S : Nat)) ∧ MlF M N) = Post
  have loop : ∀ (z n : Nat) (N : mM), L.length - n = z → n ≤ L.length → MlF M N → Wp mc_244 D 4 [vR 155, vI ((L.take n).countP S : Nat), vI n] [] N Post := by
    intro z
    induction z with
    | zero =>
      intro n N hz hn hF
      obtain rfl : n = L.length := by omega
      rw [List.take_length]
      have q35 : N 155 35 = (L.length : Int) := (hF.2 35 (by decide)).trans h35
      have hgo : Post (some (vI (L.countP S : Nat))) N := by rw [← hPost]; exact ⟨rfl, hF⟩
      clear hPost hct
      generalize L.countP S = c at *
      generalize L.length = m at *
      refine w_iload rfl rfl (w_aload rfl rfl (w_getIV rfl (by first | rfl | assumption) (by first | exact Or.inl rfl | exact Or.inr rfl) (q35) ?_))
      refine w_icmp_ge (tgt := 34) rfl (by first | assumption | exact i32_0 | (unfold i32 at *; omega)) (by first | assumption | exact i32_0 | (unfold i32 at *; omega)) rfl (fun c9 => ?_) (fun c9 => ?_)
      · skip
        refine w_iload rfl rfl ?_
        exact w_ireturn rfl hgo
      · skip
        exfalso; omega
    | succ z ih =>
      intro n N hz hn hF
      have hnl : n < L.length := by omega
      have q35 : N 155 35 = (L.length : Int) := (hF.2 35 (by decide)).trans h35
      have hc := hct n hnl N hF
      have ihn := fun N => ih (n + 1) N (by omega) (by omega)
      rw [cnt_snoc S L n hnl] at ihn
      clear hct ih hPost
      generalize (L.take n).countP S = c at *
      generalize S L[n] = b at *
      generalize L.length = m at *
      cases b with
      | true =>
        rw [if_pos rfl] at ihn hc
        refine w_iload rfl rfl (w_aload rfl rfl (w_getIV rfl (by first | rfl | assumption) (by first | exact Or.inl rfl | exact Or.inr rfl) (q35) ?_))
        refine w_icmp_ge (tgt := 34) rfl (by first | assumption | exact i32_0 | (unfold i32 at *; omega)) (by first | assumption | exact i32_0 | (unfold i32 at *; omega)) rfl (fun c9 => ?_) (fun c9 => ?_)
        · skip
          exfalso; omega
        · skip
          refine w_iload rfl rfl (w_aload rfl rfl (w_iload rfl rfl ?_))
          refine w_callQ (Or.inr rfl) ((hc)) (by omega) nof_232 rfl rfl rfl rfl (by first | rfl | (show cKB[_]? = _; assumption)) (fun r15 M15 hq15 => ?_)
          obtain ⟨rfl, w1⟩ := hq15
          refine w_if_eq (tgt := 25) rfl (by first | assumption | exact i32_0 | (unfold i32 at *; omega)) rfl (fun c => absurd c (by decide)) (fun _ => ?_)
          refine w_iconst rfl (w_goto (tgt := 26) rfl rfl (w_iadd rfl (w_istore (ls2 := [_, _, _]) rfl rfl rfl (w_iinc (ls2 := [_, _, _]) rfl rfl rfl (w_goto (tgt := 4) rfl rfl ?_)))))
          exact ihn _ w1
      | false =>
        rw [if_neg (by decide)] at ihn hc
        refine w_iload rfl rfl (w_aload rfl rfl (w_getIV rfl (by first | rfl | assumption) (by first | exact Or.inl rfl | exact Or.inr rfl) (q35) ?_))
        refine w_icmp_ge (tgt := 34) rfl (by first | assumption | exact i32_0 | (unfold i32 at *; omega)) (by first | assumption | exact i32_0 | (unfold i32 at *; omega)) rfl (fun c9 => ?_) (fun c9 => ?_)
        · skip
          exfalso; omega
        · skip
          refine w_iload rfl rfl (w_aload rfl rfl (w_iload rfl rfl ?_))
          refine w_callQ (Or.inr rfl) ((hc)) (by omega) nof_232 rfl rfl rfl rfl (by first | rfl | (show cKB[_]? = _; assumption)) (fun r15 M15 hq15 => ?_)
          obtain ⟨rfl, w1⟩ := hq15
          refine w_if_eq (tgt := 25) rfl (by first | assumption | exact i32_0 | (unfold i32 at *; omega)) rfl (fun _ => ?_) (fun c => absurd c (by decide))
          refine w_iconst rfl (w_iadd rfl (w_istore (ls2 := [_, _, _]) rfl rfl rfl (w_iinc (ls2 := [_, _, _]) rfl rfl rfl (w_goto (tgt := 4) rfl rfl ?_))))
          exact ihn _ w1
  have hgo := loop L.length 0 M (Nat.sub_zero _) (Nat.zero_le _) (MlF_rfl M)
  clear loop hPost hct
  refine w_iconst rfl (w_istore (ls2 := [_, _, _]) rfl rfl rfl (w_iconst rfl (w_istore (ls2 := [_, _, _]) rfl rfl rfl ?_)))
  exact hgo
theorem placesF_plS {f : Cv} (hf : Cok 999 f) : plS (placesF f) := by
  intro p hp
  unfold placesF at hp
  rw [mk_tb, Bool.and_eq_true] at hp
  have := hf p _ (hasF_some hp.2)
  omega
theorem m_allPlaces {a : Nat} {h : Cv} {M : mM} (ha : a < 2) (hc : mcur (25 * a) h M) (hf : Cok 999 h) : E 2 243 [vR 155, vI a] M (some (vI (placesF h))) M := by
  have hend : mk (hasF h) 25 = placesF h := mk_cong fun k => by
    by_cases q : k < 21
    · rw [decide_eq_true q, decide_eq_true (show k < 25 by omega)]
    · have : hasF h k = false := by unfold hasF; rw [f_hi hf (by omega)]; rfl
      rw [this, Bool.and_false, Bool.and_false]
  rw [← hend]
  clear hend
  refine e_in (ls := [vR 155, vI a, vN, vN]) mq_243 (ml_243 rfl) rfl fun D hD => ?_
  have loop : ∀ (z n : Nat), 25 - n = z → n ≤ 25 → Wp mc_243 D 4 [vR 155, vI a, vI (mk (hasF h) n : Nat), vI n] [] M (fun r N => r = some (vI (mk (hasF h) 25 : Nat)) ∧ N = M) := by
    intro z
    induction z with
    | zero =>
      intro n hz hn
      obtain rfl : n = 25 := by omega
      refine w_iload rfl rfl (w_iconst rfl ?_)
      refine w_icmp_ge (tgt := 35) rfl (by first | assumption | exact i32_0 | (unfold i32 at *; omega)) (by first | assumption | exact i32_0 | (unfold i32 at *; omega)) rfl (fun c7 => ?_) (fun c7 => ?_)
      · skip
        refine w_iload rfl rfl ?_
        exact w_ireturn rfl ⟨by first | rfl | (congr 2; omega), by rfl⟩
      · skip
        exfalso; omega
    | succ z ih =>
      intro n hz hn
      have ihn := ih (n + 1) (by omega) (by omega)
      have hl1 : mk (hasF h) n < 2 ^ 31 := Nat.lt_of_lt_of_le (mk_lt _ n) (Nat.pow_le_pow_right (by decide) (by omega))
      have hl2 : 2 ^ n < 2 ^ 31 := Nat.pow_lt_pow_right (by decide) (by omega)
      have hor0 : bitI (· ||| ·) ((mk (hasF h) n : Nat) : Int) 0 = ((mk (hasF h) n ||| 0 : Nat) : Int) := bitI_or (b := 0) hl1 (by decide)
      have hms : mk (hasF h) (n + 1) = mk (hasF h) n ||| (if hasF h n = true then 2 ^ n else 0) := rfl
      cases e : hasF h n with
      | false =>
        rw [hms, e, if_neg (by decide)] at ihn
        clear ih hms
        generalize mk (hasF h) n = c at *
        refine w_iload rfl rfl (w_iconst rfl ?_)
        refine w_icmp_ge (tgt := 35) rfl (by first | assumption | exact i32_0 | (unfold i32 at *; omega)) (by first | assumption | exact i32_0 | (unfold i32 at *; omega)) rfl (fun c7 => ?_) (fun c7 => ?_)
        · skip
          exfalso; omega
        · skip
          refine w_iload rfl rfl (w_aload rfl rfl (w_iload rfl rfl (w_iload rfl rfl ?_)))
          refine w_call (Or.inr rfl) (m_has0 ha hc hf (by omega) e) (by omega) nof_167 rfl rfl rfl rfl (by first | rfl | (show cKB[_]? = _; assumption)) rfl ?_
          refine w_if_eq (tgt := 26) rfl (by first | assumption | exact i32_0 | (unfold i32 at *; omega)) rfl (fun _ => ?_) (fun c => absurd c (by decide))
          refine w_iconst rfl (w_ior rfl (hor0) (w_istore (ls2 := [_, _, _, _]) rfl rfl rfl (w_iinc (ls2 := [_, _, _, _]) rfl rfl rfl (w_goto (tgt := 4) rfl rfl ?_))))
          exact ihn
      | true =>
        rw [hms, e, if_pos rfl] at ihn
        clear ih hms
        generalize mk (hasF h) n = c at *
        refine w_iload rfl rfl (w_iconst rfl ?_)
        refine w_icmp_ge (tgt := 35) rfl (by first | assumption | exact i32_0 | (unfold i32 at *; omega)) (by first | assumption | exact i32_0 | (unfold i32 at *; omega)) rfl (fun c7 => ?_) (fun c7 => ?_)
        · skip
          exfalso; omega
        · skip
          refine w_iload rfl rfl (w_aload rfl rfl (w_iload rfl rfl (w_iload rfl rfl ?_)))
          refine w_call (Or.inr rfl) (m_has1 ha hc hf (by omega) e) (by omega) nof_167 rfl rfl rfl rfl (by first | rfl | (show cKB[_]? = _; assumption)) rfl ?_
          refine w_if_eq (tgt := 26) rfl (by first | assumption | exact i32_0 | (unfold i32 at *; omega)) rfl (fun c => absurd c (by decide)) (fun _ => ?_)
          refine w_iconst rfl (w_iload rfl rfl (w_ishl rfl (bitI_shl n (by omega)) (w_goto (tgt := 27) rfl rfl (w_ior rfl (bitI_or hl1 hl2) (w_istore (ls2 := [_, _, _, _]) rfl rfl rfl (w_iinc (ls2 := [_, _, _, _]) rfl rfl rfl (w_goto (tgt := 4) rfl rfl ?_)))))))
          exact ihn
  have hgo := loop 25 0 rfl (by decide)
  clear loop
  refine w_iconst rfl (w_istore (ls2 := [_, _, _, _]) rfl rfl rfl (w_iconst rfl (w_istore (ls2 := [_, _, _, _]) rfl rfl rfl ?_)))
  exact hgo
