/-! ===== the model's meeting ===== -/
theorem MI_mf {s : Sta} {N N2 : mM} (n1 : MI s N) (z : MmF N N2) : MI s N2 ∧ mFr N N2 := ⟨MI_fr n1 (fun j hj => z.2 j (by omega)) (fun b hb => z.1 b (by omega) (by omega) (by omega) (by omega)), fun b hb => z.1 b (by omega) (by omega) (by omega) (by omega)⟩
theorem mo_meeting {s : Sta} {M : mM} {k w : Int} (hE : GEOE) (hM : GEOM) (hX : MXQ) (hL : PLQ) (c : MI s M) (hk : i32 k) (hw : i32 w) : EQ 12 230 [vR 155, vI k, vI w] M (MoQ M (dMeeting k w s) s) := by
  refine q_in (ls := [vR 155, vI k, vI w]) mq_230 (ml_230 rfl) rfl fun D hD => ?_
  unfold dMeeting
  have hkn := m_knows hE hM c
  have hf := c.2.1.2.1
  have hg := c.2.1.2.2
  have hcur : ∀ N, MI s N → mcur 0 s.2.1 N ∧ mcur 25 s.2.2.1 N := fun N z => ⟨mcur_sel (a := 0) (by decide) z.2.1.1, mcur_sel (a := 1) (by decide) z.2.1.1⟩
  have hal := meetF_all hf hg
  have hlen : ∀ N, MV s.2.1 s.2.2.1 N → N 155 35 = ((meetF s.2.1 s.2.2.1).length : Int) ∧ (meetF s.2.1 s.2.2.1).length ≤ 16 := fun N z => ⟨z.2.2.1, z.2.2.2.1⟩
  unfold i32 at hk
  by_cases qk : rngB k (meetF s.2.1 s.2.2.1).length = true
  · rw [if_pos qk]
    have qk := of_decide_eq_true qk
    obtain ⟨k, rfl⟩ : ∃ z : Nat, k = (z : Int) := ⟨k.toNat, by omega⟩
    have hP := ptAt_eq (C := meetF s.2.1 s.2.2.1) (k := (k : Int)) (by omega) (by omega)
    rw [Int.toNat_natCast] at hP
    generalize hPost : MoQ M (if rngB w 6 = true then meetW s.2.1 s.2.2.1 (ptAt (meetF s.2.1 s.2.2.1) k) w else -1000002) s = Post
    have pre : (∀ N, MI s N → mFr M N → MV s.2.1 s.2.2.1 N → Wp mc_230 D 23 [vR 155, vI k, vI w] [] N Post) → Wp mc_230 D 0 [vR 155, vI k, vI w] [] M Post := by
      intro hgo
      clear hPost hal hP
      generalize (meetF s.2.1 s.2.2.1).length = m at *
      refine w_aload rfl rfl ?_
      refine w_callQ (Or.inr rfl) (hkn) (by omega) nof_187 rfl rfl rfl rfl (by first | rfl | (show cKB[_]? = _; assumption)) (fun r1 M1 hq1 => ?_)
      obtain ⟨rfl, w1, w2, w3, w4⟩ := hq1
      have h35 := (hlen M1 w3).1
      have h16 := (hlen M1 w3).2
      refine w_iload rfl rfl (w_i2l rfl (by first | assumption | exact i32_0 | (unfold i32 at *; omega)) (w_lconst rfl (w_aload rfl rfl (w_getIV rfl (by first | rfl | assumption) (by first | exact Or.inl rfl | exact Or.inr rfl) (h35) (w_iconst rfl (w_isub rfl (w_i2l rfl (by first | assumption | exact i32_0 | (unfold i32 at *; omega)) ?_)))))))
      refine w_call (Or.inl rfl) (m_in1 (v := k) (l := 0) (m := (m : Int) - 1) M1 (by unfold i64; omega) (by unfold i64; omega) (by unfold i64; omega) (by omega)) (by omega) nof_150 rfl rfl rfl rfl trivial rfl ?_
      refine w_if_ne (tgt := 23) rfl (by first | assumption | exact i32_0 | (unfold i32 at *; omega)) rfl (fun _ => ?_) (fun c => absurd c (by decide))
      exact hgo _ w1 w2 w3
    refine pre fun N n1 n2 n3 => ?_
    have hcN := hcur N n1
    have hl16 := (hlen N n3).2
    have hv := n3.2.2.2.2 k _ hP
    obtain ⟨hpb, hpm, hp1, hp2⟩ := hal _ (List.mem_of_getElem? hP)
    have hk16 : k < 16 := by omega
    clear pre hkn hlen hal
    have x1 : N 173 ((k : Int)).toNat = (ptAt (meetF s.2.1 s.2.2.1) k).1 := hv.1
    have x2 : N 174 ((k : Int)).toNat = (ptAt (meetF s.2.1 s.2.2.1) k).2.1 := hv.2
    have hct := m_counts hcN.1 hcN.2 hf hg hpb hk16 x1 x2
    have hpl := m_isPlain hL hcN.1 hcN.2 hf hg hpb hk16 x1 x2
    rw [hX (ledW s.2.1 _ _) (ledW s.2.2.1 _ _) (lead_plS hf _ _ _) (lead_plS hg _ _ _) hp1 hp2] at hct
    rw [← hpm] at hct
    have hfin : ∀ r N2, MI s N2 → mFr N N2 → r = (if rngB w 6 = true then meetW s.2.1 s.2.2.1 (ptAt (meetF s.2.1 s.2.2.1) k) w else -1000002) → Post (some (vI r)) N2 := by
      intro r N2 z1 z2 z3
      rw [← hPost, z3]
      exact ⟨rfl, z1, mFr_tr n2 z2⟩
    have hmW : meetW s.2.1 s.2.2.1 (ptAt (meetF s.2.1 s.2.2.1) k) w = if w < 4 then fldP (ptAt (meetF s.2.1 s.2.2.1) k) w.toNat else if w = 4 then (ptAt (meetF s.2.1 s.2.2.1) k).2.2 else if simP (cornF s.2.1) (cornF s.2.2.1) (ptAt (meetF s.2.1 s.2.2.1) k) = true then 1 else 0 := rfl
    rw [hmW] at hfin
    have hms := fun N2 (z : MmF N N2) => MI_mf n1 z
    clear hp1 hp2 hPost hmW hv hpm hP n3 hcN hcur
    generalize ptAt (meetF s.2.1 s.2.2.1) k = P at *
    obtain ⟨⟨b1, b2⟩, b3, b4⟩ := hpb
    have hab := m_above P.1 N (by omega)
    have hbl := m_below P.1 N (by omega)
    have hay := m_above P.2.1 N (by omega)
    have hby := m_below P.2.1 N (by omega)
    by_cases c0 : w = 0
    · subst c0
      have hgo := hfin (numP P.1) N n1 (mFr_rfl N) rfl
      refine w_iload rfl rfl ?_
      skip
      · skip
        refine w_tsw (tgt := 64) rfl (by first | assumption | exact i32_0 | (unfold i32 at *; omega)) (by rfl) ?_
        refine w_aload rfl rfl (w_getR rfl (by first | rfl | assumption) rfl (by first | rfl | assumption) (w_iload rfl rfl (w_laloadV rfl (by first | rfl | assumption) (by omega) (by omega) (x1) ?_)))
        refine w_call (Or.inl rfl) ((hab)) (by omega) nof_209 rfl rfl rfl rfl trivial rfl ?_
        refine w_l2i rfl ?_
        exact w_ireturn rfl hgo
    by_cases c1 : w = 1
    · subst c1
      have hgo := hfin (denP P.1) N n1 (mFr_rfl N) rfl
      refine w_iload rfl rfl ?_
      skip
      · skip
        refine w_tsw (tgt := 75) rfl (by first | assumption | exact i32_0 | (unfold i32 at *; omega)) (by rfl) ?_
        refine w_aload rfl rfl (w_getR rfl (by first | rfl | assumption) rfl (by first | rfl | assumption) (w_iload rfl rfl (w_laloadV rfl (by first | rfl | assumption) (by omega) (by omega) (x1) ?_)))
        refine w_call (Or.inl rfl) ((hbl)) (by omega) nof_211 rfl rfl rfl rfl trivial rfl ?_
        refine w_l2i rfl ?_
        exact w_ireturn rfl hgo
    by_cases c2 : w = 2
    · subst c2
      have hgo := hfin (numP P.2.1) N n1 (mFr_rfl N) rfl
      refine w_iload rfl rfl ?_
      skip
      · skip
        refine w_tsw (tgt := 86) rfl (by first | assumption | exact i32_0 | (unfold i32 at *; omega)) (by rfl) ?_
        refine w_aload rfl rfl (w_getR rfl (by first | rfl | assumption) rfl (by first | rfl | assumption) (w_iload rfl rfl (w_laloadV rfl (by first | rfl | assumption) (by omega) (by omega) (x2) ?_)))
        refine w_call (Or.inl rfl) ((hay)) (by omega) nof_209 rfl rfl rfl rfl trivial rfl ?_
        refine w_l2i rfl ?_
        exact w_ireturn rfl hgo
    by_cases c3 : w = 3
    · subst c3
      have hgo := hfin (denP P.2.1) N n1 (mFr_rfl N) rfl
      refine w_iload rfl rfl ?_
      skip
      · skip
        refine w_tsw (tgt := 97) rfl (by first | assumption | exact i32_0 | (unfold i32 at *; omega)) (by rfl) ?_
        refine w_aload rfl rfl (w_getR rfl (by first | rfl | assumption) rfl (by first | rfl | assumption) (w_iload rfl rfl (w_laloadV rfl (by first | rfl | assumption) (by omega) (by omega) (x2) ?_)))
        refine w_call (Or.inl rfl) ((hby)) (by omega) nof_211 rfl rfl rfl rfl trivial rfl ?_
        refine w_l2i rfl ?_
        exact w_ireturn rfl hgo
    by_cases c4 : w = 4
    · subst c4
      have hgo := fun N2 z => hfin P.2.2 N2 (hms N2 z).1 (hms N2 z).2 rfl
      refine w_iload rfl rfl ?_
      skip
      · skip
        refine w_tsw (tgt := 108) rfl (by first | assumption | exact i32_0 | (unfold i32 at *; omega)) (by rfl) ?_
        refine w_aload rfl rfl (w_iload rfl rfl ?_)
        refine w_callQ (Or.inr rfl) ((hct)) (by omega) nof_231 rfl rfl rfl rfl (by first | rfl | (show cKB[_]? = _; assumption)) (fun r110 M110 hq110 => ?_)
        obtain ⟨rfl, w1⟩ := hq110
        exact w_ireturn rfl (hgo _ w1)
    by_cases c5 : w = 5
    · subst c5
      have hgo := fun N2 z => hfin (if simP (cornF s.2.1) (cornF s.2.2.1) P = true then 1 else 0) N2 (hms N2 (MmF_of z)).1 (hms N2 (MmF_of z)).2 rfl
      cases e : simP (cornF s.2.1) (cornF s.2.2.1) P with
      | true =>
        rw [e, if_pos rfl] at hpl
        rw [e, if_pos rfl] at hgo
        refine w_iload rfl rfl ?_
        skip
        · skip
          refine w_tsw (tgt := 114) rfl (by first | assumption | exact i32_0 | (unfold i32 at *; omega)) (by rfl) ?_
          refine w_aload rfl rfl (w_iload rfl rfl ?_)
          refine w_callQ (Or.inr rfl) ((hpl)) (by omega) nof_232 rfl rfl rfl rfl (by first | rfl | (show cKB[_]? = _; assumption)) (fun r116 M116 hq116 => ?_)
          obtain ⟨rfl, w1⟩ := hq116
          refine w_if_eq (tgt := 126) rfl (by first | assumption | exact i32_0 | (unfold i32 at *; omega)) rfl (fun c => absurd c (by decide)) (fun _ => ?_)
          refine w_iconst rfl (w_goto (tgt := 127) rfl rfl ?_)
          exact w_ireturn rfl (hgo _ w1)
      | false =>
        rw [e, if_neg (by decide)] at hpl
        rw [e, if_neg (by decide)] at hgo
        refine w_iload rfl rfl ?_
        skip
        · skip
          refine w_tsw (tgt := 114) rfl (by first | assumption | exact i32_0 | (unfold i32 at *; omega)) (by rfl) ?_
          refine w_aload rfl rfl (w_iload rfl rfl ?_)
          refine w_callQ (Or.inr rfl) ((hpl)) (by omega) nof_232 rfl rfl rfl rfl (by first | rfl | (show cKB[_]? = _; assumption)) (fun r116 M116 hq116 => ?_)
          obtain ⟨rfl, w1⟩ := hq116
          refine w_if_eq (tgt := 126) rfl (by first | assumption | exact i32_0 | (unfold i32 at *; omega)) rfl (fun _ => ?_) (fun c => absurd c (by decide))
          refine w_iconst rfl ?_
          exact w_ireturn rfl (hgo _ w1)
    have hr : rngB w 6 = false := decide_eq_false (by omega)
    have hgo := hfin (-1000002) N n1 (mFr_rfl N) (by rw [hr]; rfl)
    refine w_iload rfl rfl ?_
    skip
    · skip
      refine w_tsw (tgt := 128) rfl (by first | assumption | exact i32_0 | (unfold i32 at *; omega)) (by rw [show decide (w < 0 ∨ 5 < w) = true from decide_eq_true (by omega)]; rfl) ?_
      refine w_iconst rfl ?_
      exact w_ireturn rfl hgo
  · rw [if_neg qk]
    have qk := of_decide_eq_false (Bool.eq_false_iff.mpr qk)
    clear hal
    generalize (meetF s.2.1 s.2.2.1).length = m at *
    refine w_aload rfl rfl ?_
    refine w_callQ (Or.inr rfl) (hkn) (by omega) nof_187 rfl rfl rfl rfl (by first | rfl | (show cKB[_]? = _; assumption)) (fun r1 M1 hq1 => ?_)
    obtain ⟨rfl, w1, w2, w3, w4⟩ := hq1
    have h35 := (hlen M1 w3).1
    have h16 := (hlen M1 w3).2
    refine w_iload rfl rfl (w_i2l rfl (by first | assumption | exact i32_0 | (unfold i32 at *; omega)) (w_lconst rfl (w_aload rfl rfl (w_getIV rfl (by first | rfl | assumption) (by first | exact Or.inl rfl | exact Or.inr rfl) (h35) (w_iconst rfl (w_isub rfl (w_i2l rfl (by first | assumption | exact i32_0 | (unfold i32 at *; omega)) ?_)))))))
    refine w_call (Or.inl rfl) (m_in0 (v := k) (l := 0) (m := (m : Int) - 1) M1 (by unfold i64; omega) (by unfold i64; omega) (by unfold i64; omega) (by omega)) (by omega) nof_150 rfl rfl rfl rfl trivial rfl ?_
    refine w_if_ne (tgt := 23) rfl (by first | assumption | exact i32_0 | (unfold i32 at *; omega)) rfl (fun c => absurd c (by decide)) (fun _ => ?_)
    refine w_iconst rfl ?_
    exact w_ireturn rfl ⟨by first | rfl | (congr 2; omega), by exact ⟨w1, w2⟩⟩
