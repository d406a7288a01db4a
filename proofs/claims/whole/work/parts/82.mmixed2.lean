/-! ===== the model's mixed area computed ===== -/
theorem plS_lt {s : Nat} (h : plS s) : s < 2 ^ 25 := by
  apply Nat.lt_pow_two_of_testBit
  intro i hi
  cases e : s.testBit i with
  | false => rfl
  | true => have := (h i e).1; omega
theorem m_mixed {s o : Nat} {M : mM} (hs : plS s) (ho : plS o) : EQ 7 205 [vR 155, vI s, vI o] M (fun z N => z = some (vI (mxM s o)) ∧ MmF M N) := by
  refine q_in (ls := [vR 155, vI s, vI o, vN, vN]) mq_205 (ml_205 rfl) rfl fun D hD => ?_
  have hsl := plS_lt hs
  have hol := plS_lt ho
  have fin : ∀ (N : mM) (w v : mV), mPL (smF s o 81) N → MmF M N → Wp mc_205 D 160 [vR 155, vI s, vI o, w, v] [] N (fun z N => z = some (vI (mxM s o)) ∧ MmF M N) := by
    intro N w v hP hF
    have har := m_areaOfList hP
    have ha1 := m_area (M := N) hsl
    have ha2 := fun N2 => m_area (M := N2) hol
    have b0 := arQ_le hP.2.2.2 hP.2.1
    have b1 := arS_le s
    have b2 := arS_le o
    have hmx : (arQ (smF s o 81) - arS s - arS o).tdiv 2 = mxM s o := rfl
    rw [← hmx]
    generalize arQ (smF s o 81) = x0 at *
    generalize arS s = x1 at *
    generalize arS o = x2 at *
    refine w_aload rfl rfl ?_
    refine w_call (Or.inr rfl) ((har)) (by omega) nof_206 rfl rfl rfl rfl (by first | rfl | (show cKB[_]? = _; assumption)) rfl ?_
    refine w_istore (ls2 := [_, _, _, _, _]) rfl rfl rfl (w_iload rfl rfl (w_aload rfl rfl (w_iload rfl rfl ?_)))
    refine w_callQ (Or.inr rfl) (ha1) (by omega) nof_207 rfl rfl rfl rfl (by first | rfl | (show cKB[_]? = _; assumption)) (fun r168 M168 hq168 => ?_)
    obtain ⟨rfl, w1⟩ := hq168
    refine w_isub rfl (w_aload rfl rfl (w_iload rfl rfl ?_))
    refine w_callQ (Or.inr rfl) (ha2 M168) (by omega) nof_207 rfl rfl rfl rfl (by first | rfl | (show cKB[_]? = _; assumption)) (fun r174 M174 hq174 => ?_)
    obtain ⟨rfl, w2⟩ := hq174
    refine w_isub rfl (w_iconst rfl (w_idiv rfl (by first | assumption | exact i32_0 | (unfold i32 at *; omega)) (by first | assumption | exact i32_0 | (unfold i32 at *; omega)) (by first | decide | omega | assumption) ?_))
    exact w_ireturn rfl ⟨by first | rfl | (congr 2; omega), by exact MmF_tr hF (MmF_tr (MmF_of w1) (MmF_of w2))⟩
  have loop3 : ∀ (N0 : mM), MmF M N0 → (∀ k, k < 81 → N0 161 k = if smG s o k = true then 1 else 0) → ∀ (z n : Nat) (N : mM) (v : mV), 81 - n = z → n ≤ 81 → mPL (smF s o n) N → MlF N0 N → Wp mc_205 D 103 [vR 155, vI s, vI o, vI n, v] [] N (fun z N => z = some (vI (mxM s o)) ∧ MmF M N) := by
    intro N0 hF0 hG z
    induction z with
    | zero =>
      intro n N v hz hn hP hF
      obtain rfl : n = 81 := by omega
      have hgo := fin N (vI (81 : Nat)) v hP (MmF_tr hF0 (MmF_of hF))
      refine w_iload rfl rfl (w_iconst rfl ?_)
      refine w_icmp_ge (tgt := 160) rfl (by first | assumption | exact i32_0 | (unfold i32 at *; omega)) (by first | assumption | exact i32_0 | (unfold i32 at *; omega)) rfl (fun c106 => ?_) (fun c106 => ?_)
      · skip
        exact hgo
      · skip
        exfalso; omega
    | succ z ih =>
      intro n N v hz hn hP hF
      have ihn := fun N => ih (n + 1) N v (by omega) (by omega)
      have hl := smF_len hs ho n
      have hl2 := smC_mono n 81 (by omega)
      rw [smC_81] at hl2
      have hm := hP.1
      have hg : N 161 ((n : Int)).toNat = if smG s o n = true then 1 else 0 := by
        show N 161 n = _
        rw [hF.1 161 (by decide) (by decide) (by decide)]
        exact hG n (by omega)
      have hq : smF s o (n + 1) = if smG s o n = true then smF s o n ++ [(((n / 9 : Nat) : Int), ((n % 9 : Nat) : Int))] else smF s o n := rfl
      rw [hq] at ihn
      have hput := mPL_put (x := ((n / 9 : Nat) : Int)) (y := ((n % 9 : Nat) : Int)) hP (by omega) (by omega) (by omega)
      have t1 : (n : Int).tdiv 9 = ((n / 9 : Nat) : Int) := rfl
      have t2 : (n : Int).tmod 9 = ((n % 9 : Nat) : Int) := rfl
      cases e : smG s o n with
      | true =>
        rw [e, if_pos rfl] at hg
        rw [e, if_pos rfl] at ihn
        have hgo := ihn _ hput.1 (MlF_tr hF hput.2)
        have e38 : upI N 159 (smF s o n).length ((n / 9 : Nat) : Int) 155 19 = ((smF s o n).length : Int) := (if_neg (by omega)).trans hm
        have e48 : upI (upI N 159 (smF s o n).length ((n / 9 : Nat) : Int)) 160 (smF s o n).length ((n % 9 : Nat) : Int) 155 19 = ((smF s o n).length : Int) := (if_neg (by omega)).trans e38
        unfold lsPut at hgo
        generalize (smF s o n).length = m at *
        refine w_iload rfl rfl (w_iconst rfl ?_)
        refine w_icmp_ge (tgt := 160) rfl (by first | assumption | exact i32_0 | (unfold i32 at *; omega)) (by first | assumption | exact i32_0 | (unfold i32 at *; omega)) rfl (fun c106 => ?_) (fun c106 => ?_)
        · exfalso; omega
        · skip
          refine w_aload rfl rfl (w_getR rfl (by first | rfl | assumption) rfl (by first | rfl | assumption) (w_iload rfl rfl (w_baloadV rfl (by first | rfl | assumption) (by omega) (by omega) (hg) ?_)))
          refine w_if_eq (tgt := 154) rfl (by first | assumption | exact i32_0 | (unfold i32 at *; omega)) rfl (fun c => absurd c (by decide)) (fun _ => ?_)
          refine w_aload rfl rfl (w_getR rfl (by first | rfl | assumption) rfl (by first | rfl | assumption) (w_aload rfl rfl (w_getIV rfl (by first | rfl | assumption) (by first | exact Or.inl rfl | exact Or.inr rfl) (hm) (w_iload rfl rfl (w_iconst rfl (w_idiv rfl (by first | assumption | exact i32_0 | (unfold i32 at *; omega)) (by first | assumption | exact i32_0 | (unfold i32 at *; omega)) (by first | decide | omega | assumption) ?_))))))
          rw [t1]
          refine w_iastore rfl (by first | rfl | assumption) (by omega) (by omega) (w_aload rfl rfl (w_getR rfl (by first | rfl | assumption) rfl (by first | rfl | assumption) (w_aload rfl rfl (w_getIV rfl (by first | rfl | assumption) (by first | exact Or.inl rfl | exact Or.inr rfl) (e38) (w_iload rfl rfl (w_iconst rfl (w_irem rfl (by first | assumption | exact i32_0 | (unfold i32 at *; omega)) (by first | assumption | exact i32_0 | (unfold i32 at *; omega)) (by first | decide | omega | assumption) ?_)))))))
          rw [t2]
          refine w_iastore rfl (by first | rfl | assumption) (by omega) (by omega) (w_aload rfl rfl (w_dup rfl rfl (w_getIV rfl (by first | rfl | assumption) (by first | exact Or.inl rfl | exact Or.inr rfl) (e48) (w_iconst rfl (w_iadd rfl (w_putI rfl (by first | rfl | assumption) rfl (w_iinc (ls2 := [_, _, _, _, _]) rfl rfl rfl ?_)))))))
          refine w_goto (tgt := 103) rfl rfl ?_
          exact hgo
      | false =>
        rw [e, if_neg (by decide)] at hg
        rw [e, if_neg (by decide)] at ihn
        have hgo := ihn _ hP hF
        refine w_iload rfl rfl (w_iconst rfl ?_)
        refine w_icmp_ge (tgt := 160) rfl (by first | assumption | exact i32_0 | (unfold i32 at *; omega)) (by first | assumption | exact i32_0 | (unfold i32 at *; omega)) rfl (fun c106 => ?_) (fun c106 => ?_)
        · exfalso; omega
        · skip
          refine w_aload rfl rfl (w_getR rfl (by first | rfl | assumption) rfl (by first | rfl | assumption) (w_iload rfl rfl (w_baloadV rfl (by first | rfl | assumption) (by omega) (by omega) (hg) ?_)))
          refine w_if_eq (tgt := 154) rfl (by first | assumption | exact i32_0 | (unfold i32 at *; omega)) rfl (fun _ => ?_) (fun c => absurd c (by decide))
          refine w_iinc (ls2 := [_, _, _, _, _]) rfl rfl rfl (w_goto (tgt := 103) rfl rfl ?_)
          exact hgo
  have after : ∀ (N : mM) (w v : mV), MmF M N → gOk s o 25 0 N → Wp mc_205 D 96 [vR 155, vI s, vI o, w, v] [] N (fun z N => z = some (vI (mxM s o)) ∧ MmF M N) := by
    intro N w v hF hG
    have hF0 : MlF N (upI N 155 19 0) := ⟨fun b q1 _ _ => upI_ne _ _ _ _ q1, fun j hj => if_neg (fun q => hj q.2)⟩
    have h0 : mPL (smF s o 0) (upI N 155 19 0) := ⟨upI_same _ _ _ _, Nat.zero_le _, (fun k p hk => by cases hk), (fun p hp => by cases hp)⟩
    have hgo := loop3 N hF (gOk_end hG) 81 0 _ v rfl (by decide) h0 hF0
    refine w_aload rfl rfl (w_iconst rfl (w_putI rfl (by first | rfl | assumption) rfl (w_iconst rfl (w_istore (ls2 := [_, _, _, _, _]) rfl rfl rfl ?_))))
    exact hgo
  have loopJ : ∀ (i : Nat), i < 25 → (∀ N, MmF M N → gOk s o (i + 1) 0 N → Wp mc_205 D 23 [vR 155, vI s, vI o, vI ((i + 1 : Nat) : Int), vI (25 : Nat)] [] N (fun z N => z = some (vI (mxM s o)) ∧ MmF M N)) → ∀ (z n : Nat) (N : mM), 25 - n = z → n ≤ 25 → MmF M N → gOk s o i n N → Wp mc_205 D 32 [vR 155, vI s, vI o, vI i, vI n] [] N (fun z N => z = some (vI (mxM s o)) ∧ MmF M N) := by
    intro i hi hout z
    induction z with
    | zero =>
      intro n N hz hn hF hG
      obtain rfl : n = 25 := by omega
      have hgo := hout N hF (fun k hk => by rcases hG k hk with ⟨q1, q2⟩ | ⟨q1, q2⟩
                                            · exact Or.inl ⟨q1, gDn_fst.mp q2⟩
                                            · exact Or.inr ⟨q1, fun q => q2 (gDn_fst.mpr q)⟩)
      refine w_iload rfl rfl (w_iconst rfl ?_)
      refine w_icmp_ge (tgt := 90) rfl (by first | assumption | exact i32_0 | (unfold i32 at *; omega)) (by first | assumption | exact i32_0 | (unfold i32 at *; omega)) rfl (fun c36 => ?_) (fun c36 => ?_)
      · skip
        refine w_iinc (ls2 := [_, _, _, _, _]) rfl rfl rfl (w_goto (tgt := 23) rfl rfl ?_)
        exact hgo
      · skip
        exfalso; omega
    | succ z ih =>
      intro n N hz hn hF hG
      have ihn := fun N => ih (n + 1) N (by omega) (by omega)
      have e41 := bitI_shr (n := s) (p := i) (by omega) (by omega)
      have e43 : bitI (· &&& ·) ((s >>> i : Nat) : Int) 1 = ((s >>> i &&& 1 : Nat) : Int) := bitI_and (a := s >>> i) (b := 1) (by have := Nat.shiftRight_le s i; omega)
      have e51 := bitI_shr (n := o) (p := n) (by omega) (by omega)
      have e53 : bitI (· &&& ·) ((o >>> n : Nat) : Int) 1 = ((o >>> n &&& 1 : Nat) : Int) := bitI_and (a := o >>> n) (b := 1) (by have := Nat.shiftRight_le o n; omega)
      rw [tb_and1] at e43 e53
      have hidx : 9 * ((i : Int).tdiv 5 + (n : Int).tdiv 5) + (i : Int).tmod 5 + (n : Int).tmod 5 = ((smK i n : Nat) : Int) := by
        have q1 : (i : Int).tdiv 5 = ((i / 5 : Nat) : Int) := rfl
        have q2 : (n : Int).tdiv 5 = ((n / 5 : Nat) : Int) := rfl
        have q3 : (i : Int).tmod 5 = ((i % 5 : Nat) : Int) := rfl
        have q4 : (n : Int).tmod 5 = ((n % 5 : Nat) : Int) := rfl
        rw [q1, q2, q3, q4]
        unfold smK
        omega
      have hkl : smK i n < 81 := by unfold smK; omega
      cases e1 : s.testBit i with
      | false =>
        rw [e1, if_neg (by decide)] at e43
        have e43 : bitI (· &&& ·) ((s >>> i : Nat) : Int) 1 = 0 := e43
        have hgo := ihn N hF (gOk_no (fun q => by rw [e1] at q; exact absurd q.1 (by decide)) hG)
        refine w_iload rfl rfl (w_iconst rfl ?_)
        refine w_icmp_ge (tgt := 90) rfl (by first | assumption | exact i32_0 | (unfold i32 at *; omega)) (by first | assumption | exact i32_0 | (unfold i32 at *; omega)) rfl (fun c36 => ?_) (fun c36 => ?_)
        · exfalso; omega
        · skip
          refine w_iload rfl rfl (w_iload rfl rfl (w_ishr rfl (e41) (w_iconst rfl (w_iand rfl (e43) (w_iconst rfl ?_)))))
          refine w_icmp_ne (tgt := 84) rfl (by first | assumption | exact i32_0 | (unfold i32 at *; omega)) (by first | assumption | exact i32_0 | (unfold i32 at *; omega)) rfl (fun c45 => ?_) (fun c45 => ?_)
          · skip
            refine w_iinc (ls2 := [_, _, _, _, _]) rfl rfl rfl (w_goto (tgt := 32) rfl rfl ?_)
            exact hgo
          · skip
            exfalso; omega
      | true =>
        rw [e1, if_pos rfl] at e43
        have e43 : bitI (· &&& ·) ((s >>> i : Nat) : Int) 1 = 1 := e43
        cases e2 : o.testBit n with
        | false =>
          rw [e2, if_neg (by decide)] at e53
          have e53 : bitI (· &&& ·) ((o >>> n : Nat) : Int) 1 = 0 := e53
          have hgo := ihn N hF (gOk_no (fun q => by rw [e2] at q; exact absurd q.2 (by decide)) hG)
          refine w_iload rfl rfl (w_iconst rfl ?_)
          refine w_icmp_ge (tgt := 90) rfl (by first | assumption | exact i32_0 | (unfold i32 at *; omega)) (by first | assumption | exact i32_0 | (unfold i32 at *; omega)) rfl (fun c36 => ?_) (fun c36 => ?_)
          · exfalso; omega
          · skip
            refine w_iload rfl rfl (w_iload rfl rfl (w_ishr rfl (e41) (w_iconst rfl (w_iand rfl (e43) (w_iconst rfl ?_)))))
            refine w_icmp_ne (tgt := 84) rfl (by first | assumption | exact i32_0 | (unfold i32 at *; omega)) (by first | assumption | exact i32_0 | (unfold i32 at *; omega)) rfl (fun c45 => ?_) (fun c45 => ?_)
            · exfalso; omega
            · skip
              refine w_iload rfl rfl (w_iload rfl rfl (w_ishr rfl (e51) (w_iconst rfl (w_iand rfl (e53) (w_iconst rfl ?_)))))
              refine w_icmp_ne (tgt := 84) rfl (by first | assumption | exact i32_0 | (unfold i32 at *; omega)) (by first | assumption | exact i32_0 | (unfold i32 at *; omega)) rfl (fun c55 => ?_) (fun c55 => ?_)
              · skip
                refine w_iinc (ls2 := [_, _, _, _, _]) rfl rfl rfl (w_goto (tgt := 32) rfl rfl ?_)
                exact hgo
              · skip
                exfalso; omega
        | true =>
          rw [e2, if_pos rfl] at e53
          have e53 : bitI (· &&& ·) ((o >>> n : Nat) : Int) 1 = 1 := e53
          have hgo := ihn _ (MmF_tr hF (MmF_up N (smK i n) 1)) (gOk_yes hi (by omega) e1 e2 hG)
          refine w_iload rfl rfl (w_iconst rfl ?_)
          refine w_icmp_ge (tgt := 90) rfl (by first | assumption | exact i32_0 | (unfold i32 at *; omega)) (by first | assumption | exact i32_0 | (unfold i32 at *; omega)) rfl (fun c36 => ?_) (fun c36 => ?_)
          · exfalso; omega
          · skip
            refine w_iload rfl rfl (w_iload rfl rfl (w_ishr rfl (e41) (w_iconst rfl (w_iand rfl (e43) (w_iconst rfl ?_)))))
            refine w_icmp_ne (tgt := 84) rfl (by first | assumption | exact i32_0 | (unfold i32 at *; omega)) (by first | assumption | exact i32_0 | (unfold i32 at *; omega)) rfl (fun c45 => ?_) (fun c45 => ?_)
            · exfalso; omega
            · skip
              refine w_iload rfl rfl (w_iload rfl rfl (w_ishr rfl (e51) (w_iconst rfl (w_iand rfl (e53) (w_iconst rfl ?_)))))
              refine w_icmp_ne (tgt := 84) rfl (by first | assumption | exact i32_0 | (unfold i32 at *; omega)) (by first | assumption | exact i32_0 | (unfold i32 at *; omega)) rfl (fun c55 => ?_) (fun c55 => ?_)
              · exfalso; omega
              · skip
                refine w_aload rfl rfl (w_getR rfl (by first | rfl | assumption) rfl (by first | rfl | assumption) (w_iconst rfl (w_iload rfl rfl (w_iconst rfl (w_idiv rfl (by first | assumption | exact i32_0 | (unfold i32 at *; omega)) (by first | assumption | exact i32_0 | (unfold i32 at *; omega)) (by first | decide | omega | assumption) (w_iload rfl rfl (w_iconst rfl ?_)))))))
                refine w_idiv rfl (by first | assumption | exact i32_0 | (unfold i32 at *; omega)) (by first | assumption | exact i32_0 | (unfold i32 at *; omega)) (by first | decide | omega | assumption) (w_iadd rfl (w_imul rfl (w_iload rfl rfl (w_iconst rfl (w_irem rfl (by first | assumption | exact i32_0 | (unfold i32 at *; omega)) (by first | assumption | exact i32_0 | (unfold i32 at *; omega)) (by first | decide | omega | assumption) (w_iadd rfl (w_iload rfl rfl ?_)))))))
                refine w_iconst rfl (w_irem rfl (by first | assumption | exact i32_0 | (unfold i32 at *; omega)) (by first | assumption | exact i32_0 | (unfold i32 at *; omega)) (by first | decide | omega | assumption) (w_iadd rfl ?_))
                rw [hidx]
                refine w_iconst rfl (w_bastore rfl (by first | rfl | assumption) (by omega) (by omega) (by first | exact Or.inl rfl | exact Or.inr rfl | omega | assumption) (w_iinc (ls2 := [_, _, _, _, _]) rfl rfl rfl (w_goto (tgt := 32) rfl rfl ?_)))
                exact hgo
  have loopI : ∀ (z n : Nat) (N : mM) (v : mV), 25 - n = z → n ≤ 25 → MmF M N → gOk s o n 0 N → Wp mc_205 D 23 [vR 155, vI s, vI o, vI n, v] [] N (fun z N => z = some (vI (mxM s o)) ∧ MmF M N) := by
    intro z
    induction z with
    | zero =>
      intro n N v hz hn hF hG
      obtain rfl : n = 25 := by omega
      have hgo := after N (vI (25 : Nat)) v hF hG
      refine w_iload rfl rfl (w_iconst rfl ?_)
      refine w_icmp_ge (tgt := 96) rfl (by first | assumption | exact i32_0 | (unfold i32 at *; omega)) (by first | assumption | exact i32_0 | (unfold i32 at *; omega)) rfl (fun c26 => ?_) (fun c26 => ?_)
      · skip
        exact hgo
      · skip
        exfalso; omega
    | succ z ih =>
      intro n N v hz hn hF hG
      have ihn := fun N => ih (n + 1) N (vI (25 : Nat)) (by omega) (by omega)
      have hgo := loopJ n (by omega) ihn 25 0 N rfl (by decide) hF hG
      refine w_iload rfl rfl (w_iconst rfl ?_)
      refine w_icmp_ge (tgt := 96) rfl (by first | assumption | exact i32_0 | (unfold i32 at *; omega)) (by first | assumption | exact i32_0 | (unfold i32 at *; omega)) rfl (fun c26 => ?_) (fun c26 => ?_)
      · exfalso; omega
      · skip
        refine w_iconst rfl (w_istore (ls2 := [_, _, _, _, _]) rfl rfl rfl ?_)
        exact hgo
  have loop0 : ∀ (z n : Nat) (N : mM), 81 - n = z → n ≤ 81 → MmF M N → (∀ k, k < n → N 161 k = 0) → Wp mc_205 D 2 [vR 155, vI s, vI o, vI n, vN] [] N (fun z N => z = some (vI (mxM s o)) ∧ MmF M N) := by
    intro z
    induction z with
    | zero =>
      intro n N hz hn hF hG
      obtain rfl : n = 81 := by omega
      have hgo := loopI 25 0 N vN rfl (by decide) hF (fun k hk => Or.inr ⟨hG k hk, fun ⟨a, b, q, _⟩ => by omega⟩)
      refine w_iload rfl rfl (w_iconst rfl ?_)
      refine w_icmp_ge (tgt := 21) rfl (by first | assumption | exact i32_0 | (unfold i32 at *; omega)) (by first | assumption | exact i32_0 | (unfold i32 at *; omega)) rfl (fun c5 => ?_) (fun c5 => ?_)
      · skip
        refine w_iconst rfl (w_istore (ls2 := [_, _, _, _, _]) rfl rfl rfl ?_)
        exact hgo
      · skip
        exfalso; omega
    | succ z ih =>
      intro n N hz hn hF hG
      have ihn := fun N => ih (n + 1) N (by omega) (by omega)
      have hgo := ihn _ (MmF_tr hF (MmF_up N n 0)) (fun k hk => by
        by_cases q : k = n
        · rw [q]; exact upI_same _ _ _ _
        · exact (if_neg (fun z => q z.2)).trans (hG k (by omega)))
      refine w_iload rfl rfl (w_iconst rfl ?_)
      refine w_icmp_ge (tgt := 21) rfl (by first | assumption | exact i32_0 | (unfold i32 at *; omega)) (by first | assumption | exact i32_0 | (unfold i32 at *; omega)) rfl (fun c5 => ?_) (fun c5 => ?_)
      · exfalso; omega
      · skip
        refine w_aload rfl rfl (w_getR rfl (by first | rfl | assumption) rfl (by first | rfl | assumption) (w_iload rfl rfl (w_iconst rfl (w_bastore rfl (by first | rfl | assumption) (by omega) (by omega) (by first | exact Or.inl rfl | exact Or.inr rfl | omega | assumption) (w_iinc (ls2 := [_, _, _, _, _]) rfl rfl rfl (w_goto (tgt := 2) rfl rfl ?_))))))
        exact hgo
  have hgo := loop0 81 0 M rfl (by decide) (MmF_rfl M) (fun k hk => by omega)
  refine w_iconst rfl (w_istore (ls2 := [_, _, _, _, _]) rfl rfl rfl ?_)
  exact hgo
