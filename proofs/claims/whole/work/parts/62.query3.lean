/-! ===== meeting, count, tally ===== -/
def meetW (f g : Cv) (P : Pt) (w : Int) : Int := if w < 4 then fldP P w.toNat else if w = 4 then P.2.2 else if simP (cornF f) (cornF g) P = true then 1 else 0
def dMeeting (k w : Int) (s : Sta) : Int := if rngB k (meetF s.2.1 s.2.2.1).length = true then (if rngB w 6 = true then meetW s.2.1 s.2.2.1 (ptAt (meetF s.2.1 s.2.2.1) k) w else -1000002) else -1000001
theorem c_meeting {n : Nat} {s : Sta} {M : mM} {k w : Int} (hG : GEO) (c : CI n s M) (hn : n ≤ 2000000000) (hk : i32 k) (hw : i32 w) : EQ 12 124 [vR 0, vI k, vI w] M (CQ (n + 1) M (dMeeting k w s) s) := by
  refine q_in (ls := [vR 0, vI k, vI w, vN]) mq_124 (ml_124 rfl) rfl fun D hD => ?_
  have hnow := e_now hG c hn
  unfold dMeeting
  by_cases qk : rngB k (meetF s.2.1 s.2.2.1).length = true
  · rw [if_pos qk]
    have qk := of_decide_eq_true qk
    obtain ⟨k, rfl⟩ : ∃ z : Nat, k = (z : Int) := ⟨k.toNat, by omega⟩
    have hP := ptAt_eq (C := meetF s.2.1 s.2.2.1) (k := (k : Int)) (by omega) (by omega)
    rw [Int.toNat_natCast] at hP
    by_cases qw : rngB w 6 = true
    · rw [if_pos qw]
      have qw := of_decide_eq_true qw
      unfold meetW
      by_cases w4 : w < 4
      · rw [if_pos w4]
        have ew : w = ((w.toNat : Nat) : Int) := by omega
        refine w_aload rfl rfl ?_
        refine w_callQ (Or.inr rfl) (hnow) (by omega) nof_125 rfl rfl rfl rfl (by first | rfl | (show cKB[_]? = _; assumption)) (fun r1 M1 hq1 => ?_)
        obtain ⟨rfl, z1, z2, z3, z4, z5⟩ := hq1
        have hl := z4.1
        have hl16 := z4.2.1
        have hco := e_coord isPts_149 z4 hP w.toNat (by omega)
        rw [← ew] at hco
        refine w_getR rfl (by first | rfl | assumption) rfl (by first | rfl | assumption) (w_astore (ls2 := [_, _, _, _]) rfl rfl rfl (w_iload rfl rfl ?_))
        refine w_if_lt (tgt := 20) rfl (by first | assumption | exact i32_0 | (unfold i32 at *; omega)) rfl (fun c9 => ?_) (fun c9 => ?_)
        · skip
          exfalso; omega
        · skip
          refine w_iload rfl rfl (w_aload rfl rfl (w_getIV rfl (by first | rfl | assumption) (by first | exact Or.inl rfl | exact Or.inr rfl) (hl) ?_))
          refine w_icmp_lt (tgt := 23) rfl (by first | assumption | exact i32_0 | (unfold i32 at *; omega)) (by first | assumption | exact i32_0 | (unfold i32 at *; omega)) rfl (fun c17 => ?_) (fun c17 => ?_)
          · skip
            refine w_iload rfl rfl ?_
            refine w_if_lt (tgt := 32) rfl (by first | assumption | exact i32_0 | (unfold i32 at *; omega)) rfl (fun c24 => ?_) (fun c24 => ?_)
            · skip
              exfalso; omega
            · skip
              refine w_iload rfl rfl (w_iconst rfl ?_)
              refine w_icmp_le (tgt := 35) rfl (by first | assumption | exact i32_0 | (unfold i32 at *; omega)) (by first | assumption | exact i32_0 | (unfold i32 at *; omega)) rfl (fun c29 => ?_) (fun c29 => ?_)
              · skip
                refine w_iload rfl rfl (w_iconst rfl ?_)
                refine w_icmp_ge (tgt := 47) rfl (by first | assumption | exact i32_0 | (unfold i32 at *; omega)) (by first | assumption | exact i32_0 | (unfold i32 at *; omega)) rfl (fun c37 => ?_) (fun c37 => ?_)
                · skip
                  exfalso; omega
                · skip
                  refine w_aload rfl rfl (w_iload rfl rfl (w_iload rfl rfl ?_))
                  refine w_call (Or.inr rfl) ((hco)) (by omega) nof_92 rfl rfl rfl rfl (by first | rfl | (show cKB[_]? = _; assumption)) rfl ?_
                  exact w_ireturn rfl ⟨by first | rfl | (congr 2; omega), by exact ⟨CI_up z1 (Nat.le_succ n), z5⟩⟩
              · skip
                exfalso; omega
          · skip
            exfalso; omega
      · rw [if_neg w4]
        by_cases w5 : w = 4
        · rw [if_pos w5]
          refine w_aload rfl rfl ?_
          refine w_callQ (Or.inr rfl) (hnow) (by omega) nof_125 rfl rfl rfl rfl (by first | rfl | (show cKB[_]? = _; assumption)) (fun r1 M1 hq1 => ?_)
          obtain ⟨rfl, z1, z2, z3, z4, z5⟩ := hq1
          have hl := z4.1
          have hl16 := z4.2.1
          have hma := e_markAt isPts_149 z4 hP
          refine w_getR rfl (by first | rfl | assumption) rfl (by first | rfl | assumption) (w_astore (ls2 := [_, _, _, _]) rfl rfl rfl (w_iload rfl rfl ?_))
          refine w_if_lt (tgt := 20) rfl (by first | assumption | exact i32_0 | (unfold i32 at *; omega)) rfl (fun c9 => ?_) (fun c9 => ?_)
          · skip
            exfalso; omega
          · skip
            refine w_iload rfl rfl (w_aload rfl rfl (w_getIV rfl (by first | rfl | assumption) (by first | exact Or.inl rfl | exact Or.inr rfl) (hl) ?_))
            refine w_icmp_lt (tgt := 23) rfl (by first | assumption | exact i32_0 | (unfold i32 at *; omega)) (by first | assumption | exact i32_0 | (unfold i32 at *; omega)) rfl (fun c17 => ?_) (fun c17 => ?_)
            · skip
              refine w_iload rfl rfl ?_
              refine w_if_lt (tgt := 32) rfl (by first | assumption | exact i32_0 | (unfold i32 at *; omega)) rfl (fun c24 => ?_) (fun c24 => ?_)
              · skip
                exfalso; omega
              · skip
                refine w_iload rfl rfl (w_iconst rfl ?_)
                refine w_icmp_le (tgt := 35) rfl (by first | assumption | exact i32_0 | (unfold i32 at *; omega)) (by first | assumption | exact i32_0 | (unfold i32 at *; omega)) rfl (fun c29 => ?_) (fun c29 => ?_)
                · skip
                  refine w_iload rfl rfl (w_iconst rfl ?_)
                  refine w_icmp_ge (tgt := 47) rfl (by first | assumption | exact i32_0 | (unfold i32 at *; omega)) (by first | assumption | exact i32_0 | (unfold i32 at *; omega)) rfl (fun c37 => ?_) (fun c37 => ?_)
                  · skip
                    refine w_iload rfl rfl (w_iconst rfl ?_)
                    refine w_icmp_ne (tgt := 58) rfl (by first | assumption | exact i32_0 | (unfold i32 at *; omega)) (by first | assumption | exact i32_0 | (unfold i32 at *; omega)) rfl (fun c49 => ?_) (fun c49 => ?_)
                    · skip
                      exfalso; omega
                    · skip
                      refine w_aload rfl rfl (w_iload rfl rfl ?_)
                      refine w_call (Or.inr rfl) ((hma)) (by omega) nof_86 rfl rfl rfl rfl (by first | rfl | (show cKB[_]? = _; assumption)) rfl ?_
                      exact w_ireturn rfl ⟨by first | rfl | (congr 2; omega), by exact ⟨CI_up z1 (Nat.le_succ n), z5⟩⟩
                  · skip
                    exfalso; omega
                · skip
                  exfalso; omega
            · skip
              exfalso; omega
        · rw [if_neg w5]
          by_cases qs : simP (cornF s.2.1) (cornF s.2.2.1) (ptAt (meetF s.2.1 s.2.2.1) k) = true
          · rw [if_pos qs]
            refine w_aload rfl rfl ?_
            refine w_callQ (Or.inr rfl) (hnow) (by omega) nof_125 rfl rfl rfl rfl (by first | rfl | (show cKB[_]? = _; assumption)) (fun r1 M1 hq1 => ?_)
            obtain ⟨rfl, z1, z2, z3, z4, z5⟩ := hq1
            have hl := z4.1
            have hl16 := z4.2.1
            have hsi := e_isSimple z2.1 z3.1 z4 hP
            rw [if_pos qs] at hsi
            refine w_getR rfl (by first | rfl | assumption) rfl (by first | rfl | assumption) (w_astore (ls2 := [_, _, _, _]) rfl rfl rfl (w_iload rfl rfl ?_))
            refine w_if_lt (tgt := 20) rfl (by first | assumption | exact i32_0 | (unfold i32 at *; omega)) rfl (fun c9 => ?_) (fun c9 => ?_)
            · skip
              exfalso; omega
            · skip
              refine w_iload rfl rfl (w_aload rfl rfl (w_getIV rfl (by first | rfl | assumption) (by first | exact Or.inl rfl | exact Or.inr rfl) (hl) ?_))
              refine w_icmp_lt (tgt := 23) rfl (by first | assumption | exact i32_0 | (unfold i32 at *; omega)) (by first | assumption | exact i32_0 | (unfold i32 at *; omega)) rfl (fun c17 => ?_) (fun c17 => ?_)
              · skip
                refine w_iload rfl rfl ?_
                refine w_if_lt (tgt := 32) rfl (by first | assumption | exact i32_0 | (unfold i32 at *; omega)) rfl (fun c24 => ?_) (fun c24 => ?_)
                · skip
                  exfalso; omega
                · skip
                  refine w_iload rfl rfl (w_iconst rfl ?_)
                  refine w_icmp_le (tgt := 35) rfl (by first | assumption | exact i32_0 | (unfold i32 at *; omega)) (by first | assumption | exact i32_0 | (unfold i32 at *; omega)) rfl (fun c29 => ?_) (fun c29 => ?_)
                  · skip
                    refine w_iload rfl rfl (w_iconst rfl ?_)
                    refine w_icmp_ge (tgt := 47) rfl (by first | assumption | exact i32_0 | (unfold i32 at *; omega)) (by first | assumption | exact i32_0 | (unfold i32 at *; omega)) rfl (fun c37 => ?_) (fun c37 => ?_)
                    · skip
                      refine w_iload rfl rfl (w_iconst rfl ?_)
                      refine w_icmp_ne (tgt := 58) rfl (by first | assumption | exact i32_0 | (unfold i32 at *; omega)) (by first | assumption | exact i32_0 | (unfold i32 at *; omega)) rfl (fun c49 => ?_) (fun c49 => ?_)
                      · skip
                        refine w_aload rfl rfl (w_getR rfl (by first | rfl | assumption) rfl (by first | rfl | assumption) (w_iload rfl rfl ?_))
                        refine w_call (Or.inr rfl) ((hsi)) (by omega) nof_128 rfl rfl rfl rfl (by first | rfl | (show cKB[_]? = _; assumption)) rfl ?_
                        refine w_if_eq (tgt := 73) rfl (by first | assumption | exact i32_0 | (unfold i32 at *; omega)) rfl (fun c => absurd c (by decide)) (fun _ => ?_)
                        refine w_iconst rfl (w_goto (tgt := 74) rfl rfl ?_)
                        exact w_ireturn rfl ⟨by first | rfl | (congr 2; omega), by exact ⟨CI_up z1 (Nat.le_succ n), z5⟩⟩
                      · skip
                        exfalso; omega
                    · skip
                      exfalso; omega
                  · skip
                    exfalso; omega
              · skip
                exfalso; omega
          · rw [if_neg qs]
            refine w_aload rfl rfl ?_
            refine w_callQ (Or.inr rfl) (hnow) (by omega) nof_125 rfl rfl rfl rfl (by first | rfl | (show cKB[_]? = _; assumption)) (fun r1 M1 hq1 => ?_)
            obtain ⟨rfl, z1, z2, z3, z4, z5⟩ := hq1
            have hl := z4.1
            have hl16 := z4.2.1
            have hsi := e_isSimple z2.1 z3.1 z4 hP
            rw [if_neg qs] at hsi
            refine w_getR rfl (by first | rfl | assumption) rfl (by first | rfl | assumption) (w_astore (ls2 := [_, _, _, _]) rfl rfl rfl (w_iload rfl rfl ?_))
            refine w_if_lt (tgt := 20) rfl (by first | assumption | exact i32_0 | (unfold i32 at *; omega)) rfl (fun c9 => ?_) (fun c9 => ?_)
            · skip
              exfalso; omega
            · skip
              refine w_iload rfl rfl (w_aload rfl rfl (w_getIV rfl (by first | rfl | assumption) (by first | exact Or.inl rfl | exact Or.inr rfl) (hl) ?_))
              refine w_icmp_lt (tgt := 23) rfl (by first | assumption | exact i32_0 | (unfold i32 at *; omega)) (by first | assumption | exact i32_0 | (unfold i32 at *; omega)) rfl (fun c17 => ?_) (fun c17 => ?_)
              · skip
                refine w_iload rfl rfl ?_
                refine w_if_lt (tgt := 32) rfl (by first | assumption | exact i32_0 | (unfold i32 at *; omega)) rfl (fun c24 => ?_) (fun c24 => ?_)
                · skip
                  exfalso; omega
                · skip
                  refine w_iload rfl rfl (w_iconst rfl ?_)
                  refine w_icmp_le (tgt := 35) rfl (by first | assumption | exact i32_0 | (unfold i32 at *; omega)) (by first | assumption | exact i32_0 | (unfold i32 at *; omega)) rfl (fun c29 => ?_) (fun c29 => ?_)
                  · skip
                    refine w_iload rfl rfl (w_iconst rfl ?_)
                    refine w_icmp_ge (tgt := 47) rfl (by first | assumption | exact i32_0 | (unfold i32 at *; omega)) (by first | assumption | exact i32_0 | (unfold i32 at *; omega)) rfl (fun c37 => ?_) (fun c37 => ?_)
                    · skip
                      refine w_iload rfl rfl (w_iconst rfl ?_)
                      refine w_icmp_ne (tgt := 58) rfl (by first | assumption | exact i32_0 | (unfold i32 at *; omega)) (by first | assumption | exact i32_0 | (unfold i32 at *; omega)) rfl (fun c49 => ?_) (fun c49 => ?_)
                      · skip
                        refine w_aload rfl rfl (w_getR rfl (by first | rfl | assumption) rfl (by first | rfl | assumption) (w_iload rfl rfl ?_))
                        refine w_call (Or.inr rfl) ((hsi)) (by omega) nof_128 rfl rfl rfl rfl (by first | rfl | (show cKB[_]? = _; assumption)) rfl ?_
                        refine w_if_eq (tgt := 73) rfl (by first | assumption | exact i32_0 | (unfold i32 at *; omega)) rfl (fun _ => ?_) (fun c => absurd c (by decide))
                        refine w_iconst rfl ?_
                        exact w_ireturn rfl ⟨by first | rfl | (congr 2; omega), by exact ⟨CI_up z1 (Nat.le_succ n), z5⟩⟩
                      · skip
                        exfalso; omega
                    · skip
                      exfalso; omega
                  · skip
                    exfalso; omega
              · skip
                exfalso; omega
    · rw [if_neg qw]
      have qw := of_decide_eq_false (Bool.eq_false_iff.mpr qw)
      refine w_aload rfl rfl ?_
      refine w_callQ (Or.inr rfl) (hnow) (by omega) nof_125 rfl rfl rfl rfl (by first | rfl | (show cKB[_]? = _; assumption)) (fun r1 M1 hq1 => ?_)
      obtain ⟨rfl, z1, z2, z3, z4, z5⟩ := hq1
      have hl := z4.1
      have hl16 := z4.2.1
      refine w_getR rfl (by first | rfl | assumption) rfl (by first | rfl | assumption) (w_astore (ls2 := [_, _, _, _]) rfl rfl rfl (w_iload rfl rfl ?_))
      refine w_if_lt (tgt := 20) rfl (by first | assumption | exact i32_0 | (unfold i32 at *; omega)) rfl (fun c9 => ?_) (fun c9 => ?_)
      · skip
        exfalso; omega
      · skip
        refine w_iload rfl rfl (w_aload rfl rfl (w_getIV rfl (by first | rfl | assumption) (by first | exact Or.inl rfl | exact Or.inr rfl) (hl) ?_))
        refine w_icmp_lt (tgt := 23) rfl (by first | assumption | exact i32_0 | (unfold i32 at *; omega)) (by first | assumption | exact i32_0 | (unfold i32 at *; omega)) rfl (fun c17 => ?_) (fun c17 => ?_)
        · skip
          refine w_iload rfl rfl ?_
          refine w_if_lt (tgt := 32) rfl (by first | assumption | exact i32_0 | (unfold i32 at *; omega)) rfl (fun c24 => ?_) (fun c24 => ?_)
          · skip
            refine w_iconst rfl ?_
            exact w_ireturn rfl ⟨by first | rfl | (congr 2; omega), by exact ⟨CI_up z1 (Nat.le_succ n), z5⟩⟩
          · skip
            refine w_iload rfl rfl (w_iconst rfl ?_)
            refine w_icmp_le (tgt := 35) rfl (by first | assumption | exact i32_0 | (unfold i32 at *; omega)) (by first | assumption | exact i32_0 | (unfold i32 at *; omega)) rfl (fun c29 => ?_) (fun c29 => ?_)
            · skip
              exfalso; omega
            · skip
              refine w_iconst rfl ?_
              exact w_ireturn rfl ⟨by first | rfl | (congr 2; omega), by exact ⟨CI_up z1 (Nat.le_succ n), z5⟩⟩
        · skip
          exfalso; omega
  · rw [if_neg qk]
    have qk := of_decide_eq_false (Bool.eq_false_iff.mpr qk)
    refine w_aload rfl rfl ?_
    refine w_callQ (Or.inr rfl) (hnow) (by omega) nof_125 rfl rfl rfl rfl (by first | rfl | (show cKB[_]? = _; assumption)) (fun r1 M1 hq1 => ?_)
    obtain ⟨rfl, z1, z2, z3, z4, z5⟩ := hq1
    have hl := z4.1
    have hl16 := z4.2.1
    refine w_getR rfl (by first | rfl | assumption) rfl (by first | rfl | assumption) (w_astore (ls2 := [_, _, _, _]) rfl rfl rfl (w_iload rfl rfl ?_))
    refine w_if_lt (tgt := 20) rfl (by first | assumption | exact i32_0 | (unfold i32 at *; omega)) rfl (fun c9 => ?_) (fun c9 => ?_)
    · skip
      refine w_iconst rfl ?_
      exact w_ireturn rfl ⟨by first | rfl | (congr 2; omega), by exact ⟨CI_up z1 (Nat.le_succ n), z5⟩⟩
    · skip
      refine w_iload rfl rfl (w_aload rfl rfl (w_getIV rfl (by first | rfl | assumption) (by first | exact Or.inl rfl | exact Or.inr rfl) (hl) ?_))
      refine w_icmp_lt (tgt := 23) rfl (by first | assumption | exact i32_0 | (unfold i32 at *; omega)) (by first | assumption | exact i32_0 | (unfold i32 at *; omega)) rfl (fun c17 => ?_) (fun c17 => ?_)
      · skip
        exfalso; omega
      · skip
        refine w_iconst rfl ?_
        exact w_ireturn rfl ⟨by first | rfl | (congr 2; omega), by exact ⟨CI_up z1 (Nat.le_succ n), z5⟩⟩
def cntW (h : Cv) : Nat → Int
  | 0 => (cntF h : Int)
  | 1 => (fb_ct (fun k => hasF h k && !decide (kindR h (rowsF h) k = 0)) 21 : Nat)
  | 2 => ((cornF h).length : Int)
  | 3 => ((rowsF h).length : Int)
  | 4 => ((rowsF h).countP (fun e => decide (endsR e = (2 : Nat))) : Nat)
  | 5 => ((rowsF h).countP (fun e => decide (endsR e = (1 : Nat))) : Nat)
  | 6 => (fb_ct (fun k => hasF h k && decide (kindR h (rowsF h) k = 1)) 21 : Nat)
  | 7 => ((rowsF h).countP (fun e => decide (e 10 = 1)) : Nat)
  | 8 => areaC (cornF h) (cornF h).length
  | 9 => if 0 < (cornF h).length ∧ areaC (cornF h) (cornF h).length = (cornF h).length then 1 else 0
  | 10 => maxW (rowsF h) (rowsF h).length
  | _ => degF h 21
def dCount (a w : Int) (s : Sta) : Int := if isCu a = true then (if rngB w 12 = true then cntW (selF a s.2.1 s.2.2.1) w.toNat else -1000002) else -1000001
theorem c_count {n : Nat} {s : Sta} {M : mM} {a w : Int} (hG : GEO) (c : CI n s M) (hn : n ≤ 2000000000) (ha : i32 a) (hw : i32 w) : EQ 12 131 [vR 0, vI a, vI w] M (CQ (n + 1) M (dCount a w s) s) := by
  refine q_in (ls := [vR 0, vI a, vI w, vN]) mq_131 (ml_131 rfl) rfl fun D hD => ?_
  unfold dCount
  by_cases q : isCu a = true
  · rw [if_pos q]
    have q := isCu_iff.mp q
    by_cases qw : rngB w 12 = true
    · rw [if_pos qw]
      have qw := of_decide_eq_true qw
      have hsh := e_shapeOf hG c hn q
      have hs := isS_sOf a
      obtain ⟨⟨k0, k1, k2, k3, k4, k5⟩, -, -, hpts, -⟩ := id hs
      have hpts0 := hpts.1.1
      have hf := Cok_sel (a := a) c.2.1.2.1 c.2.1.2.2
      have hcN := fun (N : mM) (cN : CI n s N) => cur_sel (a := a) cN.2.1.1
      have ht := isT_tOf a
      have ht0 := ht.1
      have hof := fun N => e_of9 N q
      have hcu := cur_sel (a := a) c.2.1.1
      have hokN := fun (N : mM) (vN : ShV (sOf a) (selF a s.2.1 s.2.2.1) N) => rowsF_ok hf vN.1.2.1 (hG _ hf)
      generalize hh : selF a s.2.1 s.2.2.1 = h at *
      have hcel := celOK_cornF h
      have hcases : w = 0 ∨ w = 1 ∨ w = 2 ∨ w = 3 ∨ w = 4 ∨ w = 5 ∨ w = 6 ∨ w = 7 ∨ w = 8 ∨ w = 9 ∨ w = 10 ∨ w = 11 := by omega
      rcases hcases with rfl | rfl | rfl | rfl | rfl | rfl | rfl | rfl | rfl | rfl | rfl | rfl
      · show Wp _ _ _ _ _ _ (CQ (n + 1) M (cntF h : Int) s)
        refine w_iload rfl rfl ?_
        refine w_call (Or.inl rfl) (e_isCurve1 M q) (by omega) nof_37 rfl rfl rfl rfl trivial rfl ?_
        refine w_if_ne (tgt := 10) rfl (by first | assumption | exact i32_0 | (unfold i32 at *; omega)) rfl (fun _ => ?_) (fun c => absurd c (by decide))
        refine w_iload rfl rfl ?_
        refine w_if_lt (tgt := 20) rfl (by first | assumption | exact i32_0 | (unfold i32 at *; omega)) rfl (fun c11 => ?_) (fun c11 => ?_)
        · skip
          exfalso; omega
        · skip
          refine w_iload rfl rfl (w_iconst rfl ?_)
          refine w_icmp_le (tgt := 23) rfl (by first | assumption | exact i32_0 | (unfold i32 at *; omega)) (by first | assumption | exact i32_0 | (unfold i32 at *; omega)) rfl (fun c17 => ?_) (fun c17 => ?_)
          · skip
            refine w_iload rfl rfl ?_
            refine w_if_ne (tgt := 39) rfl (by first | assumption | exact i32_0 | (unfold i32 at *; omega)) rfl (fun c24 => ?_) (fun c24 => ?_)
            · exfalso; omega
            · skip
              refine w_aload rfl rfl (w_getR rfl (by first | rfl | assumption) rfl (by first | rfl | assumption) (w_iload rfl rfl ?_))
              refine w_call (Or.inr rfl) ((hof _)) (by omega) nof_24 rfl rfl rfl rfl (by first | rfl | (show cKB[_]? = _; assumption)) rfl ?_
              refine w_call (Or.inr rfl) ((e_size ht hcu (by decide) hf)) (by omega) nof_41 rfl rfl rfl rfl (by first | rfl | (show cKB[_]? = _; assumption)) rfl ?_
              exact w_ireturn rfl ⟨by first | rfl | (congr 2; omega), by exact CI_same c (Nat.le_succ n)⟩
          · skip
            exfalso; omega
      · show Wp _ _ _ _ _ _ (CQ (n + 1) M ((fb_ct (fun k => hasF h k && !decide (kindR h (rowsF h) k = 0)) 21 : Nat) : Int) s)
        refine w_iload rfl rfl ?_
        refine w_call (Or.inl rfl) (e_isCurve1 M q) (by omega) nof_37 rfl rfl rfl rfl trivial rfl ?_
        refine w_if_ne (tgt := 10) rfl (by first | assumption | exact i32_0 | (unfold i32 at *; omega)) rfl (fun _ => ?_) (fun c => absurd c (by decide))
        refine w_iload rfl rfl ?_
        refine w_if_lt (tgt := 20) rfl (by first | assumption | exact i32_0 | (unfold i32 at *; omega)) rfl (fun c11 => ?_) (fun c11 => ?_)
        · skip
          exfalso; omega
        · skip
          refine w_iload rfl rfl (w_iconst rfl ?_)
          refine w_icmp_le (tgt := 23) rfl (by first | assumption | exact i32_0 | (unfold i32 at *; omega)) (by first | assumption | exact i32_0 | (unfold i32 at *; omega)) rfl (fun c17 => ?_) (fun c17 => ?_)
          · skip
            refine w_iload rfl rfl ?_
            refine w_if_ne (tgt := 39) rfl (by first | assumption | exact i32_0 | (unfold i32 at *; omega)) rfl (fun c24 => ?_) (fun c24 => ?_)
            · skip
              refine w_iload rfl rfl (w_iconst rfl ?_)
              refine w_icmp_ne (tgt := 57) rfl (by first | assumption | exact i32_0 | (unfold i32 at *; omega)) (by first | assumption | exact i32_0 | (unfold i32 at *; omega)) rfl (fun c42 => ?_) (fun c42 => ?_)
              · skip
                refine w_aload rfl rfl (w_iload rfl rfl ?_)
                refine w_callQ (Or.inr rfl) (hsh) (by omega) nof_67 rfl rfl rfl rfl (by first | rfl | (show cKB[_]? = _; assumption)) (fun r59 M59 hq59 => ?_)
                obtain ⟨rfl, z1, z2, z3, z4⟩ := hq59
                have hl := z2.1.1
                have hr4 := z2.2.1.1
                have hok := hokN M59 z2
                refine w_astore (ls2 := [_, _, _, _]) rfl rfl rfl (w_iload rfl rfl ?_)
                skip
                · skip
                  refine w_tsw (tgt := 116) rfl (by first | assumption | exact i32_0 | (unfold i32 at *; omega)) (by rfl) ?_
                  refine w_aload rfl rfl ?_
                  refine w_call (Or.inr rfl) ((e_notHidden hs (hcN M59 z1) hf z2.2.1 hok z2.1.2.1)) (by omega) nof_133 rfl rfl rfl rfl (by first | rfl | (show cKB[_]? = _; assumption)) rfl ?_
                  exact w_ireturn rfl ⟨by first | rfl | (congr 2; omega), by exact CQ_of z1 z4⟩
              · skip
                exfalso; omega
            · skip
              exfalso; omega
          · skip
            exfalso; omega
      · show Wp _ _ _ _ _ _ (CQ (n + 1) M ((cornF h).length : Int) s)
        refine w_iload rfl rfl ?_
        refine w_call (Or.inl rfl) (e_isCurve1 M q) (by omega) nof_37 rfl rfl rfl rfl trivial rfl ?_
        refine w_if_ne (tgt := 10) rfl (by first | assumption | exact i32_0 | (unfold i32 at *; omega)) rfl (fun _ => ?_) (fun c => absurd c (by decide))
        refine w_iload rfl rfl ?_
        refine w_if_lt (tgt := 20) rfl (by first | assumption | exact i32_0 | (unfold i32 at *; omega)) rfl (fun c11 => ?_) (fun c11 => ?_)
        · skip
          exfalso; omega
        · skip
          refine w_iload rfl rfl (w_iconst rfl ?_)
          refine w_icmp_le (tgt := 23) rfl (by first | assumption | exact i32_0 | (unfold i32 at *; omega)) (by first | assumption | exact i32_0 | (unfold i32 at *; omega)) rfl (fun c17 => ?_) (fun c17 => ?_)
          · skip
            refine w_iload rfl rfl ?_
            refine w_if_ne (tgt := 39) rfl (by first | assumption | exact i32_0 | (unfold i32 at *; omega)) rfl (fun c24 => ?_) (fun c24 => ?_)
            · skip
              refine w_iload rfl rfl (w_iconst rfl ?_)
              refine w_icmp_ne (tgt := 57) rfl (by first | assumption | exact i32_0 | (unfold i32 at *; omega)) (by first | assumption | exact i32_0 | (unfold i32 at *; omega)) rfl (fun c42 => ?_) (fun c42 => ?_)
              · skip
                refine w_aload rfl rfl (w_iload rfl rfl ?_)
                refine w_callQ (Or.inr rfl) (hsh) (by omega) nof_67 rfl rfl rfl rfl (by first | rfl | (show cKB[_]? = _; assumption)) (fun r59 M59 hq59 => ?_)
                obtain ⟨rfl, z1, z2, z3, z4⟩ := hq59
                have hl := z2.1.1
                have hr4 := z2.2.1.1
                have hok := hokN M59 z2
                refine w_astore (ls2 := [_, _, _, _]) rfl rfl rfl (w_iload rfl rfl ?_)
                skip
                · skip
                  refine w_tsw (tgt := 121) rfl (by first | assumption | exact i32_0 | (unfold i32 at *; omega)) (by rfl) ?_
                  refine w_aload rfl rfl (w_getR rfl (by first | rfl | assumption) rfl (by first | rfl | assumption) (w_getIV rfl (by first | rfl | assumption) (by first | exact Or.inl rfl | exact Or.inr rfl) (hl) ?_))
                  exact w_ireturn rfl ⟨by first | rfl | (congr 2; omega), by exact CQ_of z1 z4⟩
              · skip
                exfalso; omega
            · skip
              exfalso; omega
          · skip
            exfalso; omega
      · show Wp _ _ _ _ _ _ (CQ (n + 1) M ((rowsF h).length : Int) s)
        refine w_iload rfl rfl ?_
        refine w_call (Or.inl rfl) (e_isCurve1 M q) (by omega) nof_37 rfl rfl rfl rfl trivial rfl ?_
        refine w_if_ne (tgt := 10) rfl (by first | assumption | exact i32_0 | (unfold i32 at *; omega)) rfl (fun _ => ?_) (fun c => absurd c (by decide))
        refine w_iload rfl rfl ?_
        refine w_if_lt (tgt := 20) rfl (by first | assumption | exact i32_0 | (unfold i32 at *; omega)) rfl (fun c11 => ?_) (fun c11 => ?_)
        · skip
          exfalso; omega
        · skip
          refine w_iload rfl rfl (w_iconst rfl ?_)
          refine w_icmp_le (tgt := 23) rfl (by first | assumption | exact i32_0 | (unfold i32 at *; omega)) (by first | assumption | exact i32_0 | (unfold i32 at *; omega)) rfl (fun c17 => ?_) (fun c17 => ?_)
          · skip
            refine w_iload rfl rfl ?_
            refine w_if_ne (tgt := 39) rfl (by first | assumption | exact i32_0 | (unfold i32 at *; omega)) rfl (fun c24 => ?_) (fun c24 => ?_)
            · skip
              refine w_iload rfl rfl (w_iconst rfl ?_)
              refine w_icmp_ne (tgt := 57) rfl (by first | assumption | exact i32_0 | (unfold i32 at *; omega)) (by first | assumption | exact i32_0 | (unfold i32 at *; omega)) rfl (fun c42 => ?_) (fun c42 => ?_)
              · skip
                refine w_aload rfl rfl (w_iload rfl rfl ?_)
                refine w_callQ (Or.inr rfl) (hsh) (by omega) nof_67 rfl rfl rfl rfl (by first | rfl | (show cKB[_]? = _; assumption)) (fun r59 M59 hq59 => ?_)
                obtain ⟨rfl, z1, z2, z3, z4⟩ := hq59
                have hl := z2.1.1
                have hr4 := z2.2.1.1
                have hok := hokN M59 z2
                refine w_astore (ls2 := [_, _, _, _]) rfl rfl rfl (w_iload rfl rfl ?_)
                skip
                · skip
                  refine w_tsw (tgt := 129) rfl (by first | assumption | exact i32_0 | (unfold i32 at *; omega)) (by rfl) ?_
                  refine w_aload rfl rfl (w_getIV rfl (by first | rfl | assumption) (by first | exact Or.inl rfl | exact Or.inr rfl) (hr4) ?_)
                  exact w_ireturn rfl ⟨by first | rfl | (congr 2; omega), by exact CQ_of z1 z4⟩
              · skip
                exfalso; omega
            · skip
              exfalso; omega
          · skip
            exfalso; omega
      · show Wp _ _ _ _ _ _ (CQ (n + 1) M (((rowsF h).countP (fun e => decide (endsR e = (2 : Nat))) : Nat) : Int) s)
        refine w_iload rfl rfl ?_
        refine w_call (Or.inl rfl) (e_isCurve1 M q) (by omega) nof_37 rfl rfl rfl rfl trivial rfl ?_
        refine w_if_ne (tgt := 10) rfl (by first | assumption | exact i32_0 | (unfold i32 at *; omega)) rfl (fun _ => ?_) (fun c => absurd c (by decide))
        refine w_iload rfl rfl ?_
        refine w_if_lt (tgt := 20) rfl (by first | assumption | exact i32_0 | (unfold i32 at *; omega)) rfl (fun c11 => ?_) (fun c11 => ?_)
        · skip
          exfalso; omega
        · skip
          refine w_iload rfl rfl (w_iconst rfl ?_)
          refine w_icmp_le (tgt := 23) rfl (by first | assumption | exact i32_0 | (unfold i32 at *; omega)) (by first | assumption | exact i32_0 | (unfold i32 at *; omega)) rfl (fun c17 => ?_) (fun c17 => ?_)
          · skip
            refine w_iload rfl rfl ?_
            refine w_if_ne (tgt := 39) rfl (by first | assumption | exact i32_0 | (unfold i32 at *; omega)) rfl (fun c24 => ?_) (fun c24 => ?_)
            · skip
              refine w_iload rfl rfl (w_iconst rfl ?_)
              refine w_icmp_ne (tgt := 57) rfl (by first | assumption | exact i32_0 | (unfold i32 at *; omega)) (by first | assumption | exact i32_0 | (unfold i32 at *; omega)) rfl (fun c42 => ?_) (fun c42 => ?_)
              · skip
                refine w_aload rfl rfl (w_iload rfl rfl ?_)
                refine w_callQ (Or.inr rfl) (hsh) (by omega) nof_67 rfl rfl rfl rfl (by first | rfl | (show cKB[_]? = _; assumption)) (fun r59 M59 hq59 => ?_)
                obtain ⟨rfl, z1, z2, z3, z4⟩ := hq59
                have hl := z2.1.1
                have hr4 := z2.2.1.1
                have hok := hokN M59 z2
                refine w_astore (ls2 := [_, _, _, _]) rfl rfl rfl (w_iload rfl rfl ?_)
                skip
                · skip
                  refine w_tsw (tgt := 134) rfl (by first | assumption | exact i32_0 | (unfold i32 at *; omega)) (by rfl) ?_
                  refine w_aload rfl rfl (w_iconst rfl ?_)
                  refine w_call (Or.inr rfl) ((e_withEnds (w := 2) hs z2.2.1 hok (by decide))) (by omega) nof_134 rfl rfl rfl rfl (by first | rfl | (show cKB[_]? = _; assumption)) rfl ?_
                  exact w_ireturn rfl ⟨by first | rfl | (congr 2; omega), by exact CQ_of z1 z4⟩
              · skip
                exfalso; omega
            · skip
              exfalso; omega
          · skip
            exfalso; omega
      · show Wp _ _ _ _ _ _ (CQ (n + 1) M (((rowsF h).countP (fun e => decide (endsR e = (1 : Nat))) : Nat) : Int) s)
        refine w_iload rfl rfl ?_
        refine w_call (Or.inl rfl) (e_isCurve1 M q) (by omega) nof_37 rfl rfl rfl rfl trivial rfl ?_
        refine w_if_ne (tgt := 10) rfl (by first | assumption | exact i32_0 | (unfold i32 at *; omega)) rfl (fun _ => ?_) (fun c => absurd c (by decide))
        refine w_iload rfl rfl ?_
        refine w_if_lt (tgt := 20) rfl (by first | assumption | exact i32_0 | (unfold i32 at *; omega)) rfl (fun c11 => ?_) (fun c11 => ?_)
        · skip
          exfalso; omega
        · skip
          refine w_iload rfl rfl (w_iconst rfl ?_)
          refine w_icmp_le (tgt := 23) rfl (by first | assumption | exact i32_0 | (unfold i32 at *; omega)) (by first | assumption | exact i32_0 | (unfold i32 at *; omega)) rfl (fun c17 => ?_) (fun c17 => ?_)
          · skip
            refine w_iload rfl rfl ?_
            refine w_if_ne (tgt := 39) rfl (by first | assumption | exact i32_0 | (unfold i32 at *; omega)) rfl (fun c24 => ?_) (fun c24 => ?_)
            · skip
              refine w_iload rfl rfl (w_iconst rfl ?_)
              refine w_icmp_ne (tgt := 57) rfl (by first | assumption | exact i32_0 | (unfold i32 at *; omega)) (by first | assumption | exact i32_0 | (unfold i32 at *; omega)) rfl (fun c42 => ?_) (fun c42 => ?_)
              · skip
                refine w_aload rfl rfl (w_iload rfl rfl ?_)
                refine w_callQ (Or.inr rfl) (hsh) (by omega) nof_67 rfl rfl rfl rfl (by first | rfl | (show cKB[_]? = _; assumption)) (fun r59 M59 hq59 => ?_)
                obtain ⟨rfl, z1, z2, z3, z4⟩ := hq59
                have hl := z2.1.1
                have hr4 := z2.2.1.1
                have hok := hokN M59 z2
                refine w_astore (ls2 := [_, _, _, _]) rfl rfl rfl (w_iload rfl rfl ?_)
                skip
                · skip
                  refine w_tsw (tgt := 140) rfl (by first | assumption | exact i32_0 | (unfold i32 at *; omega)) (by rfl) ?_
                  refine w_aload rfl rfl (w_iconst rfl ?_)
                  refine w_call (Or.inr rfl) ((e_withEnds (w := 1) hs z2.2.1 hok (by decide))) (by omega) nof_134 rfl rfl rfl rfl (by first | rfl | (show cKB[_]? = _; assumption)) rfl ?_
                  exact w_ireturn rfl ⟨by first | rfl | (congr 2; omega), by exact CQ_of z1 z4⟩
              · skip
                exfalso; omega
            · skip
              exfalso; omega
          · skip
            exfalso; omega
      · show Wp _ _ _ _ _ _ (CQ (n + 1) M ((fb_ct (fun k => hasF h k && decide (kindR h (rowsF h) k = 1)) 21 : Nat) : Int) s)
        refine w_iload rfl rfl ?_
        refine w_call (Or.inl rfl) (e_isCurve1 M q) (by omega) nof_37 rfl rfl rfl rfl trivial rfl ?_
        refine w_if_ne (tgt := 10) rfl (by first | assumption | exact i32_0 | (unfold i32 at *; omega)) rfl (fun _ => ?_) (fun c => absurd c (by decide))
        refine w_iload rfl rfl ?_
        refine w_if_lt (tgt := 20) rfl (by first | assumption | exact i32_0 | (unfold i32 at *; omega)) rfl (fun c11 => ?_) (fun c11 => ?_)
        · skip
          exfalso; omega
        · skip
          refine w_iload rfl rfl (w_iconst rfl ?_)
          refine w_icmp_le (tgt := 23) rfl (by first | assumption | exact i32_0 | (unfold i32 at *; omega)) (by first | assumption | exact i32_0 | (unfold i32 at *; omega)) rfl (fun c17 => ?_) (fun c17 => ?_)
          · skip
            refine w_iload rfl rfl ?_
            refine w_if_ne (tgt := 39) rfl (by first | assumption | exact i32_0 | (unfold i32 at *; omega)) rfl (fun c24 => ?_) (fun c24 => ?_)
            · skip
              refine w_iload rfl rfl (w_iconst rfl ?_)
              refine w_icmp_ne (tgt := 57) rfl (by first | assumption | exact i32_0 | (unfold i32 at *; omega)) (by first | assumption | exact i32_0 | (unfold i32 at *; omega)) rfl (fun c42 => ?_) (fun c42 => ?_)
              · skip
                refine w_aload rfl rfl (w_iload rfl rfl ?_)
                refine w_callQ (Or.inr rfl) (hsh) (by omega) nof_67 rfl rfl rfl rfl (by first | rfl | (show cKB[_]? = _; assumption)) (fun r59 M59 hq59 => ?_)
                obtain ⟨rfl, z1, z2, z3, z4⟩ := hq59
                have hl := z2.1.1
                have hr4 := z2.2.1.1
                have hok := hokN M59 z2
                refine w_astore (ls2 := [_, _, _, _]) rfl rfl rfl (w_iload rfl rfl ?_)
                skip
                · skip
                  refine w_tsw (tgt := 146) rfl (by first | assumption | exact i32_0 | (unfold i32 at *; omega)) (by rfl) ?_
                  refine w_aload rfl rfl ?_
                  refine w_call (Or.inr rfl) ((e_holes hs (hcN M59 z1) hf z2.2.1 hok z2.1.2.1)) (by omega) nof_136 rfl rfl rfl rfl (by first | rfl | (show cKB[_]? = _; assumption)) rfl ?_
                  exact w_ireturn rfl ⟨by first | rfl | (congr 2; omega), by exact CQ_of z1 z4⟩
              · skip
                exfalso; omega
            · skip
              exfalso; omega
          · skip
            exfalso; omega
      · show Wp _ _ _ _ _ _ (CQ (n + 1) M (((rowsF h).countP (fun e => decide (e 10 = 1)) : Nat) : Int) s)
        refine w_iload rfl rfl ?_
        refine w_call (Or.inl rfl) (e_isCurve1 M q) (by omega) nof_37 rfl rfl rfl rfl trivial rfl ?_
        refine w_if_ne (tgt := 10) rfl (by first | assumption | exact i32_0 | (unfold i32 at *; omega)) rfl (fun _ => ?_) (fun c => absurd c (by decide))
        refine w_iload rfl rfl ?_
        refine w_if_lt (tgt := 20) rfl (by first | assumption | exact i32_0 | (unfold i32 at *; omega)) rfl (fun c11 => ?_) (fun c11 => ?_)
        · skip
          exfalso; omega
        · skip
          refine w_iload rfl rfl (w_iconst rfl ?_)
          refine w_icmp_le (tgt := 23) rfl (by first | assumption | exact i32_0 | (unfold i32 at *; omega)) (by first | assumption | exact i32_0 | (unfold i32 at *; omega)) rfl (fun c17 => ?_) (fun c17 => ?_)
          · skip
            refine w_iload rfl rfl ?_
            refine w_if_ne (tgt := 39) rfl (by first | assumption | exact i32_0 | (unfold i32 at *; omega)) rfl (fun c24 => ?_) (fun c24 => ?_)
            · skip
              refine w_iload rfl rfl (w_iconst rfl ?_)
              refine w_icmp_ne (tgt := 57) rfl (by first | assumption | exact i32_0 | (unfold i32 at *; omega)) (by first | assumption | exact i32_0 | (unfold i32 at *; omega)) rfl (fun c42 => ?_) (fun c42 => ?_)
              · skip
                refine w_aload rfl rfl (w_iload rfl rfl ?_)
                refine w_callQ (Or.inr rfl) (hsh) (by omega) nof_67 rfl rfl rfl rfl (by first | rfl | (show cKB[_]? = _; assumption)) (fun r59 M59 hq59 => ?_)
                obtain ⟨rfl, z1, z2, z3, z4⟩ := hq59
                have hl := z2.1.1
                have hr4 := z2.2.1.1
                have hok := hokN M59 z2
                refine w_astore (ls2 := [_, _, _, _]) rfl rfl rfl (w_iload rfl rfl ?_)
                skip
                · skip
                  refine w_tsw (tgt := 151) rfl (by first | assumption | exact i32_0 | (unfold i32 at *; omega)) (by rfl) ?_
                  refine w_aload rfl rfl ?_
                  refine w_call (Or.inr rfl) ((e_bridges hs z2.2.1 hok)) (by omega) nof_137 rfl rfl rfl rfl (by first | rfl | (show cKB[_]? = _; assumption)) rfl ?_
                  exact w_ireturn rfl ⟨by first | rfl | (congr 2; omega), by exact CQ_of z1 z4⟩
              · skip
                exfalso; omega
            · skip
              exfalso; omega
          · skip
            exfalso; omega
      · show Wp _ _ _ _ _ _ (CQ (n + 1) M (areaC (cornF h) (cornF h).length) s)
        refine w_iload rfl rfl ?_
        refine w_call (Or.inl rfl) (e_isCurve1 M q) (by omega) nof_37 rfl rfl rfl rfl trivial rfl ?_
        refine w_if_ne (tgt := 10) rfl (by first | assumption | exact i32_0 | (unfold i32 at *; omega)) rfl (fun _ => ?_) (fun c => absurd c (by decide))
        refine w_iload rfl rfl ?_
        refine w_if_lt (tgt := 20) rfl (by first | assumption | exact i32_0 | (unfold i32 at *; omega)) rfl (fun c11 => ?_) (fun c11 => ?_)
        · skip
          exfalso; omega
        · skip
          refine w_iload rfl rfl (w_iconst rfl ?_)
          refine w_icmp_le (tgt := 23) rfl (by first | assumption | exact i32_0 | (unfold i32 at *; omega)) (by first | assumption | exact i32_0 | (unfold i32 at *; omega)) rfl (fun c17 => ?_) (fun c17 => ?_)
          · skip
            refine w_iload rfl rfl ?_
            refine w_if_ne (tgt := 39) rfl (by first | assumption | exact i32_0 | (unfold i32 at *; omega)) rfl (fun c24 => ?_) (fun c24 => ?_)
            · skip
              refine w_iload rfl rfl (w_iconst rfl ?_)
              refine w_icmp_ne (tgt := 57) rfl (by first | assumption | exact i32_0 | (unfold i32 at *; omega)) (by first | assumption | exact i32_0 | (unfold i32 at *; omega)) rfl (fun c42 => ?_) (fun c42 => ?_)
              · skip
                refine w_aload rfl rfl (w_iload rfl rfl ?_)
                refine w_callQ (Or.inr rfl) (hsh) (by omega) nof_67 rfl rfl rfl rfl (by first | rfl | (show cKB[_]? = _; assumption)) (fun r59 M59 hq59 => ?_)
                obtain ⟨rfl, z1, z2, z3, z4⟩ := hq59
                have hl := z2.1.1
                have hr4 := z2.2.1.1
                have hok := hokN M59 z2
                refine w_astore (ls2 := [_, _, _, _]) rfl rfl rfl (w_iload rfl rfl ?_)
                skip
                · skip
                  refine w_tsw (tgt := 156) rfl (by first | assumption | exact i32_0 | (unfold i32 at *; omega)) (by rfl) ?_
                  refine w_aload rfl rfl ?_
                  refine w_call (Or.inr rfl) ((e_areaOfCells hs z2.1 hcel)) (by omega) nof_138 rfl rfl rfl rfl (by first | rfl | (show cKB[_]? = _; assumption)) rfl ?_
                  exact w_ireturn rfl ⟨by first | rfl | (congr 2; omega), by exact CQ_of z1 z4⟩
              · skip
                exfalso; omega
            · skip
              exfalso; omega
          · skip
            exfalso; omega
      · show Wp _ _ _ _ _ _ (CQ (n + 1) M (if 0 < (cornF h).length ∧ areaC (cornF h) (cornF h).length = (cornF h).length then 1 else 0) s)
        by_cases qs : 0 < (cornF h).length ∧ areaC (cornF h) (cornF h).length = (cornF h).length
        · rw [if_pos qs]
          refine w_iload rfl rfl ?_
          refine w_call (Or.inl rfl) (e_isCurve1 M q) (by omega) nof_37 rfl rfl rfl rfl trivial rfl ?_
          refine w_if_ne (tgt := 10) rfl (by first | assumption | exact i32_0 | (unfold i32 at *; omega)) rfl (fun _ => ?_) (fun c => absurd c (by decide))
          refine w_iload rfl rfl ?_
          refine w_if_lt (tgt := 20) rfl (by first | assumption | exact i32_0 | (unfold i32 at *; omega)) rfl (fun c11 => ?_) (fun c11 => ?_)
          · skip
            exfalso; omega
          · skip
            refine w_iload rfl rfl (w_iconst rfl ?_)
            refine w_icmp_le (tgt := 23) rfl (by first | assumption | exact i32_0 | (unfold i32 at *; omega)) (by first | assumption | exact i32_0 | (unfold i32 at *; omega)) rfl (fun c17 => ?_) (fun c17 => ?_)
            · skip
              refine w_iload rfl rfl ?_
              refine w_if_ne (tgt := 39) rfl (by first | assumption | exact i32_0 | (unfold i32 at *; omega)) rfl (fun c24 => ?_) (fun c24 => ?_)
              · skip
                refine w_iload rfl rfl (w_iconst rfl ?_)
                refine w_icmp_ne (tgt := 57) rfl (by first | assumption | exact i32_0 | (unfold i32 at *; omega)) (by first | assumption | exact i32_0 | (unfold i32 at *; omega)) rfl (fun c42 => ?_) (fun c42 => ?_)
                · skip
                  refine w_aload rfl rfl (w_iload rfl rfl ?_)
                  refine w_callQ (Or.inr rfl) (hsh) (by omega) nof_67 rfl rfl rfl rfl (by first | rfl | (show cKB[_]? = _; assumption)) (fun r59 M59 hq59 => ?_)
                  obtain ⟨rfl, z1, z2, z3, z4⟩ := hq59
                  have hl := z2.1.1
                  have hr4 := z2.2.1.1
                  have hok := hokN M59 z2
                  have hsm := e_isSmooth hs z2.1 hcel
                  rw [if_pos qs] at hsm
                  refine w_astore (ls2 := [_, _, _, _]) rfl rfl rfl (w_iload rfl rfl ?_)
                  skip
                  · skip
                    refine w_tsw (tgt := 161) rfl (by first | assumption | exact i32_0 | (unfold i32 at *; omega)) (by rfl) ?_
                    refine w_aload rfl rfl ?_
                    refine w_call (Or.inr rfl) ((hsm)) (by omega) nof_139 rfl rfl rfl rfl (by first | rfl | (show cKB[_]? = _; assumption)) rfl ?_
                    refine w_if_eq (tgt := 172) rfl (by first | assumption | exact i32_0 | (unfold i32 at *; omega)) rfl (fun c => absurd c (by decide)) (fun _ => ?_)
                    refine w_iconst rfl (w_goto (tgt := 173) rfl rfl ?_)
                    exact w_ireturn rfl ⟨by first | rfl | (congr 2; omega), by exact CQ_of z1 z4⟩
                · skip
                  exfalso; omega
              · skip
                exfalso; omega
            · skip
              exfalso; omega
        · rw [if_neg qs]
          refine w_iload rfl rfl ?_
          refine w_call (Or.inl rfl) (e_isCurve1 M q) (by omega) nof_37 rfl rfl rfl rfl trivial rfl ?_
          refine w_if_ne (tgt := 10) rfl (by first | assumption | exact i32_0 | (unfold i32 at *; omega)) rfl (fun _ => ?_) (fun c => absurd c (by decide))
          refine w_iload rfl rfl ?_
          refine w_if_lt (tgt := 20) rfl (by first | assumption | exact i32_0 | (unfold i32 at *; omega)) rfl (fun c11 => ?_) (fun c11 => ?_)
          · skip
            exfalso; omega
          · skip
            refine w_iload rfl rfl (w_iconst rfl ?_)
            refine w_icmp_le (tgt := 23) rfl (by first | assumption | exact i32_0 | (unfold i32 at *; omega)) (by first | assumption | exact i32_0 | (unfold i32 at *; omega)) rfl (fun c17 => ?_) (fun c17 => ?_)
            · skip
              refine w_iload rfl rfl ?_
              refine w_if_ne (tgt := 39) rfl (by first | assumption | exact i32_0 | (unfold i32 at *; omega)) rfl (fun c24 => ?_) (fun c24 => ?_)
              · skip
                refine w_iload rfl rfl (w_iconst rfl ?_)
                refine w_icmp_ne (tgt := 57) rfl (by first | assumption | exact i32_0 | (unfold i32 at *; omega)) (by first | assumption | exact i32_0 | (unfold i32 at *; omega)) rfl (fun c42 => ?_) (fun c42 => ?_)
                · skip
                  refine w_aload rfl rfl (w_iload rfl rfl ?_)
                  refine w_callQ (Or.inr rfl) (hsh) (by omega) nof_67 rfl rfl rfl rfl (by first | rfl | (show cKB[_]? = _; assumption)) (fun r59 M59 hq59 => ?_)
                  obtain ⟨rfl, z1, z2, z3, z4⟩ := hq59
                  have hl := z2.1.1
                  have hr4 := z2.2.1.1
                  have hok := hokN M59 z2
                  have hsm := e_isSmooth hs z2.1 hcel
                  rw [if_neg qs] at hsm
                  refine w_astore (ls2 := [_, _, _, _]) rfl rfl rfl (w_iload rfl rfl ?_)
                  skip
                  · skip
                    refine w_tsw (tgt := 161) rfl (by first | assumption | exact i32_0 | (unfold i32 at *; omega)) (by rfl) ?_
                    refine w_aload rfl rfl ?_
                    refine w_call (Or.inr rfl) ((hsm)) (by omega) nof_139 rfl rfl rfl rfl (by first | rfl | (show cKB[_]? = _; assumption)) rfl ?_
                    refine w_if_eq (tgt := 172) rfl (by first | assumption | exact i32_0 | (unfold i32 at *; omega)) rfl (fun _ => ?_) (fun c => absurd c (by decide))
                    refine w_iconst rfl ?_
                    exact w_ireturn rfl ⟨by first | rfl | (congr 2; omega), by exact CQ_of z1 z4⟩
                · skip
                  exfalso; omega
              · skip
                exfalso; omega
            · skip
              exfalso; omega
      · show Wp _ _ _ _ _ _ (CQ (n + 1) M (maxW (rowsF h) (rowsF h).length) s)
        refine w_iload rfl rfl ?_
        refine w_call (Or.inl rfl) (e_isCurve1 M q) (by omega) nof_37 rfl rfl rfl rfl trivial rfl ?_
        refine w_if_ne (tgt := 10) rfl (by first | assumption | exact i32_0 | (unfold i32 at *; omega)) rfl (fun _ => ?_) (fun c => absurd c (by decide))
        refine w_iload rfl rfl ?_
        refine w_if_lt (tgt := 20) rfl (by first | assumption | exact i32_0 | (unfold i32 at *; omega)) rfl (fun c11 => ?_) (fun c11 => ?_)
        · skip
          exfalso; omega
        · skip
          refine w_iload rfl rfl (w_iconst rfl ?_)
          refine w_icmp_le (tgt := 23) rfl (by first | assumption | exact i32_0 | (unfold i32 at *; omega)) (by first | assumption | exact i32_0 | (unfold i32 at *; omega)) rfl (fun c17 => ?_) (fun c17 => ?_)
          · skip
            refine w_iload rfl rfl ?_
            refine w_if_ne (tgt := 39) rfl (by first | assumption | exact i32_0 | (unfold i32 at *; omega)) rfl (fun c24 => ?_) (fun c24 => ?_)
            · skip
              refine w_iload rfl rfl (w_iconst rfl ?_)
              refine w_icmp_ne (tgt := 57) rfl (by first | assumption | exact i32_0 | (unfold i32 at *; omega)) (by first | assumption | exact i32_0 | (unfold i32 at *; omega)) rfl (fun c42 => ?_) (fun c42 => ?_)
              · skip
                refine w_aload rfl rfl (w_iload rfl rfl ?_)
                refine w_callQ (Or.inr rfl) (hsh) (by omega) nof_67 rfl rfl rfl rfl (by first | rfl | (show cKB[_]? = _; assumption)) (fun r59 M59 hq59 => ?_)
                obtain ⟨rfl, z1, z2, z3, z4⟩ := hq59
                have hl := z2.1.1
                have hr4 := z2.2.1.1
                have hok := hokN M59 z2
                refine w_astore (ls2 := [_, _, _, _]) rfl rfl rfl (w_iload rfl rfl ?_)
                skip
                · skip
                  refine w_tsw (tgt := 174) rfl (by first | assumption | exact i32_0 | (unfold i32 at *; omega)) (by rfl) ?_
                  refine w_aload rfl rfl ?_
                  refine w_call (Or.inr rfl) ((e_greatestWeight hs z2.2.1 hok)) (by omega) nof_140 rfl rfl rfl rfl (by first | rfl | (show cKB[_]? = _; assumption)) rfl ?_
                  exact w_ireturn rfl ⟨by first | rfl | (congr 2; omega), by exact CQ_of z1 z4⟩
              · skip
                exfalso; omega
            · skip
              exfalso; omega
          · skip
            exfalso; omega
      · show Wp _ _ _ _ _ _ (CQ (n + 1) M (degF h 21) s)
        refine w_iload rfl rfl ?_
        refine w_call (Or.inl rfl) (e_isCurve1 M q) (by omega) nof_37 rfl rfl rfl rfl trivial rfl ?_
        refine w_if_ne (tgt := 10) rfl (by first | assumption | exact i32_0 | (unfold i32 at *; omega)) rfl (fun _ => ?_) (fun c => absurd c (by decide))
        refine w_iload rfl rfl ?_
        refine w_if_lt (tgt := 20) rfl (by first | assumption | exact i32_0 | (unfold i32 at *; omega)) rfl (fun c11 => ?_) (fun c11 => ?_)
        · skip
          exfalso; omega
        · skip
          refine w_iload rfl rfl (w_iconst rfl ?_)
          refine w_icmp_le (tgt := 23) rfl (by first | assumption | exact i32_0 | (unfold i32 at *; omega)) (by first | assumption | exact i32_0 | (unfold i32 at *; omega)) rfl (fun c17 => ?_) (fun c17 => ?_)
          · skip
            refine w_iload rfl rfl ?_
            refine w_if_ne (tgt := 39) rfl (by first | assumption | exact i32_0 | (unfold i32 at *; omega)) rfl (fun c24 => ?_) (fun c24 => ?_)
            · skip
              refine w_iload rfl rfl (w_iconst rfl ?_)
              refine w_icmp_ne (tgt := 57) rfl (by first | assumption | exact i32_0 | (unfold i32 at *; omega)) (by first | assumption | exact i32_0 | (unfold i32 at *; omega)) rfl (fun c42 => ?_) (fun c42 => ?_)
              · exfalso; omega
              · skip
                refine w_aload rfl rfl (w_getR rfl (by first | rfl | assumption) rfl (by first | rfl | assumption) (w_iload rfl rfl ?_))
                refine w_call (Or.inr rfl) ((hof _)) (by omega) nof_24 rfl rfl rfl rfl (by first | rfl | (show cKB[_]? = _; assumption)) rfl ?_
                refine w_call (Or.inr rfl) ((e_degree ht hcu (by decide) hf)) (by omega) nof_132 rfl rfl rfl rfl (by first | rfl | (show cKB[_]? = _; assumption)) rfl ?_
                exact w_ireturn rfl ⟨by first | rfl | (congr 2; omega), by exact CI_same c (Nat.le_succ n)⟩
            · skip
              exfalso; omega
          · skip
            exfalso; omega
    · rw [if_neg qw]
      have qw := of_decide_eq_false (Bool.eq_false_iff.mpr qw)
      refine w_iload rfl rfl ?_
      refine w_call (Or.inl rfl) (e_isCurve1 M q) (by omega) nof_37 rfl rfl rfl rfl trivial rfl ?_
      refine w_if_ne (tgt := 10) rfl (by first | assumption | exact i32_0 | (unfold i32 at *; omega)) rfl (fun _ => ?_) (fun c => absurd c (by decide))
      refine w_iload rfl rfl ?_
      refine w_if_lt (tgt := 20) rfl (by first | assumption | exact i32_0 | (unfold i32 at *; omega)) rfl (fun c11 => ?_) (fun c11 => ?_)
      · skip
        refine w_iconst rfl ?_
        exact w_ireturn rfl ⟨by first | rfl | (congr 2; omega), by exact CI_same c (Nat.le_succ n)⟩
      · skip
        refine w_iload rfl rfl (w_iconst rfl ?_)
        refine w_icmp_le (tgt := 23) rfl (by first | assumption | exact i32_0 | (unfold i32 at *; omega)) (by first | assumption | exact i32_0 | (unfold i32 at *; omega)) rfl (fun c17 => ?_) (fun c17 => ?_)
        · skip
          exfalso; omega
        · skip
          refine w_iconst rfl ?_
          exact w_ireturn rfl ⟨by first | rfl | (congr 2; omega), by exact CI_same c (Nat.le_succ n)⟩
  · rw [if_neg q]
    have q : ¬ (a = 0 ∨ a = 1) := fun z => q (isCu_iff.mpr z)
    refine w_iload rfl rfl ?_
    refine w_call (Or.inl rfl) (e_isCurve0 M ha q) (by omega) nof_37 rfl rfl rfl rfl trivial rfl ?_
    refine w_if_ne (tgt := 10) rfl (by first | assumption | exact i32_0 | (unfold i32 at *; omega)) rfl (fun c => absurd c (by decide)) (fun _ => ?_)
    refine w_iconst rfl ?_
    exact w_ireturn rfl ⟨by first | rfl | (congr 2; omega), by exact CI_same c (Nat.le_succ n)⟩
def tallW (s : Sta) : Nat → Int
  | 0 => ((meetF s.2.1 s.2.2.1).length : Int)
  | 1 => sumM (meetF s.2.1 s.2.2.1) (meetF s.2.1 s.2.2.1).length
  | 2 => mixed (placesF s.2.1) (placesF s.2.2.1)
  | 3 => ((meetF s.2.1 s.2.2.1).countP (simP (cornF s.2.1) (cornF s.2.2.1)) : Nat)
  | 4 => if likeR (cornF s.2.1) (rowsF s.2.1) (cornF s.2.2.1) (rowsF s.2.2.1) = true then 1 else 0
  | 5 => (s.2.2.2.1.length : Int)
  | _ => (s.1.length : Int)
def dTally (w : Int) (s : Sta) : Int := if rngB w 7 = true then tallW s w.toNat else -1000002
theorem c_tally {n : Nat} {s : Sta} {M : mM} {w : Int} (hG : GEO) (c : CI n s M) (hn : n ≤ 2000000000) (hw : i32 w) : EQ 12 141 [vR 0, vI w] M (CQ (n + 1) M (dTally w s) s) := by
  refine q_in (ls := [vR 0, vI w]) mq_141 (ml_141 rfl) rfl fun D hD => ?_
  have hnow := e_now hG c hn
  unfold dTally
  by_cases qw : rngB w 7 = true
  · rw [if_pos qw]
    have qw := of_decide_eq_true qw
    have hcases : w = 0 ∨ w = 1 ∨ w = 2 ∨ w = 3 ∨ w = 4 ∨ w = 5 ∨ w = 6 := by omega
    rcases hcases with rfl | rfl | rfl | rfl | rfl | rfl | rfl
    · show Wp _ _ _ _ _ _ (CQ (n + 1) M ((meetF s.2.1 s.2.2.1).length : Int) s)
      refine w_iload rfl rfl ?_
      skip
      · skip
        refine w_tsw (tgt := 44) rfl (by first | assumption | exact i32_0 | (unfold i32 at *; omega)) (by rfl) ?_
        refine w_aload rfl rfl ?_
        refine w_callQ (Or.inr rfl) (hnow) (by omega) nof_125 rfl rfl rfl rfl (by first | rfl | (show cKB[_]? = _; assumption)) (fun r45 M45 hq45 => ?_)
        obtain ⟨rfl, z1, z2, z3, z4, z5⟩ := hq45
        have hl := z4.1
        refine w_getR rfl (by first | rfl | assumption) rfl (by first | rfl | assumption) (w_getIV rfl (by first | rfl | assumption) (by first | exact Or.inl rfl | exact Or.inr rfl) (hl) ?_)
        exact w_ireturn rfl ⟨by first | rfl | (congr 2; omega), by exact ⟨CI_up z1 (Nat.le_succ n), z5⟩⟩
    · show Wp _ _ _ _ _ _ (CQ (n + 1) M (sumM (meetF s.2.1 s.2.2.1) (meetF s.2.1 s.2.2.1).length) s)
      refine w_iload rfl rfl ?_
      skip
      · skip
        refine w_tsw (tgt := 55) rfl (by first | assumption | exact i32_0 | (unfold i32 at *; omega)) (by rfl) ?_
        refine w_aload rfl rfl ?_
        refine w_callQ (Or.inr rfl) (hnow) (by omega) nof_125 rfl rfl rfl rfl (by first | rfl | (show cKB[_]? = _; assumption)) (fun r56 M56 hq56 => ?_)
        obtain ⟨rfl, z1, z2, z3, z4, z5⟩ := hq56
        refine w_call (Or.inr rfl) ((e_multiplicities z4)) (by omega) nof_142 rfl rfl rfl rfl (by first | rfl | (show cKB[_]? = _; assumption)) rfl ?_
        exact w_ireturn rfl ⟨by first | rfl | (congr 2; omega), by exact ⟨CI_up z1 (Nat.le_succ n), z5⟩⟩
    · show Wp _ _ _ _ _ _ (CQ (n + 1) M (mixed (placesF s.2.1) (placesF s.2.2.1)) s)
      have pf := placesF_lt s.2.1
      have pg := placesF_lt s.2.2.1
      refine w_iload rfl rfl ?_
      skip
      · skip
        refine w_tsw (tgt := 63) rfl (by first | assumption | exact i32_0 | (unfold i32 at *; omega)) (by rfl) ?_
        refine w_aload rfl rfl (w_getR rfl (by first | rfl | assumption) rfl (by first | rfl | assumption) (w_getR rfl (by first | rfl | assumption) rfl (by first | rfl | assumption) ?_))
        refine w_call (Or.inr rfl) ((e_places isT_10 c.2.1.1.1 (by decide) c.2.1.2.1)) (by omega) nof_42 rfl rfl rfl rfl (by first | rfl | (show cKB[_]? = _; assumption)) rfl ?_
        refine w_aload rfl rfl (w_getR rfl (by first | rfl | assumption) rfl (by first | rfl | assumption) (w_getR rfl (by first | rfl | assumption) rfl (by first | rfl | assumption) ?_))
        refine w_call (Or.inr rfl) ((e_places isT_12 c.2.1.1.2 (by decide) c.2.1.2.2)) (by omega) nof_42 rfl rfl rfl rfl (by first | rfl | (show cKB[_]? = _; assumption)) rfl ?_
        refine w_call (Or.inl rfl) ((e_mixed _ _ _ (by omega) (by omega))) (by omega) nof_99 rfl rfl rfl rfl trivial rfl ?_
        exact w_ireturn rfl ⟨by first | rfl | (congr 2; omega), by exact CI_same c (Nat.le_succ n)⟩
    · show Wp _ _ _ _ _ _ (CQ (n + 1) M ((meetF s.2.1 s.2.2.1).countP (simP (cornF s.2.1) (cornF s.2.2.1)) : Nat) s)
      refine w_iload rfl rfl ?_
      skip
      · skip
        refine w_tsw (tgt := 87) rfl (by first | assumption | exact i32_0 | (unfold i32 at *; omega)) (by rfl) ?_
        refine w_aload rfl rfl ?_
        refine w_callQ (Or.inr rfl) (hnow) (by omega) nof_125 rfl rfl rfl rfl (by first | rfl | (show cKB[_]? = _; assumption)) (fun r88 M88 hq88 => ?_)
        obtain ⟨rfl, z1, z2, z3, z4, z5⟩ := hq88
        refine w_call (Or.inr rfl) ((e_simpleOnes z2.1 z3.1 z4)) (by omega) nof_143 rfl rfl rfl rfl (by first | rfl | (show cKB[_]? = _; assumption)) rfl ?_
        exact w_ireturn rfl ⟨by first | rfl | (congr 2; omega), by exact ⟨CI_up z1 (Nat.le_succ n), z5⟩⟩
    · show Wp _ _ _ _ _ _ (CQ (n + 1) M (if likeR (cornF s.2.1) (rowsF s.2.1) (cornF s.2.2.1) (rowsF s.2.2.1) = true then 1 else 0) s)
      have sh0 : EQ 8 67 [vR 0, vI 0] M (fun r M1 => r = some (vR 68) ∧ CI n s M1 ∧ ShV 68 s.2.1 M1 ∧ ∀ b, 155 ≤ b → M1 b = M b) := (e_shapeOf (a := 0) hG c hn (Or.inl rfl)).imp fun r M1 w => ⟨w.1, w.2.1, w.2.2.1, fun b hb => funext fun k => w.2.2.2.2 b k (Or.inr (by show 68 + 40 ≤ b; omega))⟩
      have shB : ∀ N : mM, CI n s N → ShV 68 s.2.1 N → EQ 8 67 [vR 0, vI 1] N (fun r M1 => r = some (vR 108) ∧ CI n s M1 ∧ ShV 68 s.2.1 M1 ∧ ShV 108 s.2.2.1 M1 ∧ ∀ b, 155 ≤ b → M1 b = N b) := fun N cN vN => (e_shapeOf (a := 1) hG cN hn (Or.inr rfl)).imp fun r M1 w => ⟨w.1, w.2.1, ShV_fr vN (fun b k q1 q2 _ _ => w.2.2.2.2 b k (Or.inl (by show b < 108; omega))), w.2.2.1, fun b hb => funext fun k => w.2.2.2.2 b k (Or.inr (by show 108 + 40 ≤ b; omega))⟩
      have hlk : ∀ N : mM, ShV 68 s.2.1 N → ShV 108 s.2.2.1 N → E 5 144 [vR 68, vR 108] N (some (vI (if likeR (cornF s.2.1) (rowsF s.2.1) (cornF s.2.2.1) (rowsF s.2.2.1) = true then 1 else 0))) N := fun N v1 v2 => e_hasEdgesOf isS_68 isS_108 v1.1 v2.1 v1.2.1 v2.2.1 (rowsF_ok c.2.1.2.1 v1.1.2.1 (hG _ c.2.1.2.1)) rowsF_st (rowsF_ok c.2.1.2.2 v2.1.2.1 (hG _ c.2.1.2.2)) rowsF_st
      by_cases ql : likeR (cornF s.2.1) (rowsF s.2.1) (cornF s.2.2.1) (rowsF s.2.2.1) = true
      · rw [if_pos ql] at hlk ⊢
        refine w_iload rfl rfl ?_
        skip
        · skip
          refine w_tsw (tgt := 95) rfl (by first | assumption | exact i32_0 | (unfold i32 at *; omega)) (by rfl) ?_
          refine w_aload rfl rfl (w_iconst rfl ?_)
          refine w_callQ (Or.inr rfl) (sh0) (by omega) nof_67 rfl rfl rfl rfl (by first | rfl | (show cKB[_]? = _; assumption)) (fun r97 M97 hq97 => ?_)
          obtain ⟨rfl, z1, z2, z3⟩ := hq97
          have sh1 := shB M97 z1 z2
          refine w_aload rfl rfl (w_iconst rfl ?_)
          refine w_callQ (Or.inr rfl) (sh1) (by omega) nof_67 rfl rfl rfl rfl (by first | rfl | (show cKB[_]? = _; assumption)) (fun r102 M102 hq102 => ?_)
          obtain ⟨rfl, y1, y2, y3, y4⟩ := hq102
          have hlk := hlk M102 y2 y3
          refine w_call (Or.inr rfl) ((hlk)) (by omega) nof_144 rfl rfl rfl rfl (by first | rfl | (show cKB[_]? = _; assumption)) rfl ?_
          refine w_if_eq (tgt := 115) rfl (by first | assumption | exact i32_0 | (unfold i32 at *; omega)) rfl (fun c => absurd c (by decide)) (fun _ => ?_)
          refine w_iconst rfl (w_goto (tgt := 116) rfl rfl ?_)
          exact w_ireturn rfl ⟨by first | rfl | (congr 2; omega), by exact ⟨CI_up y1 (Nat.le_succ n), fun b hb => (y4 b hb).trans (z3 b hb)⟩⟩
      · rw [if_neg ql] at hlk ⊢
        refine w_iload rfl rfl ?_
        skip
        · skip
          refine w_tsw (tgt := 95) rfl (by first | assumption | exact i32_0 | (unfold i32 at *; omega)) (by rfl) ?_
          refine w_aload rfl rfl (w_iconst rfl ?_)
          refine w_callQ (Or.inr rfl) (sh0) (by omega) nof_67 rfl rfl rfl rfl (by first | rfl | (show cKB[_]? = _; assumption)) (fun r97 M97 hq97 => ?_)
          obtain ⟨rfl, z1, z2, z3⟩ := hq97
          have sh1 := shB M97 z1 z2
          refine w_aload rfl rfl (w_iconst rfl ?_)
          refine w_callQ (Or.inr rfl) (sh1) (by omega) nof_67 rfl rfl rfl rfl (by first | rfl | (show cKB[_]? = _; assumption)) (fun r102 M102 hq102 => ?_)
          obtain ⟨rfl, y1, y2, y3, y4⟩ := hq102
          have hlk := hlk M102 y2 y3
          refine w_call (Or.inr rfl) ((hlk)) (by omega) nof_144 rfl rfl rfl rfl (by first | rfl | (show cKB[_]? = _; assumption)) rfl ?_
          refine w_if_eq (tgt := 115) rfl (by first | assumption | exact i32_0 | (unfold i32 at *; omega)) rfl (fun _ => ?_) (fun c => absurd c (by decide))
          refine w_iconst rfl ?_
          exact w_ireturn rfl ⟨by first | rfl | (congr 2; omega), by exact ⟨CI_up y1 (Nat.le_succ n), fun b hb => (y4 b hb).trans (z3 b hb)⟩⟩
    · show Wp _ _ _ _ _ _ (CQ (n + 1) M (s.2.2.2.1.length : Int) s)
      have h16 : M 16 2 = (s.2.2.2.1.length : Int) := by obtain ⟨n1, -, -, z, -⟩ := c.2.2.1.1; exact z
      refine w_iload rfl rfl ?_
      skip
      · skip
        refine w_tsw (tgt := 117) rfl (by first | assumption | exact i32_0 | (unfold i32 at *; omega)) (by rfl) ?_
        refine w_aload rfl rfl (w_getR rfl (by first | rfl | assumption) rfl (by first | rfl | assumption) (w_getIV rfl (by first | rfl | assumption) (by first | exact Or.inl rfl | exact Or.inr rfl) (h16) ?_))
        exact w_ireturn rfl ⟨by first | rfl | (congr 2; omega), by exact CI_same c (Nat.le_succ n)⟩
    · show Wp _ _ _ _ _ _ (CQ (n + 1) M (s.1.length : Int) s)
      have h11 := c.1.1.1
      refine w_iload rfl rfl ?_
      skip
      · skip
        refine w_tsw (tgt := 125) rfl (by first | assumption | exact i32_0 | (unfold i32 at *; omega)) (by rfl) ?_
        refine w_aload rfl rfl (w_getR rfl (by first | rfl | assumption) rfl (by first | rfl | assumption) (w_getIV rfl (by first | rfl | assumption) (by first | exact Or.inl rfl | exact Or.inr rfl) (h11) ?_))
        exact w_ireturn rfl ⟨by first | rfl | (congr 2; omega), by exact CI_same c (Nat.le_succ n)⟩
  · rw [if_neg qw]
    have qw := of_decide_eq_false (Bool.eq_false_iff.mpr qw)
    refine w_iload rfl rfl ?_
    skip
    · skip
      refine w_tsw (tgt := 133) rfl (by first | assumption | exact i32_0 | (unfold i32 at *; omega)) (by (rw [show decide (w < 0 ∨ 6 < w) = true from decide_eq_true (by omega)]; rfl)) ?_
      refine w_iconst rfl ?_
      exact w_ireturn rfl ⟨by first | rfl | (congr 2; omega), by exact CI_same c (Nat.le_succ n)⟩
