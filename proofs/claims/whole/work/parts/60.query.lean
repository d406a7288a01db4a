/-! ===== corner, edge, region, lift, way ===== -/
def rngB (k : Int) (n : Nat) : Bool := decide (0 ≤ k ∧ k < n)
def cornW (h : Cv) (k : Nat) (w : Int) : Int := if w < 4 then fldP (ptAt (cornF h) k) w.toNat else if w = 4 then mixed (ptAt (cornF h) k).2.2.toNat (ptAt (cornF h) k).2.2.toNat else if w = 5 then ((rowsF h).countP (fun e => decide (e 4 = (k : Int) ∨ e 5 = (k : Int))) : Nat) else (ptAt (cornF h) k).2.2
def dCorner (a k w : Int) (s : Sta) : Int := if isCu a = true then (if rngB k (cornF (selF a s.2.1 s.2.2.1)).length = true then (if rngB w 7 = true then cornW (selF a s.2.1 s.2.2.1) k.toNat w else -1000002) else -1000001) else -1000001
theorem CQ_of {n : Nat} {s : Sta} {a : Int} {M M1 : mM} (w1 : CI n s M1) (w4 : ∀ b k, (b < sOf a ∨ sOf a + 40 ≤ b) → M1 b k = M b k) : CI (n + 1) s M1 ∧ ∀ b, 155 ≤ b → M1 b = M b := ⟨CI_up w1 (Nat.le_succ n), fun b hb => funext fun k => w4 b k (by unfold sOf; split <;> omega)⟩
theorem c_corner {n : Nat} {s : Sta} {M : mM} {a k w : Int} (hG : GEO) (c : CI n s M) (hn : n ≤ 2000000000) (ha : i32 a) (hk : i32 k) (hw : i32 w) : EQ 12 66 [vR 0, vI a, vI k, vI w] M (CQ (n + 1) M (dCorner a k w s) s) := by
  refine q_in (ls := [vR 0, vI a, vI k, vI w, vN, vN]) mq_66 (ml_66 rfl) rfl fun D hD => ?_
  unfold dCorner
  by_cases q : isCu a = true
  · rw [if_pos q]
    have q := isCu_iff.mp q
    have hsh := e_shapeOf hG c hn q
    have hs := isS_sOf a
    obtain ⟨⟨k0, k1, k2, k3, k4, k5⟩, -, -, hpts, -⟩ := id hs
    have hpts0 := hpts.1.1
    have hf := Cok_sel (a := a) c.2.1.2.1 c.2.1.2.2
    generalize hh : selF a s.2.1 s.2.2.1 = h at *
    have hcel := celOK_cornF h
    by_cases qk : rngB k (cornF h).length = true
    · rw [if_pos qk]
      have qk := of_decide_eq_true qk
      obtain ⟨k, rfl⟩ : ∃ z : Nat, k = (z : Int) := ⟨k.toNat, by omega⟩
      rw [Int.toNat_natCast]
      have hP := ptAt_eq (C := cornF h) (k := (k : Int)) (by omega) (by omega)
      rw [Int.toNat_natCast] at hP
      by_cases qw : rngB w 7 = true
      · rw [if_pos qw]
        have qw := of_decide_eq_true qw
        unfold cornW
        by_cases w4 : w < 4
        · rw [if_pos w4]
          have ew : w = ((w.toNat : Nat) : Int) := by omega
          refine w_iload rfl rfl ?_
          refine w_call (Or.inl rfl) (e_isCurve1 M q) (by omega) nof_37 rfl rfl rfl rfl trivial rfl ?_
          refine w_if_ne (tgt := 10) rfl (by first | assumption | exact i32_0 | (unfold i32 at *; omega)) rfl (fun _ => ?_) (fun c => absurd c (by decide))
          refine w_aload rfl rfl (w_iload rfl rfl ?_)
          refine w_callQ (Or.inr rfl) (hsh) (by omega) nof_67 rfl rfl rfl rfl (by first | rfl | (show cKB[_]? = _; assumption)) (fun r12 M12 hq12 => ?_)
          obtain ⟨rfl, z1, z2, z3, z4⟩ := hq12
          have hl := z2.1.1
          have hl16 := z2.1.2.1
          have hco := e_coord hpts z2.1 hP w.toNat (by omega)
          rw [← ew] at hco
          refine w_astore (ls2 := [_, _, _, _, _, _]) rfl rfl rfl (w_iload rfl rfl ?_)
          refine w_if_lt (tgt := 33) rfl (by first | assumption | exact i32_0 | (unfold i32 at *; omega)) rfl (fun c18 => ?_) (fun c18 => ?_)
          · skip
            exfalso; omega
          · skip
            refine w_iload rfl rfl (w_aload rfl rfl (w_getR rfl (by first | rfl | assumption) rfl (by first | rfl | assumption) (w_getIV rfl (by first | rfl | assumption) (by first | exact Or.inl rfl | exact Or.inr rfl) (hl) ?_)))
            refine w_icmp_lt (tgt := 36) rfl (by first | assumption | exact i32_0 | (unfold i32 at *; omega)) (by first | assumption | exact i32_0 | (unfold i32 at *; omega)) rfl (fun c30 => ?_) (fun c30 => ?_)
            · skip
              refine w_iload rfl rfl ?_
              refine w_if_lt (tgt := 46) rfl (by first | assumption | exact i32_0 | (unfold i32 at *; omega)) rfl (fun c37 => ?_) (fun c37 => ?_)
              · skip
                exfalso; omega
              · skip
                refine w_iload rfl rfl (w_iconst rfl ?_)
                refine w_icmp_le (tgt := 49) rfl (by first | assumption | exact i32_0 | (unfold i32 at *; omega)) (by first | assumption | exact i32_0 | (unfold i32 at *; omega)) rfl (fun c43 => ?_) (fun c43 => ?_)
                · skip
                  refine w_iload rfl rfl (w_iconst rfl ?_)
                  refine w_icmp_ge (tgt := 65) rfl (by first | assumption | exact i32_0 | (unfold i32 at *; omega)) (by first | assumption | exact i32_0 | (unfold i32 at *; omega)) rfl (fun c51 => ?_) (fun c51 => ?_)
                  · skip
                    exfalso; omega
                  · skip
                    refine w_aload rfl rfl (w_getR rfl (by first | rfl | assumption) rfl (by first | rfl | assumption) (w_iload rfl rfl (w_iload rfl rfl ?_)))
                    refine w_call (Or.inr rfl) ((hco)) (by omega) nof_92 rfl rfl rfl rfl (by first | rfl | (show cKB[_]? = _; assumption)) rfl ?_
                    exact w_ireturn rfl ⟨by first | rfl | (congr 2; omega), by exact CQ_of z1 z4⟩
                · skip
                  exfalso; omega
            · skip
              exfalso; omega
        · rw [if_neg w4]
          obtain ⟨m, hm, hm2⟩ := hcel _ (List.mem_of_getElem? hP)
          by_cases w5 : w = 4
          · rw [if_pos w5, hm2, Int.toNat_natCast]
            refine w_iload rfl rfl ?_
            refine w_call (Or.inl rfl) (e_isCurve1 M q) (by omega) nof_37 rfl rfl rfl rfl trivial rfl ?_
            refine w_if_ne (tgt := 10) rfl (by first | assumption | exact i32_0 | (unfold i32 at *; omega)) rfl (fun _ => ?_) (fun c => absurd c (by decide))
            refine w_aload rfl rfl (w_iload rfl rfl ?_)
            refine w_callQ (Or.inr rfl) (hsh) (by omega) nof_67 rfl rfl rfl rfl (by first | rfl | (show cKB[_]? = _; assumption)) (fun r12 M12 hq12 => ?_)
            obtain ⟨rfl, z1, z2, z3, z4⟩ := hq12
            have hl := z2.1.1
            have hl16 := z2.1.2.1
            have hma := e_markAt hpts z2.1 hP
            rw [hm2] at hma
            refine w_astore (ls2 := [_, _, _, _, _, _]) rfl rfl rfl (w_iload rfl rfl ?_)
            refine w_if_lt (tgt := 33) rfl (by first | assumption | exact i32_0 | (unfold i32 at *; omega)) rfl (fun c18 => ?_) (fun c18 => ?_)
            · skip
              exfalso; omega
            · skip
              refine w_iload rfl rfl (w_aload rfl rfl (w_getR rfl (by first | rfl | assumption) rfl (by first | rfl | assumption) (w_getIV rfl (by first | rfl | assumption) (by first | exact Or.inl rfl | exact Or.inr rfl) (hl) ?_)))
              refine w_icmp_lt (tgt := 36) rfl (by first | assumption | exact i32_0 | (unfold i32 at *; omega)) (by first | assumption | exact i32_0 | (unfold i32 at *; omega)) rfl (fun c30 => ?_) (fun c30 => ?_)
              · skip
                refine w_iload rfl rfl ?_
                refine w_if_lt (tgt := 46) rfl (by first | assumption | exact i32_0 | (unfold i32 at *; omega)) rfl (fun c37 => ?_) (fun c37 => ?_)
                · skip
                  exfalso; omega
                · skip
                  refine w_iload rfl rfl (w_iconst rfl ?_)
                  refine w_icmp_le (tgt := 49) rfl (by first | assumption | exact i32_0 | (unfold i32 at *; omega)) (by first | assumption | exact i32_0 | (unfold i32 at *; omega)) rfl (fun c43 => ?_) (fun c43 => ?_)
                  · skip
                    refine w_iload rfl rfl (w_iconst rfl ?_)
                    refine w_icmp_ge (tgt := 65) rfl (by first | assumption | exact i32_0 | (unfold i32 at *; omega)) (by first | assumption | exact i32_0 | (unfold i32 at *; omega)) rfl (fun c51 => ?_) (fun c51 => ?_)
                    · skip
                      refine w_aload rfl rfl (w_getR rfl (by first | rfl | assumption) rfl (by first | rfl | assumption) (w_iload rfl rfl ?_))
                      refine w_call (Or.inr rfl) ((hma)) (by omega) nof_86 rfl rfl rfl rfl (by first | rfl | (show cKB[_]? = _; assumption)) rfl ?_
                      refine w_istore (ls2 := [_, _, _, _, _, _]) rfl rfl rfl (w_iload rfl rfl (w_iconst rfl ?_))
                      refine w_icmp_ne (tgt := 87) rfl (by first | assumption | exact i32_0 | (unfold i32 at *; omega)) (by first | assumption | exact i32_0 | (unfold i32 at *; omega)) rfl (fun c78 => ?_) (fun c78 => ?_)
                      · skip
                        exfalso; omega
                      · skip
                        refine w_iload rfl rfl ?_
                        refine w_call (Or.inl rfl) ((e_area m M12 (by omega))) (by omega) nof_98 rfl rfl rfl rfl trivial rfl ?_
                        exact w_ireturn rfl ⟨by first | rfl | (congr 2; omega), by exact CQ_of z1 z4⟩
                    · skip
                      exfalso; omega
                  · skip
                    exfalso; omega
              · skip
                exfalso; omega
          · rw [if_neg w5]
            by_cases w6 : w = 5
            · rw [if_pos w6]
              refine w_iload rfl rfl ?_
              refine w_call (Or.inl rfl) (e_isCurve1 M q) (by omega) nof_37 rfl rfl rfl rfl trivial rfl ?_
              refine w_if_ne (tgt := 10) rfl (by first | assumption | exact i32_0 | (unfold i32 at *; omega)) rfl (fun _ => ?_) (fun c => absurd c (by decide))
              refine w_aload rfl rfl (w_iload rfl rfl ?_)
              refine w_callQ (Or.inr rfl) (hsh) (by omega) nof_67 rfl rfl rfl rfl (by first | rfl | (show cKB[_]? = _; assumption)) (fun r12 M12 hq12 => ?_)
              obtain ⟨rfl, z1, z2, z3, z4⟩ := hq12
              have hl := z2.1.1
              have hl16 := z2.1.2.1
              have hma := e_markAt hpts z2.1 hP
              have hea := e_edgesAt hs z2.2.1 (rowsF_ok hf hl16 (hG h hf)) (k := k) (by omega)
              refine w_astore (ls2 := [_, _, _, _, _, _]) rfl rfl rfl (w_iload rfl rfl ?_)
              refine w_if_lt (tgt := 33) rfl (by first | assumption | exact i32_0 | (unfold i32 at *; omega)) rfl (fun c18 => ?_) (fun c18 => ?_)
              · skip
                exfalso; omega
              · skip
                refine w_iload rfl rfl (w_aload rfl rfl (w_getR rfl (by first | rfl | assumption) rfl (by first | rfl | assumption) (w_getIV rfl (by first | rfl | assumption) (by first | exact Or.inl rfl | exact Or.inr rfl) (hl) ?_)))
                refine w_icmp_lt (tgt := 36) rfl (by first | assumption | exact i32_0 | (unfold i32 at *; omega)) (by first | assumption | exact i32_0 | (unfold i32 at *; omega)) rfl (fun c30 => ?_) (fun c30 => ?_)
                · skip
                  refine w_iload rfl rfl ?_
                  refine w_if_lt (tgt := 46) rfl (by first | assumption | exact i32_0 | (unfold i32 at *; omega)) rfl (fun c37 => ?_) (fun c37 => ?_)
                  · skip
                    exfalso; omega
                  · skip
                    refine w_iload rfl rfl (w_iconst rfl ?_)
                    refine w_icmp_le (tgt := 49) rfl (by first | assumption | exact i32_0 | (unfold i32 at *; omega)) (by first | assumption | exact i32_0 | (unfold i32 at *; omega)) rfl (fun c43 => ?_) (fun c43 => ?_)
                    · skip
                      refine w_iload rfl rfl (w_iconst rfl ?_)
                      refine w_icmp_ge (tgt := 65) rfl (by first | assumption | exact i32_0 | (unfold i32 at *; omega)) (by first | assumption | exact i32_0 | (unfold i32 at *; omega)) rfl (fun c51 => ?_) (fun c51 => ?_)
                      · skip
                        refine w_aload rfl rfl (w_getR rfl (by first | rfl | assumption) rfl (by first | rfl | assumption) (w_iload rfl rfl ?_))
                        refine w_call (Or.inr rfl) ((hma)) (by omega) nof_86 rfl rfl rfl rfl (by first | rfl | (show cKB[_]? = _; assumption)) rfl ?_
                        refine w_istore (ls2 := [_, _, _, _, _, _]) rfl rfl rfl (w_iload rfl rfl (w_iconst rfl ?_))
                        refine w_icmp_ne (tgt := 87) rfl (by first | assumption | exact i32_0 | (unfold i32 at *; omega)) (by first | assumption | exact i32_0 | (unfold i32 at *; omega)) rfl (fun c78 => ?_) (fun c78 => ?_)
                        · skip
                          refine w_iload rfl rfl (w_iconst rfl ?_)
                          refine w_icmp_ne (tgt := 101) rfl (by first | assumption | exact i32_0 | (unfold i32 at *; omega)) (by first | assumption | exact i32_0 | (unfold i32 at *; omega)) rfl (fun c89 => ?_) (fun c89 => ?_)
                          · skip
                            exfalso; omega
                          · skip
                            refine w_aload rfl rfl (w_iload rfl rfl ?_)
                            refine w_call (Or.inr rfl) ((hea)) (by omega) nof_101 rfl rfl rfl rfl (by first | rfl | (show cKB[_]? = _; assumption)) rfl ?_
                            refine w_goto (tgt := 103) rfl rfl ?_
                            exact w_ireturn rfl ⟨by first | rfl | (congr 2; omega), by exact CQ_of z1 z4⟩
                        · skip
                          exfalso; omega
                      · skip
                        exfalso; omega
                    · skip
                      exfalso; omega
                · skip
                  exfalso; omega
            · rw [if_neg w6]
              refine w_iload rfl rfl ?_
              refine w_call (Or.inl rfl) (e_isCurve1 M q) (by omega) nof_37 rfl rfl rfl rfl trivial rfl ?_
              refine w_if_ne (tgt := 10) rfl (by first | assumption | exact i32_0 | (unfold i32 at *; omega)) rfl (fun _ => ?_) (fun c => absurd c (by decide))
              refine w_aload rfl rfl (w_iload rfl rfl ?_)
              refine w_callQ (Or.inr rfl) (hsh) (by omega) nof_67 rfl rfl rfl rfl (by first | rfl | (show cKB[_]? = _; assumption)) (fun r12 M12 hq12 => ?_)
              obtain ⟨rfl, z1, z2, z3, z4⟩ := hq12
              have hl := z2.1.1
              have hl16 := z2.1.2.1
              have hma := e_markAt hpts z2.1 hP
              refine w_astore (ls2 := [_, _, _, _, _, _]) rfl rfl rfl (w_iload rfl rfl ?_)
              refine w_if_lt (tgt := 33) rfl (by first | assumption | exact i32_0 | (unfold i32 at *; omega)) rfl (fun c18 => ?_) (fun c18 => ?_)
              · skip
                exfalso; omega
              · skip
                refine w_iload rfl rfl (w_aload rfl rfl (w_getR rfl (by first | rfl | assumption) rfl (by first | rfl | assumption) (w_getIV rfl (by first | rfl | assumption) (by first | exact Or.inl rfl | exact Or.inr rfl) (hl) ?_)))
                refine w_icmp_lt (tgt := 36) rfl (by first | assumption | exact i32_0 | (unfold i32 at *; omega)) (by first | assumption | exact i32_0 | (unfold i32 at *; omega)) rfl (fun c30 => ?_) (fun c30 => ?_)
                · skip
                  refine w_iload rfl rfl ?_
                  refine w_if_lt (tgt := 46) rfl (by first | assumption | exact i32_0 | (unfold i32 at *; omega)) rfl (fun c37 => ?_) (fun c37 => ?_)
                  · skip
                    exfalso; omega
                  · skip
                    refine w_iload rfl rfl (w_iconst rfl ?_)
                    refine w_icmp_le (tgt := 49) rfl (by first | assumption | exact i32_0 | (unfold i32 at *; omega)) (by first | assumption | exact i32_0 | (unfold i32 at *; omega)) rfl (fun c43 => ?_) (fun c43 => ?_)
                    · skip
                      refine w_iload rfl rfl (w_iconst rfl ?_)
                      refine w_icmp_ge (tgt := 65) rfl (by first | assumption | exact i32_0 | (unfold i32 at *; omega)) (by first | assumption | exact i32_0 | (unfold i32 at *; omega)) rfl (fun c51 => ?_) (fun c51 => ?_)
                      · skip
                        refine w_aload rfl rfl (w_getR rfl (by first | rfl | assumption) rfl (by first | rfl | assumption) (w_iload rfl rfl ?_))
                        refine w_call (Or.inr rfl) ((hma)) (by omega) nof_86 rfl rfl rfl rfl (by first | rfl | (show cKB[_]? = _; assumption)) rfl ?_
                        refine w_istore (ls2 := [_, _, _, _, _, _]) rfl rfl rfl (w_iload rfl rfl (w_iconst rfl ?_))
                        refine w_icmp_ne (tgt := 87) rfl (by first | assumption | exact i32_0 | (unfold i32 at *; omega)) (by first | assumption | exact i32_0 | (unfold i32 at *; omega)) rfl (fun c78 => ?_) (fun c78 => ?_)
                        · skip
                          refine w_iload rfl rfl (w_iconst rfl ?_)
                          refine w_icmp_ne (tgt := 101) rfl (by first | assumption | exact i32_0 | (unfold i32 at *; omega)) (by first | assumption | exact i32_0 | (unfold i32 at *; omega)) rfl (fun c89 => ?_) (fun c89 => ?_)
                          · skip
                            refine w_iload rfl rfl ?_
                            exact w_ireturn rfl ⟨by first | rfl | (congr 2; omega), by exact CQ_of z1 z4⟩
                          · skip
                            exfalso; omega
                        · skip
                          exfalso; omega
                      · skip
                        exfalso; omega
                    · skip
                      exfalso; omega
                · skip
                  exfalso; omega
      · rw [if_neg qw]
        have qw := of_decide_eq_false (Bool.eq_false_iff.mpr qw)
        refine w_iload rfl rfl ?_
        refine w_call (Or.inl rfl) (e_isCurve1 M q) (by omega) nof_37 rfl rfl rfl rfl trivial rfl ?_
        refine w_if_ne (tgt := 10) rfl (by first | assumption | exact i32_0 | (unfold i32 at *; omega)) rfl (fun _ => ?_) (fun c => absurd c (by decide))
        refine w_aload rfl rfl (w_iload rfl rfl ?_)
        refine w_callQ (Or.inr rfl) (hsh) (by omega) nof_67 rfl rfl rfl rfl (by first | rfl | (show cKB[_]? = _; assumption)) (fun r12 M12 hq12 => ?_)
        obtain ⟨rfl, z1, z2, z3, z4⟩ := hq12
        have hl := z2.1.1
        have hl16 := z2.1.2.1
        refine w_astore (ls2 := [_, _, _, _, _, _]) rfl rfl rfl (w_iload rfl rfl ?_)
        refine w_if_lt (tgt := 33) rfl (by first | assumption | exact i32_0 | (unfold i32 at *; omega)) rfl (fun c18 => ?_) (fun c18 => ?_)
        · skip
          exfalso; omega
        · skip
          refine w_iload rfl rfl (w_aload rfl rfl (w_getR rfl (by first | rfl | assumption) rfl (by first | rfl | assumption) (w_getIV rfl (by first | rfl | assumption) (by first | exact Or.inl rfl | exact Or.inr rfl) (hl) ?_)))
          refine w_icmp_lt (tgt := 36) rfl (by first | assumption | exact i32_0 | (unfold i32 at *; omega)) (by first | assumption | exact i32_0 | (unfold i32 at *; omega)) rfl (fun c30 => ?_) (fun c30 => ?_)
          · skip
            refine w_iload rfl rfl ?_
            refine w_if_lt (tgt := 46) rfl (by first | assumption | exact i32_0 | (unfold i32 at *; omega)) rfl (fun c37 => ?_) (fun c37 => ?_)
            · skip
              refine w_iconst rfl ?_
              exact w_ireturn rfl ⟨by first | rfl | (congr 2; omega), by exact CQ_of z1 z4⟩
            · skip
              refine w_iload rfl rfl (w_iconst rfl ?_)
              refine w_icmp_le (tgt := 49) rfl (by first | assumption | exact i32_0 | (unfold i32 at *; omega)) (by first | assumption | exact i32_0 | (unfold i32 at *; omega)) rfl (fun c43 => ?_) (fun c43 => ?_)
              · skip
                exfalso; omega
              · skip
                refine w_iconst rfl ?_
                exact w_ireturn rfl ⟨by first | rfl | (congr 2; omega), by exact CQ_of z1 z4⟩
          · skip
            exfalso; omega
    · rw [if_neg qk]
      have qk := of_decide_eq_false (Bool.eq_false_iff.mpr qk)
      refine w_iload rfl rfl ?_
      refine w_call (Or.inl rfl) (e_isCurve1 M q) (by omega) nof_37 rfl rfl rfl rfl trivial rfl ?_
      refine w_if_ne (tgt := 10) rfl (by first | assumption | exact i32_0 | (unfold i32 at *; omega)) rfl (fun _ => ?_) (fun c => absurd c (by decide))
      refine w_aload rfl rfl (w_iload rfl rfl ?_)
      refine w_callQ (Or.inr rfl) (hsh) (by omega) nof_67 rfl rfl rfl rfl (by first | rfl | (show cKB[_]? = _; assumption)) (fun r12 M12 hq12 => ?_)
      obtain ⟨rfl, z1, z2, z3, z4⟩ := hq12
      have hl := z2.1.1
      have hl16 := z2.1.2.1
      refine w_astore (ls2 := [_, _, _, _, _, _]) rfl rfl rfl (w_iload rfl rfl ?_)
      refine w_if_lt (tgt := 33) rfl (by first | assumption | exact i32_0 | (unfold i32 at *; omega)) rfl (fun c18 => ?_) (fun c18 => ?_)
      · skip
        refine w_iconst rfl ?_
        exact w_ireturn rfl ⟨by first | rfl | (congr 2; omega), by exact CQ_of z1 z4⟩
      · skip
        refine w_iload rfl rfl (w_aload rfl rfl (w_getR rfl (by first | rfl | assumption) rfl (by first | rfl | assumption) (w_getIV rfl (by first | rfl | assumption) (by first | exact Or.inl rfl | exact Or.inr rfl) (hl) ?_)))
        refine w_icmp_lt (tgt := 36) rfl (by first | assumption | exact i32_0 | (unfold i32 at *; omega)) (by first | assumption | exact i32_0 | (unfold i32 at *; omega)) rfl (fun c30 => ?_) (fun c30 => ?_)
        · skip
          exfalso; omega
        · skip
          refine w_iconst rfl ?_
          exact w_ireturn rfl ⟨by first | rfl | (congr 2; omega), by exact CQ_of z1 z4⟩
  · rw [if_neg q]
    have q : ¬ (a = 0 ∨ a = 1) := fun z => q (isCu_iff.mpr z)
    refine w_iload rfl rfl ?_
    refine w_call (Or.inl rfl) (e_isCurve0 M ha q) (by omega) nof_37 rfl rfl rfl rfl trivial rfl ?_
    refine w_if_ne (tgt := 10) rfl (by first | assumption | exact i32_0 | (unfold i32 at *; omega)) rfl (fun c => absurd c (by decide)) (fun _ => ?_)
    refine w_iconst rfl ?_
    exact w_ireturn rfl ⟨by first | rfl | (congr 2; omega), by exact CI_same c (Nat.le_succ n)⟩
def toldR (e : Nat → Int) (w : Int) : Int := if w = 9 then e 10 else e (if w = 0 then 0 else if w = 1 then 1 else w.toNat + 1)
def dEdge (a k w : Int) (s : Sta) : Int := if isCu a = true then (match (if 0 ≤ k then (rowsF (selF a s.2.1 s.2.2.1))[k.toNat]? else none) with
  | none => -1000001
  | some e => if rngB w 10 = true then toldR e w else -1000002) else -1000001
theorem c_edge {n : Nat} {s : Sta} {M : mM} {a k w : Int} (hG : GEO) (c : CI n s M) (hn : n ≤ 2000000000) (ha : i32 a) (hk : i32 k) (hw : i32 w) : EQ 12 103 [vR 0, vI a, vI k, vI w] M (CQ (n + 1) M (dEdge a k w s) s) := by
  refine q_in (ls := [vR 0, vI a, vI k, vI w, vN]) mq_103 (ml_103 rfl) rfl fun D hD => ?_
  unfold dEdge
  by_cases q : isCu a = true
  · rw [if_pos q]
    have q := isCu_iff.mp q
    have hsh := e_shapeOf hG c hn q
    have hs := isS_sOf a
    obtain ⟨⟨k0, k1, k2, k3, k4, k5⟩, ⟨kE, -, -⟩, -, hpts, -⟩ := id hs
    have hf := Cok_sel (a := a) c.2.1.2.1 c.2.1.2.2
    generalize hh : selF a s.2.1 s.2.2.1 = h at *
    cases e : (if 0 ≤ k then (rowsF h)[k.toNat]? else none) with
    | none =>
      have hk2 : k < 0 ∨ (rowsF h).length ≤ k.toNat := by
        by_cases z : 0 ≤ k
        · rw [if_pos z] at e
          exact Or.inr (List.getElem?_eq_none_iff.mp e)
        · exact Or.inl (by omega)
      refine w_iload rfl rfl ?_
      refine w_call (Or.inl rfl) (e_isCurve1 M q) (by omega) nof_37 rfl rfl rfl rfl trivial rfl ?_
      refine w_if_ne (tgt := 10) rfl (by first | assumption | exact i32_0 | (unfold i32 at *; omega)) rfl (fun _ => ?_) (fun c => absurd c (by decide))
      refine w_aload rfl rfl (w_iload rfl rfl ?_)
      refine w_callQ (Or.inr rfl) (hsh) (by omega) nof_67 rfl rfl rfl rfl (by first | rfl | (show cKB[_]? = _; assumption)) (fun r12 M12 hq12 => ?_)
      obtain ⟨rfl, z1, z2, z3, z4⟩ := hq12
      have hl := z2.2.1.1
      have hl30 := z2.2.1.2.1
      refine w_astore (ls2 := [_, _, _, _, _]) rfl rfl rfl (w_iload rfl rfl ?_)
      refine w_if_lt (tgt := 40) rfl (by first | assumption | exact i32_0 | (unfold i32 at *; omega)) rfl (fun c18 => ?_) (fun c18 => ?_)
      · skip
        refine w_iconst rfl ?_
        exact w_ireturn rfl ⟨by first | rfl | (congr 2; omega), by exact CQ_of z1 z4⟩
      · skip
        refine w_iload rfl rfl (w_aload rfl rfl (w_getIV rfl (by first | rfl | assumption) (by first | exact Or.inl rfl | exact Or.inr rfl) (hl) ?_))
        refine w_icmp_ge (tgt := 40) rfl (by first | assumption | exact i32_0 | (unfold i32 at *; omega)) (by first | assumption | exact i32_0 | (unfold i32 at *; omega)) rfl (fun c27 => ?_) (fun c27 => ?_)
        · skip
          refine w_iconst rfl ?_
          exact w_ireturn rfl ⟨by first | rfl | (congr 2; omega), by exact CQ_of z1 z4⟩
        · skip
          refine w_iload rfl rfl (w_aload rfl rfl (w_getR rfl (by first | rfl | assumption) rfl (by first | rfl | assumption) (w_alen rfl (by first | rfl | assumption) (by decide) (by decide) ?_)))
          refine w_icmp_lt (tgt := 43) rfl (by first | assumption | exact i32_0 | (unfold i32 at *; omega)) (by first | assumption | exact i32_0 | (unfold i32 at *; omega)) rfl (fun c37 => ?_) (fun c37 => ?_)
          · skip
            exfalso; omega
          · skip
            refine w_iconst rfl ?_
            exact w_ireturn rfl ⟨by first | rfl | (congr 2; omega), by exact CQ_of z1 z4⟩
    | some r =>
      have hk0 : 0 ≤ k := by
        rcases Int.lt_or_le k 0 with z | z
        · rw [if_neg (by omega)] at e; cases e
        · exact z
      rw [if_pos hk0] at e
      obtain ⟨k, rfl⟩ : ∃ z : Nat, k = (z : Int) := ⟨k.toNat, by omega⟩
      rw [Int.toNat_natCast] at e
      have hkl := (List.getElem?_eq_some_iff.mp e).1
      by_cases qw : rngB w 10 = true
      · show Wp _ _ _ _ _ _ (CQ (n + 1) M (if rngB w 10 = true then toldR r w else -1000002) s)
        rw [if_pos qw]
        have qw := of_decide_eq_true qw
        unfold toldR
        refine w_iload rfl rfl ?_
        refine w_call (Or.inl rfl) (e_isCurve1 M q) (by omega) nof_37 rfl rfl rfl rfl trivial rfl ?_
        refine w_if_ne (tgt := 10) rfl (by first | assumption | exact i32_0 | (unfold i32 at *; omega)) rfl (fun _ => ?_) (fun c => absurd c (by decide))
        refine w_aload rfl rfl (w_iload rfl rfl ?_)
        refine w_callQ (Or.inr rfl) (hsh) (by omega) nof_67 rfl rfl rfl rfl (by first | rfl | (show cKB[_]? = _; assumption)) (fun r12 M12 hq12 => ?_)
        obtain ⟨rfl, z1, z2, z3, z4⟩ := hq12
        have hl := z2.2.1.1
        have hl30 := z2.2.1.2.1
        have hx := edgs_row hs (k := k) (by omega)
        have hxr := hx.1
        have hxe : cKB[sOf a + 10 + k]? = some (0, 0) := hx.2
        have hok := rowsF_ok hf z2.1.2.1 (hG h hf) r (List.mem_of_getElem? e)
        have hto := e_told (w := w) hx.2 (z2.2.1.2.2 k r e) hok.2.1 (by omega)
        refine w_astore (ls2 := [_, _, _, _, _]) rfl rfl rfl (w_iload rfl rfl ?_)
        refine w_if_lt (tgt := 40) rfl (by first | assumption | exact i32_0 | (unfold i32 at *; omega)) rfl (fun c18 => ?_) (fun c18 => ?_)
        · skip
          exfalso; omega
        · skip
          refine w_iload rfl rfl (w_aload rfl rfl (w_getIV rfl (by first | rfl | assumption) (by first | exact Or.inl rfl | exact Or.inr rfl) (hl) ?_))
          refine w_icmp_ge (tgt := 40) rfl (by first | assumption | exact i32_0 | (unfold i32 at *; omega)) (by first | assumption | exact i32_0 | (unfold i32 at *; omega)) rfl (fun c27 => ?_) (fun c27 => ?_)
          · skip
            exfalso; omega
          · skip
            refine w_iload rfl rfl (w_aload rfl rfl (w_getR rfl (by first | rfl | assumption) rfl (by first | rfl | assumption | (rw [Int.toNat_natCast]; assumption)) (w_alen rfl (by first | rfl | assumption) (by decide) (by decide) ?_)))
            refine w_icmp_lt (tgt := 43) rfl (by first | assumption | exact i32_0 | (unfold i32 at *; omega)) (by first | assumption | exact i32_0 | (unfold i32 at *; omega)) rfl (fun c37 => ?_) (fun c37 => ?_)
            · skip
              refine w_iload rfl rfl ?_
              refine w_if_lt (tgt := 53) rfl (by first | assumption | exact i32_0 | (unfold i32 at *; omega)) rfl (fun c44 => ?_) (fun c44 => ?_)
              · skip
                exfalso; omega
              · skip
                refine w_iload rfl rfl (w_iconst rfl ?_)
                refine w_icmp_le (tgt := 56) rfl (by first | assumption | exact i32_0 | (unfold i32 at *; omega)) (by first | assumption | exact i32_0 | (unfold i32 at *; omega)) rfl (fun c50 => ?_) (fun c50 => ?_)
                · skip
                  refine w_aload rfl rfl (w_getR rfl (by first | rfl | assumption) rfl (by first | rfl | assumption | (rw [Int.toNat_natCast]; assumption)) (w_iload rfl rfl (w_aaload rfl (by first | rfl | assumption) (by first | exact Or.inl rfl | exact Or.inr rfl) (by omega) (by omega) (by first | rfl | assumption | (rw [Int.toNat_natCast]; assumption)) (w_iload rfl rfl ?_))))
                  refine w_call (Or.inr rfl) ((hto)) (by omega) nof_104 rfl rfl rfl rfl (by first | rfl | (show cKB[_]? = _; assumption)) rfl ?_
                  exact w_ireturn rfl ⟨by first | rfl | (congr 2; omega), by exact CQ_of z1 z4⟩
                · skip
                  exfalso; omega
            · skip
              exfalso; omega
      · show Wp _ _ _ _ _ _ (CQ (n + 1) M (if rngB w 10 = true then toldR r w else -1000002) s)
        rw [if_neg qw]
        have qw := of_decide_eq_false (Bool.eq_false_iff.mpr qw)
        refine w_iload rfl rfl ?_
        refine w_call (Or.inl rfl) (e_isCurve1 M q) (by omega) nof_37 rfl rfl rfl rfl trivial rfl ?_
        refine w_if_ne (tgt := 10) rfl (by first | assumption | exact i32_0 | (unfold i32 at *; omega)) rfl (fun _ => ?_) (fun c => absurd c (by decide))
        refine w_aload rfl rfl (w_iload rfl rfl ?_)
        refine w_callQ (Or.inr rfl) (hsh) (by omega) nof_67 rfl rfl rfl rfl (by first | rfl | (show cKB[_]? = _; assumption)) (fun r12 M12 hq12 => ?_)
        obtain ⟨rfl, z1, z2, z3, z4⟩ := hq12
        have hl := z2.2.1.1
        have hl30 := z2.2.1.2.1
        refine w_astore (ls2 := [_, _, _, _, _]) rfl rfl rfl (w_iload rfl rfl ?_)
        refine w_if_lt (tgt := 40) rfl (by first | assumption | exact i32_0 | (unfold i32 at *; omega)) rfl (fun c18 => ?_) (fun c18 => ?_)
        · skip
          exfalso; omega
        · skip
          refine w_iload rfl rfl (w_aload rfl rfl (w_getIV rfl (by first | rfl | assumption) (by first | exact Or.inl rfl | exact Or.inr rfl) (hl) ?_))
          refine w_icmp_ge (tgt := 40) rfl (by first | assumption | exact i32_0 | (unfold i32 at *; omega)) (by first | assumption | exact i32_0 | (unfold i32 at *; omega)) rfl (fun c27 => ?_) (fun c27 => ?_)
          · skip
            exfalso; omega
          · skip
            refine w_iload rfl rfl (w_aload rfl rfl (w_getR rfl (by first | rfl | assumption) rfl (by first | rfl | assumption) (w_alen rfl (by first | rfl | assumption) (by decide) (by decide) ?_)))
            refine w_icmp_lt (tgt := 43) rfl (by first | assumption | exact i32_0 | (unfold i32 at *; omega)) (by first | assumption | exact i32_0 | (unfold i32 at *; omega)) rfl (fun c37 => ?_) (fun c37 => ?_)
            · skip
              refine w_iload rfl rfl ?_
              refine w_if_lt (tgt := 53) rfl (by first | assumption | exact i32_0 | (unfold i32 at *; omega)) rfl (fun c44 => ?_) (fun c44 => ?_)
              · skip
                refine w_iconst rfl ?_
                exact w_ireturn rfl ⟨by first | rfl | (congr 2; omega), by exact CQ_of z1 z4⟩
              · skip
                refine w_iload rfl rfl (w_iconst rfl ?_)
                refine w_icmp_le (tgt := 56) rfl (by first | assumption | exact i32_0 | (unfold i32 at *; omega)) (by first | assumption | exact i32_0 | (unfold i32 at *; omega)) rfl (fun c50 => ?_) (fun c50 => ?_)
                · skip
                  exfalso; omega
                · skip
                  refine w_iconst rfl ?_
                  exact w_ireturn rfl ⟨by first | rfl | (congr 2; omega), by exact CQ_of z1 z4⟩
            · skip
              exfalso; omega
  · rw [if_neg q]
    have q : ¬ (a = 0 ∨ a = 1) := fun z => q (isCu_iff.mpr z)
    refine w_iload rfl rfl ?_
    refine w_call (Or.inl rfl) (e_isCurve0 M ha q) (by omega) nof_37 rfl rfl rfl rfl trivial rfl ?_
    refine w_if_ne (tgt := 10) rfl (by first | assumption | exact i32_0 | (unfold i32 at *; omega)) rfl (fun c => absurd c (by decide)) (fun _ => ?_)
    refine w_iconst rfl ?_
    exact w_ireturn rfl ⟨by first | rfl | (congr 2; omega), by exact CI_same c (Nat.le_succ n)⟩
def dLift (a i j : Int) (s : Sta) : Int := if isCu a = true then (if isPlB i j = true then (if hiA (selF a s.2.1 s.2.2.1) (plN i j) 21 < -999 then -1000000 else hiA (selF a s.2.1 s.2.2.1) (plN i j) 21) else -1000002) else -1000001
theorem c_lift {n : Nat} {s : Sta} {M : mM} {a i j : Int} (c : CI n s M) (ha : i32 a) (hi : i32 i) (hj : i32 j) : EQ 12 113 [vR 0, vI a, vI i, vI j] M (CQ (n + 1) M (dLift a i j s) s) := by
  refine q_in (ls := [vR 0, vI a, vI i, vI j, vN]) mq_113 (ml_113 rfl) rfl fun D hD => ?_
  unfold dLift
  by_cases q : isCu a = true
  · rw [if_pos q]
    have q := isCu_iff.mp q
    by_cases qp : isPlB i j = true
    · rw [if_pos qp]
      have qp := isPlB_iff.mp qp
      obtain ⟨e1, e2, e3⟩ := plN_ok qp
      have hc := cur_sel (a := a) c.2.1.1
      have hf := Cok_sel (a := a) c.2.1.2.1 c.2.1.2.2
      have ht := isT_tOf a
      have ht0 := ht.1
      have hof := fun N => e_of9 N q
      generalize tOf a = t at *
      generalize selF a s.2.1 s.2.2.1 = f at *
      have hhi := e_highest ht hc hf (p := plN i j) (by omega)
      have hlo := hiA_le hf (p := plN i j) (by omega) 21
      by_cases ql : hiA f (plN i j) 21 < -999
      · rw [if_pos ql]
        refine w_iload rfl rfl ?_
        refine w_call (Or.inl rfl) (e_isCurve1 M q) (by omega) nof_37 rfl rfl rfl rfl trivial rfl ?_
        refine w_if_ne (tgt := 10) rfl (by first | assumption | exact i32_0 | (unfold i32 at *; omega)) rfl (fun _ => ?_) (fun c => absurd c (by decide))
        refine w_iload rfl rfl (w_iload rfl rfl ?_)
        refine w_call (Or.inl rfl) (e_isPlace1 M qp) (by omega) nof_38 rfl rfl rfl rfl trivial rfl ?_
        refine w_if_ne (tgt := 21) rfl (by first | assumption | exact i32_0 | (unfold i32 at *; omega)) rfl (fun _ => ?_) (fun c => absurd c (by decide))
        refine w_aload rfl rfl (w_getR rfl (by first | rfl | assumption) rfl (by first | rfl | assumption) (w_iload rfl rfl ?_))
        refine w_call (Or.inr rfl) ((hof _)) (by omega) nof_24 rfl rfl rfl rfl (by first | rfl | (show cKB[_]? = _; assumption)) rfl ?_
        refine w_iconst rfl (w_iload rfl rfl (w_imul rfl (w_iload rfl rfl (w_iadd rfl ?_))))
        rw [e1]
        refine w_call (Or.inr rfl) ((hhi)) (by omega) nof_114 rfl rfl rfl rfl (by first | rfl | (show cKB[_]? = _; assumption)) rfl ?_
        refine w_istore (ls2 := [_, _, _, _, _]) rfl rfl rfl (w_iload rfl rfl (w_iconst rfl ?_))
        refine w_icmp_ge (tgt := 52) rfl (by first | assumption | exact i32_0 | (unfold i32 at *; omega)) (by first | assumption | exact i32_0 | (unfold i32 at *; omega)) rfl (fun c44 => ?_) (fun c44 => ?_)
        · skip
          exfalso; omega
        · skip
          refine w_iconst rfl (w_goto (tgt := 54) rfl rfl ?_)
          exact w_ireturn rfl ⟨by first | rfl | (congr 2; omega), by exact CI_same c (Nat.le_succ n)⟩
      · rw [if_neg ql]
        refine w_iload rfl rfl ?_
        refine w_call (Or.inl rfl) (e_isCurve1 M q) (by omega) nof_37 rfl rfl rfl rfl trivial rfl ?_
        refine w_if_ne (tgt := 10) rfl (by first | assumption | exact i32_0 | (unfold i32 at *; omega)) rfl (fun _ => ?_) (fun c => absurd c (by decide))
        refine w_iload rfl rfl (w_iload rfl rfl ?_)
        refine w_call (Or.inl rfl) (e_isPlace1 M qp) (by omega) nof_38 rfl rfl rfl rfl trivial rfl ?_
        refine w_if_ne (tgt := 21) rfl (by first | assumption | exact i32_0 | (unfold i32 at *; omega)) rfl (fun _ => ?_) (fun c => absurd c (by decide))
        refine w_aload rfl rfl (w_getR rfl (by first | rfl | assumption) rfl (by first | rfl | assumption) (w_iload rfl rfl ?_))
        refine w_call (Or.inr rfl) ((hof _)) (by omega) nof_24 rfl rfl rfl rfl (by first | rfl | (show cKB[_]? = _; assumption)) rfl ?_
        refine w_iconst rfl (w_iload rfl rfl (w_imul rfl (w_iload rfl rfl (w_iadd rfl ?_))))
        rw [e1]
        refine w_call (Or.inr rfl) ((hhi)) (by omega) nof_114 rfl rfl rfl rfl (by first | rfl | (show cKB[_]? = _; assumption)) rfl ?_
        refine w_istore (ls2 := [_, _, _, _, _]) rfl rfl rfl (w_iload rfl rfl (w_iconst rfl ?_))
        refine w_icmp_ge (tgt := 52) rfl (by first | assumption | exact i32_0 | (unfold i32 at *; omega)) (by first | assumption | exact i32_0 | (unfold i32 at *; omega)) rfl (fun c44 => ?_) (fun c44 => ?_)
        · skip
          refine w_iload rfl rfl ?_
          exact w_ireturn rfl ⟨by first | rfl | (congr 2; omega), by exact CI_same c (Nat.le_succ n)⟩
        · skip
          exfalso; omega
    · rw [if_neg qp]
      have qp : ¬ isPl i j := fun z => qp (isPlB_iff.mpr z)
      refine w_iload rfl rfl ?_
      refine w_call (Or.inl rfl) (e_isCurve1 M q) (by omega) nof_37 rfl rfl rfl rfl trivial rfl ?_
      refine w_if_ne (tgt := 10) rfl (by first | assumption | exact i32_0 | (unfold i32 at *; omega)) rfl (fun _ => ?_) (fun c => absurd c (by decide))
      refine w_iload rfl rfl (w_iload rfl rfl ?_)
      refine w_call (Or.inl rfl) (e_isPlace0 M hi hj qp) (by omega) nof_38 rfl rfl rfl rfl trivial rfl ?_
      refine w_if_ne (tgt := 21) rfl (by first | assumption | exact i32_0 | (unfold i32 at *; omega)) rfl (fun c => absurd c (by decide)) (fun _ => ?_)
      refine w_iconst rfl ?_
      exact w_ireturn rfl ⟨by first | rfl | (congr 2; omega), by exact CI_same c (Nat.le_succ n)⟩
  · rw [if_neg q]
    have q : ¬ (a = 0 ∨ a = 1) := fun z => q (isCu_iff.mpr z)
    refine w_iload rfl rfl ?_
    refine w_call (Or.inl rfl) (e_isCurve0 M ha q) (by omega) nof_37 rfl rfl rfl rfl trivial rfl ?_
    refine w_if_ne (tgt := 10) rfl (by first | assumption | exact i32_0 | (unfold i32 at *; omega)) rfl (fun c => absurd c (by decide)) (fun _ => ?_)
    refine w_iconst rfl ?_
    exact w_ireturn rfl ⟨by first | rfl | (congr 2; omega), by exact CI_same c (Nat.le_succ n)⟩
