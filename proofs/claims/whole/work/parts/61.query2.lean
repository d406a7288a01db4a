/-! ===== region, way ===== -/
def regW (h : Cv) (p : Nat) (w : Int) : Int := if w = 0 then kindR h (rowsF h) p else if w = 1 then (sidR (rowsF h) p : Int) else if kindR h (rowsF h) p = 1 then (if w = 2 then numP (perR (unitF h) (rowsF h) p (rowsF h).length * (720720 / unitF h : Nat)) else denP (perR (unitF h) (rowsF h) p (rowsF h).length * (720720 / unitF h : Nat))) else -1000000
def dRegion (a i j w : Int) (s : Sta) : Int := if isCu a = true then (if isPlB i j = true ∧ rngB w 4 = true then (if hasF (selF a s.2.1 s.2.2.1) (plN i j) = true then regW (selF a s.2.1 s.2.2.1) (plN i j) w else -1000003) else -1000002) else -1000001
theorem kind_open {f : Cv} {R : List (Nat → Int)} {k : Nat} (h : kindR f R k = 1) : openR R k = false := by
  unfold kindR at h
  split at h
  · split at h <;> omega
  · split at h
    · omega
    · next q => exact Bool.eq_false_iff.mpr q
theorem c_region {n : Nat} {s : Sta} {M : mM} {a i j w : Int} (hG : GEO) (c : CI n s M) (hn : n ≤ 2000000000) (ha : i32 a) (hi : i32 i) (hj : i32 j) (hw : i32 w) : EQ 12 105 [vR 0, vI a, vI i, vI j, vI w] M (CQL (n + 1) M (dRegion a i j w s) s) := by
  refine q_in (ls := [vR 0, vI a, vI i, vI j, vI w, vN, vN]) mq_105 (ml_105 rfl) rfl fun D hD => ?_
  unfold dRegion
  by_cases q : isCu a = true
  · rw [if_pos q]
    have q := isCu_iff.mp q
    by_cases qp : isPlB i j = true ∧ rngB w 4 = true
    · rw [if_pos qp]
      obtain ⟨qp, qw⟩ := qp
      have qp := isPlB_iff.mp qp
      have qw := of_decide_eq_true qw
      obtain ⟨e1, e2, e3⟩ := plN_ok qp
      have hsh := e_shapeOf hG c hn q
      have hs := isS_sOf a
      have hs0 := hs.1.1
      have hf := Cok_sel (a := a) c.2.1.2.1 c.2.1.2.2
      have hcN := fun (N : mM) (cN : CI n s N) => cur_sel (a := a) cN.2.1.1
      have ht := isT_tOf a
      have ht0 := ht.1
      have hof := fun N => e_of9 N q
      have hha := e_hasX ht (cur_sel (a := a) c.2.1.1) hf (k := plN i j) (by omega)
      generalize hh : selF a s.2.1 s.2.2.1 = h at *
      by_cases qh : hasF h (plN i j) = true
      · rw [if_pos qh] at hha ⊢
        unfold regW
        have hfacts : ∀ N : mM, CI n s N → ShV (sOf a) h N → E 3 106 [vR (sOf a), vI (plN i j)] N (some (vI (kindR h (rowsF h) (plN i j)))) N ∧ E 2 107 [vR (sOf a), vI (plN i j)] N (some (vI (sidR (rowsF h) (plN i j)))) N ∧ (kindR h (rowsF h) (plN i j) = 1 → E 2 110 [vR (sOf a), vI (plN i j)] N (some (vL (perR (unitF h) (rowsF h) (plN i j) (rowsF h).length))) N ∧ ∀ top : Bool, E 3 112 [vR (sOf a), vL (perR (unitF h) (rowsF h) (plN i j) (rowsF h).length), vI (if top = true then 1 else 0)] N (some (vL (if top = true then numP (perR (unitF h) (rowsF h) (plN i j) (rowsF h).length * (720720 / unitF h : Nat)) else denP (perR (unitF h) (rowsF h) (plN i j) (rowsF h).length * (720720 / unitF h : Nat))))) N) ∧ sidR (rowsF h) (plN i j) ≤ 30 := by
          intro N cN vN
          have hok := rowsF_ok hf vN.1.2.1 (hG h hf)
          have hok0 := rowsF0_ok hf vN.1.2.1 (hG h hf)
          have hl30 := vN.2.1.2.1
          have hud := unitR_dvd hok0 (rowsF0 h).length
          have hul := Nat.le_of_dvd (by decide) hud.1
          refine ⟨e_kindOf hs (hcN N cN) hf vN.2.1 hok (by omega) vN.1.2.1, e_sidesOf hs vN.2.1 hok (by omega), fun hk1 => ?_, Nat.le_trans List.countP_le_length hl30⟩
          have hop := kind_open hk1
          have hpl := perR_le (k := ((plN i j : Nat) : Int)) hok hul hop (rowsF h).length (Nat.le_refl _)
          exact ⟨e_perimeterOf hs vN.2.1 hok vN.2.2 hul (by omega) hop, fun top => e_reduced hs vN.2.2 hud.1 ⟨hpl.1, Int.le_trans hpl.2 (by omega)⟩ top⟩
        have hkl := kindR_le h (rowsF h) (plN i j)
        by_cases w0 : w = 0
        · rw [if_pos w0]
          refine w_iload rfl rfl ?_
          refine w_call (Or.inl rfl) (e_isCurve1 M q) (by omega) nof_37 rfl rfl rfl rfl trivial rfl ?_
          refine w_if_ne (tgt := 11) rfl (by first | assumption | exact i32_0 | (unfold i32 at *; omega)) rfl (fun _ => ?_) (fun c => absurd c (by decide))
          refine w_iload rfl rfl (w_iload rfl rfl ?_)
          refine w_call (Or.inl rfl) (e_isPlace1 M qp) (by omega) nof_38 rfl rfl rfl rfl trivial rfl ?_
          refine w_if_eq (tgt := 30) rfl (by first | assumption | exact i32_0 | (unfold i32 at *; omega)) rfl (fun c => absurd c (by decide)) (fun _ => ?_)
          refine w_iload rfl rfl ?_
          refine w_if_lt (tgt := 30) rfl (by first | assumption | exact i32_0 | (unfold i32 at *; omega)) rfl (fun c21 => ?_) (fun c21 => ?_)
          · skip
            exfalso; omega
          · skip
            refine w_iload rfl rfl (w_iconst rfl ?_)
            refine w_icmp_le (tgt := 34) rfl (by first | assumption | exact i32_0 | (unfold i32 at *; omega)) (by first | assumption | exact i32_0 | (unfold i32 at *; omega)) rfl (fun c27 => ?_) (fun c27 => ?_)
            · skip
              refine w_iconst rfl (w_iload rfl rfl (w_imul rfl (w_iload rfl rfl (w_iadd rfl ?_))))
              rw [e1]
              refine w_istore (ls2 := [_, _, _, _, _, _, _]) rfl rfl rfl (w_aload rfl rfl (w_getR rfl (by first | rfl | assumption) rfl (by first | rfl | assumption) (w_iload rfl rfl ?_)))
              refine w_call (Or.inr rfl) ((hof _)) (by omega) nof_24 rfl rfl rfl rfl (by first | rfl | (show cKB[_]? = _; assumption)) rfl ?_
              refine w_iload rfl rfl ?_
              refine w_call (Or.inr rfl) ((hha)) (by omega) nof_30 rfl rfl rfl rfl (by first | rfl | (show cKB[_]? = _; assumption)) rfl ?_
              refine w_if_ne (tgt := 61) rfl (by first | assumption | exact i32_0 | (unfold i32 at *; omega)) rfl (fun _ => ?_) (fun c => absurd c (by decide))
              refine w_aload rfl rfl (w_iload rfl rfl ?_)
              refine w_callQ (Or.inr rfl) (hsh) (by omega) nof_67 rfl rfl rfl rfl (by first | rfl | (show cKB[_]? = _; assumption)) (fun r63 M63 hq63 => ?_)
              obtain ⟨rfl, z1, z2, z3, z4⟩ := hq63
              have hfa := hfacts M63 z1 z2
              refine w_astore (ls2 := [_, _, _, _, _, _, _]) rfl rfl rfl (w_iload rfl rfl ?_)
              refine w_if_ne (tgt := 82) rfl (by first | assumption | exact i32_0 | (unfold i32 at *; omega)) rfl (fun c70 => ?_) (fun c70 => ?_)
              · skip
                exfalso; omega
              · skip
                refine w_aload rfl rfl (w_iload rfl rfl ?_)
                refine w_call (Or.inr rfl) ((hfa.1)) (by omega) nof_106 rfl rfl rfl rfl (by first | rfl | (show cKB[_]? = _; assumption)) rfl ?_
                refine w_i2l rfl (by first | assumption | exact i32_0 | (unfold i32 at *; omega)) ?_
                exact w_lreturn rfl ⟨by first | rfl | (congr 2; omega), by exact CQ_of z1 z4⟩
            · skip
              exfalso; omega
        · rw [if_neg w0]
          by_cases w1 : w = 1
          · rw [if_pos w1]
            refine w_iload rfl rfl ?_
            refine w_call (Or.inl rfl) (e_isCurve1 M q) (by omega) nof_37 rfl rfl rfl rfl trivial rfl ?_
            refine w_if_ne (tgt := 11) rfl (by first | assumption | exact i32_0 | (unfold i32 at *; omega)) rfl (fun _ => ?_) (fun c => absurd c (by decide))
            refine w_iload rfl rfl (w_iload rfl rfl ?_)
            refine w_call (Or.inl rfl) (e_isPlace1 M qp) (by omega) nof_38 rfl rfl rfl rfl trivial rfl ?_
            refine w_if_eq (tgt := 30) rfl (by first | assumption | exact i32_0 | (unfold i32 at *; omega)) rfl (fun c => absurd c (by decide)) (fun _ => ?_)
            refine w_iload rfl rfl ?_
            refine w_if_lt (tgt := 30) rfl (by first | assumption | exact i32_0 | (unfold i32 at *; omega)) rfl (fun c21 => ?_) (fun c21 => ?_)
            · skip
              exfalso; omega
            · skip
              refine w_iload rfl rfl (w_iconst rfl ?_)
              refine w_icmp_le (tgt := 34) rfl (by first | assumption | exact i32_0 | (unfold i32 at *; omega)) (by first | assumption | exact i32_0 | (unfold i32 at *; omega)) rfl (fun c27 => ?_) (fun c27 => ?_)
              · skip
                refine w_iconst rfl (w_iload rfl rfl (w_imul rfl (w_iload rfl rfl (w_iadd rfl ?_))))
                rw [e1]
                refine w_istore (ls2 := [_, _, _, _, _, _, _]) rfl rfl rfl (w_aload rfl rfl (w_getR rfl (by first | rfl | assumption) rfl (by first | rfl | assumption) (w_iload rfl rfl ?_)))
                refine w_call (Or.inr rfl) ((hof _)) (by omega) nof_24 rfl rfl rfl rfl (by first | rfl | (show cKB[_]? = _; assumption)) rfl ?_
                refine w_iload rfl rfl ?_
                refine w_call (Or.inr rfl) ((hha)) (by omega) nof_30 rfl rfl rfl rfl (by first | rfl | (show cKB[_]? = _; assumption)) rfl ?_
                refine w_if_ne (tgt := 61) rfl (by first | assumption | exact i32_0 | (unfold i32 at *; omega)) rfl (fun _ => ?_) (fun c => absurd c (by decide))
                refine w_aload rfl rfl (w_iload rfl rfl ?_)
                refine w_callQ (Or.inr rfl) (hsh) (by omega) nof_67 rfl rfl rfl rfl (by first | rfl | (show cKB[_]? = _; assumption)) (fun r63 M63 hq63 => ?_)
                obtain ⟨rfl, z1, z2, z3, z4⟩ := hq63
                have hfa := hfacts M63 z1 z2
                have hsl := hfa.2.2.2
                refine w_astore (ls2 := [_, _, _, _, _, _, _]) rfl rfl rfl (w_iload rfl rfl ?_)
                refine w_if_ne (tgt := 82) rfl (by first | assumption | exact i32_0 | (unfold i32 at *; omega)) rfl (fun c70 => ?_) (fun c70 => ?_)
                · skip
                  refine w_iload rfl rfl (w_iconst rfl ?_)
                  refine w_icmp_ne (tgt := 97) rfl (by first | assumption | exact i32_0 | (unfold i32 at *; omega)) (by first | assumption | exact i32_0 | (unfold i32 at *; omega)) rfl (fun c85 => ?_) (fun c85 => ?_)
                  · skip
                    exfalso; omega
                  · skip
                    refine w_aload rfl rfl (w_iload rfl rfl ?_)
                    refine w_call (Or.inr rfl) ((hfa.2.1)) (by omega) nof_107 rfl rfl rfl rfl (by first | rfl | (show cKB[_]? = _; assumption)) rfl ?_
                    refine w_i2l rfl (by first | assumption | exact i32_0 | (unfold i32 at *; omega)) ?_
                    exact w_lreturn rfl ⟨by first | rfl | (congr 2; omega), by exact CQ_of z1 z4⟩
                · skip
                  exfalso; omega
              · skip
                exfalso; omega
          · rw [if_neg w1]
            by_cases qk : kindR h (rowsF h) (plN i j) = 1
            · rw [if_pos qk]
              by_cases w2 : w = 2
              · rw [if_pos w2]
                refine w_iload rfl rfl ?_
                refine w_call (Or.inl rfl) (e_isCurve1 M q) (by omega) nof_37 rfl rfl rfl rfl trivial rfl ?_
                refine w_if_ne (tgt := 11) rfl (by first | assumption | exact i32_0 | (unfold i32 at *; omega)) rfl (fun _ => ?_) (fun c => absurd c (by decide))
                refine w_iload rfl rfl (w_iload rfl rfl ?_)
                refine w_call (Or.inl rfl) (e_isPlace1 M qp) (by omega) nof_38 rfl rfl rfl rfl trivial rfl ?_
                refine w_if_eq (tgt := 30) rfl (by first | assumption | exact i32_0 | (unfold i32 at *; omega)) rfl (fun c => absurd c (by decide)) (fun _ => ?_)
                refine w_iload rfl rfl ?_
                refine w_if_lt (tgt := 30) rfl (by first | assumption | exact i32_0 | (unfold i32 at *; omega)) rfl (fun c21 => ?_) (fun c21 => ?_)
                · skip
                  exfalso; omega
                · skip
                  refine w_iload rfl rfl (w_iconst rfl ?_)
                  refine w_icmp_le (tgt := 34) rfl (by first | assumption | exact i32_0 | (unfold i32 at *; omega)) (by first | assumption | exact i32_0 | (unfold i32 at *; omega)) rfl (fun c27 => ?_) (fun c27 => ?_)
                  · skip
                    refine w_iconst rfl (w_iload rfl rfl (w_imul rfl (w_iload rfl rfl (w_iadd rfl ?_))))
                    rw [e1]
                    refine w_istore (ls2 := [_, _, _, _, _, _, _]) rfl rfl rfl (w_aload rfl rfl (w_getR rfl (by first | rfl | assumption) rfl (by first | rfl | assumption) (w_iload rfl rfl ?_)))
                    refine w_call (Or.inr rfl) ((hof _)) (by omega) nof_24 rfl rfl rfl rfl (by first | rfl | (show cKB[_]? = _; assumption)) rfl ?_
                    refine w_iload rfl rfl ?_
                    refine w_call (Or.inr rfl) ((hha)) (by omega) nof_30 rfl rfl rfl rfl (by first | rfl | (show cKB[_]? = _; assumption)) rfl ?_
                    refine w_if_ne (tgt := 61) rfl (by first | assumption | exact i32_0 | (unfold i32 at *; omega)) rfl (fun _ => ?_) (fun c => absurd c (by decide))
                    refine w_aload rfl rfl (w_iload rfl rfl ?_)
                    refine w_callQ (Or.inr rfl) (hsh) (by omega) nof_67 rfl rfl rfl rfl (by first | rfl | (show cKB[_]? = _; assumption)) (fun r63 M63 hq63 => ?_)
                    obtain ⟨rfl, z1, z2, z3, z4⟩ := hq63
                    have hfa := hfacts M63 z1 z2
                    refine w_astore (ls2 := [_, _, _, _, _, _, _]) rfl rfl rfl (w_iload rfl rfl ?_)
                    refine w_if_ne (tgt := 82) rfl (by first | assumption | exact i32_0 | (unfold i32 at *; omega)) rfl (fun c70 => ?_) (fun c70 => ?_)
                    · skip
                      refine w_iload rfl rfl (w_iconst rfl ?_)
                      refine w_icmp_ne (tgt := 97) rfl (by first | assumption | exact i32_0 | (unfold i32 at *; omega)) (by first | assumption | exact i32_0 | (unfold i32 at *; omega)) rfl (fun c85 => ?_) (fun c85 => ?_)
                      · skip
                        refine w_aload rfl rfl (w_iload rfl rfl ?_)
                        refine w_call (Or.inr rfl) ((hfa.1)) (by omega) nof_106 rfl rfl rfl rfl (by first | rfl | (show cKB[_]? = _; assumption)) rfl ?_
                        refine w_iconst rfl ?_
                        refine w_icmp_eq (tgt := 112) rfl (by first | assumption | exact i32_0 | (unfold i32 at *; omega)) (by first | assumption | exact i32_0 | (unfold i32 at *; omega)) rfl (fun c105 => ?_) (fun c105 => ?_)
                        · skip
                          refine w_aload rfl rfl (w_aload rfl rfl (w_iload rfl rfl ?_))
                          refine w_call (Or.inr rfl) (((hfa.2.2.1 qk).1)) (by omega) nof_110 rfl rfl rfl rfl (by first | rfl | (show cKB[_]? = _; assumption)) rfl ?_
                          refine w_iload rfl rfl (w_iconst rfl ?_)
                          refine w_icmp_ne (tgt := 131) rfl (by first | assumption | exact i32_0 | (unfold i32 at *; omega)) (by first | assumption | exact i32_0 | (unfold i32 at *; omega)) rfl (fun c124 => ?_) (fun c124 => ?_)
                          · skip
                            exfalso; omega
                          · skip
                            refine w_iconst rfl (w_goto (tgt := 132) rfl rfl ?_)
                            refine w_call (Or.inr rfl) (((hfa.2.2.1 qk).2 true)) (by omega) nof_112 rfl rfl rfl rfl (by first | rfl | (show cKB[_]? = _; assumption)) rfl ?_
                            exact w_lreturn rfl ⟨by first | rfl | (congr 2; omega), by exact CQ_of z1 z4⟩
                        · skip
                          exfalso; omega
                      · skip
                        exfalso; omega
                    · skip
                      exfalso; omega
                  · skip
                    exfalso; omega
              · rw [if_neg w2]
                refine w_iload rfl rfl ?_
                refine w_call (Or.inl rfl) (e_isCurve1 M q) (by omega) nof_37 rfl rfl rfl rfl trivial rfl ?_
                refine w_if_ne (tgt := 11) rfl (by first | assumption | exact i32_0 | (unfold i32 at *; omega)) rfl (fun _ => ?_) (fun c => absurd c (by decide))
                refine w_iload rfl rfl (w_iload rfl rfl ?_)
                refine w_call (Or.inl rfl) (e_isPlace1 M qp) (by omega) nof_38 rfl rfl rfl rfl trivial rfl ?_
                refine w_if_eq (tgt := 30) rfl (by first | assumption | exact i32_0 | (unfold i32 at *; omega)) rfl (fun c => absurd c (by decide)) (fun _ => ?_)
                refine w_iload rfl rfl ?_
                refine w_if_lt (tgt := 30) rfl (by first | assumption | exact i32_0 | (unfold i32 at *; omega)) rfl (fun c21 => ?_) (fun c21 => ?_)
                · skip
                  exfalso; omega
                · skip
                  refine w_iload rfl rfl (w_iconst rfl ?_)
                  refine w_icmp_le (tgt := 34) rfl (by first | assumption | exact i32_0 | (unfold i32 at *; omega)) (by first | assumption | exact i32_0 | (unfold i32 at *; omega)) rfl (fun c27 => ?_) (fun c27 => ?_)
                  · skip
                    refine w_iconst rfl (w_iload rfl rfl (w_imul rfl (w_iload rfl rfl (w_iadd rfl ?_))))
                    rw [e1]
                    refine w_istore (ls2 := [_, _, _, _, _, _, _]) rfl rfl rfl (w_aload rfl rfl (w_getR rfl (by first | rfl | assumption) rfl (by first | rfl | assumption) (w_iload rfl rfl ?_)))
                    refine w_call (Or.inr rfl) ((hof _)) (by omega) nof_24 rfl rfl rfl rfl (by first | rfl | (show cKB[_]? = _; assumption)) rfl ?_
                    refine w_iload rfl rfl ?_
                    refine w_call (Or.inr rfl) ((hha)) (by omega) nof_30 rfl rfl rfl rfl (by first | rfl | (show cKB[_]? = _; assumption)) rfl ?_
                    refine w_if_ne (tgt := 61) rfl (by first | assumption | exact i32_0 | (unfold i32 at *; omega)) rfl (fun _ => ?_) (fun c => absurd c (by decide))
                    refine w_aload rfl rfl (w_iload rfl rfl ?_)
                    refine w_callQ (Or.inr rfl) (hsh) (by omega) nof_67 rfl rfl rfl rfl (by first | rfl | (show cKB[_]? = _; assumption)) (fun r63 M63 hq63 => ?_)
                    obtain ⟨rfl, z1, z2, z3, z4⟩ := hq63
                    have hfa := hfacts M63 z1 z2
                    refine w_astore (ls2 := [_, _, _, _, _, _, _]) rfl rfl rfl (w_iload rfl rfl ?_)
                    refine w_if_ne (tgt := 82) rfl (by first | assumption | exact i32_0 | (unfold i32 at *; omega)) rfl (fun c70 => ?_) (fun c70 => ?_)
                    · skip
                      refine w_iload rfl rfl (w_iconst rfl ?_)
                      refine w_icmp_ne (tgt := 97) rfl (by first | assumption | exact i32_0 | (unfold i32 at *; omega)) (by first | assumption | exact i32_0 | (unfold i32 at *; omega)) rfl (fun c85 => ?_) (fun c85 => ?_)
                      · skip
                        refine w_aload rfl rfl (w_iload rfl rfl ?_)
                        refine w_call (Or.inr rfl) ((hfa.1)) (by omega) nof_106 rfl rfl rfl rfl (by first | rfl | (show cKB[_]? = _; assumption)) rfl ?_
                        refine w_iconst rfl ?_
                        refine w_icmp_eq (tgt := 112) rfl (by first | assumption | exact i32_0 | (unfold i32 at *; omega)) (by first | assumption | exact i32_0 | (unfold i32 at *; omega)) rfl (fun c105 => ?_) (fun c105 => ?_)
                        · skip
                          refine w_aload rfl rfl (w_aload rfl rfl (w_iload rfl rfl ?_))
                          refine w_call (Or.inr rfl) (((hfa.2.2.1 qk).1)) (by omega) nof_110 rfl rfl rfl rfl (by first | rfl | (show cKB[_]? = _; assumption)) rfl ?_
                          refine w_iload rfl rfl (w_iconst rfl ?_)
                          refine w_icmp_ne (tgt := 131) rfl (by first | assumption | exact i32_0 | (unfold i32 at *; omega)) (by first | assumption | exact i32_0 | (unfold i32 at *; omega)) rfl (fun c124 => ?_) (fun c124 => ?_)
                          · skip
                            refine w_iconst rfl ?_
                            refine w_call (Or.inr rfl) (((hfa.2.2.1 qk).2 false)) (by omega) nof_112 rfl rfl rfl rfl (by first | rfl | (show cKB[_]? = _; assumption)) rfl ?_
                            exact w_lreturn rfl ⟨by first | rfl | (congr 2; omega), by exact CQ_of z1 z4⟩
                          · skip
                            exfalso; omega
                        · skip
                          exfalso; omega
                      · skip
                        exfalso; omega
                    · skip
                      exfalso; omega
                  · skip
                    exfalso; omega
            · rw [if_neg qk]
              refine w_iload rfl rfl ?_
              refine w_call (Or.inl rfl) (e_isCurve1 M q) (by omega) nof_37 rfl rfl rfl rfl trivial rfl ?_
              refine w_if_ne (tgt := 11) rfl (by first | assumption | exact i32_0 | (unfold i32 at *; omega)) rfl (fun _ => ?_) (fun c => absurd c (by decide))
              refine w_iload rfl rfl (w_iload rfl rfl ?_)
              refine w_call (Or.inl rfl) (e_isPlace1 M qp) (by omega) nof_38 rfl rfl rfl rfl trivial rfl ?_
              refine w_if_eq (tgt := 30) rfl (by first | assumption | exact i32_0 | (unfold i32 at *; omega)) rfl (fun c => absurd c (by decide)) (fun _ => ?_)
              refine w_iload rfl rfl ?_
              refine w_if_lt (tgt := 30) rfl (by first | assumption | exact i32_0 | (unfold i32 at *; omega)) rfl (fun c21 => ?_) (fun c21 => ?_)
              · skip
                exfalso; omega
              · skip
                refine w_iload rfl rfl (w_iconst rfl ?_)
                refine w_icmp_le (tgt := 34) rfl (by first | assumption | exact i32_0 | (unfold i32 at *; omega)) (by first | assumption | exact i32_0 | (unfold i32 at *; omega)) rfl (fun c27 => ?_) (fun c27 => ?_)
                · skip
                  refine w_iconst rfl (w_iload rfl rfl (w_imul rfl (w_iload rfl rfl (w_iadd rfl ?_))))
                  rw [e1]
                  refine w_istore (ls2 := [_, _, _, _, _, _, _]) rfl rfl rfl (w_aload rfl rfl (w_getR rfl (by first | rfl | assumption) rfl (by first | rfl | assumption) (w_iload rfl rfl ?_)))
                  refine w_call (Or.inr rfl) ((hof _)) (by omega) nof_24 rfl rfl rfl rfl (by first | rfl | (show cKB[_]? = _; assumption)) rfl ?_
                  refine w_iload rfl rfl ?_
                  refine w_call (Or.inr rfl) ((hha)) (by omega) nof_30 rfl rfl rfl rfl (by first | rfl | (show cKB[_]? = _; assumption)) rfl ?_
                  refine w_if_ne (tgt := 61) rfl (by first | assumption | exact i32_0 | (unfold i32 at *; omega)) rfl (fun _ => ?_) (fun c => absurd c (by decide))
                  refine w_aload rfl rfl (w_iload rfl rfl ?_)
                  refine w_callQ (Or.inr rfl) (hsh) (by omega) nof_67 rfl rfl rfl rfl (by first | rfl | (show cKB[_]? = _; assumption)) (fun r63 M63 hq63 => ?_)
                  obtain ⟨rfl, z1, z2, z3, z4⟩ := hq63
                  have hfa := hfacts M63 z1 z2
                  refine w_astore (ls2 := [_, _, _, _, _, _, _]) rfl rfl rfl (w_iload rfl rfl ?_)
                  refine w_if_ne (tgt := 82) rfl (by first | assumption | exact i32_0 | (unfold i32 at *; omega)) rfl (fun c70 => ?_) (fun c70 => ?_)
                  · skip
                    refine w_iload rfl rfl (w_iconst rfl ?_)
                    refine w_icmp_ne (tgt := 97) rfl (by first | assumption | exact i32_0 | (unfold i32 at *; omega)) (by first | assumption | exact i32_0 | (unfold i32 at *; omega)) rfl (fun c85 => ?_) (fun c85 => ?_)
                    · skip
                      refine w_aload rfl rfl (w_iload rfl rfl ?_)
                      refine w_call (Or.inr rfl) ((hfa.1)) (by omega) nof_106 rfl rfl rfl rfl (by first | rfl | (show cKB[_]? = _; assumption)) rfl ?_
                      refine w_iconst rfl ?_
                      refine w_icmp_eq (tgt := 112) rfl (by first | assumption | exact i32_0 | (unfold i32 at *; omega)) (by first | assumption | exact i32_0 | (unfold i32 at *; omega)) rfl (fun c105 => ?_) (fun c105 => ?_)
                      · skip
                        exfalso; omega
                      · skip
                        refine w_lconst rfl ?_
                        exact w_lreturn rfl ⟨by first | rfl | (congr 2; omega), by exact CQ_of z1 z4⟩
                    · skip
                      exfalso; omega
                  · skip
                    exfalso; omega
                · skip
                  exfalso; omega
      · rw [if_neg qh] at hha ⊢
        refine w_iload rfl rfl ?_
        refine w_call (Or.inl rfl) (e_isCurve1 M q) (by omega) nof_37 rfl rfl rfl rfl trivial rfl ?_
        refine w_if_ne (tgt := 11) rfl (by first | assumption | exact i32_0 | (unfold i32 at *; omega)) rfl (fun _ => ?_) (fun c => absurd c (by decide))
        refine w_iload rfl rfl (w_iload rfl rfl ?_)
        refine w_call (Or.inl rfl) (e_isPlace1 M qp) (by omega) nof_38 rfl rfl rfl rfl trivial rfl ?_
        refine w_if_eq (tgt := 30) rfl (by first | assumption | exact i32_0 | (unfold i32 at *; omega)) rfl (fun c => absurd c (by decide)) (fun _ => ?_)
        refine w_iload rfl rfl ?_
        refine w_if_lt (tgt := 30) rfl (by first | assumption | exact i32_0 | (unfold i32 at *; omega)) rfl (fun c21 => ?_) (fun c21 => ?_)
        · skip
          exfalso; omega
        · skip
          refine w_iload rfl rfl (w_iconst rfl ?_)
          refine w_icmp_le (tgt := 34) rfl (by first | assumption | exact i32_0 | (unfold i32 at *; omega)) (by first | assumption | exact i32_0 | (unfold i32 at *; omega)) rfl (fun c27 => ?_) (fun c27 => ?_)
          · skip
            refine w_iconst rfl (w_iload rfl rfl (w_imul rfl (w_iload rfl rfl (w_iadd rfl ?_))))
            rw [e1]
            refine w_istore (ls2 := [_, _, _, _, _, _, _]) rfl rfl rfl (w_aload rfl rfl (w_getR rfl (by first | rfl | assumption) rfl (by first | rfl | assumption) (w_iload rfl rfl ?_)))
            refine w_call (Or.inr rfl) ((hof _)) (by omega) nof_24 rfl rfl rfl rfl (by first | rfl | (show cKB[_]? = _; assumption)) rfl ?_
            refine w_iload rfl rfl ?_
            refine w_call (Or.inr rfl) ((hha)) (by omega) nof_30 rfl rfl rfl rfl (by first | rfl | (show cKB[_]? = _; assumption)) rfl ?_
            refine w_if_ne (tgt := 61) rfl (by first | assumption | exact i32_0 | (unfold i32 at *; omega)) rfl (fun c => absurd c (by decide)) (fun _ => ?_)
            refine w_lconst rfl ?_
            exact w_lreturn rfl ⟨by first | rfl | (congr 2; omega), by exact CI_same c (Nat.le_succ n)⟩
          · skip
            exfalso; omega
    · rw [if_neg qp]
      by_cases v1 : isPl i j
      · have v2 : ¬ (0 ≤ w ∧ w < (4 : Nat)) := fun z => qp ⟨isPlB_iff.mpr v1, decide_eq_true z⟩
        refine w_iload rfl rfl ?_
        refine w_call (Or.inl rfl) (e_isCurve1 M q) (by omega) nof_37 rfl rfl rfl rfl trivial rfl ?_
        refine w_if_ne (tgt := 11) rfl (by first | assumption | exact i32_0 | (unfold i32 at *; omega)) rfl (fun _ => ?_) (fun c => absurd c (by decide))
        refine w_iload rfl rfl (w_iload rfl rfl ?_)
        refine w_call (Or.inl rfl) (e_isPlace1 M v1) (by omega) nof_38 rfl rfl rfl rfl trivial rfl ?_
        refine w_if_eq (tgt := 30) rfl (by first | assumption | exact i32_0 | (unfold i32 at *; omega)) rfl (fun c => absurd c (by decide)) (fun _ => ?_)
        refine w_iload rfl rfl ?_
        refine w_if_lt (tgt := 30) rfl (by first | assumption | exact i32_0 | (unfold i32 at *; omega)) rfl (fun c21 => ?_) (fun c21 => ?_)
        · skip
          refine w_lconst rfl ?_
          exact w_lreturn rfl ⟨by first | rfl | (congr 2; omega), by exact CI_same c (Nat.le_succ n)⟩
        · skip
          refine w_iload rfl rfl (w_iconst rfl ?_)
          refine w_icmp_le (tgt := 34) rfl (by first | assumption | exact i32_0 | (unfold i32 at *; omega)) (by first | assumption | exact i32_0 | (unfold i32 at *; omega)) rfl (fun c27 => ?_) (fun c27 => ?_)
          · skip
            exfalso; omega
          · skip
            refine w_lconst rfl ?_
            exact w_lreturn rfl ⟨by first | rfl | (congr 2; omega), by exact CI_same c (Nat.le_succ n)⟩
      · skip
        refine w_iload rfl rfl ?_
        refine w_call (Or.inl rfl) (e_isCurve1 M q) (by omega) nof_37 rfl rfl rfl rfl trivial rfl ?_
        refine w_if_ne (tgt := 11) rfl (by first | assumption | exact i32_0 | (unfold i32 at *; omega)) rfl (fun _ => ?_) (fun c => absurd c (by decide))
        refine w_iload rfl rfl (w_iload rfl rfl ?_)
        refine w_call (Or.inl rfl) (e_isPlace0 M hi hj v1) (by omega) nof_38 rfl rfl rfl rfl trivial rfl ?_
        refine w_if_eq (tgt := 30) rfl (by first | assumption | exact i32_0 | (unfold i32 at *; omega)) rfl (fun _ => ?_) (fun c => absurd c (by decide))
        refine w_lconst rfl ?_
        exact w_lreturn rfl ⟨by first | rfl | (congr 2; omega), by exact CI_same c (Nat.le_succ n)⟩
  · rw [if_neg q]
    have q : ¬ (a = 0 ∨ a = 1) := fun z => q (isCu_iff.mpr z)
    refine w_iload rfl rfl ?_
    refine w_call (Or.inl rfl) (e_isCurve0 M ha q) (by omega) nof_37 rfl rfl rfl rfl trivial rfl ?_
    refine w_if_ne (tgt := 11) rfl (by first | assumption | exact i32_0 | (unfold i32 at *; omega)) rfl (fun c => absurd c (by decide)) (fun _ => ?_)
    refine w_lconst rfl ?_
    exact w_lreturn rfl ⟨by first | rfl | (congr 2; omega), by exact CI_same c (Nat.le_succ n)⟩
def wayF (h : Cv) (k : Nat) : Lab := rlxI ((rowsF h).map (wyK (unitF h))) (lab0 k) (cornF h).length
def wayW (h : Cv) (k m : Nat) (w : Int) : Int := if (wayF h k).1 m < 0 then -1000000 else if w = 2 then (wayF h k).2 m else if w = 0 then numP ((wayF h k).1 m * (720720 / unitF h : Nat)) else denP ((wayF h k).1 m * (720720 / unitF h : Nat))
def dWay (a k m w : Int) (s : Sta) : Int := if isCu a = true then (if rngB k (cornF (selF a s.2.1 s.2.2.1)).length = true ∧ rngB m (cornF (selF a s.2.1 s.2.2.1)).length = true then (if rngB w 3 = true then wayW (selF a s.2.1 s.2.2.1) k.toNat m.toNat w else -1000002) else -1000001) else -1000001
theorem c_way {n : Nat} {s : Sta} {M : mM} {a k m w : Int} (hG : GEO) (c : CI n s M) (hn : n ≤ 2000000000) (ha : i32 a) (hk : i32 k) (hm : i32 m) (hw : i32 w) : EQ 12 119 [vR 0, vI a, vI k, vI m, vI w] M (CQL (n + 1) M (dWay a k m w s) s) := by
  refine q_in (ls := [vR 0, vI a, vI k, vI m, vI w, vN, vN, vN, vN]) mq_119 (ml_119 rfl) rfl fun D hD => ?_
  unfold dWay
  by_cases q : isCu a = true
  · rw [if_pos q]
    have q := isCu_iff.mp q
    have hsh := e_shapeOf hG c hn q
    have hs := isS_sOf a
    obtain ⟨⟨k0, k1, k2, k3, k4, k5⟩, -, -, hpts, -⟩ := id hs
    have hpts0 := hpts.1.1
    have hf := Cok_sel (a := a) c.2.1.2.1 c.2.1.2.2
    have hsel : selF a s.2.1 s.2.2.1 = selF a s.2.1 s.2.2.1 := rfl
    have hCI := fun (N N2 : mM) (cN : CI n s N) (vN : ShV (sOf a) (selF a s.2.1 s.2.2.1) N) (h1 : N (sOf a) 1 = N (tOf a) 1) (hfr : ∀ x k, (x ≠ sOf a + 8 ∧ x ≠ sOf a + 9) → N2 x k = N x k) => CI_sh (a := a) (M1 := N2) cN q (ShV_fr vN (fun b k q1 q2 q3 q4 => hfr b k q4)) (by rw [hfr (sOf a) 1 (by omega)]; exact h1) (fun b k hb => hfr b k (by omega))
    generalize hh : selF a s.2.1 s.2.2.1 = h at *
    by_cases qk : rngB k (cornF h).length = true ∧ rngB m (cornF h).length = true
    · rw [if_pos qk]
      have qm := of_decide_eq_true qk.2
      have qk := of_decide_eq_true qk.1
      obtain ⟨k, rfl⟩ : ∃ z : Nat, k = (z : Int) := ⟨k.toNat, by omega⟩
      obtain ⟨m, rfl⟩ : ∃ z : Nat, m = (z : Int) := ⟨m.toNat, by omega⟩
      rw [Int.toNat_natCast, Int.toNat_natCast]
      by_cases qw : rngB w 3 = true
      · rw [if_pos qw]
        have qw := of_decide_eq_true qw
        have hme := fun (N : mM) (vN : ShV (sOf a) h N) => e_measureFrom (a := k) hs vN.1 vN.2.1 (rowsF_ok hf vN.1.2.1 (hG h hf)) vN.2.2 (Nat.le_of_dvd (by decide) (unitR_dvd (rowsF0_ok hf vN.1.2.1 (hG h hf)) (rowsF0 h).length).1) (by have := vN.1.2.1; omega)
        have hdv := fun (N : mM) (vN : ShV (sOf a) h N) => (unitR_dvd (rowsF0_ok hf vN.1.2.1 (hG h hf)) (rowsF0 h).length).1
        unfold wayW
        have hway : wayF h k = rlxI ((rowsF h).map (wyK (unitF h))) (lab0 k) (cornF h).length := rfl
        rw [← hway] at hme
        generalize wayF h k = X at *
        by_cases x0 : X.1 m < 0
        · rw [if_pos x0]
          refine w_iload rfl rfl ?_
          refine w_call (Or.inl rfl) (e_isCurve1 M q) (by omega) nof_37 rfl rfl rfl rfl trivial rfl ?_
          refine w_if_ne (tgt := 11) rfl (by first | assumption | exact i32_0 | (unfold i32 at *; omega)) rfl (fun _ => ?_) (fun c => absurd c (by decide))
          refine w_aload rfl rfl (w_iload rfl rfl ?_)
          refine w_callQ (Or.inr rfl) (hsh) (by omega) nof_67 rfl rfl rfl rfl (by first | rfl | (show cKB[_]? = _; assumption)) (fun r13 M13 hq13 => ?_)
          obtain ⟨rfl, z1, z2, z3, z4⟩ := hq13
          have hl := z2.1.1
          have hl16 := z2.1.2.1
          have hl30 := z2.2.1.2.1
          have hme := hme M13 z2
          refine w_astore (ls2 := [_, _, _, _, _, _, _, _, _]) rfl rfl rfl (w_aload rfl rfl (w_getR rfl (by first | rfl | assumption) rfl (by first | rfl | assumption) (w_getIV rfl (by first | rfl | assumption) (by first | exact Or.inl rfl | exact Or.inr rfl) (hl) (w_istore (ls2 := [_, _, _, _, _, _, _, _, _]) rfl rfl rfl (w_iload rfl rfl ?_)))))
          refine w_if_lt (tgt := 48) rfl (by first | assumption | exact i32_0 | (unfold i32 at *; omega)) rfl (fun c29 => ?_) (fun c29 => ?_)
          · skip
            exfalso; omega
          · skip
            refine w_iload rfl rfl (w_iload rfl rfl ?_)
            refine w_icmp_ge (tgt := 48) rfl (by first | assumption | exact i32_0 | (unfold i32 at *; omega)) (by first | assumption | exact i32_0 | (unfold i32 at *; omega)) rfl (fun c35 => ?_) (fun c35 => ?_)
            · skip
              exfalso; omega
            · skip
              refine w_iload rfl rfl ?_
              refine w_if_lt (tgt := 48) rfl (by first | assumption | exact i32_0 | (unfold i32 at *; omega)) rfl (fun c39 => ?_) (fun c39 => ?_)
              · skip
                exfalso; omega
              · skip
                refine w_iload rfl rfl (w_iload rfl rfl ?_)
                refine w_icmp_lt (tgt := 52) rfl (by first | assumption | exact i32_0 | (unfold i32 at *; omega)) (by first | assumption | exact i32_0 | (unfold i32 at *; omega)) rfl (fun c45 => ?_) (fun c45 => ?_)
                · skip
                  refine w_iload rfl rfl ?_
                  refine w_if_lt (tgt := 63) rfl (by first | assumption | exact i32_0 | (unfold i32 at *; omega)) rfl (fun c54 => ?_) (fun c54 => ?_)
                  · skip
                    exfalso; omega
                  · skip
                    refine w_iload rfl rfl (w_iconst rfl ?_)
                    refine w_icmp_le (tgt := 67) rfl (by first | assumption | exact i32_0 | (unfold i32 at *; omega)) (by first | assumption | exact i32_0 | (unfold i32 at *; omega)) rfl (fun c60 => ?_) (fun c60 => ?_)
                    · skip
                      refine w_aload rfl rfl (w_iload rfl rfl ?_)
                      refine w_callQ (Or.inr rfl) (hme) (by omega) nof_120 rfl rfl rfl rfl (by first | rfl | (show cKB[_]? = _; assumption)) (fun r70 M70 hq70 => ?_)
                      obtain ⟨rfl, y1, y2, y3⟩ := hq70
                      have yb := y2 m
                      have c3 := hCI M13 M70 z1 z2 (by rw [z3]; exact (z4 _ 1 (by unfold tOf sOf; split <;> omega)).symm) y3
                      refine w_aload rfl rfl (w_iload rfl rfl ?_)
                      refine w_call (Or.inr rfl) ((e_farTo hs y1 (by omega))) (by omega) nof_122 rfl rfl rfl rfl (by first | rfl | (show cKB[_]? = _; assumption)) rfl ?_
                      refine w_lstore (ls2 := [_, _, _, _, _, _, _, _, _]) rfl rfl rfl (w_lload rfl rfl (w_lconst rfl ?_))
                      refine w_lcmp rfl (by first | assumption | exact i64_0 | (unfold i64 at *; omega)) (by first | assumption | exact i64_0 | (unfold i64 at *; omega)) (fun c84 => ?_) (fun c84 => ?_) (fun c84 => ?_)
                      · skip
                        refine w_if_ge (tgt := 92) rfl (by first | assumption | exact i32_0 | (unfold i32 at *; omega)) rfl (fun c => absurd c (by decide)) (fun _ => ?_)
                        refine w_lconst rfl ?_
                        exact w_lreturn rfl ⟨by first | rfl | (congr 2; omega), by exact ⟨CI_up c3 (Nat.le_succ n), fun b hb => funext fun k => by rw [y3 b k (by unfold sOf; split <;> omega)]; exact z4 b k (by unfold sOf; split <;> omega)⟩⟩
                      · exfalso; omega
                      · exfalso; omega
                    · skip
                      exfalso; omega
                · skip
                  exfalso; omega
        · rw [if_neg x0]
          by_cases w2 : w = 2
          · rw [if_pos w2]
            refine w_iload rfl rfl ?_
            refine w_call (Or.inl rfl) (e_isCurve1 M q) (by omega) nof_37 rfl rfl rfl rfl trivial rfl ?_
            refine w_if_ne (tgt := 11) rfl (by first | assumption | exact i32_0 | (unfold i32 at *; omega)) rfl (fun _ => ?_) (fun c => absurd c (by decide))
            refine w_aload rfl rfl (w_iload rfl rfl ?_)
            refine w_callQ (Or.inr rfl) (hsh) (by omega) nof_67 rfl rfl rfl rfl (by first | rfl | (show cKB[_]? = _; assumption)) (fun r13 M13 hq13 => ?_)
            obtain ⟨rfl, z1, z2, z3, z4⟩ := hq13
            have hl := z2.1.1
            have hl16 := z2.1.2.1
            have hl30 := z2.2.1.2.1
            have hme := hme M13 z2
            refine w_astore (ls2 := [_, _, _, _, _, _, _, _, _]) rfl rfl rfl (w_aload rfl rfl (w_getR rfl (by first | rfl | assumption) rfl (by first | rfl | assumption) (w_getIV rfl (by first | rfl | assumption) (by first | exact Or.inl rfl | exact Or.inr rfl) (hl) (w_istore (ls2 := [_, _, _, _, _, _, _, _, _]) rfl rfl rfl (w_iload rfl rfl ?_)))))
            refine w_if_lt (tgt := 48) rfl (by first | assumption | exact i32_0 | (unfold i32 at *; omega)) rfl (fun c29 => ?_) (fun c29 => ?_)
            · skip
              exfalso; omega
            · skip
              refine w_iload rfl rfl (w_iload rfl rfl ?_)
              refine w_icmp_ge (tgt := 48) rfl (by first | assumption | exact i32_0 | (unfold i32 at *; omega)) (by first | assumption | exact i32_0 | (unfold i32 at *; omega)) rfl (fun c35 => ?_) (fun c35 => ?_)
              · skip
                exfalso; omega
              · skip
                refine w_iload rfl rfl ?_
                refine w_if_lt (tgt := 48) rfl (by first | assumption | exact i32_0 | (unfold i32 at *; omega)) rfl (fun c39 => ?_) (fun c39 => ?_)
                · skip
                  exfalso; omega
                · skip
                  refine w_iload rfl rfl (w_iload rfl rfl ?_)
                  refine w_icmp_lt (tgt := 52) rfl (by first | assumption | exact i32_0 | (unfold i32 at *; omega)) (by first | assumption | exact i32_0 | (unfold i32 at *; omega)) rfl (fun c45 => ?_) (fun c45 => ?_)
                  · skip
                    refine w_iload rfl rfl ?_
                    refine w_if_lt (tgt := 63) rfl (by first | assumption | exact i32_0 | (unfold i32 at *; omega)) rfl (fun c54 => ?_) (fun c54 => ?_)
                    · skip
                      exfalso; omega
                    · skip
                      refine w_iload rfl rfl (w_iconst rfl ?_)
                      refine w_icmp_le (tgt := 67) rfl (by first | assumption | exact i32_0 | (unfold i32 at *; omega)) (by first | assumption | exact i32_0 | (unfold i32 at *; omega)) rfl (fun c60 => ?_) (fun c60 => ?_)
                      · skip
                        refine w_aload rfl rfl (w_iload rfl rfl ?_)
                        refine w_callQ (Or.inr rfl) (hme) (by omega) nof_120 rfl rfl rfl rfl (by first | rfl | (show cKB[_]? = _; assumption)) (fun r70 M70 hq70 => ?_)
                        obtain ⟨rfl, y1, y2, y3⟩ := hq70
                        have yb := y2 m
                        have yc : (rowsF h).length * (cornF h).length ≤ 30 * 16 := Nat.mul_le_mul hl30 hl16
                        have c3 := hCI M13 M70 z1 z2 (by rw [z3]; exact (z4 _ 1 (by unfold tOf sOf; split <;> omega)).symm) y3
                        refine w_aload rfl rfl (w_iload rfl rfl ?_)
                        refine w_call (Or.inr rfl) ((e_farTo hs y1 (by omega))) (by omega) nof_122 rfl rfl rfl rfl (by first | rfl | (show cKB[_]? = _; assumption)) rfl ?_
                        refine w_lstore (ls2 := [_, _, _, _, _, _, _, _, _]) rfl rfl rfl (w_lload rfl rfl (w_lconst rfl ?_))
                        refine w_lcmp rfl (by first | assumption | exact i64_0 | (unfold i64 at *; omega)) (by first | assumption | exact i64_0 | (unfold i64 at *; omega)) (fun c84 => ?_) (fun c84 => ?_) (fun c84 => ?_)
                        · exfalso; omega
                        · skip
                          refine w_if_ge (tgt := 92) rfl (by first | assumption | exact i32_0 | (unfold i32 at *; omega)) rfl (fun _ => ?_) (fun c => absurd c (by decide))
                          refine w_iload rfl rfl (w_iconst rfl ?_)
                          refine w_icmp_ne (tgt := 108) rfl (by first | assumption | exact i32_0 | (unfold i32 at *; omega)) (by first | assumption | exact i32_0 | (unfold i32 at *; omega)) rfl (fun c95 => ?_) (fun c95 => ?_)
                          · skip
                            exfalso; omega
                          · skip
                            refine w_aload rfl rfl (w_iload rfl rfl ?_)
                            refine w_call (Or.inr rfl) ((e_stepsTo hs y1 (by omega))) (by omega) nof_123 rfl rfl rfl rfl (by first | rfl | (show cKB[_]? = _; assumption)) rfl ?_
                            refine w_i2l rfl (by first | assumption | exact i32_0 | (unfold i32 at *; omega)) (w_goto (tgt := 125) rfl rfl ?_)
                            exact w_lreturn rfl ⟨by first | rfl | (congr 2; omega), by exact ⟨CI_up c3 (Nat.le_succ n), fun b hb => funext fun k => by rw [y3 b k (by unfold sOf; split <;> omega)]; exact z4 b k (by unfold sOf; split <;> omega)⟩⟩
                        · skip
                          refine w_if_ge (tgt := 92) rfl (by first | assumption | exact i32_0 | (unfold i32 at *; omega)) rfl (fun _ => ?_) (fun c => absurd c (by decide))
                          refine w_iload rfl rfl (w_iconst rfl ?_)
                          refine w_icmp_ne (tgt := 108) rfl (by first | assumption | exact i32_0 | (unfold i32 at *; omega)) (by first | assumption | exact i32_0 | (unfold i32 at *; omega)) rfl (fun c95 => ?_) (fun c95 => ?_)
                          · skip
                            exfalso; omega
                          · skip
                            refine w_aload rfl rfl (w_iload rfl rfl ?_)
                            refine w_call (Or.inr rfl) ((e_stepsTo hs y1 (by omega))) (by omega) nof_123 rfl rfl rfl rfl (by first | rfl | (show cKB[_]? = _; assumption)) rfl ?_
                            refine w_i2l rfl (by first | assumption | exact i32_0 | (unfold i32 at *; omega)) (w_goto (tgt := 125) rfl rfl ?_)
                            exact w_lreturn rfl ⟨by first | rfl | (congr 2; omega), by exact ⟨CI_up c3 (Nat.le_succ n), fun b hb => funext fun k => by rw [y3 b k (by unfold sOf; split <;> omega)]; exact z4 b k (by unfold sOf; split <;> omega)⟩⟩
                      · skip
                        exfalso; omega
                  · skip
                    exfalso; omega
          · rw [if_neg w2]
            by_cases w0 : w = 0
            · rw [if_pos w0]
              refine w_iload rfl rfl ?_
              refine w_call (Or.inl rfl) (e_isCurve1 M q) (by omega) nof_37 rfl rfl rfl rfl trivial rfl ?_
              refine w_if_ne (tgt := 11) rfl (by first | assumption | exact i32_0 | (unfold i32 at *; omega)) rfl (fun _ => ?_) (fun c => absurd c (by decide))
              refine w_aload rfl rfl (w_iload rfl rfl ?_)
              refine w_callQ (Or.inr rfl) (hsh) (by omega) nof_67 rfl rfl rfl rfl (by first | rfl | (show cKB[_]? = _; assumption)) (fun r13 M13 hq13 => ?_)
              obtain ⟨rfl, z1, z2, z3, z4⟩ := hq13
              have hl := z2.1.1
              have hl16 := z2.1.2.1
              have hl30 := z2.2.1.2.1
              have hme := hme M13 z2
              refine w_astore (ls2 := [_, _, _, _, _, _, _, _, _]) rfl rfl rfl (w_aload rfl rfl (w_getR rfl (by first | rfl | assumption) rfl (by first | rfl | assumption) (w_getIV rfl (by first | rfl | assumption) (by first | exact Or.inl rfl | exact Or.inr rfl) (hl) (w_istore (ls2 := [_, _, _, _, _, _, _, _, _]) rfl rfl rfl (w_iload rfl rfl ?_)))))
              refine w_if_lt (tgt := 48) rfl (by first | assumption | exact i32_0 | (unfold i32 at *; omega)) rfl (fun c29 => ?_) (fun c29 => ?_)
              · skip
                exfalso; omega
              · skip
                refine w_iload rfl rfl (w_iload rfl rfl ?_)
                refine w_icmp_ge (tgt := 48) rfl (by first | assumption | exact i32_0 | (unfold i32 at *; omega)) (by first | assumption | exact i32_0 | (unfold i32 at *; omega)) rfl (fun c35 => ?_) (fun c35 => ?_)
                · skip
                  exfalso; omega
                · skip
                  refine w_iload rfl rfl ?_
                  refine w_if_lt (tgt := 48) rfl (by first | assumption | exact i32_0 | (unfold i32 at *; omega)) rfl (fun c39 => ?_) (fun c39 => ?_)
                  · skip
                    exfalso; omega
                  · skip
                    refine w_iload rfl rfl (w_iload rfl rfl ?_)
                    refine w_icmp_lt (tgt := 52) rfl (by first | assumption | exact i32_0 | (unfold i32 at *; omega)) (by first | assumption | exact i32_0 | (unfold i32 at *; omega)) rfl (fun c45 => ?_) (fun c45 => ?_)
                    · skip
                      refine w_iload rfl rfl ?_
                      refine w_if_lt (tgt := 63) rfl (by first | assumption | exact i32_0 | (unfold i32 at *; omega)) rfl (fun c54 => ?_) (fun c54 => ?_)
                      · skip
                        exfalso; omega
                      · skip
                        refine w_iload rfl rfl (w_iconst rfl ?_)
                        refine w_icmp_le (tgt := 67) rfl (by first | assumption | exact i32_0 | (unfold i32 at *; omega)) (by first | assumption | exact i32_0 | (unfold i32 at *; omega)) rfl (fun c60 => ?_) (fun c60 => ?_)
                        · skip
                          refine w_aload rfl rfl (w_iload rfl rfl ?_)
                          refine w_callQ (Or.inr rfl) (hme) (by omega) nof_120 rfl rfl rfl rfl (by first | rfl | (show cKB[_]? = _; assumption)) (fun r70 M70 hq70 => ?_)
                          obtain ⟨rfl, y1, y2, y3⟩ := hq70
                          have yb := y2 m
                          have yc : (rowsF h).length * (cornF h).length ≤ 30 * 16 := Nat.mul_le_mul hl30 hl16
                          have c3 := hCI M13 M70 z1 z2 (by rw [z3]; exact (z4 _ 1 (by unfold tOf sOf; split <;> omega)).symm) y3
                          have hre := e_reduced hs (by rw [y3 _ 5 (by omega)]; exact z2.2.2 : M70 (sOf a) 5 = (unitF h : Int)) (hdv M13 z2) (x := X.1 m) (by omega) true
                          refine w_aload rfl rfl (w_iload rfl rfl ?_)
                          refine w_call (Or.inr rfl) ((e_farTo hs y1 (by omega))) (by omega) nof_122 rfl rfl rfl rfl (by first | rfl | (show cKB[_]? = _; assumption)) rfl ?_
                          refine w_lstore (ls2 := [_, _, _, _, _, _, _, _, _]) rfl rfl rfl (w_lload rfl rfl (w_lconst rfl ?_))
                          refine w_lcmp rfl (by first | assumption | exact i64_0 | (unfold i64 at *; omega)) (by first | assumption | exact i64_0 | (unfold i64 at *; omega)) (fun c84 => ?_) (fun c84 => ?_) (fun c84 => ?_)
                          · exfalso; omega
                          · skip
                            refine w_if_ge (tgt := 92) rfl (by first | assumption | exact i32_0 | (unfold i32 at *; omega)) rfl (fun _ => ?_) (fun c => absurd c (by decide))
                            refine w_iload rfl rfl (w_iconst rfl ?_)
                            refine w_icmp_ne (tgt := 108) rfl (by first | assumption | exact i32_0 | (unfold i32 at *; omega)) (by first | assumption | exact i32_0 | (unfold i32 at *; omega)) rfl (fun c95 => ?_) (fun c95 => ?_)
                            · skip
                              refine w_aload rfl rfl (w_lload rfl rfl (w_iload rfl rfl ?_))
                              refine w_if_ne (tgt := 121) rfl (by first | assumption | exact i32_0 | (unfold i32 at *; omega)) rfl (fun c114 => ?_) (fun c114 => ?_)
                              · skip
                                exfalso; omega
                              · skip
                                refine w_iconst rfl (w_goto (tgt := 122) rfl rfl ?_)
                                refine w_call (Or.inr rfl) ((hre)) (by omega) nof_112 rfl rfl rfl rfl (by first | rfl | (show cKB[_]? = _; assumption)) rfl ?_
                                exact w_lreturn rfl ⟨by first | rfl | (congr 2; omega), by exact ⟨CI_up c3 (Nat.le_succ n), fun b hb => funext fun k => by rw [y3 b k (by unfold sOf; split <;> omega)]; exact z4 b k (by unfold sOf; split <;> omega)⟩⟩
                            · skip
                              exfalso; omega
                          · skip
                            refine w_if_ge (tgt := 92) rfl (by first | assumption | exact i32_0 | (unfold i32 at *; omega)) rfl (fun _ => ?_) (fun c => absurd c (by decide))
                            refine w_iload rfl rfl (w_iconst rfl ?_)
                            refine w_icmp_ne (tgt := 108) rfl (by first | assumption | exact i32_0 | (unfold i32 at *; omega)) (by first | assumption | exact i32_0 | (unfold i32 at *; omega)) rfl (fun c95 => ?_) (fun c95 => ?_)
                            · skip
                              refine w_aload rfl rfl (w_lload rfl rfl (w_iload rfl rfl ?_))
                              refine w_if_ne (tgt := 121) rfl (by first | assumption | exact i32_0 | (unfold i32 at *; omega)) rfl (fun c114 => ?_) (fun c114 => ?_)
                              · skip
                                exfalso; omega
                              · skip
                                refine w_iconst rfl (w_goto (tgt := 122) rfl rfl ?_)
                                refine w_call (Or.inr rfl) ((hre)) (by omega) nof_112 rfl rfl rfl rfl (by first | rfl | (show cKB[_]? = _; assumption)) rfl ?_
                                exact w_lreturn rfl ⟨by first | rfl | (congr 2; omega), by exact ⟨CI_up c3 (Nat.le_succ n), fun b hb => funext fun k => by rw [y3 b k (by unfold sOf; split <;> omega)]; exact z4 b k (by unfold sOf; split <;> omega)⟩⟩
                            · skip
                              exfalso; omega
                        · skip
                          exfalso; omega
                    · skip
                      exfalso; omega
            · rw [if_neg w0]
              refine w_iload rfl rfl ?_
              refine w_call (Or.inl rfl) (e_isCurve1 M q) (by omega) nof_37 rfl rfl rfl rfl trivial rfl ?_
              refine w_if_ne (tgt := 11) rfl (by first | assumption | exact i32_0 | (unfold i32 at *; omega)) rfl (fun _ => ?_) (fun c => absurd c (by decide))
              refine w_aload rfl rfl (w_iload rfl rfl ?_)
              refine w_callQ (Or.inr rfl) (hsh) (by omega) nof_67 rfl rfl rfl rfl (by first | rfl | (show cKB[_]? = _; assumption)) (fun r13 M13 hq13 => ?_)
              obtain ⟨rfl, z1, z2, z3, z4⟩ := hq13
              have hl := z2.1.1
              have hl16 := z2.1.2.1
              have hl30 := z2.2.1.2.1
              have hme := hme M13 z2
              refine w_astore (ls2 := [_, _, _, _, _, _, _, _, _]) rfl rfl rfl (w_aload rfl rfl (w_getR rfl (by first | rfl | assumption) rfl (by first | rfl | assumption) (w_getIV rfl (by first | rfl | assumption) (by first | exact Or.inl rfl | exact Or.inr rfl) (hl) (w_istore (ls2 := [_, _, _, _, _, _, _, _, _]) rfl rfl rfl (w_iload rfl rfl ?_)))))
              refine w_if_lt (tgt := 48) rfl (by first | assumption | exact i32_0 | (unfold i32 at *; omega)) rfl (fun c29 => ?_) (fun c29 => ?_)
              · skip
                exfalso; omega
              · skip
                refine w_iload rfl rfl (w_iload rfl rfl ?_)
                refine w_icmp_ge (tgt := 48) rfl (by first | assumption | exact i32_0 | (unfold i32 at *; omega)) (by first | assumption | exact i32_0 | (unfold i32 at *; omega)) rfl (fun c35 => ?_) (fun c35 => ?_)
                · skip
                  exfalso; omega
                · skip
                  refine w_iload rfl rfl ?_
                  refine w_if_lt (tgt := 48) rfl (by first | assumption | exact i32_0 | (unfold i32 at *; omega)) rfl (fun c39 => ?_) (fun c39 => ?_)
                  · skip
                    exfalso; omega
                  · skip
                    refine w_iload rfl rfl (w_iload rfl rfl ?_)
                    refine w_icmp_lt (tgt := 52) rfl (by first | assumption | exact i32_0 | (unfold i32 at *; omega)) (by first | assumption | exact i32_0 | (unfold i32 at *; omega)) rfl (fun c45 => ?_) (fun c45 => ?_)
                    · skip
                      refine w_iload rfl rfl ?_
                      refine w_if_lt (tgt := 63) rfl (by first | assumption | exact i32_0 | (unfold i32 at *; omega)) rfl (fun c54 => ?_) (fun c54 => ?_)
                      · skip
                        exfalso; omega
                      · skip
                        refine w_iload rfl rfl (w_iconst rfl ?_)
                        refine w_icmp_le (tgt := 67) rfl (by first | assumption | exact i32_0 | (unfold i32 at *; omega)) (by first | assumption | exact i32_0 | (unfold i32 at *; omega)) rfl (fun c60 => ?_) (fun c60 => ?_)
                        · skip
                          refine w_aload rfl rfl (w_iload rfl rfl ?_)
                          refine w_callQ (Or.inr rfl) (hme) (by omega) nof_120 rfl rfl rfl rfl (by first | rfl | (show cKB[_]? = _; assumption)) (fun r70 M70 hq70 => ?_)
                          obtain ⟨rfl, y1, y2, y3⟩ := hq70
                          have yb := y2 m
                          have yc : (rowsF h).length * (cornF h).length ≤ 30 * 16 := Nat.mul_le_mul hl30 hl16
                          have c3 := hCI M13 M70 z1 z2 (by rw [z3]; exact (z4 _ 1 (by unfold tOf sOf; split <;> omega)).symm) y3
                          have hre := e_reduced hs (by rw [y3 _ 5 (by omega)]; exact z2.2.2 : M70 (sOf a) 5 = (unitF h : Int)) (hdv M13 z2) (x := X.1 m) (by omega) false
                          refine w_aload rfl rfl (w_iload rfl rfl ?_)
                          refine w_call (Or.inr rfl) ((e_farTo hs y1 (by omega))) (by omega) nof_122 rfl rfl rfl rfl (by first | rfl | (show cKB[_]? = _; assumption)) rfl ?_
                          refine w_lstore (ls2 := [_, _, _, _, _, _, _, _, _]) rfl rfl rfl (w_lload rfl rfl (w_lconst rfl ?_))
                          refine w_lcmp rfl (by first | assumption | exact i64_0 | (unfold i64 at *; omega)) (by first | assumption | exact i64_0 | (unfold i64 at *; omega)) (fun c84 => ?_) (fun c84 => ?_) (fun c84 => ?_)
                          · exfalso; omega
                          · skip
                            refine w_if_ge (tgt := 92) rfl (by first | assumption | exact i32_0 | (unfold i32 at *; omega)) rfl (fun _ => ?_) (fun c => absurd c (by decide))
                            refine w_iload rfl rfl (w_iconst rfl ?_)
                            refine w_icmp_ne (tgt := 108) rfl (by first | assumption | exact i32_0 | (unfold i32 at *; omega)) (by first | assumption | exact i32_0 | (unfold i32 at *; omega)) rfl (fun c95 => ?_) (fun c95 => ?_)
                            · skip
                              refine w_aload rfl rfl (w_lload rfl rfl (w_iload rfl rfl ?_))
                              refine w_if_ne (tgt := 121) rfl (by first | assumption | exact i32_0 | (unfold i32 at *; omega)) rfl (fun c114 => ?_) (fun c114 => ?_)
                              · skip
                                refine w_iconst rfl ?_
                                refine w_call (Or.inr rfl) ((hre)) (by omega) nof_112 rfl rfl rfl rfl (by first | rfl | (show cKB[_]? = _; assumption)) rfl ?_
                                exact w_lreturn rfl ⟨by first | rfl | (congr 2; omega), by exact ⟨CI_up c3 (Nat.le_succ n), fun b hb => funext fun k => by rw [y3 b k (by unfold sOf; split <;> omega)]; exact z4 b k (by unfold sOf; split <;> omega)⟩⟩
                              · skip
                                exfalso; omega
                            · skip
                              exfalso; omega
                          · skip
                            refine w_if_ge (tgt := 92) rfl (by first | assumption | exact i32_0 | (unfold i32 at *; omega)) rfl (fun _ => ?_) (fun c => absurd c (by decide))
                            refine w_iload rfl rfl (w_iconst rfl ?_)
                            refine w_icmp_ne (tgt := 108) rfl (by first | assumption | exact i32_0 | (unfold i32 at *; omega)) (by first | assumption | exact i32_0 | (unfold i32 at *; omega)) rfl (fun c95 => ?_) (fun c95 => ?_)
                            · skip
                              refine w_aload rfl rfl (w_lload rfl rfl (w_iload rfl rfl ?_))
                              refine w_if_ne (tgt := 121) rfl (by first | assumption | exact i32_0 | (unfold i32 at *; omega)) rfl (fun c114 => ?_) (fun c114 => ?_)
                              · skip
                                refine w_iconst rfl ?_
                                refine w_call (Or.inr rfl) ((hre)) (by omega) nof_112 rfl rfl rfl rfl (by first | rfl | (show cKB[_]? = _; assumption)) rfl ?_
                                exact w_lreturn rfl ⟨by first | rfl | (congr 2; omega), by exact ⟨CI_up c3 (Nat.le_succ n), fun b hb => funext fun k => by rw [y3 b k (by unfold sOf; split <;> omega)]; exact z4 b k (by unfold sOf; split <;> omega)⟩⟩
                              · skip
                                exfalso; omega
                            · skip
                              exfalso; omega
                        · skip
                          exfalso; omega
                    · skip
                      exfalso; omega
      · rw [if_neg qw]
        have qw := of_decide_eq_false (Bool.eq_false_iff.mpr qw)
        refine w_iload rfl rfl ?_
        refine w_call (Or.inl rfl) (e_isCurve1 M q) (by omega) nof_37 rfl rfl rfl rfl trivial rfl ?_
        refine w_if_ne (tgt := 11) rfl (by first | assumption | exact i32_0 | (unfold i32 at *; omega)) rfl (fun _ => ?_) (fun c => absurd c (by decide))
        refine w_aload rfl rfl (w_iload rfl rfl ?_)
        refine w_callQ (Or.inr rfl) (hsh) (by omega) nof_67 rfl rfl rfl rfl (by first | rfl | (show cKB[_]? = _; assumption)) (fun r13 M13 hq13 => ?_)
        obtain ⟨rfl, z1, z2, z3, z4⟩ := hq13
        have hl := z2.1.1
        have hl16 := z2.1.2.1
        refine w_astore (ls2 := [_, _, _, _, _, _, _, _, _]) rfl rfl rfl (w_aload rfl rfl (w_getR rfl (by first | rfl | assumption) rfl (by first | rfl | assumption) (w_getIV rfl (by first | rfl | assumption) (by first | exact Or.inl rfl | exact Or.inr rfl) (hl) (w_istore (ls2 := [_, _, _, _, _, _, _, _, _]) rfl rfl rfl (w_iload rfl rfl ?_)))))
        refine w_if_lt (tgt := 48) rfl (by first | assumption | exact i32_0 | (unfold i32 at *; omega)) rfl (fun c29 => ?_) (fun c29 => ?_)
        · skip
          exfalso; omega
        · skip
          refine w_iload rfl rfl (w_iload rfl rfl ?_)
          refine w_icmp_ge (tgt := 48) rfl (by first | assumption | exact i32_0 | (unfold i32 at *; omega)) (by first | assumption | exact i32_0 | (unfold i32 at *; omega)) rfl (fun c35 => ?_) (fun c35 => ?_)
          · skip
            exfalso; omega
          · skip
            refine w_iload rfl rfl ?_
            refine w_if_lt (tgt := 48) rfl (by first | assumption | exact i32_0 | (unfold i32 at *; omega)) rfl (fun c39 => ?_) (fun c39 => ?_)
            · skip
              exfalso; omega
            · skip
              refine w_iload rfl rfl (w_iload rfl rfl ?_)
              refine w_icmp_lt (tgt := 52) rfl (by first | assumption | exact i32_0 | (unfold i32 at *; omega)) (by first | assumption | exact i32_0 | (unfold i32 at *; omega)) rfl (fun c45 => ?_) (fun c45 => ?_)
              · skip
                refine w_iload rfl rfl ?_
                refine w_if_lt (tgt := 63) rfl (by first | assumption | exact i32_0 | (unfold i32 at *; omega)) rfl (fun c54 => ?_) (fun c54 => ?_)
                · skip
                  refine w_lconst rfl ?_
                  exact w_lreturn rfl ⟨by first | rfl | (congr 2; omega), by exact CQ_of z1 z4⟩
                · skip
                  refine w_iload rfl rfl (w_iconst rfl ?_)
                  refine w_icmp_le (tgt := 67) rfl (by first | assumption | exact i32_0 | (unfold i32 at *; omega)) (by first | assumption | exact i32_0 | (unfold i32 at *; omega)) rfl (fun c60 => ?_) (fun c60 => ?_)
                  · skip
                    exfalso; omega
                  · skip
                    refine w_lconst rfl ?_
                    exact w_lreturn rfl ⟨by first | rfl | (congr 2; omega), by exact CQ_of z1 z4⟩
              · skip
                exfalso; omega
    · rw [if_neg qk]
      have qk : ¬ ((0 ≤ k ∧ k < (cornF h).length) ∧ (0 ≤ m ∧ m < (cornF h).length)) := fun z => qk ⟨decide_eq_true z.1, decide_eq_true z.2⟩
      refine w_iload rfl rfl ?_
      refine w_call (Or.inl rfl) (e_isCurve1 M q) (by omega) nof_37 rfl rfl rfl rfl trivial rfl ?_
      refine w_if_ne (tgt := 11) rfl (by first | assumption | exact i32_0 | (unfold i32 at *; omega)) rfl (fun _ => ?_) (fun c => absurd c (by decide))
      refine w_aload rfl rfl (w_iload rfl rfl ?_)
      refine w_callQ (Or.inr rfl) (hsh) (by omega) nof_67 rfl rfl rfl rfl (by first | rfl | (show cKB[_]? = _; assumption)) (fun r13 M13 hq13 => ?_)
      obtain ⟨rfl, z1, z2, z3, z4⟩ := hq13
      have hl := z2.1.1
      have hl16 := z2.1.2.1
      refine w_astore (ls2 := [_, _, _, _, _, _, _, _, _]) rfl rfl rfl (w_aload rfl rfl (w_getR rfl (by first | rfl | assumption) rfl (by first | rfl | assumption) (w_getIV rfl (by first | rfl | assumption) (by first | exact Or.inl rfl | exact Or.inr rfl) (hl) (w_istore (ls2 := [_, _, _, _, _, _, _, _, _]) rfl rfl rfl (w_iload rfl rfl ?_)))))
      refine w_if_lt (tgt := 48) rfl (by first | assumption | exact i32_0 | (unfold i32 at *; omega)) rfl (fun c29 => ?_) (fun c29 => ?_)
      · skip
        refine w_lconst rfl ?_
        exact w_lreturn rfl ⟨by first | rfl | (congr 2; omega), by exact CQ_of z1 z4⟩
      · skip
        refine w_iload rfl rfl (w_iload rfl rfl ?_)
        refine w_icmp_ge (tgt := 48) rfl (by first | assumption | exact i32_0 | (unfold i32 at *; omega)) (by first | assumption | exact i32_0 | (unfold i32 at *; omega)) rfl (fun c35 => ?_) (fun c35 => ?_)
        · skip
          refine w_lconst rfl ?_
          exact w_lreturn rfl ⟨by first | rfl | (congr 2; omega), by exact CQ_of z1 z4⟩
        · skip
          refine w_iload rfl rfl ?_
          refine w_if_lt (tgt := 48) rfl (by first | assumption | exact i32_0 | (unfold i32 at *; omega)) rfl (fun c39 => ?_) (fun c39 => ?_)
          · skip
            refine w_lconst rfl ?_
            exact w_lreturn rfl ⟨by first | rfl | (congr 2; omega), by exact CQ_of z1 z4⟩
          · skip
            refine w_iload rfl rfl (w_iload rfl rfl ?_)
            refine w_icmp_lt (tgt := 52) rfl (by first | assumption | exact i32_0 | (unfold i32 at *; omega)) (by first | assumption | exact i32_0 | (unfold i32 at *; omega)) rfl (fun c45 => ?_) (fun c45 => ?_)
            · skip
              exfalso; omega
            · skip
              refine w_lconst rfl ?_
              exact w_lreturn rfl ⟨by first | rfl | (congr 2; omega), by exact CQ_of z1 z4⟩
  · rw [if_neg q]
    have q : ¬ (a = 0 ∨ a = 1) := fun z => q (isCu_iff.mpr z)
    refine w_iload rfl rfl ?_
    refine w_call (Or.inl rfl) (e_isCurve0 M ha q) (by omega) nof_37 rfl rfl rfl rfl trivial rfl ?_
    refine w_if_ne (tgt := 11) rfl (by first | assumption | exact i32_0 | (unfold i32 at *; omega)) rfl (fun c => absurd c (by decide)) (fun _ => ?_)
    refine w_lconst rfl ?_
    exact w_lreturn rfl ⟨by first | rfl | (congr 2; omega), by exact CI_same c (Nat.le_succ n)⟩
