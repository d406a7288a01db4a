/-! ===== the same edges in both shapes ===== -/
def rowsSt (n : Nat) (R : List (Nat → Int)) : Prop := ∀ e ∈ R, e 4 = -1000000 ∨ (0 ≤ e 4 ∧ e 4 < n)
def linE (e f : Nat → Int) : Bool := decide (edSI e = edSI f ∧ edSJ e = edSJ f ∧ e 2 = f 2)
def smE (C : List Pt) (e : Nat → Int) (K : List Pt) (f : Nat → Int) : Bool := decide (endsR e = endsR f ∧ e 6 = f 6 ∧ e 7 = f 7) && ((decide (endsR e < 1) || decide (ptEq (ptAt C (e 4)) (ptAt K (f 4)))) && (decide (endsR e < 2) || decide (ptEq (ptAt C (e 5)) (ptAt K (f 5)))))
theorem e_sameEnds {s t s2 t2 c d m m2 : Nat} {C K : List Pt} {e f : Nat → Int} {M : mM} (hs : isS s t) (hs2 : isS s2 t2) (hC : PtR (s + 1) C M) (hK : PtR (s2 + 1) K M) (hc : isEd c) (hd : isEd d) (h : EdR c e M) (g : EdR d f M) (ho : edOK e) (hp : edOK f)
    (e4 : e 4 = -1000000 ∨ (0 ≤ e 4 ∧ e 4 < C.length)) (f4 : f 4 = -1000000 ∨ (0 ≤ f 4 ∧ f 4 < K.length)) (e5 : e 5 ≠ -1000000 → 0 ≤ e 5 ∧ e 5 < C.length) (f5 : f 5 ≠ -1000000 → 0 ≤ f 5 ∧ f 5 < K.length) : E 3 147 [vR s, vR c, vR s2, vR d] M (some (vI (if smE C e K f = true then 1 else 0))) M := by
  obtain ⟨⟨k0, k1, k2, k3, k4, k5⟩, -, -, hpts, -⟩ := hs
  obtain ⟨⟨l0, l1, l2, l3, l4, l5⟩, -, -, hpts2, -⟩ := hs2
  have hc0 : cKB[c]? = some (0, 0) := hc
  have hd0 : cKB[d]? = some (0, 0) := hd
  have hp0 : cKB[s + 1]? = some (0, 5) := hpts.1.1
  have hp20 : cKB[s2 + 1]? = some (0, 5) := hpts2.1.1
  have xc := e_ends hc h ho
  have xd := e_ends hd g hp
  have hl1 : 0 ≤ endsR e ∧ endsR e ≤ 2 := by unfold endsR; (repeat' split) <;> omega
  have hl2 : 0 ≤ endsR f ∧ endsR f ≤ 2 := by unfold endsR; (repeat' split) <;> omega
  have c6 := h 6 (by decide)
  have c7 := h 7 (by decide)
  have d6 := g 6 (by decide)
  have d7 := g 7 (by decide)
  have oe := ho.2.2.2.2.1
  have of := hp.2.2.2.2.1
  have hz : smE C e K f = (decide (endsR e = endsR f ∧ e 6 = f 6 ∧ e 7 = f 7) && ((decide (endsR e < 1) || decide (ptEq (ptAt C (e 4)) (ptAt K (f 4)))) && (decide (endsR e < 2) || decide (ptEq (ptAt C (e 5)) (ptAt K (f 5)))))) := rfl
  refine e_in (ls := [vR s, vR c, vR s2, vR d, vN, vN]) mq_147 (ml_147 rfl) rfl fun D hD => ?_
  by_cases q : endsR e = endsR f ∧ e 6 = f 6 ∧ e 7 = f 7
  · rw [decide_eq_true q] at hz
    by_cases q1 : endsR e < 1
    · have hz : smE C e K f = true := by rw [hz, decide_eq_true q1, decide_eq_true (by omega : endsR e < 2)]; rfl
      rw [hz]
      refine w_aload rfl rfl ?_
      refine w_call (Or.inr rfl) (xc) (by omega) nof_135 rfl rfl rfl rfl (by first | rfl | (show cKB[_]? = _; assumption)) rfl ?_
      refine w_istore (ls2 := [_, _, _, _, _, _]) rfl rfl rfl (w_iload rfl rfl (w_aload rfl rfl ?_))
      refine w_call (Or.inr rfl) (xd) (by omega) nof_135 rfl rfl rfl rfl (by first | rfl | (show cKB[_]? = _; assumption)) rfl ?_
      refine w_icmp_ne (tgt := 37) rfl (by first | assumption | exact i32_0 | (unfold i32 at *; omega)) (by first | assumption | exact i32_0 | (unfold i32 at *; omega)) rfl (fun c12 => ?_) (fun c12 => ?_)
      · skip
        exfalso; omega
      · skip
        refine w_aload rfl rfl (w_getIV rfl (by first | rfl | assumption) (by first | exact Or.inl rfl | exact Or.inr rfl) (c6) (w_aload rfl rfl (w_getIV rfl (by first | rfl | assumption) (by first | exact Or.inl rfl | exact Or.inr rfl) (d6) ?_)))
        refine w_icmp_ne (tgt := 37) rfl (by first | assumption | exact i32_0 | (unfold i32 at *; omega)) (by first | assumption | exact i32_0 | (unfold i32 at *; omega)) rfl (fun c23 => ?_) (fun c23 => ?_)
        · skip
          exfalso; omega
        · skip
          refine w_aload rfl rfl (w_getIV rfl (by first | rfl | assumption) (by first | exact Or.inl rfl | exact Or.inr rfl) (c7) (w_aload rfl rfl (w_getIV rfl (by first | rfl | assumption) (by first | exact Or.inl rfl | exact Or.inr rfl) (d7) ?_)))
          refine w_icmp_eq (tgt := 39) rfl (by first | assumption | exact i32_0 | (unfold i32 at *; omega)) (by first | assumption | exact i32_0 | (unfold i32 at *; omega)) rfl (fun c34 => ?_) (fun c34 => ?_)
          · skip
            refine w_iload rfl rfl (w_iconst rfl ?_)
            refine w_icmp_lt (tgt := 67) rfl (by first | assumption | exact i32_0 | (unfold i32 at *; omega)) (by first | assumption | exact i32_0 | (unfold i32 at *; omega)) rfl (fun c42 => ?_) (fun c42 => ?_)
            · skip
              refine w_iconst rfl (w_goto (tgt := 72) rfl rfl (w_istore (ls2 := [_, _, _, _, _, _]) rfl rfl rfl (w_iload rfl rfl ?_)))
              refine w_if_eq (tgt := 111) rfl (by first | assumption | exact i32_0 | (unfold i32 at *; omega)) rfl (fun c => absurd c (by decide)) (fun _ => ?_)
              refine w_iload rfl rfl (w_iconst rfl ?_)
              refine w_icmp_lt (tgt := 107) rfl (by first | assumption | exact i32_0 | (unfold i32 at *; omega)) (by first | assumption | exact i32_0 | (unfold i32 at *; omega)) rfl (fun c82 => ?_) (fun c82 => ?_)
              · skip
                refine w_iconst rfl (w_goto (tgt := 112) rfl rfl ?_)
                exact w_zreturn rfl (by first | exact Or.inl rfl | exact Or.inr rfl | omega | assumption) ⟨by first | rfl | (congr 2; omega), by rfl⟩
              · skip
                exfalso; omega
            · skip
              exfalso; omega
          · skip
            exfalso; omega
    · rw [decide_eq_false q1] at hz
      have n4 : e 4 ≠ -1000000 := fun z => q1 (by unfold endsR; rw [if_pos z]; decide)
      have m4 : f 4 ≠ -1000000 := fun z => q1 (by rw [q.1]; unfold endsR; rw [if_pos z]; decide)
      have p1 := ptAt_eq (C := C) (k := e 4) (by omega) (by omega)
      have p2 := ptAt_eq (C := K) (k := f 4) (by omega) (by omega)
      have g4 : M c 4 = ((e 4).toNat : Int) := by rw [h 4 (by decide)]; omega
      have w4 : M d 4 = ((f 4).toNat : Int) := by rw [g 4 (by decide)]; omega
      by_cases qp : ptEq (ptAt C (e 4)) (ptAt K (f 4))
      · rw [decide_eq_true qp] at hz
        have hi := e_isSame1 hpts hpts2 hC hK p1 p2 qp
        by_cases q2 : endsR e < 2
        · have hz : smE C e K f = true := by rw [hz, decide_eq_true q2]; rfl
          rw [hz]
          refine w_aload rfl rfl ?_
          refine w_call (Or.inr rfl) (xc) (by omega) nof_135 rfl rfl rfl rfl (by first | rfl | (show cKB[_]? = _; assumption)) rfl ?_
          refine w_istore (ls2 := [_, _, _, _, _, _]) rfl rfl rfl (w_iload rfl rfl (w_aload rfl rfl ?_))
          refine w_call (Or.inr rfl) (xd) (by omega) nof_135 rfl rfl rfl rfl (by first | rfl | (show cKB[_]? = _; assumption)) rfl ?_
          refine w_icmp_ne (tgt := 37) rfl (by first | assumption | exact i32_0 | (unfold i32 at *; omega)) (by first | assumption | exact i32_0 | (unfold i32 at *; omega)) rfl (fun c12 => ?_) (fun c12 => ?_)
          · skip
            exfalso; omega
          · skip
            refine w_aload rfl rfl (w_getIV rfl (by first | rfl | assumption) (by first | exact Or.inl rfl | exact Or.inr rfl) (c6) (w_aload rfl rfl (w_getIV rfl (by first | rfl | assumption) (by first | exact Or.inl rfl | exact Or.inr rfl) (d6) ?_)))
            refine w_icmp_ne (tgt := 37) rfl (by first | assumption | exact i32_0 | (unfold i32 at *; omega)) (by first | assumption | exact i32_0 | (unfold i32 at *; omega)) rfl (fun c23 => ?_) (fun c23 => ?_)
            · skip
              exfalso; omega
            · skip
              refine w_aload rfl rfl (w_getIV rfl (by first | rfl | assumption) (by first | exact Or.inl rfl | exact Or.inr rfl) (c7) (w_aload rfl rfl (w_getIV rfl (by first | rfl | assumption) (by first | exact Or.inl rfl | exact Or.inr rfl) (d7) ?_)))
              refine w_icmp_eq (tgt := 39) rfl (by first | assumption | exact i32_0 | (unfold i32 at *; omega)) (by first | assumption | exact i32_0 | (unfold i32 at *; omega)) rfl (fun c34 => ?_) (fun c34 => ?_)
              · skip
                refine w_iload rfl rfl (w_iconst rfl ?_)
                refine w_icmp_lt (tgt := 67) rfl (by first | assumption | exact i32_0 | (unfold i32 at *; omega)) (by first | assumption | exact i32_0 | (unfold i32 at *; omega)) rfl (fun c42 => ?_) (fun c42 => ?_)
                · exfalso; omega
                · skip
                  refine w_aload rfl rfl (w_getR rfl (by first | rfl | assumption) rfl (by first | rfl | assumption) (w_aload rfl rfl (w_getIV rfl (by first | rfl | assumption) (by first | exact Or.inl rfl | exact Or.inr rfl) (g4) (w_aload rfl rfl (w_getR rfl (by first | rfl | assumption) rfl (by first | rfl | assumption) (w_aload rfl rfl (w_getIV rfl (by first | rfl | assumption) (by first | exact Or.inl rfl | exact Or.inr rfl) (w4) ?_)))))))
                  refine w_call (Or.inr rfl) (hi) (by omega) nof_130 rfl rfl rfl rfl (by first | rfl | (show cKB[_]? = _; assumption)) rfl ?_
                  refine w_if_eq (tgt := 71) rfl (by first | assumption | exact i32_0 | (unfold i32 at *; omega)) rfl (fun c => absurd c (by decide)) (fun _ => ?_)
                  refine w_iconst rfl (w_goto (tgt := 72) rfl rfl (w_istore (ls2 := [_, _, _, _, _, _]) rfl rfl rfl (w_iload rfl rfl ?_)))
                  refine w_if_eq (tgt := 111) rfl (by first | assumption | exact i32_0 | (unfold i32 at *; omega)) rfl (fun c => absurd c (by decide)) (fun _ => ?_)
                  refine w_iload rfl rfl (w_iconst rfl ?_)
                  refine w_icmp_lt (tgt := 107) rfl (by first | assumption | exact i32_0 | (unfold i32 at *; omega)) (by first | assumption | exact i32_0 | (unfold i32 at *; omega)) rfl (fun c82 => ?_) (fun c82 => ?_)
                  · skip
                    refine w_iconst rfl (w_goto (tgt := 112) rfl rfl ?_)
                    exact w_zreturn rfl (by first | exact Or.inl rfl | exact Or.inr rfl | omega | assumption) ⟨by first | rfl | (congr 2; omega), by rfl⟩
                  · skip
                    exfalso; omega
              · skip
                exfalso; omega
        · rw [decide_eq_false q2] at hz
          have n5 : e 5 ≠ -1000000 := fun z => q2 (by unfold endsR; rw [if_neg n4, if_pos z]; decide)
          have m5 : f 5 ≠ -1000000 := fun z => q2 (by rw [q.1]; unfold endsR; rw [if_neg m4, if_pos z]; decide)
          have e5 := e5 n5
          have f5 := f5 m5
          have r1 := ptAt_eq (C := C) (k := e 5) (by omega) (by omega)
          have r2 := ptAt_eq (C := K) (k := f 5) (by omega) (by omega)
          have g5 : M c 5 = ((e 5).toNat : Int) := by rw [h 5 (by decide)]; omega
          have w5 : M d 5 = ((f 5).toNat : Int) := by rw [g 5 (by decide)]; omega
          by_cases qr : ptEq (ptAt C (e 5)) (ptAt K (f 5))
          · have hz : smE C e K f = true := by rw [hz, decide_eq_true qr]; rfl
            rw [hz]
            have hj := e_isSame1 hpts hpts2 hC hK r1 r2 qr
            refine w_aload rfl rfl ?_
            refine w_call (Or.inr rfl) (xc) (by omega) nof_135 rfl rfl rfl rfl (by first | rfl | (show cKB[_]? = _; assumption)) rfl ?_
            refine w_istore (ls2 := [_, _, _, _, _, _]) rfl rfl rfl (w_iload rfl rfl (w_aload rfl rfl ?_))
            refine w_call (Or.inr rfl) (xd) (by omega) nof_135 rfl rfl rfl rfl (by first | rfl | (show cKB[_]? = _; assumption)) rfl ?_
            refine w_icmp_ne (tgt := 37) rfl (by first | assumption | exact i32_0 | (unfold i32 at *; omega)) (by first | assumption | exact i32_0 | (unfold i32 at *; omega)) rfl (fun c12 => ?_) (fun c12 => ?_)
            · skip
              exfalso; omega
            · skip
              refine w_aload rfl rfl (w_getIV rfl (by first | rfl | assumption) (by first | exact Or.inl rfl | exact Or.inr rfl) (c6) (w_aload rfl rfl (w_getIV rfl (by first | rfl | assumption) (by first | exact Or.inl rfl | exact Or.inr rfl) (d6) ?_)))
              refine w_icmp_ne (tgt := 37) rfl (by first | assumption | exact i32_0 | (unfold i32 at *; omega)) (by first | assumption | exact i32_0 | (unfold i32 at *; omega)) rfl (fun c23 => ?_) (fun c23 => ?_)
              · skip
                exfalso; omega
              · skip
                refine w_aload rfl rfl (w_getIV rfl (by first | rfl | assumption) (by first | exact Or.inl rfl | exact Or.inr rfl) (c7) (w_aload rfl rfl (w_getIV rfl (by first | rfl | assumption) (by first | exact Or.inl rfl | exact Or.inr rfl) (d7) ?_)))
                refine w_icmp_eq (tgt := 39) rfl (by first | assumption | exact i32_0 | (unfold i32 at *; omega)) (by first | assumption | exact i32_0 | (unfold i32 at *; omega)) rfl (fun c34 => ?_) (fun c34 => ?_)
                · skip
                  refine w_iload rfl rfl (w_iconst rfl ?_)
                  refine w_icmp_lt (tgt := 67) rfl (by first | assumption | exact i32_0 | (unfold i32 at *; omega)) (by first | assumption | exact i32_0 | (unfold i32 at *; omega)) rfl (fun c42 => ?_) (fun c42 => ?_)
                  · exfalso; omega
                  · skip
                    refine w_aload rfl rfl (w_getR rfl (by first | rfl | assumption) rfl (by first | rfl | assumption) (w_aload rfl rfl (w_getIV rfl (by first | rfl | assumption) (by first | exact Or.inl rfl | exact Or.inr rfl) (g4) (w_aload rfl rfl (w_getR rfl (by first | rfl | assumption) rfl (by first | rfl | assumption) (w_aload rfl rfl (w_getIV rfl (by first | rfl | assumption) (by first | exact Or.inl rfl | exact Or.inr rfl) (w4) ?_)))))))
                    refine w_call (Or.inr rfl) (hi) (by omega) nof_130 rfl rfl rfl rfl (by first | rfl | (show cKB[_]? = _; assumption)) rfl ?_
                    refine w_if_eq (tgt := 71) rfl (by first | assumption | exact i32_0 | (unfold i32 at *; omega)) rfl (fun c => absurd c (by decide)) (fun _ => ?_)
                    refine w_iconst rfl (w_goto (tgt := 72) rfl rfl (w_istore (ls2 := [_, _, _, _, _, _]) rfl rfl rfl (w_iload rfl rfl ?_)))
                    refine w_if_eq (tgt := 111) rfl (by first | assumption | exact i32_0 | (unfold i32 at *; omega)) rfl (fun c => absurd c (by decide)) (fun _ => ?_)
                    refine w_iload rfl rfl (w_iconst rfl ?_)
                    refine w_icmp_lt (tgt := 107) rfl (by first | assumption | exact i32_0 | (unfold i32 at *; omega)) (by first | assumption | exact i32_0 | (unfold i32 at *; omega)) rfl (fun c82 => ?_) (fun c82 => ?_)
                    · exfalso; omega
                    · skip
                      refine w_aload rfl rfl (w_getR rfl (by first | rfl | assumption) rfl (by first | rfl | assumption) (w_aload rfl rfl (w_getIV rfl (by first | rfl | assumption) (by first | exact Or.inl rfl | exact Or.inr rfl) (g5) (w_aload rfl rfl (w_getR rfl (by first | rfl | assumption) rfl (by first | rfl | assumption) (w_aload rfl rfl (w_getIV rfl (by first | rfl | assumption) (by first | exact Or.inl rfl | exact Or.inr rfl) (w5) ?_)))))))
                      refine w_call (Or.inr rfl) (hj) (by omega) nof_130 rfl rfl rfl rfl (by first | rfl | (show cKB[_]? = _; assumption)) rfl ?_
                      refine w_if_eq (tgt := 111) rfl (by first | assumption | exact i32_0 | (unfold i32 at *; omega)) rfl (fun c => absurd c (by decide)) (fun _ => ?_)
                      refine w_iconst rfl (w_goto (tgt := 112) rfl rfl ?_)
                      exact w_zreturn rfl (by first | exact Or.inl rfl | exact Or.inr rfl | omega | assumption) ⟨by first | rfl | (congr 2; omega), by rfl⟩
                · skip
                  exfalso; omega
          · have hz : smE C e K f = false := by rw [hz, decide_eq_false qr]; rfl
            rw [hz]
            have hj := e_isSame0 hpts hpts2 hC hK r1 r2 qr
            refine w_aload rfl rfl ?_
            refine w_call (Or.inr rfl) (xc) (by omega) nof_135 rfl rfl rfl rfl (by first | rfl | (show cKB[_]? = _; assumption)) rfl ?_
            refine w_istore (ls2 := [_, _, _, _, _, _]) rfl rfl rfl (w_iload rfl rfl (w_aload rfl rfl ?_))
            refine w_call (Or.inr rfl) (xd) (by omega) nof_135 rfl rfl rfl rfl (by first | rfl | (show cKB[_]? = _; assumption)) rfl ?_
            refine w_icmp_ne (tgt := 37) rfl (by first | assumption | exact i32_0 | (unfold i32 at *; omega)) (by first | assumption | exact i32_0 | (unfold i32 at *; omega)) rfl (fun c12 => ?_) (fun c12 => ?_)
            · skip
              exfalso; omega
            · skip
              refine w_aload rfl rfl (w_getIV rfl (by first | rfl | assumption) (by first | exact Or.inl rfl | exact Or.inr rfl) (c6) (w_aload rfl rfl (w_getIV rfl (by first | rfl | assumption) (by first | exact Or.inl rfl | exact Or.inr rfl) (d6) ?_)))
              refine w_icmp_ne (tgt := 37) rfl (by first | assumption | exact i32_0 | (unfold i32 at *; omega)) (by first | assumption | exact i32_0 | (unfold i32 at *; omega)) rfl (fun c23 => ?_) (fun c23 => ?_)
              · skip
                exfalso; omega
              · skip
                refine w_aload rfl rfl (w_getIV rfl (by first | rfl | assumption) (by first | exact Or.inl rfl | exact Or.inr rfl) (c7) (w_aload rfl rfl (w_getIV rfl (by first | rfl | assumption) (by first | exact Or.inl rfl | exact Or.inr rfl) (d7) ?_)))
                refine w_icmp_eq (tgt := 39) rfl (by first | assumption | exact i32_0 | (unfold i32 at *; omega)) (by first | assumption | exact i32_0 | (unfold i32 at *; omega)) rfl (fun c34 => ?_) (fun c34 => ?_)
                · skip
                  refine w_iload rfl rfl (w_iconst rfl ?_)
                  refine w_icmp_lt (tgt := 67) rfl (by first | assumption | exact i32_0 | (unfold i32 at *; omega)) (by first | assumption | exact i32_0 | (unfold i32 at *; omega)) rfl (fun c42 => ?_) (fun c42 => ?_)
                  · exfalso; omega
                  · skip
                    refine w_aload rfl rfl (w_getR rfl (by first | rfl | assumption) rfl (by first | rfl | assumption) (w_aload rfl rfl (w_getIV rfl (by first | rfl | assumption) (by first | exact Or.inl rfl | exact Or.inr rfl) (g4) (w_aload rfl rfl (w_getR rfl (by first | rfl | assumption) rfl (by first | rfl | assumption) (w_aload rfl rfl (w_getIV rfl (by first | rfl | assumption) (by first | exact Or.inl rfl | exact Or.inr rfl) (w4) ?_)))))))
                    refine w_call (Or.inr rfl) (hi) (by omega) nof_130 rfl rfl rfl rfl (by first | rfl | (show cKB[_]? = _; assumption)) rfl ?_
                    refine w_if_eq (tgt := 71) rfl (by first | assumption | exact i32_0 | (unfold i32 at *; omega)) rfl (fun c => absurd c (by decide)) (fun _ => ?_)
                    refine w_iconst rfl (w_goto (tgt := 72) rfl rfl (w_istore (ls2 := [_, _, _, _, _, _]) rfl rfl rfl (w_iload rfl rfl ?_)))
                    refine w_if_eq (tgt := 111) rfl (by first | assumption | exact i32_0 | (unfold i32 at *; omega)) rfl (fun c => absurd c (by decide)) (fun _ => ?_)
                    refine w_iload rfl rfl (w_iconst rfl ?_)
                    refine w_icmp_lt (tgt := 107) rfl (by first | assumption | exact i32_0 | (unfold i32 at *; omega)) (by first | assumption | exact i32_0 | (unfold i32 at *; omega)) rfl (fun c82 => ?_) (fun c82 => ?_)
                    · exfalso; omega
                    · skip
                      refine w_aload rfl rfl (w_getR rfl (by first | rfl | assumption) rfl (by first | rfl | assumption) (w_aload rfl rfl (w_getIV rfl (by first | rfl | assumption) (by first | exact Or.inl rfl | exact Or.inr rfl) (g5) (w_aload rfl rfl (w_getR rfl (by first | rfl | assumption) rfl (by first | rfl | assumption) (w_aload rfl rfl (w_getIV rfl (by first | rfl | assumption) (by first | exact Or.inl rfl | exact Or.inr rfl) (w5) ?_)))))))
                      refine w_call (Or.inr rfl) (hj) (by omega) nof_130 rfl rfl rfl rfl (by first | rfl | (show cKB[_]? = _; assumption)) rfl ?_
                      refine w_if_eq (tgt := 111) rfl (by first | assumption | exact i32_0 | (unfold i32 at *; omega)) rfl (fun _ => ?_) (fun c => absurd c (by decide))
                      refine w_iconst rfl ?_
                      exact w_zreturn rfl (by first | exact Or.inl rfl | exact Or.inr rfl | omega | assumption) ⟨by first | rfl | (congr 2; omega), by rfl⟩
                · skip
                  exfalso; omega
      · have hz : smE C e K f = false := by rw [hz, decide_eq_false qp]; rfl
        rw [hz]
        have hi := e_isSame0 hpts hpts2 hC hK p1 p2 qp
        refine w_aload rfl rfl ?_
        refine w_call (Or.inr rfl) (xc) (by omega) nof_135 rfl rfl rfl rfl (by first | rfl | (show cKB[_]? = _; assumption)) rfl ?_
        refine w_istore (ls2 := [_, _, _, _, _, _]) rfl rfl rfl (w_iload rfl rfl (w_aload rfl rfl ?_))
        refine w_call (Or.inr rfl) (xd) (by omega) nof_135 rfl rfl rfl rfl (by first | rfl | (show cKB[_]? = _; assumption)) rfl ?_
        refine w_icmp_ne (tgt := 37) rfl (by first | assumption | exact i32_0 | (unfold i32 at *; omega)) (by first | assumption | exact i32_0 | (unfold i32 at *; omega)) rfl (fun c12 => ?_) (fun c12 => ?_)
        · skip
          exfalso; omega
        · skip
          refine w_aload rfl rfl (w_getIV rfl (by first | rfl | assumption) (by first | exact Or.inl rfl | exact Or.inr rfl) (c6) (w_aload rfl rfl (w_getIV rfl (by first | rfl | assumption) (by first | exact Or.inl rfl | exact Or.inr rfl) (d6) ?_)))
          refine w_icmp_ne (tgt := 37) rfl (by first | assumption | exact i32_0 | (unfold i32 at *; omega)) (by first | assumption | exact i32_0 | (unfold i32 at *; omega)) rfl (fun c23 => ?_) (fun c23 => ?_)
          · skip
            exfalso; omega
          · skip
            refine w_aload rfl rfl (w_getIV rfl (by first | rfl | assumption) (by first | exact Or.inl rfl | exact Or.inr rfl) (c7) (w_aload rfl rfl (w_getIV rfl (by first | rfl | assumption) (by first | exact Or.inl rfl | exact Or.inr rfl) (d7) ?_)))
            refine w_icmp_eq (tgt := 39) rfl (by first | assumption | exact i32_0 | (unfold i32 at *; omega)) (by first | assumption | exact i32_0 | (unfold i32 at *; omega)) rfl (fun c34 => ?_) (fun c34 => ?_)
            · skip
              refine w_iload rfl rfl (w_iconst rfl ?_)
              refine w_icmp_lt (tgt := 67) rfl (by first | assumption | exact i32_0 | (unfold i32 at *; omega)) (by first | assumption | exact i32_0 | (unfold i32 at *; omega)) rfl (fun c42 => ?_) (fun c42 => ?_)
              · exfalso; omega
              · skip
                refine w_aload rfl rfl (w_getR rfl (by first | rfl | assumption) rfl (by first | rfl | assumption) (w_aload rfl rfl (w_getIV rfl (by first | rfl | assumption) (by first | exact Or.inl rfl | exact Or.inr rfl) (g4) (w_aload rfl rfl (w_getR rfl (by first | rfl | assumption) rfl (by first | rfl | assumption) (w_aload rfl rfl (w_getIV rfl (by first | rfl | assumption) (by first | exact Or.inl rfl | exact Or.inr rfl) (w4) ?_)))))))
                refine w_call (Or.inr rfl) (hi) (by omega) nof_130 rfl rfl rfl rfl (by first | rfl | (show cKB[_]? = _; assumption)) rfl ?_
                refine w_if_eq (tgt := 71) rfl (by first | assumption | exact i32_0 | (unfold i32 at *; omega)) rfl (fun _ => ?_) (fun c => absurd c (by decide))
                refine w_iconst rfl (w_istore (ls2 := [_, _, _, _, _, _]) rfl rfl rfl (w_iload rfl rfl ?_))
                refine w_if_eq (tgt := 111) rfl (by first | assumption | exact i32_0 | (unfold i32 at *; omega)) rfl (fun _ => ?_) (fun c => absurd c (by decide))
                refine w_iconst rfl ?_
                exact w_zreturn rfl (by first | exact Or.inl rfl | exact Or.inr rfl | omega | assumption) ⟨by first | rfl | (congr 2; omega), by rfl⟩
            · skip
              exfalso; omega
  · have hz : smE C e K f = false := by rw [hz, decide_eq_false q]; rfl
    rw [hz]
    refine w_aload rfl rfl ?_
    refine w_call (Or.inr rfl) (xc) (by omega) nof_135 rfl rfl rfl rfl (by first | rfl | (show cKB[_]? = _; assumption)) rfl ?_
    refine w_istore (ls2 := [_, _, _, _, _, _]) rfl rfl rfl (w_iload rfl rfl (w_aload rfl rfl ?_))
    refine w_call (Or.inr rfl) (xd) (by omega) nof_135 rfl rfl rfl rfl (by first | rfl | (show cKB[_]? = _; assumption)) rfl ?_
    refine w_icmp_ne (tgt := 37) rfl (by first | assumption | exact i32_0 | (unfold i32 at *; omega)) (by first | assumption | exact i32_0 | (unfold i32 at *; omega)) rfl (fun c12 => ?_) (fun c12 => ?_)
    · skip
      refine w_iconst rfl ?_
      exact w_zreturn rfl (by first | exact Or.inl rfl | exact Or.inr rfl | omega | assumption) ⟨by first | rfl | (congr 2; omega), by rfl⟩
    · skip
      refine w_aload rfl rfl (w_getIV rfl (by first | rfl | assumption) (by first | exact Or.inl rfl | exact Or.inr rfl) (c6) (w_aload rfl rfl (w_getIV rfl (by first | rfl | assumption) (by first | exact Or.inl rfl | exact Or.inr rfl) (d6) ?_)))
      refine w_icmp_ne (tgt := 37) rfl (by first | assumption | exact i32_0 | (unfold i32 at *; omega)) (by first | assumption | exact i32_0 | (unfold i32 at *; omega)) rfl (fun c23 => ?_) (fun c23 => ?_)
      · skip
        refine w_iconst rfl ?_
        exact w_zreturn rfl (by first | exact Or.inl rfl | exact Or.inr rfl | omega | assumption) ⟨by first | rfl | (congr 2; omega), by rfl⟩
      · skip
        refine w_aload rfl rfl (w_getIV rfl (by first | rfl | assumption) (by first | exact Or.inl rfl | exact Or.inr rfl) (c7) (w_aload rfl rfl (w_getIV rfl (by first | rfl | assumption) (by first | exact Or.inl rfl | exact Or.inr rfl) (d7) ?_)))
        refine w_icmp_eq (tgt := 39) rfl (by first | assumption | exact i32_0 | (unfold i32 at *; omega)) (by first | assumption | exact i32_0 | (unfold i32 at *; omega)) rfl (fun c34 => ?_) (fun c34 => ?_)
        · skip
          exfalso; omega
        · skip
          refine w_iconst rfl ?_
          exact w_zreturn rfl (by first | exact Or.inl rfl | exact Or.inr rfl | omega | assumption) ⟨by first | rfl | (congr 2; omega), by rfl⟩
def hasE (K : List Pt) (S : List (Nat → Int)) (C : List Pt) (e : Nat → Int) : Bool := S.any fun f => linE f e && smE K f C e
theorem e_hasEdge {s t s2 t2 c : Nat} {C K : List Pt} {S : List (Nat → Int)} {e : Nat → Int} {M : mM} (hs : isS s t) (hs2 : isS s2 t2) (hC : PtR (s + 1) C M) (hK : PtR (s2 + 1) K M) (hS : edgs s2 S M) (hok : rowsOK K.length S) (hst : rowsSt K.length S) (hc : isEd c) (h : EdR c e M) (ho : edOK e)
    (e4 : e 4 = -1000000 ∨ (0 ≤ e 4 ∧ e 4 < C.length)) (e5 : e 5 ≠ -1000000 → 0 ≤ e 5 ∧ e 5 < C.length) : E 4 145 [vR s2, vR s, vR c] M (some (vI (if hasE K S C e = true then 1 else 0))) M := by
  have hss2 := hs2
  obtain ⟨⟨k0, k1, k2, k3, k4, k5⟩, ⟨kE, -, -⟩, -⟩ := hs2
  have hc0 : cKB[c]? = some (0, 0) := hc
  have hl30 := hS.2.1
  have hS4 := hS.1
  refine e_in (ls := [vR s2, vR s, vR c, vN]) mq_145 (ml_145 rfl) rfl fun D hD => ?_
  have loop : ∀ (z n : Nat), S.length - n = z → n ≤ S.length → hasE K S C e = hasE K (S.drop n) C e → Wp mc_145 D 2 [vR s2, vR s, vR c, vI n] [] M (fun r N => r = some (vI (if hasE K S C e = true then 1 else 0)) ∧ N = M) := by
    intro z
    induction z with
    | zero =>
      intro n hz hn hop
      have hf : hasE K S C e = false := by rw [hop, List.drop_of_length_le (by omega)]; rfl
      rw [hf]
      refine w_iload rfl rfl (w_aload rfl rfl (w_getIV rfl (by first | rfl | assumption) (by first | exact Or.inl rfl | exact Or.inr rfl) (hS4) ?_))
      refine w_icmp_ge (tgt := 55) rfl (by first | assumption | exact i32_0 | (unfold i32 at *; omega)) (by first | assumption | exact i32_0 | (unfold i32 at *; omega)) rfl (fun c7 => ?_) (fun c7 => ?_)
      · skip
        refine w_iconst rfl ?_
        exact w_zreturn rfl (by first | exact Or.inl rfl | exact Or.inr rfl | omega | assumption) ⟨by first | rfl | (congr 2; omega), by rfl⟩
      · skip
        exfalso; omega
    | succ z ih =>
      intro n hz hn hop
      have hnl : n < S.length := by omega
      have hx := edgs_row hss2 (k := n) (by omega)
      have hxr := hx.1
      have hxe : cKB[s2 + 10 + n]? = some (0, 0) := hx.2
      have hr : S[n]? = some S[n] := List.getElem?_eq_getElem hnl
      have hE := hS.2.2 n _ hr
      have hof := hok S[n] (List.getElem_mem hnl)
      have h4f := hst S[n] (List.getElem_mem hnl)
      have hcons : S.drop n = S[n] :: S.drop (n + 1) := List.drop_eq_getElem_cons hnl
      have hst : hasE K S C e = ((linE S[n] e && smE K S[n] C e) || hasE K (S.drop (n + 1)) C e) := by rw [hop, hcons]; unfold hasE; rw [List.any_cons]
      have ihn := ih (n + 1) (by omega) (by omega)
      have hln := e_hasLineOf hx.2 hc hE h hof.1 ho
      have hsm := e_sameEnds (m := 0) (m2 := 0) hss2 hs hK hC hx.2 hc hE h hof.1 ho h4f e4 (fun z => (hof.2.2 z).2.1) e5
      generalize S[n] = f at *
      by_cases q : edSI f = edSI e ∧ edSJ f = edSJ e ∧ f 2 = e 2
      · rw [show linE f e = true from decide_eq_true q] at hst
        rw [if_pos q] at hln
        by_cases q2 : smE K f C e = true
        · rw [q2] at hst
          rw [if_pos q2] at hsm
          have hst : hasE K S C e = true := hst
          rw [hst]
          refine w_iload rfl rfl (w_aload rfl rfl (w_getIV rfl (by first | rfl | assumption) (by first | exact Or.inl rfl | exact Or.inr rfl) (hS4) ?_))
          refine w_icmp_ge (tgt := 55) rfl (by first | assumption | exact i32_0 | (unfold i32 at *; omega)) (by first | assumption | exact i32_0 | (unfold i32 at *; omega)) rfl (fun c7 => ?_) (fun c7 => ?_)
          · skip
            exfalso; omega
          · skip
            refine w_iload rfl rfl (w_aload rfl rfl (w_getR rfl (by first | rfl | assumption) rfl (by first | rfl | assumption | (rw [Int.toNat_natCast]; assumption)) (w_alen rfl (by first | rfl | assumption) (by decide) (by decide) ?_)))
            refine w_icmp_ge (tgt := 55) rfl (by first | assumption | exact i32_0 | (unfold i32 at *; omega)) (by first | assumption | exact i32_0 | (unfold i32 at *; omega)) rfl (fun c16 => ?_) (fun c16 => ?_)
            · skip
              exfalso; omega
            · skip
              refine w_aload rfl rfl (w_getR rfl (by first | rfl | assumption) rfl (by first | rfl | assumption | (rw [Int.toNat_natCast]; assumption)) (w_iload rfl rfl (w_aaload rfl (by first | rfl | assumption) (by first | exact Or.inl rfl | exact Or.inr rfl) (by omega) (by omega) (by first | rfl | assumption | (rw [Int.toNat_natCast]; assumption)) (w_aload rfl rfl ?_))))
              refine w_call (Or.inr rfl) ((hln)) (by omega) nof_146 rfl rfl rfl rfl (by first | rfl | (show cKB[_]? = _; assumption)) rfl ?_
              refine w_if_eq (tgt := 49) rfl (by first | assumption | exact i32_0 | (unfold i32 at *; omega)) rfl (fun c => absurd c (by decide)) (fun _ => ?_)
              refine w_aload rfl rfl (w_aload rfl rfl (w_getR rfl (by first | rfl | assumption) rfl (by first | rfl | assumption | (rw [Int.toNat_natCast]; assumption)) (w_iload rfl rfl (w_aaload rfl (by first | rfl | assumption) (by first | exact Or.inl rfl | exact Or.inr rfl) (by omega) (by omega) (by first | rfl | assumption | (rw [Int.toNat_natCast]; assumption)) (w_aload rfl rfl (w_aload rfl rfl ?_))))))
              refine w_call (Or.inr rfl) ((hsm)) (by omega) nof_147 rfl rfl rfl rfl (by first | rfl | (show cKB[_]? = _; assumption)) rfl ?_
              refine w_if_eq (tgt := 49) rfl (by first | assumption | exact i32_0 | (unfold i32 at *; omega)) rfl (fun c => absurd c (by decide)) (fun _ => ?_)
              refine w_iconst rfl ?_
              exact w_zreturn rfl (by first | exact Or.inl rfl | exact Or.inr rfl | omega | assumption) ⟨by first | rfl | (congr 2; omega), by rfl⟩
        · rw [if_neg q2] at hsm
          have q2 : smE K f C e = false := Bool.eq_false_iff.mpr q2
          rw [q2] at hst
          have ihn := ihn hst
          refine w_iload rfl rfl (w_aload rfl rfl (w_getIV rfl (by first | rfl | assumption) (by first | exact Or.inl rfl | exact Or.inr rfl) (hS4) ?_))
          refine w_icmp_ge (tgt := 55) rfl (by first | assumption | exact i32_0 | (unfold i32 at *; omega)) (by first | assumption | exact i32_0 | (unfold i32 at *; omega)) rfl (fun c7 => ?_) (fun c7 => ?_)
          · skip
            exfalso; omega
          · skip
            refine w_iload rfl rfl (w_aload rfl rfl (w_getR rfl (by first | rfl | assumption) rfl (by first | rfl | assumption | (rw [Int.toNat_natCast]; assumption)) (w_alen rfl (by first | rfl | assumption) (by decide) (by decide) ?_)))
            refine w_icmp_ge (tgt := 55) rfl (by first | assumption | exact i32_0 | (unfold i32 at *; omega)) (by first | assumption | exact i32_0 | (unfold i32 at *; omega)) rfl (fun c16 => ?_) (fun c16 => ?_)
            · skip
              exfalso; omega
            · skip
              refine w_aload rfl rfl (w_getR rfl (by first | rfl | assumption) rfl (by first | rfl | assumption | (rw [Int.toNat_natCast]; assumption)) (w_iload rfl rfl (w_aaload rfl (by first | rfl | assumption) (by first | exact Or.inl rfl | exact Or.inr rfl) (by omega) (by omega) (by first | rfl | assumption | (rw [Int.toNat_natCast]; assumption)) (w_aload rfl rfl ?_))))
              refine w_call (Or.inr rfl) ((hln)) (by omega) nof_146 rfl rfl rfl rfl (by first | rfl | (show cKB[_]? = _; assumption)) rfl ?_
              refine w_if_eq (tgt := 49) rfl (by first | assumption | exact i32_0 | (unfold i32 at *; omega)) rfl (fun c => absurd c (by decide)) (fun _ => ?_)
              refine w_aload rfl rfl (w_aload rfl rfl (w_getR rfl (by first | rfl | assumption) rfl (by first | rfl | assumption | (rw [Int.toNat_natCast]; assumption)) (w_iload rfl rfl (w_aaload rfl (by first | rfl | assumption) (by first | exact Or.inl rfl | exact Or.inr rfl) (by omega) (by omega) (by first | rfl | assumption | (rw [Int.toNat_natCast]; assumption)) (w_aload rfl rfl (w_aload rfl rfl ?_))))))
              refine w_call (Or.inr rfl) ((hsm)) (by omega) nof_147 rfl rfl rfl rfl (by first | rfl | (show cKB[_]? = _; assumption)) rfl ?_
              refine w_if_eq (tgt := 49) rfl (by first | assumption | exact i32_0 | (unfold i32 at *; omega)) rfl (fun _ => ?_) (fun c => absurd c (by decide))
              refine w_iinc (ls2 := [_, _, _, _]) rfl rfl rfl (w_goto (tgt := 2) rfl rfl ?_)
              exact ihn
      · rw [show linE f e = false from decide_eq_false q] at hst
        rw [if_neg q] at hln
        have ihn := ihn hst
        refine w_iload rfl rfl (w_aload rfl rfl (w_getIV rfl (by first | rfl | assumption) (by first | exact Or.inl rfl | exact Or.inr rfl) (hS4) ?_))
        refine w_icmp_ge (tgt := 55) rfl (by first | assumption | exact i32_0 | (unfold i32 at *; omega)) (by first | assumption | exact i32_0 | (unfold i32 at *; omega)) rfl (fun c7 => ?_) (fun c7 => ?_)
        · skip
          exfalso; omega
        · skip
          refine w_iload rfl rfl (w_aload rfl rfl (w_getR rfl (by first | rfl | assumption) rfl (by first | rfl | assumption | (rw [Int.toNat_natCast]; assumption)) (w_alen rfl (by first | rfl | assumption) (by decide) (by decide) ?_)))
          refine w_icmp_ge (tgt := 55) rfl (by first | assumption | exact i32_0 | (unfold i32 at *; omega)) (by first | assumption | exact i32_0 | (unfold i32 at *; omega)) rfl (fun c16 => ?_) (fun c16 => ?_)
          · skip
            exfalso; omega
          · skip
            refine w_aload rfl rfl (w_getR rfl (by first | rfl | assumption) rfl (by first | rfl | assumption | (rw [Int.toNat_natCast]; assumption)) (w_iload rfl rfl (w_aaload rfl (by first | rfl | assumption) (by first | exact Or.inl rfl | exact Or.inr rfl) (by omega) (by omega) (by first | rfl | assumption | (rw [Int.toNat_natCast]; assumption)) (w_aload rfl rfl ?_))))
            refine w_call (Or.inr rfl) ((hln)) (by omega) nof_146 rfl rfl rfl rfl (by first | rfl | (show cKB[_]? = _; assumption)) rfl ?_
            refine w_if_eq (tgt := 49) rfl (by first | assumption | exact i32_0 | (unfold i32 at *; omega)) rfl (fun _ => ?_) (fun c => absurd c (by decide))
            refine w_iinc (ls2 := [_, _, _, _]) rfl rfl rfl (w_goto (tgt := 2) rfl rfl ?_)
            exact ihn
  have hgo := loop S.length 0 (Nat.sub_zero _) (Nat.zero_le _) rfl
  refine w_iconst rfl (w_istore (ls2 := [_, _, _, _]) rfl rfl rfl ?_)
  exact hgo
def likeR (C : List Pt) (R : List (Nat → Int)) (K : List Pt) (S : List (Nat → Int)) : Bool := decide (R.length = S.length) && R.all fun e => hasE K S C e
theorem e_hasEdgesOf {s t s2 t2 : Nat} {C K : List Pt} {R S : List (Nat → Int)} {M : mM} (hs : isS s t) (hs2 : isS s2 t2) (hC : PtR (s + 1) C M) (hK : PtR (s2 + 1) K M) (hR : edgs s R M) (hS : edgs s2 S M) (hok : rowsOK C.length R) (hst : rowsSt C.length R) (hok2 : rowsOK K.length S) (hst2 : rowsSt K.length S) : E 5 144 [vR s, vR s2] M (some (vI (if likeR C R K S = true then 1 else 0))) M := by
  have hss := hs
  obtain ⟨⟨k0, k1, k2, k3, k4, k5⟩, ⟨kE, -, -⟩, -⟩ := hs
  have hs20 : cKB[s2]? = some (0, 7) := hs2.1.1
  have hl30 := hR.2.1
  have hl30b := hS.2.1
  have hR4 := hR.1
  have hS4 := hS.1
  refine e_in (ls := [vR s, vR s2, vN]) mq_144 (ml_144 rfl) rfl fun D hD => ?_
  by_cases ql : R.length = S.length
  · have hlk : likeR C R K S = R.all fun e => hasE K S C e := by unfold likeR; rw [decide_eq_true ql]; rfl
    rw [hlk]
    have loop : ∀ (z n : Nat), R.length - n = z → n ≤ R.length → (R.all fun e => hasE K S C e) = ((R.drop n).all fun e => hasE K S C e) → Wp mc_144 D 15 [vR s, vR s2, vI n] [] M (fun r N => r = some (vI (if (R.all fun e => hasE K S C e) = true then 1 else 0)) ∧ N = M) := by
      intro z
      induction z with
      | zero =>
        intro n hz hn hop
        have hf : (R.all fun e => hasE K S C e) = true := by rw [hop, List.drop_of_length_le (by omega)]; rfl
        rw [hf]
        refine w_iload rfl rfl (w_aload rfl rfl (w_getIV rfl (by first | rfl | assumption) (by first | exact Or.inl rfl | exact Or.inr rfl) (hR4) ?_))
        refine w_icmp_ge (tgt := 54) rfl (by first | assumption | exact i32_0 | (unfold i32 at *; omega)) (by first | assumption | exact i32_0 | (unfold i32 at *; omega)) rfl (fun c20 => ?_) (fun c20 => ?_)
        · skip
          refine w_iconst rfl ?_
          exact w_zreturn rfl (by first | exact Or.inl rfl | exact Or.inr rfl | omega | assumption) ⟨by first | rfl | (congr 2; omega), by rfl⟩
        · skip
          exfalso; omega
      | succ z ih =>
        intro n hz hn hop
        have hnl : n < R.length := by omega
        have hx := edgs_row hss (k := n) (by omega)
        have hxr := hx.1
        have hxe : cKB[s + 10 + n]? = some (0, 0) := hx.2
        have hr : R[n]? = some R[n] := List.getElem?_eq_getElem hnl
        have hE := hR.2.2 n _ hr
        have hoe := hok R[n] (List.getElem_mem hnl)
        have h4e := hst R[n] (List.getElem_mem hnl)
        have hcons : R.drop n = R[n] :: R.drop (n + 1) := List.drop_eq_getElem_cons hnl
        have hal : (R.all fun e => hasE K S C e) = (hasE K S C R[n] && (R.drop (n + 1)).all fun e => hasE K S C e) := by rw [hop, hcons, List.all_cons]
        have ihn := ih (n + 1) (by omega) (by omega)
        have hhe := e_hasEdge hss hs2 hC hK hS hok2 hst2 hx.2 hE hoe.1 h4e (fun z => (hoe.2.2 z).2.1)
        by_cases q : hasE K S C R[n] = true
        · rw [q] at hal
          rw [if_pos q] at hhe
          have ihn := ihn hal
          refine w_iload rfl rfl (w_aload rfl rfl (w_getIV rfl (by first | rfl | assumption) (by first | exact Or.inl rfl | exact Or.inr rfl) (hR4) ?_))
          refine w_icmp_ge (tgt := 54) rfl (by first | assumption | exact i32_0 | (unfold i32 at *; omega)) (by first | assumption | exact i32_0 | (unfold i32 at *; omega)) rfl (fun c20 => ?_) (fun c20 => ?_)
          · skip
            exfalso; omega
          · skip
            refine w_iload rfl rfl (w_aload rfl rfl (w_getR rfl (by first | rfl | assumption) rfl (by first | rfl | assumption | (rw [Int.toNat_natCast]; assumption)) (w_alen rfl (by first | rfl | assumption) (by decide) (by decide) ?_)))
            refine w_icmp_ge (tgt := 54) rfl (by first | assumption | exact i32_0 | (unfold i32 at *; omega)) (by first | assumption | exact i32_0 | (unfold i32 at *; omega)) rfl (fun c29 => ?_) (fun c29 => ?_)
            · skip
              exfalso; omega
            · skip
              refine w_aload rfl rfl (w_aload rfl rfl (w_aload rfl rfl (w_getR rfl (by first | rfl | assumption) rfl (by first | rfl | assumption | (rw [Int.toNat_natCast]; assumption)) (w_iload rfl rfl (w_aaload rfl (by first | rfl | assumption) (by first | exact Or.inl rfl | exact Or.inr rfl) (by omega) (by omega) (by first | rfl | assumption | (rw [Int.toNat_natCast]; assumption)) ?_)))))
              refine w_call (Or.inr rfl) ((hhe)) (by omega) nof_145 rfl rfl rfl rfl (by first | rfl | (show cKB[_]? = _; assumption)) rfl ?_
              refine w_if_ne (tgt := 48) rfl (by first | assumption | exact i32_0 | (unfold i32 at *; omega)) rfl (fun _ => ?_) (fun c => absurd c (by decide))
              refine w_iinc (ls2 := [_, _, _]) rfl rfl rfl (w_goto (tgt := 15) rfl rfl ?_)
              exact ihn
        · rw [if_neg q] at hhe
          have q : hasE K S C R[n] = false := Bool.eq_false_iff.mpr q
          rw [q] at hal
          have hal : (R.all fun e => hasE K S C e) = false := hal
          rw [hal]
          refine w_iload rfl rfl (w_aload rfl rfl (w_getIV rfl (by first | rfl | assumption) (by first | exact Or.inl rfl | exact Or.inr rfl) (hR4) ?_))
          refine w_icmp_ge (tgt := 54) rfl (by first | assumption | exact i32_0 | (unfold i32 at *; omega)) (by first | assumption | exact i32_0 | (unfold i32 at *; omega)) rfl (fun c20 => ?_) (fun c20 => ?_)
          · skip
            exfalso; omega
          · skip
            refine w_iload rfl rfl (w_aload rfl rfl (w_getR rfl (by first | rfl | assumption) rfl (by first | rfl | assumption | (rw [Int.toNat_natCast]; assumption)) (w_alen rfl (by first | rfl | assumption) (by decide) (by decide) ?_)))
            refine w_icmp_ge (tgt := 54) rfl (by first | assumption | exact i32_0 | (unfold i32 at *; omega)) (by first | assumption | exact i32_0 | (unfold i32 at *; omega)) rfl (fun c29 => ?_) (fun c29 => ?_)
            · skip
              exfalso; omega
            · skip
              refine w_aload rfl rfl (w_aload rfl rfl (w_aload rfl rfl (w_getR rfl (by first | rfl | assumption) rfl (by first | rfl | assumption | (rw [Int.toNat_natCast]; assumption)) (w_iload rfl rfl (w_aaload rfl (by first | rfl | assumption) (by first | exact Or.inl rfl | exact Or.inr rfl) (by omega) (by omega) (by first | rfl | assumption | (rw [Int.toNat_natCast]; assumption)) ?_)))))
              refine w_call (Or.inr rfl) ((hhe)) (by omega) nof_145 rfl rfl rfl rfl (by first | rfl | (show cKB[_]? = _; assumption)) rfl ?_
              refine w_if_ne (tgt := 48) rfl (by first | assumption | exact i32_0 | (unfold i32 at *; omega)) rfl (fun c => absurd c (by decide)) (fun _ => ?_)
              refine w_iconst rfl ?_
              exact w_zreturn rfl (by first | exact Or.inl rfl | exact Or.inr rfl | omega | assumption) ⟨by first | rfl | (congr 2; omega), by rfl⟩
    have hgo := loop R.length 0 (Nat.sub_zero _) (Nat.zero_le _) rfl
    refine w_aload rfl rfl (w_getIV rfl (by first | rfl | assumption) (by first | exact Or.inl rfl | exact Or.inr rfl) (hR4) (w_aload rfl rfl (w_getIV rfl (by first | rfl | assumption) (by first | exact Or.inl rfl | exact Or.inr rfl) (hS4) ?_)))
    refine w_icmp_eq (tgt := 13) rfl (by first | assumption | exact i32_0 | (unfold i32 at *; omega)) (by first | assumption | exact i32_0 | (unfold i32 at *; omega)) rfl (fun c8 => ?_) (fun c8 => ?_)
    · skip
      refine w_iconst rfl (w_istore (ls2 := [_, _, _]) rfl rfl rfl ?_)
      exact hgo
    · skip
      exfalso; omega
  · have hlk : likeR C R K S = false := by unfold likeR; rw [decide_eq_false ql]; rfl
    rw [hlk]
    refine w_aload rfl rfl (w_getIV rfl (by first | rfl | assumption) (by first | exact Or.inl rfl | exact Or.inr rfl) (hR4) (w_aload rfl rfl (w_getIV rfl (by first | rfl | assumption) (by first | exact Or.inl rfl | exact Or.inr rfl) (hS4) ?_)))
    refine w_icmp_eq (tgt := 13) rfl (by first | assumption | exact i32_0 | (unfold i32 at *; omega)) (by first | assumption | exact i32_0 | (unfold i32 at *; omega)) rfl (fun c8 => ?_) (fun c8 => ?_)
    · skip
      exfalso; omega
    · skip
      refine w_iconst rfl ?_
      exact w_zreturn rfl (by first | exact Or.inl rfl | exact Or.inr rfl | omega | assumption) ⟨by first | rfl | (congr 2; omega), by rfl⟩
theorem rowsF_st {f : Cv} : rowsSt (cornF f).length (rowsF f) := by
  intro e he
  obtain ⟨k, hk⟩ := List.getElem?_of_mem he
  unfold rowsF at hk
  rw [rowsBr_get] at hk
  cases q : (rowsF0 f)[k]? with
  | none => rw [q] at hk; cases hk
  | some r =>
    rw [q] at hk
    have h1 : (if k < (rowsF0 f).length then sR r 10 (if brK (KF f) (cornF f).length k = true then 1 else 0) else r) = e := by injection hk
    have h2 : e 4 = r 4 := by rw [← h1]; split <;> rfl
    rw [h2]
    obtain ⟨pq, -, hpq⟩ := List.mem_map.mp (List.mem_of_getElem? q)
    rw [← hpq, rowE_4]
    exact (rowN_end (cornF f).length).1
