/-! ===== the model's holes ===== -/
theorem m_holes {a n0 : Nat} {h : Cv} {M : mM} (ha : a < 2) (hc : mcur (25 * a) h M) (hf : Cok 999 h) (hv : mvE a h M) (hok : rowsOK n0 (rowsF h)) : E 4 236 [vR 155, vI a] M (some (vI (fb_ct (fun k => hasF h k && decide (kindR h (rowsF h) k = 1)) 21 : Nat))) M := by
  rw [← fb_ct25 (P := fun k => hasF h k && decide (kindR h (rowsF h) k = 1)) (fun k hk => by
    have : hasF h k = false := by unfold hasF; rw [f_hi hf hk]; rfl
    rw [this, Bool.false_and])]
  have hk0 : ∀ k, decide (kindR h (rowsF h) k = 1) = (decide (0 < sidR (rowsF h) k) && !openR (rowsF h) k) := by
    intro k
    unfold kindR
    by_cases z : sidR (rowsF h) k = 0
    · rw [if_pos z, decide_eq_false (show ¬ 0 < sidR (rowsF h) k by omega), Bool.false_and]
      split <;> rfl
    · rw [if_neg z, decide_eq_true (show 0 < sidR (rowsF h) k by omega), Bool.true_and]
      cases openR (rowsF h) k <;> rfl
  have hhi := fun k hk => m_isClosed (k := k) ha hv hok hk
  refine e_in (ls := [vR 155, vI a, vN, vN]) mq_236 (ml_236 rfl) rfl fun D hD => ?_
  generalize hP : (fun k => hasF h k && decide (kindR h (rowsF h) k = 1)) = P
  have loop : ∀ (z n : Nat), 25 - n = z → n ≤ 25 → Wp mc_236 D 4 [vR 155, vI a, vI (fb_ct P n : Nat), vI n] [] M (fun r N => r = some (vI (fb_ct P 25 : Nat)) ∧ N = M) := by
    intro z
    induction z with
    | zero =>
      intro n hz hn
      obtain rfl : n = 25 := by omega
      refine w_iload rfl rfl (w_iconst rfl ?_)
      refine w_icmp_ge (tgt := 42) rfl (by first | assumption | exact i32_0 | (unfold i32 at *; omega)) (by first | assumption | exact i32_0 | (unfold i32 at *; omega)) rfl (fun c7 => ?_) (fun c7 => ?_)
      · skip
        refine w_iload rfl rfl ?_
        exact w_ireturn rfl ⟨by first | rfl | (congr 2; omega), by rfl⟩
      · skip
        exfalso; omega
    | succ z ih =>
      intro n hz hn
      have ihn := ih (n + 1) (by omega) (by omega)
      have hPn : P n = (hasF h n && (decide (0 < sidR (rowsF h) n) && !openR (rowsF h) n)) := by
        rw [← hP, ← hk0 n]
      rw [fb_ct_succ, hPn] at ihn
      have hh := hhi n (by omega)
      clear hhi hk0 ih hP hPn
      generalize fb_ct P n = c at *
      generalize fb_ct P 25 = cc at *
      cases e : hasF h n with
      | false =>
        rw [e, Bool.false_and] at ihn
        refine w_iload rfl rfl (w_iconst rfl ?_)
        refine w_icmp_ge (tgt := 42) rfl (by first | assumption | exact i32_0 | (unfold i32 at *; omega)) (by first | assumption | exact i32_0 | (unfold i32 at *; omega)) rfl (fun c7 => ?_) (fun c7 => ?_)
        · exfalso; omega
        · skip
          refine w_iload rfl rfl (w_aload rfl rfl (w_iload rfl rfl (w_iload rfl rfl ?_)))
          refine w_call (Or.inr rfl) (m_has0 ha hc hf (by omega) e) (by omega) nof_167 rfl rfl rfl rfl (by first | rfl | (show cKB[_]? = _; assumption)) rfl ?_
          refine w_if_eq (tgt := 33) rfl (by first | assumption | exact i32_0 | (unfold i32 at *; omega)) rfl (fun _ => ?_) (fun c => absurd c (by decide))
          refine w_iconst rfl (w_iadd rfl (w_istore (ls2 := [_, _, _, _]) rfl rfl rfl (w_iinc (ls2 := [_, _, _, _]) rfl rfl rfl (w_goto (tgt := 4) rfl rfl ?_))))
          exact ihn
      | true =>
        rw [e, Bool.true_and] at ihn
        generalize (decide (0 < sidR (rowsF h) n) && !openR (rowsF h) n) = b at *
        cases b with
        | true =>
          refine w_iload rfl rfl (w_iconst rfl ?_)
          refine w_icmp_ge (tgt := 42) rfl (by first | assumption | exact i32_0 | (unfold i32 at *; omega)) (by first | assumption | exact i32_0 | (unfold i32 at *; omega)) rfl (fun c7 => ?_) (fun c7 => ?_)
          · exfalso; omega
          · skip
            refine w_iload rfl rfl (w_aload rfl rfl (w_iload rfl rfl (w_iload rfl rfl ?_)))
            refine w_call (Or.inr rfl) (m_has1 ha hc hf (by omega) e) (by omega) nof_167 rfl rfl rfl rfl (by first | rfl | (show cKB[_]? = _; assumption)) rfl ?_
            refine w_if_eq (tgt := 33) rfl (by first | assumption | exact i32_0 | (unfold i32 at *; omega)) rfl (fun c => absurd c (by decide)) (fun _ => ?_)
            refine w_aload rfl rfl (w_iload rfl rfl (w_iload rfl rfl ?_))
            refine w_call (Or.inr rfl) ((hh)) (by omega) nof_219 rfl rfl rfl rfl (by first | rfl | (show cKB[_]? = _; assumption)) rfl ?_
            refine w_if_eq (tgt := 33) rfl (by first | assumption | exact i32_0 | (unfold i32 at *; omega)) rfl (fun c => absurd c (by decide)) (fun _ => ?_)
            refine w_iconst rfl (w_goto (tgt := 34) rfl rfl (w_iadd rfl (w_istore (ls2 := [_, _, _, _]) rfl rfl rfl (w_iinc (ls2 := [_, _, _, _]) rfl rfl rfl (w_goto (tgt := 4) rfl rfl ?_)))))
            exact ihn
        | false =>
          refine w_iload rfl rfl (w_iconst rfl ?_)
          refine w_icmp_ge (tgt := 42) rfl (by first | assumption | exact i32_0 | (unfold i32 at *; omega)) (by first | assumption | exact i32_0 | (unfold i32 at *; omega)) rfl (fun c7 => ?_) (fun c7 => ?_)
          · exfalso; omega
          · skip
            refine w_iload rfl rfl (w_aload rfl rfl (w_iload rfl rfl (w_iload rfl rfl ?_)))
            refine w_call (Or.inr rfl) (m_has1 ha hc hf (by omega) e) (by omega) nof_167 rfl rfl rfl rfl (by first | rfl | (show cKB[_]? = _; assumption)) rfl ?_
            refine w_if_eq (tgt := 33) rfl (by first | assumption | exact i32_0 | (unfold i32 at *; omega)) rfl (fun c => absurd c (by decide)) (fun _ => ?_)
            refine w_aload rfl rfl (w_iload rfl rfl (w_iload rfl rfl ?_))
            refine w_call (Or.inr rfl) ((hh)) (by omega) nof_219 rfl rfl rfl rfl (by first | rfl | (show cKB[_]? = _; assumption)) rfl ?_
            refine w_if_eq (tgt := 33) rfl (by first | assumption | exact i32_0 | (unfold i32 at *; omega)) rfl (fun _ => ?_) (fun c => absurd c (by decide))
            refine w_iconst rfl (w_iadd rfl (w_istore (ls2 := [_, _, _, _]) rfl rfl rfl (w_iinc (ls2 := [_, _, _, _]) rfl rfl rfl (w_goto (tgt := 4) rfl rfl ?_))))
            exact ihn
  have hgo := loop 25 0 rfl (by decide)
  clear loop hhi hk0 hP
  refine w_iconst rfl (w_istore (ls2 := [_, _, _, _]) rfl rfl rfl (w_iconst rfl (w_istore (ls2 := [_, _, _, _]) rfl rfl rfl ?_)))
  exact hgo
