/-! ===== closed regions of the model ===== -/
theorem any_snoc {A : Type} (F : A → Bool) (l : List A) (n : Nat) (h : n < l.length) : (l.take (n + 1)).any F = ((l.take n).any F || F l[n]) := by
  rw [take_snoc l n h, List.any_append]
  simp
theorem m_isClosed {a k n0 : Nat} {h : Cv} {M : mM} (ha : a < 2) (hv : mvE a h M) (hok : rowsOK n0 (rowsF h)) (hk : k < 1000) : E 3 219 [vR 155, vI a, vI k] M (some (vI (if (decide (0 < sidR (rowsF h) k) && !openR (rowsF h) k) = true then 1 else 0))) M := by
  have hsd : E 2 220 [vR 155, vI a, vI k] M (some (vI (sidR (rowsF h) k))) M := m_sides ha hv hok hk
  have hl30 := hv.2.1
  have hcc : sidR (rowsF h) k ≤ (rowsF h).length := List.countP_le_length
  have h172 : M 172 ((a : Int)).toNat = ((rowsF h).length : Int) := hv.1
  have hat := fun k hk => mv_at (k := k) hv hok hk
  clear hv hok
  have hop : openR (rowsF h) k = (rowsF h).any fun e => sideR e k && decide (e 5 = -1000000) := rfl
  rw [hop]
  generalize sidR (rowsF h) k = c at *
  generalize rowsF h = R at *
  refine e_in (ls := [vR 155, vI a, vI k, vN, vN]) mq_219 (ml_219 rfl) rfl fun D hD => ?_
  have loop : ∀ (z n : Nat), R.length - n = z → n ≤ R.length → Wp mc_219 D 21 [vR 155, vI a, vI k, vI (if (decide (0 < c) && !(R.take n).any (fun e => sideR e k && decide (e 5 = -1000000))) = true then 1 else 0), vI ((40 * a + n : Nat) : Int)] [] M (fun r N => r = some (vI (if (decide (0 < c) && !R.any (fun e => sideR e k && decide (e 5 = -1000000))) = true then 1 else 0)) ∧ N = M) := by
    intro z
    induction z with
    | zero =>
      intro n hz hn
      obtain rfl : n = R.length := by omega
      rw [List.take_length]
      clear hat
      generalize (decide (0 < c) && !R.any (fun e => sideR e k && decide (e 5 = -1000000))) = b at *
      generalize R.length = m at *
      cases b with
      | true =>
        refine w_iload rfl rfl (w_iconst rfl (w_iload rfl rfl (w_imul rfl (w_aload rfl rfl (w_getR rfl (by first | rfl | assumption) rfl (by first | rfl | assumption) (w_iload rfl rfl (w_ialoadV rfl (by first | rfl | assumption) (by omega) (by omega) (h172) ?_)))))))
        refine w_iadd rfl ?_
        refine w_icmp_ge (tgt := 72) rfl (by first | assumption | exact i32_0 | (unfold i32 at *; omega)) (by first | assumption | exact i32_0 | (unfold i32 at *; omega)) rfl (fun c34 => ?_) (fun c34 => ?_)
        · skip
          refine w_iload rfl rfl ?_
          exact w_zreturn rfl (by first | exact Or.inl rfl | exact Or.inr rfl | omega | assumption) ⟨by first | rfl | (congr 2; omega), by rfl⟩
        · skip
          exfalso; omega
      | false =>
        refine w_iload rfl rfl (w_iconst rfl (w_iload rfl rfl (w_imul rfl (w_aload rfl rfl (w_getR rfl (by first | rfl | assumption) rfl (by first | rfl | assumption) (w_iload rfl rfl (w_ialoadV rfl (by first | rfl | assumption) (by omega) (by omega) (h172) ?_)))))))
        refine w_iadd rfl ?_
        refine w_icmp_ge (tgt := 72) rfl (by first | assumption | exact i32_0 | (unfold i32 at *; omega)) (by first | assumption | exact i32_0 | (unfold i32 at *; omega)) rfl (fun c34 => ?_) (fun c34 => ?_)
        · skip
          refine w_iload rfl rfl ?_
          exact w_zreturn rfl (by first | exact Or.inl rfl | exact Or.inr rfl | omega | assumption) ⟨by first | rfl | (congr 2; omega), by rfl⟩
        · skip
          exfalso; omega
    | succ z ih =>
      intro n hz hn
      have hnl : n < R.length := by omega
      have hx := hat n hnl
      have ihn := ih (n + 1) (by omega) (by omega)
      rw [any_snoc _ R n hnl] at ihn
      generalize (decide (0 < c) && !R.any (fun e => sideR e k && decide (e 5 = -1000000))) = res at *
      generalize (R.take n).any (fun e => sideR e k && decide (e 5 = -1000000)) = b at *
      generalize R[n] = e at *
      obtain ⟨⟨x0, x1⟩, ⟨-, x5⟩, -, hed⟩ := hx
      obtain ⟨o1, o2, o3, o4⟩ := hed.1
      have his := m_isSideOf (j := 40 * a + n) (k := k) (by omega) hk x0 x1 ⟨o1, o2⟩ ⟨o3, o4⟩
      have hbd := m_isBounded (j := 40 * a + n) (M := M) (by omega) x5 hed.2.2.2.1
      have hsr : sideR e k = decide (e 0 = (k : Int) ∨ e 1 = (k : Int)) := rfl
      rw [hsr] at ihn
      have hi : ((40 * a + n : Nat) : Int) + 1 = ((40 * a + (n + 1) : Nat) : Int) := by omega
      clear hat ih hed hsr hsd
      generalize R.length = m at *
      generalize decide (0 < c) = d at *
      have hbb : (d && !(b || (decide (e 0 = (k : Int) ∨ e 1 = (k : Int)) && decide (e 5 = -1000000)))) = ((d && !b) && !(decide (e 0 = (k : Int) ∨ e 1 = (k : Int)) && decide (e 5 = -1000000))) := by
        cases d <;> cases b <;> simp
      rw [hbb] at ihn
      clear hbb
      generalize (d && !b) = v at *
      cases v with
      | false =>
        have hgo := ihn
        rw [Bool.false_and] at hgo
        refine w_iload rfl rfl (w_iconst rfl (w_iload rfl rfl (w_imul rfl (w_aload rfl rfl (w_getR rfl (by first | rfl | assumption) rfl (by first | rfl | assumption) (w_iload rfl rfl (w_ialoadV rfl (by first | rfl | assumption) (by omega) (by omega) (h172) ?_)))))))
        refine w_iadd rfl ?_
        refine w_icmp_ge (tgt := 72) rfl (by first | assumption | exact i32_0 | (unfold i32 at *; omega)) (by first | assumption | exact i32_0 | (unfold i32 at *; omega)) rfl (fun c34 => ?_) (fun c34 => ?_)
        · exfalso; omega
        · skip
          refine w_iload rfl rfl ?_
          refine w_if_eq (tgt := 64) rfl (by first | assumption | exact i32_0 | (unfold i32 at *; omega)) rfl (fun _ => ?_) (fun c => absurd c (by decide))
          refine w_iconst rfl (w_istore (ls2 := [_, _, _, _, _]) rfl rfl rfl (w_iinc (ls2 := [_, _, _, _, _]) rfl rfl rfl ?_))
          rw [hi]
          refine w_goto (tgt := 21) rfl rfl ?_
          exact hgo
      | true =>
        rw [Bool.true_and] at ihn
        by_cases q : e 0 = (k : Int) ∨ e 1 = (k : Int)
        · rw [if_pos q] at his
          rw [decide_eq_true q, Bool.true_and] at ihn
          by_cases q5 : e 5 = -1000000
          · rw [if_pos q5] at hbd
            rw [decide_eq_true q5] at ihn
            refine w_iload rfl rfl (w_iconst rfl (w_iload rfl rfl (w_imul rfl (w_aload rfl rfl (w_getR rfl (by first | rfl | assumption) rfl (by first | rfl | assumption) (w_iload rfl rfl (w_ialoadV rfl (by first | rfl | assumption) (by omega) (by omega) (h172) ?_)))))))
            refine w_iadd rfl ?_
            refine w_icmp_ge (tgt := 72) rfl (by first | assumption | exact i32_0 | (unfold i32 at *; omega)) (by first | assumption | exact i32_0 | (unfold i32 at *; omega)) rfl (fun c34 => ?_) (fun c34 => ?_)
            · exfalso; omega
            · skip
              refine w_iload rfl rfl ?_
              refine w_if_eq (tgt := 64) rfl (by first | assumption | exact i32_0 | (unfold i32 at *; omega)) rfl (fun c => absurd c (by decide)) (fun _ => ?_)
              refine w_aload rfl rfl (w_iload rfl rfl (w_iload rfl rfl ?_))
              refine w_call (Or.inr rfl) ((his)) (by omega) nof_221 rfl rfl rfl rfl (by first | rfl | (show cKB[_]? = _; assumption)) rfl ?_
              refine w_if_eq (tgt := 60) rfl (by first | assumption | exact i32_0 | (unfold i32 at *; omega)) rfl (fun c => absurd c (by decide)) (fun _ => ?_)
              refine w_aload rfl rfl (w_iload rfl rfl ?_)
              refine w_call (Or.inr rfl) ((hbd)) (by omega) nof_215 rfl rfl rfl rfl (by first | rfl | (show cKB[_]? = _; assumption)) rfl ?_
              refine w_if_eq (tgt := 64) rfl (by first | assumption | exact i32_0 | (unfold i32 at *; omega)) rfl (fun _ => ?_) (fun c => absurd c (by decide))
              refine w_iconst rfl (w_istore (ls2 := [_, _, _, _, _]) rfl rfl rfl (w_iinc (ls2 := [_, _, _, _, _]) rfl rfl rfl ?_))
              rw [hi]
              refine w_goto (tgt := 21) rfl rfl ?_
              exact ihn
          · rw [if_neg q5] at hbd
            rw [decide_eq_false q5] at ihn
            refine w_iload rfl rfl (w_iconst rfl (w_iload rfl rfl (w_imul rfl (w_aload rfl rfl (w_getR rfl (by first | rfl | assumption) rfl (by first | rfl | assumption) (w_iload rfl rfl (w_ialoadV rfl (by first | rfl | assumption) (by omega) (by omega) (h172) ?_)))))))
            refine w_iadd rfl ?_
            refine w_icmp_ge (tgt := 72) rfl (by first | assumption | exact i32_0 | (unfold i32 at *; omega)) (by first | assumption | exact i32_0 | (unfold i32 at *; omega)) rfl (fun c34 => ?_) (fun c34 => ?_)
            · exfalso; omega
            · skip
              refine w_iload rfl rfl ?_
              refine w_if_eq (tgt := 64) rfl (by first | assumption | exact i32_0 | (unfold i32 at *; omega)) rfl (fun c => absurd c (by decide)) (fun _ => ?_)
              refine w_aload rfl rfl (w_iload rfl rfl (w_iload rfl rfl ?_))
              refine w_call (Or.inr rfl) ((his)) (by omega) nof_221 rfl rfl rfl rfl (by first | rfl | (show cKB[_]? = _; assumption)) rfl ?_
              refine w_if_eq (tgt := 60) rfl (by first | assumption | exact i32_0 | (unfold i32 at *; omega)) rfl (fun c => absurd c (by decide)) (fun _ => ?_)
              refine w_aload rfl rfl (w_iload rfl rfl ?_)
              refine w_call (Or.inr rfl) ((hbd)) (by omega) nof_215 rfl rfl rfl rfl (by first | rfl | (show cKB[_]? = _; assumption)) rfl ?_
              refine w_if_eq (tgt := 64) rfl (by first | assumption | exact i32_0 | (unfold i32 at *; omega)) rfl (fun c => absurd c (by decide)) (fun _ => ?_)
              refine w_iconst rfl (w_goto (tgt := 65) rfl rfl (w_istore (ls2 := [_, _, _, _, _]) rfl rfl rfl (w_iinc (ls2 := [_, _, _, _, _]) rfl rfl rfl ?_)))
              rw [hi]
              refine w_goto (tgt := 21) rfl rfl ?_
              exact ihn
        · rw [if_neg q] at his
          rw [decide_eq_false q, Bool.false_and] at ihn
          refine w_iload rfl rfl (w_iconst rfl (w_iload rfl rfl (w_imul rfl (w_aload rfl rfl (w_getR rfl (by first | rfl | assumption) rfl (by first | rfl | assumption) (w_iload rfl rfl (w_ialoadV rfl (by first | rfl | assumption) (by omega) (by omega) (h172) ?_)))))))
          refine w_iadd rfl ?_
          refine w_icmp_ge (tgt := 72) rfl (by first | assumption | exact i32_0 | (unfold i32 at *; omega)) (by first | assumption | exact i32_0 | (unfold i32 at *; omega)) rfl (fun c34 => ?_) (fun c34 => ?_)
          · exfalso; omega
          · skip
            refine w_iload rfl rfl ?_
            refine w_if_eq (tgt := 64) rfl (by first | assumption | exact i32_0 | (unfold i32 at *; omega)) rfl (fun c => absurd c (by decide)) (fun _ => ?_)
            refine w_aload rfl rfl (w_iload rfl rfl (w_iload rfl rfl ?_))
            refine w_call (Or.inr rfl) ((his)) (by omega) nof_221 rfl rfl rfl rfl (by first | rfl | (show cKB[_]? = _; assumption)) rfl ?_
            refine w_if_eq (tgt := 60) rfl (by first | assumption | exact i32_0 | (unfold i32 at *; omega)) rfl (fun _ => ?_) (fun c => absurd c (by decide))
            refine w_iconst rfl (w_goto (tgt := 65) rfl rfl (w_istore (ls2 := [_, _, _, _, _]) rfl rfl rfl (w_iinc (ls2 := [_, _, _, _, _]) rfl rfl rfl ?_)))
            rw [hi]
            refine w_goto (tgt := 21) rfl rfl ?_
            exact ihn
  have hgo := loop R.length 0 (Nat.sub_zero _) (Nat.zero_le _)
  have hi0 : (40 : Int) * (a : Int) = ((40 * a + 0 : Nat) : Int) := by omega
  rw [List.take_zero, List.any_nil, Bool.not_false, Bool.and_true] at hgo
  clear hat loop
  by_cases q : 0 < c
  · rw [decide_eq_true q] at hgo ⊢
    refine w_aload rfl rfl (w_iload rfl rfl (w_iload rfl rfl ?_))
    refine w_call (Or.inr rfl) ((hsd)) (by omega) nof_220 rfl rfl rfl rfl (by first | rfl | (show cKB[_]? = _; assumption)) rfl ?_
    refine w_if_le (tgt := 13) rfl (by first | assumption | exact i32_0 | (unfold i32 at *; omega)) rfl (fun c6 => ?_) (fun c6 => ?_)
    · exfalso; omega
    · skip
      refine w_iconst rfl (w_goto (tgt := 14) rfl rfl (w_istore (ls2 := [_, _, _, _, _]) rfl rfl rfl (w_iconst rfl (w_iload rfl rfl (w_imul rfl ?_)))))
      rw [hi0]
      refine w_istore (ls2 := [_, _, _, _, _]) rfl rfl rfl ?_
      exact hgo
  · rw [decide_eq_false q] at hgo ⊢
    refine w_aload rfl rfl (w_iload rfl rfl (w_iload rfl rfl ?_))
    refine w_call (Or.inr rfl) ((hsd)) (by omega) nof_220 rfl rfl rfl rfl (by first | rfl | (show cKB[_]? = _; assumption)) rfl ?_
    refine w_if_le (tgt := 13) rfl (by first | assumption | exact i32_0 | (unfold i32 at *; omega)) rfl (fun c6 => ?_) (fun c6 => ?_)
    · skip
      refine w_iconst rfl (w_istore (ls2 := [_, _, _, _, _]) rfl rfl rfl (w_iconst rfl (w_iload rfl rfl (w_imul rfl ?_))))
      rw [hi0]
      refine w_istore (ls2 := [_, _, _, _, _]) rfl rfl rfl ?_
      exact hgo
    · exfalso; omega
