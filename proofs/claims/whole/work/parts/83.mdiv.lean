/-! ===== the model's divisors ===== -/
theorem m_divisor (a b : Int) (M : mM) (ha : -1000000 ≤ a ∧ a ≤ 1000000) (hb : -1000000 ≤ b ∧ b ≤ 1000000) : E 1 195 [vI a, vI b] M (some (vI ((Nat.gcd a.natAbs b.natAbs : Nat) : Int))) M := by
  refine e_in (ls := [vI a, vI b, vN, vN, vN]) mq_195 (ml_195 rfl) rfl fun D hD => ?_
  have loop : ∀ (m x y : Nat) (w : mV), y ≤ m → x ≤ 1000000 → y ≤ 1000000 → Nat.gcd a.natAbs b.natAbs = Nat.gcd x y → Wp mc_195 D 22 [vI a, vI b, vI x, vI y, w] [] M (fun r N => r = some (vI ((Nat.gcd a.natAbs b.natAbs : Nat) : Int)) ∧ N = M) := by
    intro m
    induction m with
    | zero =>
      intro x y w hm hx hy hg
      obtain rfl : y = 0 := by omega
      rw [Nat.gcd_zero_right] at hg
      rw [hg]
      refine w_iload rfl rfl ?_
      refine w_if_eq (tgt := 39) rfl (by first | assumption | exact i32_0 | (unfold i32 at *; omega)) rfl (fun c23 => ?_) (fun c23 => ?_)
      · skip
        refine w_iload rfl rfl ?_
        exact w_ireturn rfl ⟨by first | rfl | (congr 2; omega), by rfl⟩
      · skip
        exfalso; omega
    | succ m ih =>
      intro x y w hm hx hy hg
      by_cases h0 : y = 0
      · subst h0
        rw [Nat.gcd_zero_right] at hg
        rw [hg]
        refine w_iload rfl rfl ?_
        refine w_if_eq (tgt := 39) rfl (by first | assumption | exact i32_0 | (unfold i32 at *; omega)) rfl (fun c23 => ?_) (fun c23 => ?_)
        · skip
          refine w_iload rfl rfl ?_
          exact w_ireturn rfl ⟨by first | rfl | (congr 2; omega), by rfl⟩
        · skip
          exfalso; omega
      · have hlt := Nat.mod_lt x (show 0 < y by omega)
        have hg2 : Nat.gcd x y = Nat.gcd y (x % y) := by rw [Nat.gcd_comm x y, Nat.gcd_rec y x, Nat.gcd_comm]
        have hgo := fun w => ih y (x % y) w (by omega) (by omega) (by omega) (hg.trans hg2)
        refine w_iload rfl rfl ?_
        refine w_if_eq (tgt := 39) rfl (by first | assumption | exact i32_0 | (unfold i32 at *; omega)) rfl (fun c23 => ?_) (fun c23 => ?_)
        · exfalso; omega
        · skip
          refine w_iload rfl rfl (w_iload rfl rfl (w_irem rfl (by first | assumption | exact i32_0 | (unfold i32 at *; omega)) (by first | assumption | exact i32_0 | (unfold i32 at *; omega)) (by first | decide | omega | assumption) (w_istore (ls2 := [_, _, _, _, _]) rfl rfl rfl (w_iload rfl rfl (w_istore (ls2 := [_, _, _, _, _]) rfl rfl rfl (w_iload rfl rfl (w_istore (ls2 := [_, _, _, _, _]) rfl rfl rfl ?_)))))))
          refine w_goto (tgt := 22) rfl rfl ?_
          exact hgo _
  have hgo : ∀ (X Y : Int), X = (a.natAbs : Int) → Y = (b.natAbs : Int) → Wp mc_195 D 22 [vI a, vI b, vI X, vI Y, vN] [] M (fun r N => r = some (vI ((Nat.gcd a.natAbs b.natAbs : Nat) : Int)) ∧ N = M) := by
    intro X Y hX hY
    subst hX
    subst hY
    exact loop b.natAbs a.natAbs b.natAbs vN (Nat.le_refl _) (by omega) (by omega) rfl
  refine w_iload rfl rfl ?_
  refine w_if_ge (tgt := 9) rfl (by first | assumption | exact i32_0 | (unfold i32 at *; omega)) rfl (fun c1 => ?_) (fun c1 => ?_)
  · skip
    refine w_iload rfl rfl (w_istore (ls2 := [_, _, _, _, _]) rfl rfl rfl (w_iload rfl rfl ?_))
    refine w_if_ge (tgt := 20) rfl (by first | assumption | exact i32_0 | (unfold i32 at *; omega)) rfl (fun c12 => ?_) (fun c12 => ?_)
    · skip
      refine w_iload rfl rfl (w_istore (ls2 := [_, _, _, _, _]) rfl rfl rfl ?_)
      exact hgo _ _ (by omega) (by omega)
    · skip
      refine w_iload rfl rfl (w_ineg rfl (w_goto (tgt := 21) rfl rfl (w_istore (ls2 := [_, _, _, _, _]) rfl rfl rfl ?_)))
      exact hgo _ _ (by omega) (by omega)
  · skip
    refine w_iload rfl rfl (w_ineg rfl (w_goto (tgt := 10) rfl rfl (w_istore (ls2 := [_, _, _, _, _]) rfl rfl rfl (w_iload rfl rfl ?_))))
    refine w_if_ge (tgt := 20) rfl (by first | assumption | exact i32_0 | (unfold i32 at *; omega)) rfl (fun c12 => ?_) (fun c12 => ?_)
    · skip
      refine w_iload rfl rfl (w_istore (ls2 := [_, _, _, _, _]) rfl rfl rfl ?_)
      exact hgo _ _ (by omega) (by omega)
    · skip
      refine w_iload rfl rfl (w_ineg rfl (w_goto (tgt := 21) rfl rfl (w_istore (ls2 := [_, _, _, _, _]) rfl rfl rfl ?_)))
      exact hgo _ _ (by omega) (by omega)
theorem m_commonOf (a : Int) (M : mM) (ha : -10000000000000 ≤ a ∧ a ≤ 10000000000000) : E 1 210 [vL a] M (some (vL (Int.gcd a 720720 : Int))) M := by
  refine e_in (ls := [vL a, vN, vN, vN, vN, vN, vN, vN]) mq_210 (ml_210 rfl) rfl fun D hD => ?_
  have h720 : Int.gcd a 720720 = Nat.gcd 720720 a.natAbs := by rw [Nat.gcd_comm]; rfl
  rw [h720]
  have loop : ∀ (m x y : Nat) (w v : mV), y ≤ m → x ≤ 10000000000000 → y ≤ 10000000000000 → Nat.gcd 720720 a.natAbs = Nat.gcd x y → Wp mc_210 D 18 [vL a, vN, vL y, vN, vL x, vN, w, v] [] M (fun r N => r = some (vL ((Nat.gcd 720720 a.natAbs : Nat) : Int)) ∧ N = M) := by
    intro m
    induction m with
    | zero =>
      intro x y w v hm hx hy hg
      obtain rfl : y = 0 := by omega
      rw [Nat.gcd_zero_right] at hg
      rw [hg]
      refine w_lload rfl rfl (w_lconst rfl ?_)
      refine w_lcmp rfl (by first | assumption | exact i64_0 | (unfold i64 at *; omega)) (by first | assumption | exact i64_0 | (unfold i64 at *; omega)) (fun c20 => ?_) (fun c20 => ?_) (fun c20 => ?_)
      · exfalso; omega
      · exfalso; omega
      · skip
        refine w_if_eq (tgt := 39) rfl (by first | assumption | exact i32_0 | (unfold i32 at *; omega)) rfl (fun _ => ?_) (fun c => absurd c (by decide))
        refine w_lload rfl rfl ?_
        exact w_lreturn rfl ⟨by first | rfl | (congr 2; omega), by rfl⟩
    | succ m ih =>
      intro x y w v hm hx hy hg
      by_cases h0 : y = 0
      · subst h0
        rw [Nat.gcd_zero_right] at hg
        rw [hg]
        refine w_lload rfl rfl (w_lconst rfl ?_)
        refine w_lcmp rfl (by first | assumption | exact i64_0 | (unfold i64 at *; omega)) (by first | assumption | exact i64_0 | (unfold i64 at *; omega)) (fun c20 => ?_) (fun c20 => ?_) (fun c20 => ?_)
        · exfalso; omega
        · exfalso; omega
        · skip
          refine w_if_eq (tgt := 39) rfl (by first | assumption | exact i32_0 | (unfold i32 at *; omega)) rfl (fun _ => ?_) (fun c => absurd c (by decide))
          refine w_lload rfl rfl ?_
          exact w_lreturn rfl ⟨by first | rfl | (congr 2; omega), by rfl⟩
      · have hlt := Nat.mod_lt x (show 0 < y by omega)
        have hg2 : Nat.gcd x y = Nat.gcd y (x % y) := by rw [Nat.gcd_comm x y, Nat.gcd_rec y x, Nat.gcd_comm]
        have hgo := fun w v => ih y (x % y) w v (by omega) (by omega) (by omega) (hg.trans hg2)
        refine w_lload rfl rfl (w_lconst rfl ?_)
        refine w_lcmp rfl (by first | assumption | exact i64_0 | (unfold i64 at *; omega)) (by first | assumption | exact i64_0 | (unfold i64 at *; omega)) (fun c20 => ?_) (fun c20 => ?_) (fun c20 => ?_)
        · exfalso; omega
        · skip
          refine w_if_eq (tgt := 39) rfl (by first | assumption | exact i32_0 | (unfold i32 at *; omega)) rfl (fun c => absurd c (by decide)) (fun _ => ?_)
          refine w_lload rfl rfl (w_lload rfl rfl (w_lrem rfl (by first | assumption | exact i64_0 | (unfold i64 at *; omega)) (by first | assumption | exact i64_0 | (unfold i64 at *; omega)) (by first | decide | omega | assumption) (w_lstore (ls2 := [_, _, _, _, _, _, _, _]) rfl rfl rfl (w_lload rfl rfl (w_lstore (ls2 := [_, _, _, _, _, _, _, _]) rfl rfl rfl (w_lload rfl rfl (w_lstore (ls2 := [_, _, _, _, _, _, _, _]) rfl rfl rfl ?_)))))))
          refine w_goto (tgt := 18) rfl rfl ?_
          exact hgo _ _
        · exfalso; omega
  have hgo : ∀ (X : Int) (w v : mV), X = (a.natAbs : Int) → Wp mc_210 D 18 [vL a, vN, vL X, vN, vL 720720, vN, w, v] [] M (fun r N => r = some (vL ((Nat.gcd 720720 a.natAbs : Nat) : Int)) ∧ N = M) := by
    intro X w v hX
    subst hX
    exact loop a.natAbs 720720 a.natAbs w v (Nat.le_refl _) (by omega) (by omega) rfl
  refine w_lload rfl rfl (w_lconst rfl ?_)
  refine w_lcmp rfl (by first | assumption | exact i64_0 | (unfold i64 at *; omega)) (by first | assumption | exact i64_0 | (unfold i64 at *; omega)) (fun c2 => ?_) (fun c2 => ?_) (fun c2 => ?_)
  · skip
    refine w_if_ge (tgt := 11) rfl (by first | assumption | exact i32_0 | (unfold i32 at *; omega)) rfl (fun c => absurd c (by decide)) (fun _ => ?_)
    refine w_lload rfl rfl (w_lneg rfl (w_goto (tgt := 12) rfl rfl (w_lstore (ls2 := [_, _, _, _, _, _, _, _]) rfl rfl rfl (w_lconst rfl (w_lstore (ls2 := [_, _, _, _, _, _, _, _]) rfl rfl rfl ?_)))))
    exact hgo _ _ _ (by omega)
  · skip
    refine w_if_ge (tgt := 11) rfl (by first | assumption | exact i32_0 | (unfold i32 at *; omega)) rfl (fun _ => ?_) (fun c => absurd c (by decide))
    refine w_lload rfl rfl (w_lstore (ls2 := [_, _, _, _, _, _, _, _]) rfl rfl rfl (w_lconst rfl (w_lstore (ls2 := [_, _, _, _, _, _, _, _]) rfl rfl rfl ?_)))
    exact hgo _ _ _ (by omega)
  · skip
    refine w_if_ge (tgt := 11) rfl (by first | assumption | exact i32_0 | (unfold i32 at *; omega)) rfl (fun _ => ?_) (fun c => absurd c (by decide))
    refine w_lload rfl rfl (w_lstore (ls2 := [_, _, _, _, _, _, _, _]) rfl rfl rfl (w_lconst rfl (w_lstore (ls2 := [_, _, _, _, _, _, _, _]) rfl rfl rfl ?_)))
    exact hgo _ _ _ (by omega)
theorem m_above (a : Int) (M : mM) (ha : -10000000000000 ≤ a ∧ a ≤ 10000000000000) : E 2 209 [vL a] M (some (vL (numP a))) M := by
  have hc := m_commonOf a M ha
  have hp := gcdP_pos a
  have hle : (Int.gcd a 720720 : Int) ≤ 720720 := by
    have := Nat.le_of_dvd (by decide) (Int.gcd_dvd_natAbs_right a 720720)
    omega
  have hn : a.tdiv (Int.gcd a 720720 : Int) = numP a := Int.tdiv_eq_ediv_of_dvd (Int.gcd_dvd_left a 720720)
  rw [← hn]
  generalize (Int.gcd a 720720 : Int) = g at *
  refine e_in (ls := [vL a, vN]) mq_209 (ml_209 rfl) rfl fun D hD => ?_
  refine w_lload rfl rfl (w_lload rfl rfl ?_)
  refine w_call (Or.inl rfl) ((hc)) (by omega) nof_210 rfl rfl rfl rfl trivial rfl ?_
  refine w_ldiv rfl (by first | assumption | exact i64_0 | (unfold i64 at *; omega)) (by first | assumption | exact i64_0 | (unfold i64 at *; omega)) (by first | decide | omega | assumption) ?_
  exact w_lreturn rfl ⟨by first | rfl | (congr 2; omega), by rfl⟩
theorem m_below (a : Int) (M : mM) (ha : -10000000000000 ≤ a ∧ a ≤ 10000000000000) : E 2 211 [vL a] M (some (vL (denP a))) M := by
  have hc := m_commonOf a M ha
  have hp := gcdP_pos a
  have hle : (Int.gcd a 720720 : Int) ≤ 720720 := by
    have := Nat.le_of_dvd (by decide) (Int.gcd_dvd_natAbs_right a 720720)
    omega
  have hn : (720720 : Int).tdiv (Int.gcd a 720720 : Int) = denP a := rfl
  rw [← hn]
  generalize (Int.gcd a 720720 : Int) = g at *
  refine e_in (ls := [vL a, vN]) mq_211 (ml_211 rfl) rfl fun D hD => ?_
  refine w_lconst rfl (w_lload rfl rfl ?_)
  refine w_call (Or.inl rfl) ((hc)) (by omega) nof_210 rfl rfl rfl rfl trivial rfl ?_
  refine w_ldiv rfl (by first | assumption | exact i64_0 | (unfold i64 at *; omega)) (by first | assumption | exact i64_0 | (unfold i64 at *; omega)) (by first | decide | omega | assumption) ?_
  exact w_lreturn rfl ⟨by first | rfl | (congr 2; omega), by rfl⟩
