/-! ===== the model's queries over edges ===== -/
theorem mv_at {a k : Nat} {h : Cv} {M : mM} {n : Nat} (hv : mvE a h M) (hok : rowsOK n (rowsF h)) (hk : k < (rowsF h).length) : (M 166 (((40 * a + k : Nat) : Int).toNat) = ((rowsF h)[k]'hk) 0 ∧ M 167 (((40 * a + k : Nat) : Int).toNat) = ((rowsF h)[k]'hk) 1) ∧ (M 168 (((40 * a + k : Nat) : Int).toNat) = ((rowsF h)[k]'hk) 4 ∧ M 169 (((40 * a + k : Nat) : Int).toNat) = ((rowsF h)[k]'hk) 5) ∧ (M 170 (((40 * a + k : Nat) : Int).toNat) = ((rowsF h)[k]'hk) 6 ∧ M 171 (((40 * a + k : Nat) : Int).toNat) = ((rowsF h)[k]'hk) 7) ∧ edOK ((rowsF h)[k]'hk) :=
  ⟨(hv.2.2 k _ (List.getElem?_eq_getElem hk)).1, (hv.2.2 k _ (List.getElem?_eq_getElem hk)).2.1, (hv.2.2 k _ (List.getElem?_eq_getElem hk)).2.2, (hok _ (List.getElem_mem hk)).1⟩
theorem m_endsAt {a k n0 : Nat} {h : Cv} {M : mM} (ha : a < 2) (hv : mvE a h M) (hok : rowsOK n0 (rowsF h)) (hk : k < 1000) : E 1 212 [vR 155, vI a, vI k] M (some (vI ((rowsF h).countP (fun e => decide (e 4 = (k : Int) ∨ e 5 = (k : Int))) : Nat))) M := by
  have hl30 := hv.2.1
  have h172 : M 172 ((a : Int)).toNat = ((rowsF h).length : Int) := hv.1
  have hat := fun k hk => mv_at (k := k) hv hok hk
  clear hv hok
  generalize rowsF h = R at *
  refine e_in (ls := [vR 155, vI a, vI k, vN, vN]) mq_212 (ml_212 rfl) rfl fun D hD => ?_
  have loop : ∀ (z n : Nat), R.length - n = z → n ≤ R.length → Wp mc_212 D 8 [vR 155, vI a, vI k, vI ((R.take n).countP (fun e => decide (e 4 = (k : Int) ∨ e 5 = (k : Int))) : Nat), vI ((40 * a + n : Nat) : Int)] [] M (fun r N => r = some (vI (R.countP (fun e => decide (e 4 = (k : Int) ∨ e 5 = (k : Int))) : Nat)) ∧ N = M) := by
    intro z
    induction z with
    | zero =>
      intro n hz hn
      obtain rfl : n = R.length := by omega
      rw [List.take_length]
      generalize (R.countP (fun e => decide (e 4 = (k : Int) ∨ e 5 = (k : Int)))) = c at *
      clear hat
      generalize R.length = m at *
      refine w_iload rfl rfl (w_iconst rfl (w_iload rfl rfl (w_imul rfl (w_aload rfl rfl (w_getR rfl (by first | rfl | assumption) rfl (by first | rfl | assumption) (w_iload rfl rfl (w_ialoadV rfl (by first | rfl | assumption) (by omega) (by omega) (h172) ?_)))))))
      refine w_iadd rfl ?_
      refine w_icmp_ge (tgt := 60) rfl (by first | assumption | exact i32_0 | (unfold i32 at *; omega)) (by first | assumption | exact i32_0 | (unfold i32 at *; omega)) rfl (fun c21 => ?_) (fun c21 => ?_)
      · skip
        refine w_iload rfl rfl ?_
        exact w_ireturn rfl ⟨by first | rfl | (congr 2; omega), by rfl⟩
      · skip
        exfalso; omega
    | succ z ih =>
      intro n hz hn
      have hnl : n < R.length := by omega
      have hx := hat n hnl
      have ihn := ih (n + 1) (by omega) (by omega)
      rw [cnt_snoc _ R n hnl] at ihn
      generalize (R.take n).countP (fun e => decide (e 4 = (k : Int) ∨ e 5 = (k : Int))) = c at *
      generalize (R.countP (fun e => decide (e 4 = (k : Int) ∨ e 5 = (k : Int)))) = cc at *
      generalize R[n] = e at *
      obtain ⟨-, ⟨x4, x5⟩, -, hed⟩ := hx
      have o4 := hed.2.2.1
      have o5 := hed.2.2.2.1
      have hi : ((40 * a + n : Nat) : Int) + 1 = ((40 * a + (n + 1) : Nat) : Int) := by omega
      clear hat ih
      generalize R.length = m at *
      by_cases q : e 4 = (k : Int) ∨ e 5 = (k : Int)
      · rw [decide_eq_true q] at ihn
        clear hed
        generalize e 4 = s4 at *
        generalize e 5 = s5 at *
        refine w_iload rfl rfl (w_iconst rfl (w_iload rfl rfl (w_imul rfl (w_aload rfl rfl (w_getR rfl (by first | rfl | assumption) rfl (by first | rfl | assumption) (w_iload rfl rfl (w_ialoadV rfl (by first | rfl | assumption) (by omega) (by omega) (h172) ?_)))))))
        refine w_iadd rfl ?_
        refine w_icmp_ge (tgt := 60) rfl (by first | assumption | exact i32_0 | (unfold i32 at *; omega)) (by first | assumption | exact i32_0 | (unfold i32 at *; omega)) rfl (fun c21 => ?_) (fun c21 => ?_)
        · exfalso; omega
        · skip
          refine w_iload rfl rfl (w_aload rfl rfl (w_getR rfl (by first | rfl | assumption) rfl (by first | rfl | assumption) (w_iload rfl rfl (w_ialoadV rfl (by first | rfl | assumption) (by omega) (by omega) (x4) (w_iload rfl rfl ?_)))))
          refine w_icmp_eq (tgt := 47) rfl (by first | assumption | exact i32_0 | (unfold i32 at *; omega)) (by first | assumption | exact i32_0 | (unfold i32 at *; omega)) rfl (fun c33 => ?_) (fun c33 => ?_)
          · skip
            refine w_iconst rfl (w_goto (tgt := 52) rfl rfl (w_iadd rfl (w_istore (ls2 := [_, _, _, _, _]) rfl rfl rfl (w_iinc (ls2 := [_, _, _, _, _]) rfl rfl rfl ?_))))
            rw [hi]
            refine w_goto (tgt := 8) rfl rfl ?_
            exact ihn
          · skip
            refine w_aload rfl rfl (w_getR rfl (by first | rfl | assumption) rfl (by first | rfl | assumption) (w_iload rfl rfl (w_ialoadV rfl (by first | rfl | assumption) (by omega) (by omega) (x5) (w_iload rfl rfl ?_))))
            refine w_icmp_ne (tgt := 51) rfl (by first | assumption | exact i32_0 | (unfold i32 at *; omega)) (by first | assumption | exact i32_0 | (unfold i32 at *; omega)) rfl (fun c44 => ?_) (fun c44 => ?_)
            · skip
              exfalso; omega
            · skip
              refine w_iconst rfl (w_goto (tgt := 52) rfl rfl (w_iadd rfl (w_istore (ls2 := [_, _, _, _, _]) rfl rfl rfl (w_iinc (ls2 := [_, _, _, _, _]) rfl rfl rfl ?_))))
              rw [hi]
              refine w_goto (tgt := 8) rfl rfl ?_
              exact ihn
      · rw [decide_eq_false q] at ihn
        clear hed
        generalize e 4 = s4 at *
        generalize e 5 = s5 at *
        refine w_iload rfl rfl (w_iconst rfl (w_iload rfl rfl (w_imul rfl (w_aload rfl rfl (w_getR rfl (by first | rfl | assumption) rfl (by first | rfl | assumption) (w_iload rfl rfl (w_ialoadV rfl (by first | rfl | assumption) (by omega) (by omega) (h172) ?_)))))))
        refine w_iadd rfl ?_
        refine w_icmp_ge (tgt := 60) rfl (by first | assumption | exact i32_0 | (unfold i32 at *; omega)) (by first | assumption | exact i32_0 | (unfold i32 at *; omega)) rfl (fun c21 => ?_) (fun c21 => ?_)
        · exfalso; omega
        · skip
          refine w_iload rfl rfl (w_aload rfl rfl (w_getR rfl (by first | rfl | assumption) rfl (by first | rfl | assumption) (w_iload rfl rfl (w_ialoadV rfl (by first | rfl | assumption) (by omega) (by omega) (x4) (w_iload rfl rfl ?_)))))
          refine w_icmp_eq (tgt := 47) rfl (by first | assumption | exact i32_0 | (unfold i32 at *; omega)) (by first | assumption | exact i32_0 | (unfold i32 at *; omega)) rfl (fun c33 => ?_) (fun c33 => ?_)
          · skip
            exfalso; omega
          · skip
            refine w_aload rfl rfl (w_getR rfl (by first | rfl | assumption) rfl (by first | rfl | assumption) (w_iload rfl rfl (w_ialoadV rfl (by first | rfl | assumption) (by omega) (by omega) (x5) (w_iload rfl rfl ?_))))
            refine w_icmp_ne (tgt := 51) rfl (by first | assumption | exact i32_0 | (unfold i32 at *; omega)) (by first | assumption | exact i32_0 | (unfold i32 at *; omega)) rfl (fun c44 => ?_) (fun c44 => ?_)
            · skip
              refine w_iconst rfl (w_iadd rfl (w_istore (ls2 := [_, _, _, _, _]) rfl rfl rfl (w_iinc (ls2 := [_, _, _, _, _]) rfl rfl rfl ?_)))
              rw [hi]
              refine w_goto (tgt := 8) rfl rfl ?_
              exact ihn
            · skip
              exfalso; omega
  have hgo := loop R.length 0 (Nat.sub_zero _) (Nat.zero_le _)
  have hi0 : (40 : Int) * (a : Int) = ((40 * a + 0 : Nat) : Int) := by omega
  clear hat loop
  refine w_iconst rfl (w_istore (ls2 := [_, _, _, _, _]) rfl rfl rfl (w_iconst rfl (w_iload rfl rfl (w_imul rfl ?_))))
  rw [hi0]
  refine w_istore (ls2 := [_, _, _, _, _]) rfl rfl rfl ?_
  exact hgo
theorem m_isSideOf {j k : Nat} {e0 e1 : Int} {M : mM} (hj : j < 80) (hk : k < 1000) (x0 : M 166 ((j : Int)).toNat = e0) (x1 : M 167 ((j : Int)).toNat = e1) (b0 : 0 ≤ e0 ∧ e0 < 21) (b1 : 0 ≤ e1 ∧ e1 < 21) : E 1 221 [vR 155, vI j, vI k] M (some (vI (if e0 = (k : Int) ∨ e1 = (k : Int) then 1 else 0))) M := by
  refine e_in (ls := [vR 155, vI j, vI k]) mq_221 (ml_221 rfl) rfl fun D hD => ?_
  by_cases q : e0 = (k : Int) ∨ e1 = (k : Int)
  · rw [if_pos q]
    refine w_aload rfl rfl (w_getR rfl (by first | rfl | assumption) rfl (by first | rfl | assumption) (w_iload rfl rfl (w_ialoadV rfl (by first | rfl | assumption) (by omega) (by omega) (x0) (w_iload rfl rfl ?_))))
    refine w_icmp_eq (tgt := 20) rfl (by first | assumption | exact i32_0 | (unfold i32 at *; omega)) (by first | assumption | exact i32_0 | (unfold i32 at *; omega)) rfl (fun c7 => ?_) (fun c7 => ?_)
    · skip
      refine w_iconst rfl (w_goto (tgt := 25) rfl rfl ?_)
      exact w_zreturn rfl (by first | exact Or.inl rfl | exact Or.inr rfl | omega | assumption) ⟨by first | rfl | (congr 2; omega), by rfl⟩
    · skip
      refine w_aload rfl rfl (w_getR rfl (by first | rfl | assumption) rfl (by first | rfl | assumption) (w_iload rfl rfl (w_ialoadV rfl (by first | rfl | assumption) (by omega) (by omega) (x1) (w_iload rfl rfl ?_))))
      refine w_icmp_ne (tgt := 24) rfl (by first | assumption | exact i32_0 | (unfold i32 at *; omega)) (by first | assumption | exact i32_0 | (unfold i32 at *; omega)) rfl (fun c17 => ?_) (fun c17 => ?_)
      · skip
        exfalso; omega
      · skip
        refine w_iconst rfl (w_goto (tgt := 25) rfl rfl ?_)
        exact w_zreturn rfl (by first | exact Or.inl rfl | exact Or.inr rfl | omega | assumption) ⟨by first | rfl | (congr 2; omega), by rfl⟩
  · rw [if_neg q]
    refine w_aload rfl rfl (w_getR rfl (by first | rfl | assumption) rfl (by first | rfl | assumption) (w_iload rfl rfl (w_ialoadV rfl (by first | rfl | assumption) (by omega) (by omega) (x0) (w_iload rfl rfl ?_))))
    refine w_icmp_eq (tgt := 20) rfl (by first | assumption | exact i32_0 | (unfold i32 at *; omega)) (by first | assumption | exact i32_0 | (unfold i32 at *; omega)) rfl (fun c7 => ?_) (fun c7 => ?_)
    · skip
      exfalso; omega
    · skip
      refine w_aload rfl rfl (w_getR rfl (by first | rfl | assumption) rfl (by first | rfl | assumption) (w_iload rfl rfl (w_ialoadV rfl (by first | rfl | assumption) (by omega) (by omega) (x1) (w_iload rfl rfl ?_))))
      refine w_icmp_ne (tgt := 24) rfl (by first | assumption | exact i32_0 | (unfold i32 at *; omega)) (by first | assumption | exact i32_0 | (unfold i32 at *; omega)) rfl (fun c17 => ?_) (fun c17 => ?_)
      · skip
        refine w_iconst rfl ?_
        exact w_zreturn rfl (by first | exact Or.inl rfl | exact Or.inr rfl | omega | assumption) ⟨by first | rfl | (congr 2; omega), by rfl⟩
      · skip
        exfalso; omega
theorem m_sides {a k n0 : Nat} {h : Cv} {M : mM} (ha : a < 2) (hv : mvE a h M) (hok : rowsOK n0 (rowsF h)) (hk : k < 1000) : E 2 220 [vR 155, vI a, vI k] M (some (vI ((rowsF h).countP (fun e => sideR e k) : Nat))) M := by
  have hl30 := hv.2.1
  have h172 : M 172 ((a : Int)).toNat = ((rowsF h).length : Int) := hv.1
  have hat := fun k hk => mv_at (k := k) hv hok hk
  clear hv hok
  generalize rowsF h = R at *
  refine e_in (ls := [vR 155, vI a, vI k, vN, vN]) mq_220 (ml_220 rfl) rfl fun D hD => ?_
  have loop : ∀ (z n : Nat), R.length - n = z → n ≤ R.length → Wp mc_220 D 8 [vR 155, vI a, vI k, vI ((R.take n).countP (fun e => sideR e k) : Nat), vI ((40 * a + n : Nat) : Int)] [] M (fun r N => r = some (vI (R.countP (fun e => sideR e k) : Nat)) ∧ N = M) := by
    intro z
    induction z with
    | zero =>
      intro n hz hn
      obtain rfl : n = R.length := by omega
      rw [List.take_length]
      generalize (R.countP (fun e => sideR e k)) = c at *
      clear hat
      generalize R.length = m at *
      refine w_iload rfl rfl (w_iconst rfl (w_iload rfl rfl (w_imul rfl (w_aload rfl rfl (w_getR rfl (by first | rfl | assumption) rfl (by first | rfl | assumption) (w_iload rfl rfl (w_ialoadV rfl (by first | rfl | assumption) (by omega) (by omega) (h172) ?_)))))))
      refine w_iadd rfl ?_
      refine w_icmp_ge (tgt := 48) rfl (by first | assumption | exact i32_0 | (unfold i32 at *; omega)) (by first | assumption | exact i32_0 | (unfold i32 at *; omega)) rfl (fun c21 => ?_) (fun c21 => ?_)
      · skip
        refine w_iload rfl rfl ?_
        exact w_ireturn rfl ⟨by first | rfl | (congr 2; omega), by rfl⟩
      · skip
        exfalso; omega
    | succ z ih =>
      intro n hz hn
      have hnl : n < R.length := by omega
      have hx := hat n hnl
      have ihn := ih (n + 1) (by omega) (by omega)
      rw [cnt_snoc _ R n hnl] at ihn
      generalize (R.take n).countP (fun e => sideR e k) = c at *
      generalize (R.countP (fun e => sideR e k)) = cc at *
      generalize R[n] = e at *
      obtain ⟨⟨x0, x1⟩, -, -, hed⟩ := hx
      obtain ⟨o1, o2, o3, o4⟩ := hed.1
      have his := m_isSideOf (j := 40 * a + n) (k := k) (by omega) hk x0 x1 ⟨o1, o2⟩ ⟨o3, o4⟩
      have hsd : sideR e k = decide (e 0 = (k : Int) ∨ e 1 = (k : Int)) := rfl
      rw [hsd] at ihn
      have hi : ((40 * a + n : Nat) : Int) + 1 = ((40 * a + (n + 1) : Nat) : Int) := by omega
      clear hat ih hed hsd
      generalize R.length = m at *
      by_cases q : e 0 = (k : Int) ∨ e 1 = (k : Int)
      · rw [decide_eq_true q] at ihn
        rw [if_pos q] at his
        refine w_iload rfl rfl (w_iconst rfl (w_iload rfl rfl (w_imul rfl (w_aload rfl rfl (w_getR rfl (by first | rfl | assumption) rfl (by first | rfl | assumption) (w_iload rfl rfl (w_ialoadV rfl (by first | rfl | assumption) (by omega) (by omega) (h172) ?_)))))))
        refine w_iadd rfl ?_
        refine w_icmp_ge (tgt := 48) rfl (by first | assumption | exact i32_0 | (unfold i32 at *; omega)) (by first | assumption | exact i32_0 | (unfold i32 at *; omega)) rfl (fun c21 => ?_) (fun c21 => ?_)
        · exfalso; omega
        · skip
          refine w_iload rfl rfl (w_aload rfl rfl (w_iload rfl rfl (w_iload rfl rfl ?_)))
          refine w_call (Or.inr rfl) ((his)) (by omega) nof_221 rfl rfl rfl rfl (by first | rfl | (show cKB[_]? = _; assumption)) rfl ?_
          refine w_if_eq (tgt := 39) rfl (by first | assumption | exact i32_0 | (unfold i32 at *; omega)) rfl (fun c => absurd c (by decide)) (fun _ => ?_)
          refine w_iconst rfl (w_goto (tgt := 40) rfl rfl (w_iadd rfl (w_istore (ls2 := [_, _, _, _, _]) rfl rfl rfl (w_iinc (ls2 := [_, _, _, _, _]) rfl rfl rfl ?_))))
          rw [hi]
          refine w_goto (tgt := 8) rfl rfl ?_
          exact ihn
      · rw [decide_eq_false q] at ihn
        rw [if_neg q] at his
        refine w_iload rfl rfl (w_iconst rfl (w_iload rfl rfl (w_imul rfl (w_aload rfl rfl (w_getR rfl (by first | rfl | assumption) rfl (by first | rfl | assumption) (w_iload rfl rfl (w_ialoadV rfl (by first | rfl | assumption) (by omega) (by omega) (h172) ?_)))))))
        refine w_iadd rfl ?_
        refine w_icmp_ge (tgt := 48) rfl (by first | assumption | exact i32_0 | (unfold i32 at *; omega)) (by first | assumption | exact i32_0 | (unfold i32 at *; omega)) rfl (fun c21 => ?_) (fun c21 => ?_)
        · exfalso; omega
        · skip
          refine w_iload rfl rfl (w_aload rfl rfl (w_iload rfl rfl (w_iload rfl rfl ?_)))
          refine w_call (Or.inr rfl) ((his)) (by omega) nof_221 rfl rfl rfl rfl (by first | rfl | (show cKB[_]? = _; assumption)) rfl ?_
          refine w_if_eq (tgt := 39) rfl (by first | assumption | exact i32_0 | (unfold i32 at *; omega)) rfl (fun _ => ?_) (fun c => absurd c (by decide))
          refine w_iconst rfl (w_iadd rfl (w_istore (ls2 := [_, _, _, _, _]) rfl rfl rfl (w_iinc (ls2 := [_, _, _, _, _]) rfl rfl rfl ?_)))
          rw [hi]
          refine w_goto (tgt := 8) rfl rfl ?_
          exact ihn
  have hgo := loop R.length 0 (Nat.sub_zero _) (Nat.zero_le _)
  have hi0 : (40 : Int) * (a : Int) = ((40 * a + 0 : Nat) : Int) := by omega
  clear hat loop
  refine w_iconst rfl (w_istore (ls2 := [_, _, _, _, _]) rfl rfl rfl (w_iconst rfl (w_iload rfl rfl (w_imul rfl ?_))))
  rw [hi0]
  refine w_istore (ls2 := [_, _, _, _, _]) rfl rfl rfl ?_
  exact hgo
theorem m_isBounded {j : Nat} {e5 : Int} {M : mM} (hj : j < 80) (x5 : M 169 ((j : Int)).toNat = e5) (b5 : e5 = -1000000 ∨ (0 ≤ e5 ∧ e5 < 16)) : E 1 215 [vR 155, vI j] M (some (vI (if e5 = -1000000 then 0 else 1))) M := by
  refine e_in (ls := [vR 155, vI j]) mq_215 (ml_215 rfl) rfl fun D hD => ?_
  by_cases q : e5 = -1000000
  · rw [if_pos q]
    refine w_aload rfl rfl (w_getR rfl (by first | rfl | assumption) rfl (by first | rfl | assumption) (w_iload rfl rfl (w_ialoadV rfl (by first | rfl | assumption) (by omega) (by omega) (x5) (w_iconst rfl ?_))))
    refine w_icmp_eq (tgt := 15) rfl (by first | assumption | exact i32_0 | (unfold i32 at *; omega)) (by first | assumption | exact i32_0 | (unfold i32 at *; omega)) rfl (fun c8 => ?_) (fun c8 => ?_)
    · skip
      refine w_iconst rfl ?_
      exact w_zreturn rfl (by first | exact Or.inl rfl | exact Or.inr rfl | omega | assumption) ⟨by first | rfl | (congr 2; omega), by rfl⟩
    · skip
      exfalso; omega
  · rw [if_neg q]
    refine w_aload rfl rfl (w_getR rfl (by first | rfl | assumption) rfl (by first | rfl | assumption) (w_iload rfl rfl (w_ialoadV rfl (by first | rfl | assumption) (by omega) (by omega) (x5) (w_iconst rfl ?_))))
    refine w_icmp_eq (tgt := 15) rfl (by first | assumption | exact i32_0 | (unfold i32 at *; omega)) (by first | assumption | exact i32_0 | (unfold i32 at *; omega)) rfl (fun c8 => ?_) (fun c8 => ?_)
    · skip
      exfalso; omega
    · skip
      refine w_iconst rfl (w_goto (tgt := 16) rfl rfl ?_)
      exact w_zreturn rfl (by first | exact Or.inl rfl | exact Or.inr rfl | omega | assumption) ⟨by first | rfl | (congr 2; omega), by rfl⟩
