/-! ===== what a shape tells of its edges ===== -/
theorem take_snoc {A : Type} : ∀ (l : List A) (n : Nat) (h : n < l.length), l.take (n + 1) = l.take n ++ [l[n]]
  | [], n, h => by simp at h
  | a :: l, 0, _ => rfl
  | a :: l, n + 1, h => by
    have := take_snoc l n (by simpa using h)
    rw [List.take_succ_cons, List.take_succ_cons, this]
    rfl
theorem cnt_snoc {A : Type} (F : A → Bool) (l : List A) (n : Nat) (h : n < l.length) : (l.take (n + 1)).countP F = (l.take n).countP F + if F l[n] = true then 1 else 0 := by
  rw [take_snoc l n h, List.countP_append, List.countP_singleton]
theorem cnt_le {A : Type} (F : A → Bool) (l : List A) (n : Nat) : (l.take n).countP F ≤ l.length := Nat.le_trans List.countP_le_length (by rw [List.length_take]; omega)
theorem e_edgesAt {s t m : Nat} {R : List (Nat → Int)} {M : mM} {k : Nat} (hs : isS s t) (hR : edgs s R M) (hok : rowsOK m R) (hk : k < 1000) : E 2 101 [vR s, vI k] M (some (vI (R.countP (fun e => decide (e 4 = (k : Int) ∨ e 5 = (k : Int))) : Nat))) M := by
  have hss := hs
  obtain ⟨⟨k0, k1, k2, k3, k4, k5⟩, ⟨kE, -, -⟩, -⟩ := hs
  have hl30 := hR.2.1
  have hR4 := hR.1
  refine e_in (ls := [vR s, vI k, vN, vN]) mq_101 (ml_101 rfl) rfl fun D hD => ?_
  have loop : ∀ (z n : Nat), R.length - n = z → n ≤ R.length → Wp mc_101 D 4 [vR s, vI k, vI ((R.take n).countP (fun e => decide (e 4 = (k : Int) ∨ e 5 = (k : Int))) : Nat), vI n] [] M (fun r N => r = some (vI (R.countP (fun e => decide (e 4 = (k : Int) ∨ e 5 = (k : Int))) : Nat)) ∧ N = M) := by
    intro z
    induction z with
    | zero =>
      intro n hz hn
      obtain rfl : n = R.length := by omega
      rw [List.take_length]
      refine w_iload rfl rfl (w_aload rfl rfl (w_getIV rfl (by first | rfl | assumption) (by first | exact Or.inl rfl | exact Or.inr rfl) (hR4) ?_))
      refine w_icmp_ge (tgt := 48) rfl (by first | assumption | exact i32_0 | (unfold i32 at *; omega)) (by first | assumption | exact i32_0 | (unfold i32 at *; omega)) rfl (fun c9 => ?_) (fun c9 => ?_)
      · skip
        refine w_iload rfl rfl ?_
        exact w_ireturn rfl ⟨by first | rfl | (congr 2; omega), by rfl⟩
      · skip
        exfalso; omega
    | succ z ih =>
      intro n hz hn
      have hnl : n < R.length := by omega
      have hx := edgs_row hss (k := n) (by omega)
      have hxr := hx.1
      have hxe : cKB[s + 10 + n]? = some (0, 0) := hx.2
      have hr : R[n]? = some R[n] := List.getElem?_eq_getElem hnl
      have hE := hR.2.2 n _ hr
      have ho := hok R[n] (List.getElem_mem hnl)
      have ihn := ih (n + 1) (by omega) (by omega)
      rw [cnt_snoc _ R n hnl] at ihn
      have hcl := cnt_le (fun e => decide (e 4 = (k : Int) ∨ e 5 = (k : Int))) R n
      generalize (R.take n).countP (fun e => decide (e 4 = (k : Int) ∨ e 5 = (k : Int))) = c at *
      generalize R[n] = e at *
      have htc := e_touches hx.2 hE ho.1 hk
      by_cases q : e 4 = (k : Int) ∨ e 5 = (k : Int)
      · rw [if_pos q] at htc
        rw [decide_eq_true q] at ihn
        refine w_iload rfl rfl (w_aload rfl rfl (w_getIV rfl (by first | rfl | assumption) (by first | exact Or.inl rfl | exact Or.inr rfl) (hR4) ?_))
        refine w_icmp_ge (tgt := 48) rfl (by first | assumption | exact i32_0 | (unfold i32 at *; omega)) (by first | assumption | exact i32_0 | (unfold i32 at *; omega)) rfl (fun c9 => ?_) (fun c9 => ?_)
        · skip
          exfalso; omega
        · skip
          refine w_iload rfl rfl (w_aload rfl rfl (w_getR rfl (by first | rfl | assumption) rfl (by first | rfl | assumption | (rw [Int.toNat_natCast]; assumption)) (w_alen rfl (by first | rfl | assumption) (by decide) (by decide) ?_)))
          refine w_icmp_ge (tgt := 48) rfl (by first | assumption | exact i32_0 | (unfold i32 at *; omega)) (by first | assumption | exact i32_0 | (unfold i32 at *; omega)) rfl (fun c18 => ?_) (fun c18 => ?_)
          · skip
            exfalso; omega
          · skip
            refine w_iload rfl rfl (w_aload rfl rfl (w_getR rfl (by first | rfl | assumption) rfl (by first | rfl | assumption | (rw [Int.toNat_natCast]; assumption)) (w_iload rfl rfl (w_aaload rfl (by first | rfl | assumption) (by first | exact Or.inl rfl | exact Or.inr rfl) (by omega) (by omega) (by first | rfl | assumption | (rw [Int.toNat_natCast]; assumption)) (w_iload rfl rfl ?_)))))
            refine w_call (Or.inr rfl) (htc) (by omega) nof_102 rfl rfl rfl rfl (by first | rfl | (show cKB[_]? = _; assumption)) rfl ?_
            refine w_if_eq (tgt := 39) rfl (by first | assumption | exact i32_0 | (unfold i32 at *; omega)) rfl (fun c => absurd c (by decide)) (fun _ => ?_)
            refine w_iconst rfl (w_goto (tgt := 40) rfl rfl (w_iadd rfl (w_istore (ls2 := [_, _, _, _]) rfl rfl rfl (w_iinc (ls2 := [_, _, _, _]) rfl rfl rfl (w_goto (tgt := 4) rfl rfl ?_)))))
            exact ihn
      · rw [if_neg q] at htc
        rw [decide_eq_false q] at ihn
        refine w_iload rfl rfl (w_aload rfl rfl (w_getIV rfl (by first | rfl | assumption) (by first | exact Or.inl rfl | exact Or.inr rfl) (hR4) ?_))
        refine w_icmp_ge (tgt := 48) rfl (by first | assumption | exact i32_0 | (unfold i32 at *; omega)) (by first | assumption | exact i32_0 | (unfold i32 at *; omega)) rfl (fun c9 => ?_) (fun c9 => ?_)
        · skip
          exfalso; omega
        · skip
          refine w_iload rfl rfl (w_aload rfl rfl (w_getR rfl (by first | rfl | assumption) rfl (by first | rfl | assumption | (rw [Int.toNat_natCast]; assumption)) (w_alen rfl (by first | rfl | assumption) (by decide) (by decide) ?_)))
          refine w_icmp_ge (tgt := 48) rfl (by first | assumption | exact i32_0 | (unfold i32 at *; omega)) (by first | assumption | exact i32_0 | (unfold i32 at *; omega)) rfl (fun c18 => ?_) (fun c18 => ?_)
          · skip
            exfalso; omega
          · skip
            refine w_iload rfl rfl (w_aload rfl rfl (w_getR rfl (by first | rfl | assumption) rfl (by first | rfl | assumption | (rw [Int.toNat_natCast]; assumption)) (w_iload rfl rfl (w_aaload rfl (by first | rfl | assumption) (by first | exact Or.inl rfl | exact Or.inr rfl) (by omega) (by omega) (by first | rfl | assumption | (rw [Int.toNat_natCast]; assumption)) (w_iload rfl rfl ?_)))))
            refine w_call (Or.inr rfl) (htc) (by omega) nof_102 rfl rfl rfl rfl (by first | rfl | (show cKB[_]? = _; assumption)) rfl ?_
            refine w_if_eq (tgt := 39) rfl (by first | assumption | exact i32_0 | (unfold i32 at *; omega)) rfl (fun _ => ?_) (fun c => absurd c (by decide))
            refine w_iconst rfl (w_iadd rfl (w_istore (ls2 := [_, _, _, _]) rfl rfl rfl (w_iinc (ls2 := [_, _, _, _]) rfl rfl rfl (w_goto (tgt := 4) rfl rfl ?_))))
            exact ihn
  have hgo := loop R.length 0 (Nat.sub_zero _) (Nat.zero_le _)
  refine w_iconst rfl (w_istore (ls2 := [_, _, _, _]) rfl rfl rfl (w_iconst rfl (w_istore (ls2 := [_, _, _, _]) rfl rfl rfl ?_)))
  exact hgo
theorem e_withEnds {s t m : Nat} {R : List (Nat → Int)} {M : mM} {w : Nat} (hs : isS s t) (hR : edgs s R M) (hok : rowsOK m R) (hw : w < 1000) : E 2 134 [vR s, vI w] M (some (vI (R.countP (fun e => decide (endsR e = (w : Int))) : Nat))) M := by
  have hss := hs
  obtain ⟨⟨k0, k1, k2, k3, k4, k5⟩, ⟨kE, -, -⟩, -⟩ := hs
  have hl30 := hR.2.1
  have hR4 := hR.1
  refine e_in (ls := [vR s, vI w, vN, vN]) mq_134 (ml_134 rfl) rfl fun D hD => ?_
  have loop : ∀ (z n : Nat), R.length - n = z → n ≤ R.length → Wp mc_134 D 4 [vR s, vI w, vI ((R.take n).countP (fun e => decide (endsR e = (w : Int))) : Nat), vI n] [] M (fun r N => r = some (vI (R.countP (fun e => decide (endsR e = (w : Int))) : Nat)) ∧ N = M) := by
    intro z
    induction z with
    | zero =>
      intro n hz hn
      obtain rfl : n = R.length := by omega
      rw [List.take_length]
      refine w_iload rfl rfl (w_aload rfl rfl (w_getIV rfl (by first | rfl | assumption) (by first | exact Or.inl rfl | exact Or.inr rfl) (hR4) ?_))
      refine w_icmp_ge (tgt := 48) rfl (by first | assumption | exact i32_0 | (unfold i32 at *; omega)) (by first | assumption | exact i32_0 | (unfold i32 at *; omega)) rfl (fun c9 => ?_) (fun c9 => ?_)
      · skip
        refine w_iload rfl rfl ?_
        exact w_ireturn rfl ⟨by first | rfl | (congr 2; omega), by rfl⟩
      · skip
        exfalso; omega
    | succ z ih =>
      intro n hz hn
      have hnl : n < R.length := by omega
      have hx := edgs_row hss (k := n) (by omega)
      have hxr := hx.1
      have hxe : cKB[s + 10 + n]? = some (0, 0) := hx.2
      have hr : R[n]? = some R[n] := List.getElem?_eq_getElem hnl
      have hE := hR.2.2 n _ hr
      have ho := hok R[n] (List.getElem_mem hnl)
      have ihn := ih (n + 1) (by omega) (by omega)
      rw [cnt_snoc _ R n hnl] at ihn
      have hcl := cnt_le (fun e => decide (endsR e = (w : Int))) R n
      generalize (R.take n).countP (fun e => decide (endsR e = (w : Int))) = c at *
      generalize R[n] = e at *
      have hen := e_ends hx.2 hE ho.1
      have hel : 0 ≤ endsR e ∧ endsR e ≤ 2 := by unfold endsR; (repeat' split) <;> omega
      by_cases q : endsR e = (w : Int)
      · rw [decide_eq_true q] at ihn
        refine w_iload rfl rfl (w_aload rfl rfl (w_getIV rfl (by first | rfl | assumption) (by first | exact Or.inl rfl | exact Or.inr rfl) (hR4) ?_))
        refine w_icmp_ge (tgt := 48) rfl (by first | assumption | exact i32_0 | (unfold i32 at *; omega)) (by first | assumption | exact i32_0 | (unfold i32 at *; omega)) rfl (fun c9 => ?_) (fun c9 => ?_)
        · skip
          exfalso; omega
        · skip
          refine w_iload rfl rfl (w_aload rfl rfl (w_getR rfl (by first | rfl | assumption) rfl (by first | rfl | assumption | (rw [Int.toNat_natCast]; assumption)) (w_alen rfl (by first | rfl | assumption) (by decide) (by decide) ?_)))
          refine w_icmp_ge (tgt := 48) rfl (by first | assumption | exact i32_0 | (unfold i32 at *; omega)) (by first | assumption | exact i32_0 | (unfold i32 at *; omega)) rfl (fun c18 => ?_) (fun c18 => ?_)
          · skip
            exfalso; omega
          · skip
            refine w_iload rfl rfl (w_aload rfl rfl (w_getR rfl (by first | rfl | assumption) rfl (by first | rfl | assumption | (rw [Int.toNat_natCast]; assumption)) (w_iload rfl rfl (w_aaload rfl (by first | rfl | assumption) (by first | exact Or.inl rfl | exact Or.inr rfl) (by omega) (by omega) (by first | rfl | assumption | (rw [Int.toNat_natCast]; assumption)) ?_))))
            refine w_call (Or.inr rfl) (hen) (by omega) nof_135 rfl rfl rfl rfl (by first | rfl | (show cKB[_]? = _; assumption)) rfl ?_
            refine w_iload rfl rfl ?_
            refine w_icmp_ne (tgt := 39) rfl (by first | assumption | exact i32_0 | (unfold i32 at *; omega)) (by first | assumption | exact i32_0 | (unfold i32 at *; omega)) rfl (fun c32 => ?_) (fun c32 => ?_)
            · skip
              exfalso; omega
            · skip
              refine w_iconst rfl (w_goto (tgt := 40) rfl rfl (w_iadd rfl (w_istore (ls2 := [_, _, _, _]) rfl rfl rfl (w_iinc (ls2 := [_, _, _, _]) rfl rfl rfl (w_goto (tgt := 4) rfl rfl ?_)))))
              exact ihn
      · rw [decide_eq_false q] at ihn
        refine w_iload rfl rfl (w_aload rfl rfl (w_getIV rfl (by first | rfl | assumption) (by first | exact Or.inl rfl | exact Or.inr rfl) (hR4) ?_))
        refine w_icmp_ge (tgt := 48) rfl (by first | assumption | exact i32_0 | (unfold i32 at *; omega)) (by first | assumption | exact i32_0 | (unfold i32 at *; omega)) rfl (fun c9 => ?_) (fun c9 => ?_)
        · skip
          exfalso; omega
        · skip
          refine w_iload rfl rfl (w_aload rfl rfl (w_getR rfl (by first | rfl | assumption) rfl (by first | rfl | assumption | (rw [Int.toNat_natCast]; assumption)) (w_alen rfl (by first | rfl | assumption) (by decide) (by decide) ?_)))
          refine w_icmp_ge (tgt := 48) rfl (by first | assumption | exact i32_0 | (unfold i32 at *; omega)) (by first | assumption | exact i32_0 | (unfold i32 at *; omega)) rfl (fun c18 => ?_) (fun c18 => ?_)
          · skip
            exfalso; omega
          · skip
            refine w_iload rfl rfl (w_aload rfl rfl (w_getR rfl (by first | rfl | assumption) rfl (by first | rfl | assumption | (rw [Int.toNat_natCast]; assumption)) (w_iload rfl rfl (w_aaload rfl (by first | rfl | assumption) (by first | exact Or.inl rfl | exact Or.inr rfl) (by omega) (by omega) (by first | rfl | assumption | (rw [Int.toNat_natCast]; assumption)) ?_))))
            refine w_call (Or.inr rfl) (hen) (by omega) nof_135 rfl rfl rfl rfl (by first | rfl | (show cKB[_]? = _; assumption)) rfl ?_
            refine w_iload rfl rfl ?_
            refine w_icmp_ne (tgt := 39) rfl (by first | assumption | exact i32_0 | (unfold i32 at *; omega)) (by first | assumption | exact i32_0 | (unfold i32 at *; omega)) rfl (fun c32 => ?_) (fun c32 => ?_)
            · skip
              refine w_iconst rfl (w_iadd rfl (w_istore (ls2 := [_, _, _, _]) rfl rfl rfl (w_iinc (ls2 := [_, _, _, _]) rfl rfl rfl (w_goto (tgt := 4) rfl rfl ?_))))
              exact ihn
            · skip
              exfalso; omega
  have hgo := loop R.length 0 (Nat.sub_zero _) (Nat.zero_le _)
  refine w_iconst rfl (w_istore (ls2 := [_, _, _, _]) rfl rfl rfl (w_iconst rfl (w_istore (ls2 := [_, _, _, _]) rfl rfl rfl ?_)))
  exact hgo
theorem e_bridges {s t m : Nat} {R : List (Nat → Int)} {M : mM} (hs : isS s t) (hR : edgs s R M) (hok : rowsOK m R) : E 1 137 [vR s] M (some (vI (R.countP (fun e => decide (e 10 = 1)) : Nat))) M := by
  have hss := hs
  obtain ⟨⟨k0, k1, k2, k3, k4, k5⟩, ⟨kE, -, -⟩, -⟩ := hs
  have hl30 := hR.2.1
  have hR4 := hR.1
  refine e_in (ls := [vR s, vN, vN]) mq_137 (ml_137 rfl) rfl fun D hD => ?_
  have loop : ∀ (z n : Nat), R.length - n = z → n ≤ R.length → Wp mc_137 D 4 [vR s, vI ((R.take n).countP (fun e => decide (e 10 = 1)) : Nat), vI n] [] M (fun r N => r = some (vI (R.countP (fun e => decide (e 10 = 1)) : Nat)) ∧ N = M) := by
    intro z
    induction z with
    | zero =>
      intro n hz hn
      obtain rfl : n = R.length := by omega
      rw [List.take_length]
      refine w_iload rfl rfl (w_aload rfl rfl (w_getIV rfl (by first | rfl | assumption) (by first | exact Or.inl rfl | exact Or.inr rfl) (hR4) ?_))
      refine w_icmp_ge (tgt := 47) rfl (by first | assumption | exact i32_0 | (unfold i32 at *; omega)) (by first | assumption | exact i32_0 | (unfold i32 at *; omega)) rfl (fun c9 => ?_) (fun c9 => ?_)
      · skip
        refine w_iload rfl rfl ?_
        exact w_ireturn rfl ⟨by first | rfl | (congr 2; omega), by rfl⟩
      · skip
        exfalso; omega
    | succ z ih =>
      intro n hz hn
      have hnl : n < R.length := by omega
      have hx := edgs_row hss (k := n) (by omega)
      have hxr := hx.1
      have hxe : cKB[s + 10 + n]? = some (0, 0) := hx.2
      have hr : R[n]? = some R[n] := List.getElem?_eq_getElem hnl
      have hE := hR.2.2 n _ hr
      have ho := hok R[n] (List.getElem_mem hnl)
      have ihn := ih (n + 1) (by omega) (by omega)
      rw [cnt_snoc _ R n hnl] at ihn
      have hcl := cnt_le (fun e => decide (e 10 = 1)) R n
      generalize (R.take n).countP (fun e => decide (e 10 = 1)) = c at *
      generalize R[n] = e at *
      have h10 := hE 10 (by decide)
      have h10b := ho.2.1
      by_cases q : e 10 = 1
      · rw [decide_eq_true q] at ihn
        refine w_iload rfl rfl (w_aload rfl rfl (w_getIV rfl (by first | rfl | assumption) (by first | exact Or.inl rfl | exact Or.inr rfl) (hR4) ?_))
        refine w_icmp_ge (tgt := 47) rfl (by first | assumption | exact i32_0 | (unfold i32 at *; omega)) (by first | assumption | exact i32_0 | (unfold i32 at *; omega)) rfl (fun c9 => ?_) (fun c9 => ?_)
        · skip
          exfalso; omega
        · skip
          refine w_iload rfl rfl (w_aload rfl rfl (w_getR rfl (by first | rfl | assumption) rfl (by first | rfl | assumption | (rw [Int.toNat_natCast]; assumption)) (w_alen rfl (by first | rfl | assumption) (by decide) (by decide) ?_)))
          refine w_icmp_ge (tgt := 47) rfl (by first | assumption | exact i32_0 | (unfold i32 at *; omega)) (by first | assumption | exact i32_0 | (unfold i32 at *; omega)) rfl (fun c18 => ?_) (fun c18 => ?_)
          · skip
            exfalso; omega
          · skip
            refine w_iload rfl rfl (w_aload rfl rfl (w_getR rfl (by first | rfl | assumption) rfl (by first | rfl | assumption | (rw [Int.toNat_natCast]; assumption)) (w_iload rfl rfl (w_aaload rfl (by first | rfl | assumption) (by first | exact Or.inl rfl | exact Or.inr rfl) (by omega) (by omega) (by first | rfl | assumption | (rw [Int.toNat_natCast]; assumption)) (w_getIV rfl (by first | rfl | assumption) (by first | exact Or.inl rfl | exact Or.inr rfl) (h10) ?_)))))
            refine w_if_eq (tgt := 38) rfl (by first | assumption | exact i32_0 | (unfold i32 at *; omega)) rfl (fun c31 => ?_) (fun c31 => ?_)
            · skip
              exfalso; omega
            · skip
              refine w_iconst rfl (w_goto (tgt := 39) rfl rfl (w_iadd rfl (w_istore (ls2 := [_, _, _]) rfl rfl rfl (w_iinc (ls2 := [_, _, _]) rfl rfl rfl (w_goto (tgt := 4) rfl rfl ?_)))))
              exact ihn
      · rw [decide_eq_false q] at ihn
        refine w_iload rfl rfl (w_aload rfl rfl (w_getIV rfl (by first | rfl | assumption) (by first | exact Or.inl rfl | exact Or.inr rfl) (hR4) ?_))
        refine w_icmp_ge (tgt := 47) rfl (by first | assumption | exact i32_0 | (unfold i32 at *; omega)) (by first | assumption | exact i32_0 | (unfold i32 at *; omega)) rfl (fun c9 => ?_) (fun c9 => ?_)
        · skip
          exfalso; omega
        · skip
          refine w_iload rfl rfl (w_aload rfl rfl (w_getR rfl (by first | rfl | assumption) rfl (by first | rfl | assumption | (rw [Int.toNat_natCast]; assumption)) (w_alen rfl (by first | rfl | assumption) (by decide) (by decide) ?_)))
          refine w_icmp_ge (tgt := 47) rfl (by first | assumption | exact i32_0 | (unfold i32 at *; omega)) (by first | assumption | exact i32_0 | (unfold i32 at *; omega)) rfl (fun c18 => ?_) (fun c18 => ?_)
          · skip
            exfalso; omega
          · skip
            refine w_iload rfl rfl (w_aload rfl rfl (w_getR rfl (by first | rfl | assumption) rfl (by first | rfl | assumption | (rw [Int.toNat_natCast]; assumption)) (w_iload rfl rfl (w_aaload rfl (by first | rfl | assumption) (by first | exact Or.inl rfl | exact Or.inr rfl) (by omega) (by omega) (by first | rfl | assumption | (rw [Int.toNat_natCast]; assumption)) (w_getIV rfl (by first | rfl | assumption) (by first | exact Or.inl rfl | exact Or.inr rfl) (h10) ?_)))))
            refine w_if_eq (tgt := 38) rfl (by first | assumption | exact i32_0 | (unfold i32 at *; omega)) rfl (fun c31 => ?_) (fun c31 => ?_)
            · skip
              refine w_iconst rfl (w_iadd rfl (w_istore (ls2 := [_, _, _]) rfl rfl rfl (w_iinc (ls2 := [_, _, _]) rfl rfl rfl (w_goto (tgt := 4) rfl rfl ?_))))
              exact ihn
            · skip
              exfalso; omega
  have hgo := loop R.length 0 (Nat.sub_zero _) (Nat.zero_le _)
  refine w_iconst rfl (w_istore (ls2 := [_, _, _]) rfl rfl rfl (w_iconst rfl (w_istore (ls2 := [_, _, _]) rfl rfl rfl ?_)))
  exact hgo
theorem e_sidesOf {s t m : Nat} {R : List (Nat → Int)} {M : mM} {k : Nat} (hs : isS s t) (hR : edgs s R M) (hok : rowsOK m R) (hk : k < 1000) : E 2 107 [vR s, vI k] M (some (vI (R.countP (fun e => sideR e k) : Nat))) M := by
  have hss := hs
  obtain ⟨⟨k0, k1, k2, k3, k4, k5⟩, ⟨kE, -, -⟩, -⟩ := hs
  have hl30 := hR.2.1
  have hR4 := hR.1
  refine e_in (ls := [vR s, vI k, vN, vN]) mq_107 (ml_107 rfl) rfl fun D hD => ?_
  have loop : ∀ (z n : Nat), R.length - n = z → n ≤ R.length → Wp mc_107 D 4 [vR s, vI k, vI ((R.take n).countP (fun e => sideR e k) : Nat), vI n] [] M (fun r N => r = some (vI (R.countP (fun e => sideR e k) : Nat)) ∧ N = M) := by
    intro z
    induction z with
    | zero =>
      intro n hz hn
      obtain rfl : n = R.length := by omega
      rw [List.take_length]
      refine w_iload rfl rfl (w_aload rfl rfl (w_getIV rfl (by first | rfl | assumption) (by first | exact Or.inl rfl | exact Or.inr rfl) (hR4) ?_))
      refine w_icmp_ge (tgt := 48) rfl (by first | assumption | exact i32_0 | (unfold i32 at *; omega)) (by first | assumption | exact i32_0 | (unfold i32 at *; omega)) rfl (fun c9 => ?_) (fun c9 => ?_)
      · skip
        refine w_iload rfl rfl ?_
        exact w_ireturn rfl ⟨by first | rfl | (congr 2; omega), by rfl⟩
      · skip
        exfalso; omega
    | succ z ih =>
      intro n hz hn
      have hnl : n < R.length := by omega
      have hx := edgs_row hss (k := n) (by omega)
      have hxr := hx.1
      have hxe : cKB[s + 10 + n]? = some (0, 0) := hx.2
      have hr : R[n]? = some R[n] := List.getElem?_eq_getElem hnl
      have hE := hR.2.2 n _ hr
      have ho := hok R[n] (List.getElem_mem hnl)
      have ihn := ih (n + 1) (by omega) (by omega)
      rw [cnt_snoc _ R n hnl] at ihn
      have hcl := cnt_le (fun e => sideR e k) R n
      generalize (R.take n).countP (fun e => sideR e k) = c at *
      generalize R[n] = e at *
      cases q : sideR e k with
      | true =>
        rw [q] at ihn
        refine w_iload rfl rfl (w_aload rfl rfl (w_getIV rfl (by first | rfl | assumption) (by first | exact Or.inl rfl | exact Or.inr rfl) (hR4) ?_))
        refine w_icmp_ge (tgt := 48) rfl (by first | assumption | exact i32_0 | (unfold i32 at *; omega)) (by first | assumption | exact i32_0 | (unfold i32 at *; omega)) rfl (fun c9 => ?_) (fun c9 => ?_)
        · skip
          exfalso; omega
        · skip
          refine w_iload rfl rfl (w_aload rfl rfl (w_getR rfl (by first | rfl | assumption) rfl (by first | rfl | assumption | (rw [Int.toNat_natCast]; assumption)) (w_alen rfl (by first | rfl | assumption) (by decide) (by decide) ?_)))
          refine w_icmp_ge (tgt := 48) rfl (by first | assumption | exact i32_0 | (unfold i32 at *; omega)) (by first | assumption | exact i32_0 | (unfold i32 at *; omega)) rfl (fun c18 => ?_) (fun c18 => ?_)
          · skip
            exfalso; omega
          · skip
            refine w_iload rfl rfl (w_aload rfl rfl (w_getR rfl (by first | rfl | assumption) rfl (by first | rfl | assumption | (rw [Int.toNat_natCast]; assumption)) (w_iload rfl rfl (w_aaload rfl (by first | rfl | assumption) (by first | exact Or.inl rfl | exact Or.inr rfl) (by omega) (by omega) (by first | rfl | assumption | (rw [Int.toNat_natCast]; assumption)) (w_iload rfl rfl ?_)))))
            refine w_call (Or.inr rfl) (e_isSideOf1 hx.2 hE ho.1 hk q) (by omega) nof_108 rfl rfl rfl rfl (by first | rfl | (show cKB[_]? = _; assumption)) rfl ?_
            refine w_if_eq (tgt := 39) rfl (by first | assumption | exact i32_0 | (unfold i32 at *; omega)) rfl (fun c => absurd c (by decide)) (fun _ => ?_)
            refine w_iconst rfl (w_goto (tgt := 40) rfl rfl (w_iadd rfl (w_istore (ls2 := [_, _, _, _]) rfl rfl rfl (w_iinc (ls2 := [_, _, _, _]) rfl rfl rfl (w_goto (tgt := 4) rfl rfl ?_)))))
            exact ihn
      | false =>
        rw [q] at ihn
        refine w_iload rfl rfl (w_aload rfl rfl (w_getIV rfl (by first | rfl | assumption) (by first | exact Or.inl rfl | exact Or.inr rfl) (hR4) ?_))
        refine w_icmp_ge (tgt := 48) rfl (by first | assumption | exact i32_0 | (unfold i32 at *; omega)) (by first | assumption | exact i32_0 | (unfold i32 at *; omega)) rfl (fun c9 => ?_) (fun c9 => ?_)
        · skip
          exfalso; omega
        · skip
          refine w_iload rfl rfl (w_aload rfl rfl (w_getR rfl (by first | rfl | assumption) rfl (by first | rfl | assumption | (rw [Int.toNat_natCast]; assumption)) (w_alen rfl (by first | rfl | assumption) (by decide) (by decide) ?_)))
          refine w_icmp_ge (tgt := 48) rfl (by first | assumption | exact i32_0 | (unfold i32 at *; omega)) (by first | assumption | exact i32_0 | (unfold i32 at *; omega)) rfl (fun c18 => ?_) (fun c18 => ?_)
          · skip
            exfalso; omega
          · skip
            refine w_iload rfl rfl (w_aload rfl rfl (w_getR rfl (by first | rfl | assumption) rfl (by first | rfl | assumption | (rw [Int.toNat_natCast]; assumption)) (w_iload rfl rfl (w_aaload rfl (by first | rfl | assumption) (by first | exact Or.inl rfl | exact Or.inr rfl) (by omega) (by omega) (by first | rfl | assumption | (rw [Int.toNat_natCast]; assumption)) (w_iload rfl rfl ?_)))))
            refine w_call (Or.inr rfl) (e_isSideOf0 hx.2 hE ho.1 hk q) (by omega) nof_108 rfl rfl rfl rfl (by first | rfl | (show cKB[_]? = _; assumption)) rfl ?_
            refine w_if_eq (tgt := 39) rfl (by first | assumption | exact i32_0 | (unfold i32 at *; omega)) rfl (fun _ => ?_) (fun c => absurd c (by decide))
            refine w_iconst rfl (w_iadd rfl (w_istore (ls2 := [_, _, _, _]) rfl rfl rfl (w_iinc (ls2 := [_, _, _, _]) rfl rfl rfl (w_goto (tgt := 4) rfl rfl ?_))))
            exact ihn
  have hgo := loop R.length 0 (Nat.sub_zero _) (Nat.zero_le _)
  refine w_iconst rfl (w_istore (ls2 := [_, _, _, _]) rfl rfl rfl (w_iconst rfl (w_istore (ls2 := [_, _, _, _]) rfl rfl rfl ?_)))
  exact hgo
def maxW (R : List (Nat → Int)) (n : Nat) : Int := (R.take n).foldl (fun a e => max a (e 3)) 0
theorem maxW_snoc (R : List (Nat → Int)) (n : Nat) (h : n < R.length) : maxW R (n + 1) = max (maxW R n) (R[n] 3) := by
  unfold maxW; rw [take_snoc R n h, List.foldl_append]; rfl
theorem maxW_le {m : Nat} {R : List (Nat → Int)} (hok : rowsOK m R) : ∀ n, n ≤ R.length → 0 ≤ maxW R n ∧ maxW R n ≤ 4
  | 0, _ => ⟨Int.le_refl (0 : Int), show (0 : Int) ≤ 4 by decide⟩
  | n + 1, h => by
    rw [maxW_snoc R n (by omega)]
    have ih := maxW_le hok n (by omega)
    have := (hok R[n] (List.getElem_mem (by omega))).1.2.2.2.2.2
    omega
theorem e_greatestWeight {s t m : Nat} {R : List (Nat → Int)} {M : mM} (hs : isS s t) (hR : edgs s R M) (hok : rowsOK m R) : E 2 140 [vR s] M (some (vI (maxW R R.length))) M := by
  have hss := hs
  obtain ⟨⟨k0, k1, k2, k3, k4, k5⟩, ⟨kE, -, -⟩, -⟩ := hs
  have hl30 := hR.2.1
  have hR4 := hR.1
  refine e_in (ls := [vR s, vN, vN]) mq_140 (ml_140 rfl) rfl fun D hD => ?_
  have loop : ∀ (z n : Nat), R.length - n = z → n ≤ R.length → Wp mc_140 D 4 [vR s, vI (maxW R n), vI n] [] M (fun r N => r = some (vI (maxW R R.length)) ∧ N = M) := by
    intro z
    induction z with
    | zero =>
      intro n hz hn
      obtain rfl : n = R.length := by omega
      refine w_iload rfl rfl (w_aload rfl rfl (w_getIV rfl (by first | rfl | assumption) (by first | exact Or.inl rfl | exact Or.inr rfl) (hR4) ?_))
      refine w_icmp_ge (tgt := 41) rfl (by first | assumption | exact i32_0 | (unfold i32 at *; omega)) (by first | assumption | exact i32_0 | (unfold i32 at *; omega)) rfl (fun c9 => ?_) (fun c9 => ?_)
      · skip
        refine w_iload rfl rfl ?_
        exact w_ireturn rfl ⟨by first | rfl | (congr 2; omega), by rfl⟩
      · skip
        exfalso; omega
    | succ z ih =>
      intro n hz hn
      have hnl : n < R.length := by omega
      have hx := edgs_row hss (k := n) (by omega)
      have hxr := hx.1
      have hxe : cKB[s + 10 + n]? = some (0, 0) := hx.2
      have hr : R[n]? = some R[n] := List.getElem?_eq_getElem hnl
      have hE := hR.2.2 n _ hr
      have ho := (hok R[n] (List.getElem_mem hnl)).1.2.2.2.2.2
      have ihn := ih (n + 1) (by omega) (by omega)
      rw [maxW_snoc R n hnl] at ihn
      have hw := maxW_le hok n hn
      have h3 := hE 3 (by decide)
      have hmx := e_max (maxW R n) (R[n] 3) M (by unfold i32; omega) (by unfold i32; omega)
      refine w_iload rfl rfl (w_aload rfl rfl (w_getIV rfl (by first | rfl | assumption) (by first | exact Or.inl rfl | exact Or.inr rfl) (hR4) ?_))
      refine w_icmp_ge (tgt := 41) rfl (by first | assumption | exact i32_0 | (unfold i32 at *; omega)) (by first | assumption | exact i32_0 | (unfold i32 at *; omega)) rfl (fun c9 => ?_) (fun c9 => ?_)
      · skip
        exfalso; omega
      · skip
        refine w_iload rfl rfl (w_aload rfl rfl (w_getR rfl (by first | rfl | assumption) rfl (by first | rfl | assumption | (rw [Int.toNat_natCast]; assumption)) (w_alen rfl (by first | rfl | assumption) (by decide) (by decide) ?_)))
        refine w_icmp_ge (tgt := 41) rfl (by first | assumption | exact i32_0 | (unfold i32 at *; omega)) (by first | assumption | exact i32_0 | (unfold i32 at *; omega)) rfl (fun c18 => ?_) (fun c18 => ?_)
        · skip
          exfalso; omega
        · skip
          refine w_iload rfl rfl (w_aload rfl rfl (w_getR rfl (by first | rfl | assumption) rfl (by first | rfl | assumption | (rw [Int.toNat_natCast]; assumption)) (w_iload rfl rfl (w_aaload rfl (by first | rfl | assumption) (by first | exact Or.inl rfl | exact Or.inr rfl) (by omega) (by omega) (by first | rfl | assumption | (rw [Int.toNat_natCast]; assumption)) (w_getIV rfl (by first | rfl | assumption) (by first | exact Or.inl rfl | exact Or.inr rfl) (h3) ?_)))))
          refine w_call (Or.inl rfl) ((hmx)) (by omega) nof_9 rfl rfl rfl rfl trivial rfl ?_
          refine w_istore (ls2 := [_, _, _]) rfl rfl rfl (w_iinc (ls2 := [_, _, _]) rfl rfl rfl (w_goto (tgt := 4) rfl rfl ?_))
          exact ihn
  have hgo := loop R.length 0 (Nat.sub_zero _) (Nat.zero_le _)
  refine w_iconst rfl (w_istore (ls2 := [_, _, _]) rfl rfl rfl (w_iconst rfl (w_istore (ls2 := [_, _, _]) rfl rfl rfl ?_)))
  exact hgo
def openR (R : List (Nat → Int)) (k : Int) : Bool := R.any fun e => sideR e k && decide (e 5 = -1000000)
theorem e_hasOpenSide {s t m k : Nat} {R : List (Nat → Int)} {M : mM} (hs : isS s t) (hR : edgs s R M) (hok : rowsOK m R) (hk : k < 1000) (hm : m ≤ 16) : E 2 109 [vR s, vI k] M (some (vI (if openR R k = true then 1 else 0))) M := by
  have hss := hs
  obtain ⟨⟨k0, k1, k2, k3, k4, k5⟩, ⟨kE, -, -⟩, -⟩ := hs
  have hl30 := hR.2.1
  have hR4 := hR.1
  refine e_in (ls := [vR s, vI k, vN]) mq_109 (ml_109 rfl) rfl fun D hD => ?_
  have loop : ∀ (z n : Nat), R.length - n = z → n ≤ R.length → openR R k = openR (R.drop n) k → Wp mc_109 D 2 [vR s, vI k, vI n] [] M (fun r N => r = some (vI (if openR R k = true then 1 else 0)) ∧ N = M) := by
    intro z
    induction z with
    | zero =>
      intro n hz hn ho
      have hf : openR R k = false := by rw [ho, List.drop_of_length_le (by omega)]; rfl
      rw [hf]
      refine w_iload rfl rfl (w_aload rfl rfl (w_getIV rfl (by first | rfl | assumption) (by first | exact Or.inl rfl | exact Or.inr rfl) (hR4) ?_))
      refine w_icmp_ge (tgt := 52) rfl (by first | assumption | exact i32_0 | (unfold i32 at *; omega)) (by first | assumption | exact i32_0 | (unfold i32 at *; omega)) rfl (fun c7 => ?_) (fun c7 => ?_)
      · skip
        refine w_iconst rfl ?_
        exact w_zreturn rfl (by first | exact Or.inl rfl | exact Or.inr rfl | omega | assumption) ⟨by first | rfl | (congr 2; omega), by rfl⟩
      · skip
        exfalso; omega
    | succ z ih =>
      intro n hz hn hop
      have hnl : n < R.length := by omega
      have hx := edgs_row hss (k := n) (by omega)
      have hxr := hx.1
      have hxe : cKB[s + 10 + n]? = some (0, 0) := hx.2
      have hr : R[n]? = some R[n] := List.getElem?_eq_getElem hnl
      have hE := hR.2.2 n _ hr
      have ho := hok R[n] (List.getElem_mem hnl)
      have hcons : R.drop n = R[n] :: R.drop (n + 1) := List.drop_eq_getElem_cons hnl
      have hst : openR R k = ((sideR R[n] k && decide (R[n] 5 = -1000000)) || openR (R.drop (n + 1)) k) := by rw [hop, hcons]; unfold openR; rw [List.any_cons]
      have ihn := ih (n + 1) (by omega) (by omega)
      generalize R[n] = e at *
      cases q : sideR e k with
      | false =>
        rw [q] at hst
        have ihn := ihn hst
        refine w_iload rfl rfl (w_aload rfl rfl (w_getIV rfl (by first | rfl | assumption) (by first | exact Or.inl rfl | exact Or.inr rfl) (hR4) ?_))
        refine w_icmp_ge (tgt := 52) rfl (by first | assumption | exact i32_0 | (unfold i32 at *; omega)) (by first | assumption | exact i32_0 | (unfold i32 at *; omega)) rfl (fun c7 => ?_) (fun c7 => ?_)
        · skip
          exfalso; omega
        · skip
          refine w_iload rfl rfl (w_aload rfl rfl (w_getR rfl (by first | rfl | assumption) rfl (by first | rfl | assumption | (rw [Int.toNat_natCast]; assumption)) (w_alen rfl (by first | rfl | assumption) (by decide) (by decide) ?_)))
          refine w_icmp_ge (tgt := 52) rfl (by first | assumption | exact i32_0 | (unfold i32 at *; omega)) (by first | assumption | exact i32_0 | (unfold i32 at *; omega)) rfl (fun c16 => ?_) (fun c16 => ?_)
          · skip
            exfalso; omega
          · skip
            refine w_aload rfl rfl (w_getR rfl (by first | rfl | assumption) rfl (by first | rfl | assumption | (rw [Int.toNat_natCast]; assumption)) (w_iload rfl rfl (w_aaload rfl (by first | rfl | assumption) (by first | exact Or.inl rfl | exact Or.inr rfl) (by omega) (by omega) (by first | rfl | assumption | (rw [Int.toNat_natCast]; assumption)) (w_iload rfl rfl ?_))))
            refine w_call (Or.inr rfl) (e_isSideOf0 hx.2 hE ho.1 hk q) (by omega) nof_108 rfl rfl rfl rfl (by first | rfl | (show cKB[_]? = _; assumption)) rfl ?_
            refine w_if_eq (tgt := 46) rfl (by first | assumption | exact i32_0 | (unfold i32 at *; omega)) rfl (fun _ => ?_) (fun c => absurd c (by decide))
            refine w_iinc (ls2 := [_, _, _]) rfl rfl rfl (w_goto (tgt := 2) rfl rfl ?_)
            exact ihn
      | true =>
        rw [q] at hst
        by_cases q5 : e 5 = -1000000
        · rw [decide_eq_true q5] at hst
          have hst : openR R k = true := hst
          rw [hst]
          refine w_iload rfl rfl (w_aload rfl rfl (w_getIV rfl (by first | rfl | assumption) (by first | exact Or.inl rfl | exact Or.inr rfl) (hR4) ?_))
          refine w_icmp_ge (tgt := 52) rfl (by first | assumption | exact i32_0 | (unfold i32 at *; omega)) (by first | assumption | exact i32_0 | (unfold i32 at *; omega)) rfl (fun c7 => ?_) (fun c7 => ?_)
          · skip
            exfalso; omega
          · skip
            refine w_iload rfl rfl (w_aload rfl rfl (w_getR rfl (by first | rfl | assumption) rfl (by first | rfl | assumption | (rw [Int.toNat_natCast]; assumption)) (w_alen rfl (by first | rfl | assumption) (by decide) (by decide) ?_)))
            refine w_icmp_ge (tgt := 52) rfl (by first | assumption | exact i32_0 | (unfold i32 at *; omega)) (by first | assumption | exact i32_0 | (unfold i32 at *; omega)) rfl (fun c16 => ?_) (fun c16 => ?_)
            · skip
              exfalso; omega
            · skip
              refine w_aload rfl rfl (w_getR rfl (by first | rfl | assumption) rfl (by first | rfl | assumption | (rw [Int.toNat_natCast]; assumption)) (w_iload rfl rfl (w_aaload rfl (by first | rfl | assumption) (by first | exact Or.inl rfl | exact Or.inr rfl) (by omega) (by omega) (by first | rfl | assumption | (rw [Int.toNat_natCast]; assumption)) (w_iload rfl rfl ?_))))
              refine w_call (Or.inr rfl) (e_isSideOf1 hx.2 hE ho.1 hk q) (by omega) nof_108 rfl rfl rfl rfl (by first | rfl | (show cKB[_]? = _; assumption)) rfl ?_
              refine w_if_eq (tgt := 46) rfl (by first | assumption | exact i32_0 | (unfold i32 at *; omega)) rfl (fun c => absurd c (by decide)) (fun _ => ?_)
              refine w_aload rfl rfl (w_getR rfl (by first | rfl | assumption) rfl (by first | rfl | assumption | (rw [Int.toNat_natCast]; assumption)) (w_iload rfl rfl (w_aaload rfl (by first | rfl | assumption) (by first | exact Or.inl rfl | exact Or.inr rfl) (by omega) (by omega) (by first | rfl | assumption | (rw [Int.toNat_natCast]; assumption)) ?_)))
              refine w_call (Or.inr rfl) (e_isBounded0 hx.2 hE q5) (by omega) nof_91 rfl rfl rfl rfl (by first | rfl | (show cKB[_]? = _; assumption)) rfl ?_
              refine w_if_ne (tgt := 46) rfl (by first | assumption | exact i32_0 | (unfold i32 at *; omega)) rfl (fun c => absurd c (by decide)) (fun _ => ?_)
              refine w_iconst rfl ?_
              exact w_zreturn rfl (by first | exact Or.inl rfl | exact Or.inr rfl | omega | assumption) ⟨by first | rfl | (congr 2; omega), by rfl⟩
        · rw [decide_eq_false q5] at hst
          have ihn := ihn hst
          have a5 := (ho.2.2 q5).2.1
          refine w_iload rfl rfl (w_aload rfl rfl (w_getIV rfl (by first | rfl | assumption) (by first | exact Or.inl rfl | exact Or.inr rfl) (hR4) ?_))
          refine w_icmp_ge (tgt := 52) rfl (by first | assumption | exact i32_0 | (unfold i32 at *; omega)) (by first | assumption | exact i32_0 | (unfold i32 at *; omega)) rfl (fun c7 => ?_) (fun c7 => ?_)
          · skip
            exfalso; omega
          · skip
            refine w_iload rfl rfl (w_aload rfl rfl (w_getR rfl (by first | rfl | assumption) rfl (by first | rfl | assumption | (rw [Int.toNat_natCast]; assumption)) (w_alen rfl (by first | rfl | assumption) (by decide) (by decide) ?_)))
            refine w_icmp_ge (tgt := 52) rfl (by first | assumption | exact i32_0 | (unfold i32 at *; omega)) (by first | assumption | exact i32_0 | (unfold i32 at *; omega)) rfl (fun c16 => ?_) (fun c16 => ?_)
            · skip
              exfalso; omega
            · skip
              refine w_aload rfl rfl (w_getR rfl (by first | rfl | assumption) rfl (by first | rfl | assumption | (rw [Int.toNat_natCast]; assumption)) (w_iload rfl rfl (w_aaload rfl (by first | rfl | assumption) (by first | exact Or.inl rfl | exact Or.inr rfl) (by omega) (by omega) (by first | rfl | assumption | (rw [Int.toNat_natCast]; assumption)) (w_iload rfl rfl ?_))))
              refine w_call (Or.inr rfl) (e_isSideOf1 hx.2 hE ho.1 hk q) (by omega) nof_108 rfl rfl rfl rfl (by first | rfl | (show cKB[_]? = _; assumption)) rfl ?_
              refine w_if_eq (tgt := 46) rfl (by first | assumption | exact i32_0 | (unfold i32 at *; omega)) rfl (fun c => absurd c (by decide)) (fun _ => ?_)
              refine w_aload rfl rfl (w_getR rfl (by first | rfl | assumption) rfl (by first | rfl | assumption | (rw [Int.toNat_natCast]; assumption)) (w_iload rfl rfl (w_aaload rfl (by first | rfl | assumption) (by first | exact Or.inl rfl | exact Or.inr rfl) (by omega) (by omega) (by first | rfl | assumption | (rw [Int.toNat_natCast]; assumption)) ?_)))
              refine w_call (Or.inr rfl) (e_isBounded1 hx.2 hE (by omega)) (by omega) nof_91 rfl rfl rfl rfl (by first | rfl | (show cKB[_]? = _; assumption)) rfl ?_
              refine w_if_ne (tgt := 46) rfl (by first | assumption | exact i32_0 | (unfold i32 at *; omega)) rfl (fun _ => ?_) (fun c => absurd c (by decide))
              refine w_iinc (ls2 := [_, _, _]) rfl rfl rfl (w_goto (tgt := 2) rfl rfl ?_)
              exact ihn
  have hgo := loop R.length 0 (Nat.sub_zero _) (Nat.zero_le _) rfl
  refine w_iconst rfl (w_istore (ls2 := [_, _, _]) rfl rfl rfl ?_)
  exact hgo
def sidR (R : List (Nat → Int)) (k : Int) : Nat := R.countP fun e => sideR e k
def kindR (f : Cv) (R : List (Nat → Int)) (k : Nat) : Int := if sidR R k = 0 then (if 1 < cntF f then 0 else 2) else if openR R k = true then 2 else 1
theorem kindR_le (f : Cv) (R : List (Nat → Int)) (k : Nat) : 0 ≤ kindR f R k ∧ kindR f R k ≤ 2 := by unfold kindR; (repeat' split) <;> omega
theorem cntF_le (f : Cv) : cntF f ≤ 21 := fb_ct_le _ 21
theorem e_kindOf {s t m k : Nat} {f : Cv} {R : List (Nat → Int)} {M : mM} (hs : isS s t) (hcu : cur t f M) (hf : Cok 999 f) (hR : edgs s R M) (hok : rowsOK m R) (hk : k < 1000) (hm : m ≤ 16) : E 3 106 [vR s, vI k] M (some (vI (kindR f R k))) M := by
  have hsd : E 2 107 [vR s, vI k] M (some (vI (sidR R k))) M := e_sidesOf hs hR hok hk
  have hop := e_hasOpenSide hs hR hok hk hm
  have hsz := e_size hs.2.2.1 hcu (by decide) hf
  have hsl : sidR R k ≤ 30 := Nat.le_trans List.countP_le_length hR.2.1
  have hcl := cntF_le f
  have ht0 := hs.2.2.1.1
  obtain ⟨⟨k0, k1, k2, k3, k4, k5⟩, ⟨kE, -, -⟩, -⟩ := hs
  unfold kindR
  refine e_in (ls := [vR s, vI k]) mq_106 (ml_106 rfl) rfl fun D hD => ?_
  by_cases q : sidR R k = 0
  · rw [if_pos q]
    by_cases q2 : 1 < cntF f
    · rw [if_pos q2]
      refine w_aload rfl rfl (w_iload rfl rfl ?_)
      refine w_call (Or.inr rfl) (hsd) (by omega) nof_107 rfl rfl rfl rfl (by first | rfl | (show cKB[_]? = _; assumption)) rfl ?_
      refine w_if_ne (tgt := 25) rfl (by first | assumption | exact i32_0 | (unfold i32 at *; omega)) rfl (fun c5 => ?_) (fun c5 => ?_)
      · skip
        exfalso; omega
      · skip
        refine w_aload rfl rfl (w_getR rfl (by first | rfl | assumption) rfl (by first | rfl | assumption) ?_)
        refine w_call (Or.inr rfl) (hsz) (by omega) nof_41 rfl rfl rfl rfl (by first | rfl | (show cKB[_]? = _; assumption)) rfl ?_
        refine w_iconst rfl ?_
        refine w_icmp_le (tgt := 23) rfl (by first | assumption | exact i32_0 | (unfold i32 at *; omega)) (by first | assumption | exact i32_0 | (unfold i32 at *; omega)) rfl (fun c16 => ?_) (fun c16 => ?_)
        · skip
          exfalso; omega
        · skip
          refine w_iconst rfl (w_goto (tgt := 24) rfl rfl ?_)
          exact w_ireturn rfl ⟨by first | rfl | (congr 2; omega), by rfl⟩
    · rw [if_neg q2]
      refine w_aload rfl rfl (w_iload rfl rfl ?_)
      refine w_call (Or.inr rfl) (hsd) (by omega) nof_107 rfl rfl rfl rfl (by first | rfl | (show cKB[_]? = _; assumption)) rfl ?_
      refine w_if_ne (tgt := 25) rfl (by first | assumption | exact i32_0 | (unfold i32 at *; omega)) rfl (fun c5 => ?_) (fun c5 => ?_)
      · skip
        exfalso; omega
      · skip
        refine w_aload rfl rfl (w_getR rfl (by first | rfl | assumption) rfl (by first | rfl | assumption) ?_)
        refine w_call (Or.inr rfl) (hsz) (by omega) nof_41 rfl rfl rfl rfl (by first | rfl | (show cKB[_]? = _; assumption)) rfl ?_
        refine w_iconst rfl ?_
        refine w_icmp_le (tgt := 23) rfl (by first | assumption | exact i32_0 | (unfold i32 at *; omega)) (by first | assumption | exact i32_0 | (unfold i32 at *; omega)) rfl (fun c16 => ?_) (fun c16 => ?_)
        · skip
          refine w_iconst rfl ?_
          exact w_ireturn rfl ⟨by first | rfl | (congr 2; omega), by rfl⟩
        · skip
          exfalso; omega
  · rw [if_neg q]
    by_cases q2 : openR R k = true
    · rw [if_pos q2] at hop ⊢
      refine w_aload rfl rfl (w_iload rfl rfl ?_)
      refine w_call (Or.inr rfl) (hsd) (by omega) nof_107 rfl rfl rfl rfl (by first | rfl | (show cKB[_]? = _; assumption)) rfl ?_
      refine w_if_ne (tgt := 25) rfl (by first | assumption | exact i32_0 | (unfold i32 at *; omega)) rfl (fun c5 => ?_) (fun c5 => ?_)
      · skip
        refine w_aload rfl rfl (w_iload rfl rfl ?_)
        refine w_call (Or.inr rfl) (hop) (by omega) nof_109 rfl rfl rfl rfl (by first | rfl | (show cKB[_]? = _; assumption)) rfl ?_
        refine w_if_eq (tgt := 37) rfl (by first | assumption | exact i32_0 | (unfold i32 at *; omega)) rfl (fun c => absurd c (by decide)) (fun _ => ?_)
        refine w_iconst rfl (w_goto (tgt := 38) rfl rfl ?_)
        exact w_ireturn rfl ⟨by first | rfl | (congr 2; omega), by rfl⟩
      · skip
        exfalso; omega
    · rw [if_neg q2] at hop ⊢
      refine w_aload rfl rfl (w_iload rfl rfl ?_)
      refine w_call (Or.inr rfl) (hsd) (by omega) nof_107 rfl rfl rfl rfl (by first | rfl | (show cKB[_]? = _; assumption)) rfl ?_
      refine w_if_ne (tgt := 25) rfl (by first | assumption | exact i32_0 | (unfold i32 at *; omega)) rfl (fun c5 => ?_) (fun c5 => ?_)
      · skip
        refine w_aload rfl rfl (w_iload rfl rfl ?_)
        refine w_call (Or.inr rfl) (hop) (by omega) nof_109 rfl rfl rfl rfl (by first | rfl | (show cKB[_]? = _; assumption)) rfl ?_
        refine w_if_eq (tgt := 37) rfl (by first | assumption | exact i32_0 | (unfold i32 at *; omega)) rfl (fun _ => ?_) (fun c => absurd c (by decide))
        refine w_iconst rfl ?_
        exact w_ireturn rfl ⟨by first | rfl | (congr 2; omega), by rfl⟩
      · skip
        exfalso; omega
theorem e_notHidden {s t m : Nat} {f : Cv} {R : List (Nat → Int)} {M : mM} (hs : isS s t) (hcu : cur t f M) (hf : Cok 999 f) (hR : edgs s R M) (hok : rowsOK m R) (hm : m ≤ 16) : E 4 133 [vR s] M (some (vI (fb_ct (fun k => hasF f k && !decide (kindR f R k = 0)) 21 : Nat))) M := by
  have hss := hs
  obtain ⟨⟨k0, k1, k2, k3, k4, k5⟩, ⟨kE, -, -⟩, ht, -⟩ := hs
  have ht0 := ht.1
  refine e_in (ls := [vR s, vN, vN]) mq_133 (ml_133 rfl) rfl fun D hD => ?_
  have loop : ∀ (z n : Nat), 21 - n = z → n ≤ 21 → Wp mc_133 D 4 [vR s, vI (fb_ct (fun k => hasF f k && !decide (kindR f R k = 0)) n : Nat), vI n] [] M (fun r N => r = some (vI (fb_ct (fun k => hasF f k && !decide (kindR f R k = 0)) 21 : Nat)) ∧ N = M) := by
    intro z
    induction z with
    | zero =>
      intro n hz hn
      obtain rfl : n = 21 := by omega
      refine w_iload rfl rfl (w_iconst rfl ?_)
      refine w_icmp_ge (tgt := 43) rfl (by first | assumption | exact i32_0 | (unfold i32 at *; omega)) (by first | assumption | exact i32_0 | (unfold i32 at *; omega)) rfl (fun c7 => ?_) (fun c7 => ?_)
      · skip
        refine w_iload rfl rfl ?_
        exact w_ireturn rfl ⟨by first | rfl | (congr 2; omega), by rfl⟩
      · skip
        exfalso; omega
    | succ z ih =>
      intro n hz hn
      have ihn := ih (n + 1) (by omega) (by omega)
      rw [fb_ct_succ] at ihn
      have hcl := fb_ct_le (fun k => hasF f k && !decide (kindR f R k = 0)) n
      have hha := e_hasX ht hcu hf (k := n) (by omega)
      have hki := e_kindOf hss hcu hf hR hok (k := n) (by omega) hm
      have hkl := kindR_le f R n
      generalize fb_ct (fun k => hasF f k && !decide (kindR f R k = 0)) n = c at *
      generalize kindR f R n = kk at *
      cases q : hasF f n with
      | false =>
        rw [q] at hha ihn
        have hha : E 2 30 [vR t, vI n] M (some (vI 0)) M := hha
        refine w_iload rfl rfl (w_iconst rfl ?_)
        refine w_icmp_ge (tgt := 43) rfl (by first | assumption | exact i32_0 | (unfold i32 at *; omega)) (by first | assumption | exact i32_0 | (unfold i32 at *; omega)) rfl (fun c7 => ?_) (fun c7 => ?_)
        · skip
          exfalso; omega
        · skip
          refine w_iload rfl rfl (w_aload rfl rfl (w_getR rfl (by first | rfl | assumption) rfl (by first | rfl | assumption) (w_iload rfl rfl ?_)))
          refine w_call (Or.inr rfl) (hha) (by omega) nof_30 rfl rfl rfl rfl (by first | rfl | (show cKB[_]? = _; assumption)) rfl ?_
          refine w_if_eq (tgt := 34) rfl (by first | assumption | exact i32_0 | (unfold i32 at *; omega)) rfl (fun _ => ?_) (fun c => absurd c (by decide))
          refine w_iconst rfl (w_iadd rfl (w_istore (ls2 := [_, _, _]) rfl rfl rfl (w_iinc (ls2 := [_, _, _]) rfl rfl rfl (w_goto (tgt := 4) rfl rfl ?_))))
          exact ihn
      | true =>
        rw [q] at hha ihn
        have hha : E 2 30 [vR t, vI n] M (some (vI 1)) M := hha
        by_cases q2 : kk = 0
        · rw [decide_eq_true q2] at ihn
          refine w_iload rfl rfl (w_iconst rfl ?_)
          refine w_icmp_ge (tgt := 43) rfl (by first | assumption | exact i32_0 | (unfold i32 at *; omega)) (by first | assumption | exact i32_0 | (unfold i32 at *; omega)) rfl (fun c7 => ?_) (fun c7 => ?_)
          · skip
            exfalso; omega
          · skip
            refine w_iload rfl rfl (w_aload rfl rfl (w_getR rfl (by first | rfl | assumption) rfl (by first | rfl | assumption) (w_iload rfl rfl ?_)))
            refine w_call (Or.inr rfl) (hha) (by omega) nof_30 rfl rfl rfl rfl (by first | rfl | (show cKB[_]? = _; assumption)) rfl ?_
            refine w_if_eq (tgt := 34) rfl (by first | assumption | exact i32_0 | (unfold i32 at *; omega)) rfl (fun c => absurd c (by decide)) (fun _ => ?_)
            refine w_aload rfl rfl (w_iload rfl rfl ?_)
            refine w_call (Or.inr rfl) (hki) (by omega) nof_106 rfl rfl rfl rfl (by first | rfl | (show cKB[_]? = _; assumption)) rfl ?_
            refine w_if_eq (tgt := 34) rfl (by first | assumption | exact i32_0 | (unfold i32 at *; omega)) rfl (fun c27 => ?_) (fun c27 => ?_)
            · skip
              refine w_iconst rfl (w_iadd rfl (w_istore (ls2 := [_, _, _]) rfl rfl rfl (w_iinc (ls2 := [_, _, _]) rfl rfl rfl (w_goto (tgt := 4) rfl rfl ?_))))
              exact ihn
            · skip
              exfalso; omega
        · rw [decide_eq_false q2] at ihn
          refine w_iload rfl rfl (w_iconst rfl ?_)
          refine w_icmp_ge (tgt := 43) rfl (by first | assumption | exact i32_0 | (unfold i32 at *; omega)) (by first | assumption | exact i32_0 | (unfold i32 at *; omega)) rfl (fun c7 => ?_) (fun c7 => ?_)
          · skip
            exfalso; omega
          · skip
            refine w_iload rfl rfl (w_aload rfl rfl (w_getR rfl (by first | rfl | assumption) rfl (by first | rfl | assumption) (w_iload rfl rfl ?_)))
            refine w_call (Or.inr rfl) (hha) (by omega) nof_30 rfl rfl rfl rfl (by first | rfl | (show cKB[_]? = _; assumption)) rfl ?_
            refine w_if_eq (tgt := 34) rfl (by first | assumption | exact i32_0 | (unfold i32 at *; omega)) rfl (fun c => absurd c (by decide)) (fun _ => ?_)
            refine w_aload rfl rfl (w_iload rfl rfl ?_)
            refine w_call (Or.inr rfl) (hki) (by omega) nof_106 rfl rfl rfl rfl (by first | rfl | (show cKB[_]? = _; assumption)) rfl ?_
            refine w_if_eq (tgt := 34) rfl (by first | assumption | exact i32_0 | (unfold i32 at *; omega)) rfl (fun c27 => ?_) (fun c27 => ?_)
            · skip
              exfalso; omega
            · skip
              refine w_iconst rfl (w_goto (tgt := 35) rfl rfl (w_iadd rfl (w_istore (ls2 := [_, _, _]) rfl rfl rfl (w_iinc (ls2 := [_, _, _]) rfl rfl rfl (w_goto (tgt := 4) rfl rfl ?_)))))
              exact ihn
  have hgo := loop 21 0 rfl (by decide)
  refine w_iconst rfl (w_istore (ls2 := [_, _, _]) rfl rfl rfl (w_iconst rfl (w_istore (ls2 := [_, _, _]) rfl rfl rfl ?_)))
  exact hgo
theorem e_holes {s t m : Nat} {f : Cv} {R : List (Nat → Int)} {M : mM} (hs : isS s t) (hcu : cur t f M) (hf : Cok 999 f) (hR : edgs s R M) (hok : rowsOK m R) (hm : m ≤ 16) : E 4 136 [vR s] M (some (vI (fb_ct (fun k => hasF f k && decide (kindR f R k = 1)) 21 : Nat))) M := by
  have hss := hs
  obtain ⟨⟨k0, k1, k2, k3, k4, k5⟩, ⟨kE, -, -⟩, ht, -⟩ := hs
  have ht0 := ht.1
  refine e_in (ls := [vR s, vN, vN]) mq_136 (ml_136 rfl) rfl fun D hD => ?_
  have loop : ∀ (z n : Nat), 21 - n = z → n ≤ 21 → Wp mc_136 D 4 [vR s, vI (fb_ct (fun k => hasF f k && decide (kindR f R k = 1)) n : Nat), vI n] [] M (fun r N => r = some (vI (fb_ct (fun k => hasF f k && decide (kindR f R k = 1)) 21 : Nat)) ∧ N = M) := by
    intro z
    induction z with
    | zero =>
      intro n hz hn
      obtain rfl : n = 21 := by omega
      refine w_iload rfl rfl (w_iconst rfl ?_)
      refine w_icmp_ge (tgt := 44) rfl (by first | assumption | exact i32_0 | (unfold i32 at *; omega)) (by first | assumption | exact i32_0 | (unfold i32 at *; omega)) rfl (fun c7 => ?_) (fun c7 => ?_)
      · skip
        refine w_iload rfl rfl ?_
        exact w_ireturn rfl ⟨by first | rfl | (congr 2; omega), by rfl⟩
      · skip
        exfalso; omega
    | succ z ih =>
      intro n hz hn
      have ihn := ih (n + 1) (by omega) (by omega)
      rw [fb_ct_succ] at ihn
      have hcl := fb_ct_le (fun k => hasF f k && decide (kindR f R k = 1)) n
      have hha := e_hasX ht hcu hf (k := n) (by omega)
      have hki := e_kindOf hss hcu hf hR hok (k := n) (by omega) hm
      have hkl := kindR_le f R n
      generalize fb_ct (fun k => hasF f k && decide (kindR f R k = 1)) n = c at *
      generalize kindR f R n = kk at *
      cases q : hasF f n with
      | false =>
        rw [q] at hha ihn
        have hha : E 2 30 [vR t, vI n] M (some (vI 0)) M := hha
        refine w_iload rfl rfl (w_iconst rfl ?_)
        refine w_icmp_ge (tgt := 44) rfl (by first | assumption | exact i32_0 | (unfold i32 at *; omega)) (by first | assumption | exact i32_0 | (unfold i32 at *; omega)) rfl (fun c7 => ?_) (fun c7 => ?_)
        · skip
          exfalso; omega
        · skip
          refine w_iload rfl rfl (w_aload rfl rfl (w_getR rfl (by first | rfl | assumption) rfl (by first | rfl | assumption) (w_iload rfl rfl ?_)))
          refine w_call (Or.inr rfl) (hha) (by omega) nof_30 rfl rfl rfl rfl (by first | rfl | (show cKB[_]? = _; assumption)) rfl ?_
          refine w_if_eq (tgt := 35) rfl (by first | assumption | exact i32_0 | (unfold i32 at *; omega)) rfl (fun _ => ?_) (fun c => absurd c (by decide))
          refine w_iconst rfl (w_iadd rfl (w_istore (ls2 := [_, _, _]) rfl rfl rfl (w_iinc (ls2 := [_, _, _]) rfl rfl rfl (w_goto (tgt := 4) rfl rfl ?_))))
          exact ihn
      | true =>
        rw [q] at hha ihn
        have hha : E 2 30 [vR t, vI n] M (some (vI 1)) M := hha
        by_cases q2 : kk = 1
        · rw [decide_eq_true q2] at ihn
          refine w_iload rfl rfl (w_iconst rfl ?_)
          refine w_icmp_ge (tgt := 44) rfl (by first | assumption | exact i32_0 | (unfold i32 at *; omega)) (by first | assumption | exact i32_0 | (unfold i32 at *; omega)) rfl (fun c7 => ?_) (fun c7 => ?_)
          · skip
            exfalso; omega
          · skip
            refine w_iload rfl rfl (w_aload rfl rfl (w_getR rfl (by first | rfl | assumption) rfl (by first | rfl | assumption) (w_iload rfl rfl ?_)))
            refine w_call (Or.inr rfl) (hha) (by omega) nof_30 rfl rfl rfl rfl (by first | rfl | (show cKB[_]? = _; assumption)) rfl ?_
            refine w_if_eq (tgt := 35) rfl (by first | assumption | exact i32_0 | (unfold i32 at *; omega)) rfl (fun c => absurd c (by decide)) (fun _ => ?_)
            refine w_aload rfl rfl (w_iload rfl rfl ?_)
            refine w_call (Or.inr rfl) (hki) (by omega) nof_106 rfl rfl rfl rfl (by first | rfl | (show cKB[_]? = _; assumption)) rfl ?_
            refine w_iconst rfl ?_
            refine w_icmp_ne (tgt := 35) rfl (by first | assumption | exact i32_0 | (unfold i32 at *; omega)) (by first | assumption | exact i32_0 | (unfold i32 at *; omega)) rfl (fun c28 => ?_) (fun c28 => ?_)
            · skip
              exfalso; omega
            · skip
              refine w_iconst rfl (w_goto (tgt := 36) rfl rfl (w_iadd rfl (w_istore (ls2 := [_, _, _]) rfl rfl rfl (w_iinc (ls2 := [_, _, _]) rfl rfl rfl (w_goto (tgt := 4) rfl rfl ?_)))))
              exact ihn
        · rw [decide_eq_false q2] at ihn
          refine w_iload rfl rfl (w_iconst rfl ?_)
          refine w_icmp_ge (tgt := 44) rfl (by first | assumption | exact i32_0 | (unfold i32 at *; omega)) (by first | assumption | exact i32_0 | (unfold i32 at *; omega)) rfl (fun c7 => ?_) (fun c7 => ?_)
          · skip
            exfalso; omega
          · skip
            refine w_iload rfl rfl (w_aload rfl rfl (w_getR rfl (by first | rfl | assumption) rfl (by first | rfl | assumption) (w_iload rfl rfl ?_)))
            refine w_call (Or.inr rfl) (hha) (by omega) nof_30 rfl rfl rfl rfl (by first | rfl | (show cKB[_]? = _; assumption)) rfl ?_
            refine w_if_eq (tgt := 35) rfl (by first | assumption | exact i32_0 | (unfold i32 at *; omega)) rfl (fun c => absurd c (by decide)) (fun _ => ?_)
            refine w_aload rfl rfl (w_iload rfl rfl ?_)
            refine w_call (Or.inr rfl) (hki) (by omega) nof_106 rfl rfl rfl rfl (by first | rfl | (show cKB[_]? = _; assumption)) rfl ?_
            refine w_iconst rfl ?_
            refine w_icmp_ne (tgt := 35) rfl (by first | assumption | exact i32_0 | (unfold i32 at *; omega)) (by first | assumption | exact i32_0 | (unfold i32 at *; omega)) rfl (fun c28 => ?_) (fun c28 => ?_)
            · skip
              refine w_iconst rfl (w_iadd rfl (w_istore (ls2 := [_, _, _]) rfl rfl rfl (w_iinc (ls2 := [_, _, _]) rfl rfl rfl (w_goto (tgt := 4) rfl rfl ?_))))
              exact ihn
            · skip
              exfalso; omega
  have hgo := loop 21 0 rfl (by decide)
  refine w_iconst rfl (w_istore (ls2 := [_, _, _]) rfl rfl rfl (w_iconst rfl (w_istore (ls2 := [_, _, _]) rfl rfl rfl ?_)))
  exact hgo
def areaC (C : List Pt) (n : Nat) : Int := (C.take n).foldl (fun a P => a + mixed P.2.2.toNat P.2.2.toNat) 0
theorem areaC_snoc (C : List Pt) (n : Nat) (h : n < C.length) : areaC C (n + 1) = areaC C n + mixed C[n].2.2.toNat C[n].2.2.toNat := by
  unfold areaC; rw [take_snoc C n h, List.foldl_append]; rfl
theorem areaC_le (C : List Pt) : ∀ n, n ≤ C.length → -(20000 * (n : Int)) ≤ areaC C n ∧ areaC C n ≤ 20000 * (n : Int)
  | 0, _ => ⟨Int.le_refl _, Int.le_refl _⟩
  | n + 1, h => by
    rw [areaC_snoc C n (by omega)]
    have ih := areaC_le C n (by omega)
    have := mixed_le C[n].2.2.toNat C[n].2.2.toNat
    omega
theorem e_areaOfCells {s t : Nat} {C : List Pt} {M : mM} (hs : isS s t) (hC : PtR (s + 1) C M) (hcel : celOK C) : E 5 138 [vR s] M (some (vI (areaC C C.length))) M := by
  obtain ⟨⟨k0, k1, k2, k3, k4, k5⟩, ⟨kE, -, -⟩, ht, hpts, -⟩ := hs
  have hpts0 : cKB[s + 1]? = some (0, 5) := hpts.1.1
  have hC5 := hC.1
  have hl16 := hC.2.1
  refine e_in (ls := [vR s, vN, vN]) mq_138 (ml_138 rfl) rfl fun D hD => ?_
  have loop : ∀ (z n : Nat), C.length - n = z → n ≤ C.length → Wp mc_138 D 4 [vR s, vI (areaC C n), vI n] [] M (fun r N => r = some (vI (areaC C C.length)) ∧ N = M) := by
    intro z
    induction z with
    | zero =>
      intro n hz hn
      obtain rfl : n = C.length := by omega
      refine w_iload rfl rfl (w_aload rfl rfl (w_getR rfl (by first | rfl | assumption) rfl (by first | rfl | assumption) (w_getIV rfl (by first | rfl | assumption) (by first | exact Or.inl rfl | exact Or.inr rfl) (hC5) ?_)))
      refine w_icmp_ge (tgt := 35) rfl (by first | assumption | exact i32_0 | (unfold i32 at *; omega)) (by first | assumption | exact i32_0 | (unfold i32 at *; omega)) rfl (fun c12 => ?_) (fun c12 => ?_)
      · skip
        refine w_iload rfl rfl ?_
        exact w_ireturn rfl ⟨by first | rfl | (congr 2; omega), by rfl⟩
      · skip
        exfalso; omega
    | succ z ih =>
      intro n hz hn
      have hnl : n < C.length := by omega
      have hP : C[n]? = some C[n] := List.getElem?_eq_getElem hnl
      have hma := e_markAt hpts hC hP
      obtain ⟨c, hc, hc2⟩ := hcel C[n] (List.getElem_mem hnl)
      have ihn := ih (n + 1) (by omega) (by omega)
      rw [areaC_snoc C n hnl, hc2, Int.toNat_natCast] at ihn
      rw [hc2] at hma
      have har := e_area c M (by omega)
      refine w_iload rfl rfl (w_aload rfl rfl (w_getR rfl (by first | rfl | assumption) rfl (by first | rfl | assumption) (w_getIV rfl (by first | rfl | assumption) (by first | exact Or.inl rfl | exact Or.inr rfl) (hC5) ?_)))
      refine w_icmp_ge (tgt := 35) rfl (by first | assumption | exact i32_0 | (unfold i32 at *; omega)) (by first | assumption | exact i32_0 | (unfold i32 at *; omega)) rfl (fun c12 => ?_) (fun c12 => ?_)
      · skip
        exfalso; omega
      · skip
        refine w_iload rfl rfl (w_aload rfl rfl (w_getR rfl (by first | rfl | assumption) rfl (by first | rfl | assumption) (w_iload rfl rfl ?_)))
        refine w_call (Or.inr rfl) (hma) (by omega) nof_86 rfl rfl rfl rfl (by first | rfl | (show cKB[_]? = _; assumption)) rfl ?_
        refine w_call (Or.inl rfl) (har) (by omega) nof_98 rfl rfl rfl rfl trivial rfl ?_
        refine w_iadd rfl (w_istore (ls2 := [_, _, _]) rfl rfl rfl (w_iinc (ls2 := [_, _, _]) rfl rfl rfl (w_goto (tgt := 4) rfl rfl ?_)))
        exact ihn
  have hgo := loop C.length 0 (Nat.sub_zero _) (Nat.zero_le _)
  refine w_iconst rfl (w_istore (ls2 := [_, _, _]) rfl rfl rfl (w_iconst rfl (w_istore (ls2 := [_, _, _]) rfl rfl rfl ?_)))
  exact hgo
theorem e_isSmooth {s t : Nat} {C : List Pt} {M : mM} (hs : isS s t) (hC : PtR (s + 1) C M) (hcel : celOK C) : E 6 139 [vR s] M (some (vI (if 0 < C.length ∧ areaC C C.length = C.length then 1 else 0))) M := by
  have har := e_areaOfCells hs hC hcel
  have hal := areaC_le C C.length (Nat.le_refl _)
  obtain ⟨⟨k0, k1, k2, k3, k4, k5⟩, ⟨kE, -, -⟩, ht, hpts, -⟩ := hs
  have hpts0 : cKB[s + 1]? = some (0, 5) := hpts.1.1
  have hC5 := hC.1
  have hl16 := hC.2.1
  refine e_in (ls := [vR s]) mq_139 (ml_139 rfl) rfl fun D hD => ?_
  by_cases q : 0 < C.length ∧ areaC C C.length = C.length
  · rw [if_pos q]
    refine w_aload rfl rfl (w_getR rfl (by first | rfl | assumption) rfl (by first | rfl | assumption) (w_getIV rfl (by first | rfl | assumption) (by first | exact Or.inl rfl | exact Or.inr rfl) (hC5) ?_))
    refine w_if_le (tgt := 28) rfl (by first | assumption | exact i32_0 | (unfold i32 at *; omega)) rfl (fun c7 => ?_) (fun c7 => ?_)
    · skip
      exfalso; omega
    · skip
      refine w_aload rfl rfl ?_
      refine w_call (Or.inr rfl) (har) (by omega) nof_138 rfl rfl rfl rfl (by first | rfl | (show cKB[_]? = _; assumption)) rfl ?_
      refine w_aload rfl rfl (w_getR rfl (by first | rfl | assumption) rfl (by first | rfl | assumption) (w_getIV rfl (by first | rfl | assumption) (by first | exact Or.inl rfl | exact Or.inr rfl) (hC5) ?_))
      refine w_icmp_ne (tgt := 28) rfl (by first | assumption | exact i32_0 | (unfold i32 at *; omega)) (by first | assumption | exact i32_0 | (unfold i32 at *; omega)) rfl (fun c21 => ?_) (fun c21 => ?_)
      · skip
        exfalso; omega
      · skip
        refine w_iconst rfl (w_goto (tgt := 29) rfl rfl ?_)
        exact w_zreturn rfl (by first | exact Or.inl rfl | exact Or.inr rfl | omega | assumption) ⟨by first | rfl | (congr 2; omega), by rfl⟩
  · rw [if_neg q]
    refine w_aload rfl rfl (w_getR rfl (by first | rfl | assumption) rfl (by first | rfl | assumption) (w_getIV rfl (by first | rfl | assumption) (by first | exact Or.inl rfl | exact Or.inr rfl) (hC5) ?_))
    refine w_if_le (tgt := 28) rfl (by first | assumption | exact i32_0 | (unfold i32 at *; omega)) rfl (fun c7 => ?_) (fun c7 => ?_)
    · skip
      refine w_iconst rfl ?_
      exact w_zreturn rfl (by first | exact Or.inl rfl | exact Or.inr rfl | omega | assumption) ⟨by first | rfl | (congr 2; omega), by rfl⟩
    · skip
      refine w_aload rfl rfl ?_
      refine w_call (Or.inr rfl) (har) (by omega) nof_138 rfl rfl rfl rfl (by first | rfl | (show cKB[_]? = _; assumption)) rfl ?_
      refine w_aload rfl rfl (w_getR rfl (by first | rfl | assumption) rfl (by first | rfl | assumption) (w_getIV rfl (by first | rfl | assumption) (by first | exact Or.inl rfl | exact Or.inr rfl) (hC5) ?_))
      refine w_icmp_ne (tgt := 28) rfl (by first | assumption | exact i32_0 | (unfold i32 at *; omega)) (by first | assumption | exact i32_0 | (unfold i32 at *; omega)) rfl (fun c21 => ?_) (fun c21 => ?_)
      · skip
        refine w_iconst rfl ?_
        exact w_zreturn rfl (by first | exact Or.inl rfl | exact Or.inr rfl | omega | assumption) ⟨by first | rfl | (congr 2; omega), by rfl⟩
      · skip
        exfalso; omega
