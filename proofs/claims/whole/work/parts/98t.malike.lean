/-! ===== the model's comparison of both curves ===== -/
theorem all_snoc {A : Type} (F : A → Bool) (l : List A) (n : Nat) (h : n < l.length) : (l.take (n + 1)).all F = ((l.take n).all F && F l[n]) := by
  rw [take_snoc l n h, List.all_append, List.all_cons, List.all_nil, Bool.and_true]
theorem any_pre {A : Type} {F : A → Bool} {l : List A} {n : Nat} (h : (l.take n).all F = false) : l.all F = false := by
  cases e : l.all F with
  | false => rfl
  | true =>
    rw [← h]
    rw [List.all_eq_true] at e
    exact (List.all_eq_true.mpr fun x hx => e x (List.mem_of_mem_take hx)).symm
theorem m_areAlike {C K : List Pt} {R S : List (Nat → Int)} {M : mM} (hr : M 172 0 = (R.length : Int)) (hs : M 172 1 = (S.length : Int)) (hr30 : R.length ≤ 30) (hs30 : S.length ≤ 30) (hsame : ∀ i (hi : i < R.length) k (hk : k < S.length), E 3 246 [vR 155, vI i, vI ((40 + k : Nat) : Int)] M (some (vI (if sameQ C K R[i] S[k] = true then 1 else 0))) M) : E 4 245 [vR 155] M (some (vI (if likeR C R K S = true then 1 else 0))) M := by
  have hlk : likeR C R K S = (decide (R.length = S.length) && R.all fun e => S.any fun d => sameQ C K e d) := rfl
  rw [hlk]
  generalize hF : (fun e => S.any fun d => sameQ C K e d) = F at *
  have hFn : ∀ n (hn : n < R.length), F R[n] = S.any fun d => sameQ C K R[n] d := fun n hn => by rw [← hF]
  have hr0 : M 172 ((0 : Int)).toNat = (R.length : Int) := hr
  have hs0 : M 172 ((1 : Int)).toNat = (S.length : Int) := hs
  clear hF hlk hr hs
  refine e_in (ls := [vR 155, vN, vN, vN, vN]) mq_245 (ml_245 rfl) rfl fun D hD => ?_
  generalize hz : (if (decide (R.length = S.length) && R.all F) = true then (1 : Int) else 0) = z
  have hz01 : z = 0 ∨ z = 1 := by
    rw [← hz]
    split
    · exact Or.inr rfl
    · exact Or.inl rfl
  have inner : ∀ (n : Nat) (hn : n < R.length), (∀ v, Wp mc_245 D 83 [vR 155, vI 1, vI n, vI (if F R[n] = true then 1 else 0), v] [] M (fun r N => r = some (vI z) ∧ N = M)) → ∀ (m k : Nat), S.length - k = m → k ≤ S.length → Wp mc_245 D 43 [vR 155, vI 1, vI n, vI (if ((S.take k).any fun d => sameQ C K R[n] d) = true then 1 else 0), vI ((40 + k : Nat) : Int)] [] M (fun r N => r = some (vI z) ∧ N = M) := by
    intro n hn hout m
    induction m with
    | zero =>
      intro k hm hk
      obtain rfl : k = S.length := by omega
      rw [List.take_length, ← hFn n hn]
      have hgo := hout (vI ((40 + S.length : Nat) : Int))
      clear hsame hFn hout hz hr0
      generalize (if F R[n] = true then (1 : Int) else 0) = x at *
      generalize S.length = l at *
      refine w_iload rfl rfl (w_iconst rfl (w_aload rfl rfl (w_getR rfl (by first | rfl | assumption) rfl (by first | rfl | assumption) (w_iconst rfl (w_ialoadV rfl (by first | rfl | assumption) (by omega) (by omega) (hs0) (w_iadd rfl ?_))))))
      refine w_icmp_ge (tgt := 83) rfl (by first | assumption | exact i32_0 | (unfold i32 at *; omega)) (by first | assumption | exact i32_0 | (unfold i32 at *; omega)) rfl (fun c54 => ?_) (fun c54 => ?_)
      · skip
        exact hgo
      · skip
        exfalso; omega
    | succ m ih =>
      intro k hm hk
      have hkl : k < S.length := by omega
      have ihn := ih (k + 1) (by omega) (by omega)
      rw [any_snoc (fun d => sameQ C K R[n] d) S k hkl] at ihn
      have hsa := hsame n hn k hkl
      have hi : ((40 + k : Nat) : Int) + 1 = ((40 + (k + 1) : Nat) : Int) := by omega
      have hn30 : n < 30 := by omega
      clear hsame hFn hout ih hz
      generalize ((S.take k).any fun d => sameQ C K R[n] d) = b at *
      generalize sameQ C K R[n] S[k] = c at *
      generalize S.length = l at *
      cases b with
      | true =>
        rw [Bool.true_or, if_pos rfl] at ihn
        rw [if_pos rfl]
        clear hsa
        refine w_iload rfl rfl (w_iconst rfl (w_aload rfl rfl (w_getR rfl (by first | rfl | assumption) rfl (by first | rfl | assumption) (w_iconst rfl (w_ialoadV rfl (by first | rfl | assumption) (by omega) (by omega) (hs0) (w_iadd rfl ?_))))))
        refine w_icmp_ge (tgt := 83) rfl (by first | assumption | exact i32_0 | (unfold i32 at *; omega)) (by first | assumption | exact i32_0 | (unfold i32 at *; omega)) rfl (fun c54 => ?_) (fun c54 => ?_)
        · skip
          exfalso; omega
        · skip
          refine w_iload rfl rfl ?_
          refine w_if_ne (tgt := 71) rfl (by first | assumption | exact i32_0 | (unfold i32 at *; omega)) rfl (fun _ => ?_) (fun c => absurd c (by decide))
          refine w_iconst rfl (w_goto (tgt := 76) rfl rfl (w_istore (ls2 := [_, _, _, _, _]) rfl rfl rfl (w_iinc (ls2 := [_, _, _, _, _]) rfl rfl rfl ?_)))
          rw [hi]
          refine w_goto (tgt := 43) rfl rfl ?_
          exact ihn
      | false =>
        rw [Bool.false_or] at ihn
        rw [if_neg (by decide)]
        cases c with
        | true =>
          rw [if_pos rfl] at ihn hsa
          refine w_iload rfl rfl (w_iconst rfl (w_aload rfl rfl (w_getR rfl (by first | rfl | assumption) rfl (by first | rfl | assumption) (w_iconst rfl (w_ialoadV rfl (by first | rfl | assumption) (by omega) (by omega) (hs0) (w_iadd rfl ?_))))))
          refine w_icmp_ge (tgt := 83) rfl (by first | assumption | exact i32_0 | (unfold i32 at *; omega)) (by first | assumption | exact i32_0 | (unfold i32 at *; omega)) rfl (fun c54 => ?_) (fun c54 => ?_)
          · skip
            exfalso; omega
          · skip
            refine w_iload rfl rfl ?_
            refine w_if_ne (tgt := 71) rfl (by first | assumption | exact i32_0 | (unfold i32 at *; omega)) rfl (fun c => absurd c (by decide)) (fun _ => ?_)
            refine w_aload rfl rfl (w_iload rfl rfl (w_iload rfl rfl ?_))
            refine w_call (Or.inr rfl) ((hsa)) (by omega) nof_246 rfl rfl rfl rfl (by first | rfl | (show cKB[_]? = _; assumption)) rfl ?_
            refine w_if_eq (tgt := 75) rfl (by first | assumption | exact i32_0 | (unfold i32 at *; omega)) rfl (fun c => absurd c (by decide)) (fun _ => ?_)
            refine w_iconst rfl (w_goto (tgt := 76) rfl rfl (w_istore (ls2 := [_, _, _, _, _]) rfl rfl rfl (w_iinc (ls2 := [_, _, _, _, _]) rfl rfl rfl ?_)))
            rw [hi]
            refine w_goto (tgt := 43) rfl rfl ?_
            exact ihn
        | false =>
          rw [if_neg (by decide)] at ihn hsa
          refine w_iload rfl rfl (w_iconst rfl (w_aload rfl rfl (w_getR rfl (by first | rfl | assumption) rfl (by first | rfl | assumption) (w_iconst rfl (w_ialoadV rfl (by first | rfl | assumption) (by omega) (by omega) (hs0) (w_iadd rfl ?_))))))
          refine w_icmp_ge (tgt := 83) rfl (by first | assumption | exact i32_0 | (unfold i32 at *; omega)) (by first | assumption | exact i32_0 | (unfold i32 at *; omega)) rfl (fun c54 => ?_) (fun c54 => ?_)
          · skip
            exfalso; omega
          · skip
            refine w_iload rfl rfl ?_
            refine w_if_ne (tgt := 71) rfl (by first | assumption | exact i32_0 | (unfold i32 at *; omega)) rfl (fun c => absurd c (by decide)) (fun _ => ?_)
            refine w_aload rfl rfl (w_iload rfl rfl (w_iload rfl rfl ?_))
            refine w_call (Or.inr rfl) ((hsa)) (by omega) nof_246 rfl rfl rfl rfl (by first | rfl | (show cKB[_]? = _; assumption)) rfl ?_
            refine w_if_eq (tgt := 75) rfl (by first | assumption | exact i32_0 | (unfold i32 at *; omega)) rfl (fun _ => ?_) (fun c => absurd c (by decide))
            refine w_iconst rfl (w_istore (ls2 := [_, _, _, _, _]) rfl rfl rfl (w_iinc (ls2 := [_, _, _, _, _]) rfl rfl rfl ?_))
            rw [hi]
            refine w_goto (tgt := 43) rfl rfl ?_
            exact ihn
  have loop : ∀ (m n : Nat) (v w : mV), R.length - n = m → n ≤ R.length → Wp mc_245 D 23 [vR 155, vI (if (decide (R.length = S.length) && (R.take n).all F) = true then 1 else 0), vI n, v, w] [] M (fun r N => r = some (vI z) ∧ N = M) := by
    intro m
    induction m with
    | zero =>
      intro n v w hm hn
      obtain rfl : n = R.length := by omega
      rw [List.take_length, hz]
      clear hz hsame hFn inner hs0
      generalize R.length = l at *
      refine w_iload rfl rfl (w_aload rfl rfl (w_getR rfl (by first | rfl | assumption) rfl (by first | rfl | assumption) (w_iconst rfl (w_ialoadV rfl (by first | rfl | assumption) (by omega) (by omega) (hr0) ?_))))
      refine w_icmp_ge (tgt := 91) rfl (by first | assumption | exact i32_0 | (unfold i32 at *; omega)) (by first | assumption | exact i32_0 | (unfold i32 at *; omega)) rfl (fun c30 => ?_) (fun c30 => ?_)
      · skip
        refine w_iload rfl rfl ?_
        exact w_zreturn rfl (by first | exact Or.inl rfl | exact Or.inr rfl | omega | assumption) ⟨by first | rfl | (congr 2; omega), by rfl⟩
      · skip
        exfalso; omega
    | succ m ih =>
      intro n v w hm hn
      have hnl : n < R.length := by omega
      have ihn := fun v w => ih (n + 1) v w (by omega) (by omega)
      rw [all_snoc F R n hnl] at ihn
      cases e : (decide (R.length = S.length) && (R.take n).all F) with
      | false =>
        have h0 : (decide (R.length = S.length) && R.all F) = false := by
          cases e1 : decide (R.length = S.length) with
          | false => rfl
          | true =>
            rw [e1, Bool.true_and] at e
            rw [any_pre e]; rfl
        rw [h0, if_neg (by decide)] at hz
        subst hz
        rw [if_neg (by decide)]
        clear hsame hFn inner hs0 ih ihn e h0
        generalize R.length = l at *
        refine w_iload rfl rfl (w_aload rfl rfl (w_getR rfl (by first | rfl | assumption) rfl (by first | rfl | assumption) (w_iconst rfl (w_ialoadV rfl (by first | rfl | assumption) (by omega) (by omega) (hr0) ?_))))
        refine w_icmp_ge (tgt := 91) rfl (by first | assumption | exact i32_0 | (unfold i32 at *; omega)) (by first | assumption | exact i32_0 | (unfold i32 at *; omega)) rfl (fun c30 => ?_) (fun c30 => ?_)
        · skip
          refine w_iload rfl rfl ?_
          exact w_zreturn rfl (by first | exact Or.inl rfl | exact Or.inr rfl | omega | assumption) ⟨by first | rfl | (congr 2; omega), by rfl⟩
        · skip
          refine w_iload rfl rfl ?_
          refine w_if_eq (tgt := 91) rfl (by first | assumption | exact i32_0 | (unfold i32 at *; omega)) rfl (fun _ => ?_) (fun c => absurd c (by decide))
          refine w_iload rfl rfl ?_
          exact w_zreturn rfl (by first | exact Or.inl rfl | exact Or.inr rfl | omega | assumption) ⟨by first | rfl | (congr 2; omega), by rfl⟩
      | true =>
        rw [← Bool.and_assoc, e, Bool.true_and] at ihn
        rw [if_pos rfl]
        have hin := inner n hnl (fun v2 => by
          have ihn := fun w => ihn (vI (if F R[n] = true then 1 else 0)) w
          clear hsame hFn inner hs0 ih hz e
          generalize (if F R[n] = true then (1 : Int) else 0) = x at *
          have ihn := ihn v2
          refine w_iload rfl rfl (w_istore (ls2 := [_, _, _, _, _]) rfl rfl rfl (w_iinc (ls2 := [_, _, _, _, _]) rfl rfl rfl (w_goto (tgt := 23) rfl rfl ?_)))
          exact ihn) S.length 0 (Nat.sub_zero _) (Nat.zero_le _)
        replace hin : Wp mc_245 D 43 [vR 155, vI 1, vI n, vI 0, vI ((40 + 0 : Nat) : Int)] [] M (fun r N => r = some (vI z) ∧ N = M) := hin
        have hn30 : n < 30 := by omega
        clear hsame hFn inner hs0 ih ihn hz e
        generalize R.length = l at *
        refine w_iload rfl rfl (w_aload rfl rfl (w_getR rfl (by first | rfl | assumption) rfl (by first | rfl | assumption) (w_iconst rfl (w_ialoadV rfl (by first | rfl | assumption) (by omega) (by omega) (hr0) ?_))))
        refine w_icmp_ge (tgt := 91) rfl (by first | assumption | exact i32_0 | (unfold i32 at *; omega)) (by first | assumption | exact i32_0 | (unfold i32 at *; omega)) rfl (fun c30 => ?_) (fun c30 => ?_)
        · skip
          exfalso; omega
        · skip
          refine w_iload rfl rfl ?_
          refine w_if_eq (tgt := 91) rfl (by first | assumption | exact i32_0 | (unfold i32 at *; omega)) rfl (fun c => absurd c (by decide)) (fun _ => ?_)
          refine w_iconst rfl (w_istore (ls2 := [_, _, _, _, _]) rfl rfl rfl (w_iconst rfl (w_istore (ls2 := [_, _, _, _, _]) rfl rfl rfl ?_)))
          exact hin
  have hgo := loop R.length 0 vN vN (Nat.sub_zero _) (Nat.zero_le _)
  rw [List.take_zero, List.all_nil, Bool.and_true] at hgo
  clear loop inner hsame hFn hz
  by_cases q : R.length = S.length
  · rw [decide_eq_true q, if_pos rfl] at hgo
    generalize R.length = l at *
    generalize S.length = l2 at *
    refine w_aload rfl rfl (w_getR rfl (by first | rfl | assumption) rfl (by first | rfl | assumption) (w_iconst rfl (w_ialoadV rfl (by first | rfl | assumption) (by omega) (by omega) (hr0) (w_aload rfl rfl (w_getR rfl (by first | rfl | assumption) rfl (by first | rfl | assumption) (w_iconst rfl (w_ialoadV rfl (by first | rfl | assumption) (by omega) (by omega) (hs0) ?_)))))))
    refine w_icmp_ne (tgt := 19) rfl (by first | assumption | exact i32_0 | (unfold i32 at *; omega)) (by first | assumption | exact i32_0 | (unfold i32 at *; omega)) rfl (fun c12 => ?_) (fun c12 => ?_)
    · skip
      exfalso; omega
    · skip
      refine w_iconst rfl (w_goto (tgt := 20) rfl rfl (w_istore (ls2 := [_, _, _, _, _]) rfl rfl rfl (w_iconst rfl (w_istore (ls2 := [_, _, _, _, _]) rfl rfl rfl ?_))))
      exact hgo
  · rw [decide_eq_false q, if_neg (by decide)] at hgo
    generalize R.length = l at *
    generalize S.length = l2 at *
    refine w_aload rfl rfl (w_getR rfl (by first | rfl | assumption) rfl (by first | rfl | assumption) (w_iconst rfl (w_ialoadV rfl (by first | rfl | assumption) (by omega) (by omega) (hr0) (w_aload rfl rfl (w_getR rfl (by first | rfl | assumption) rfl (by first | rfl | assumption) (w_iconst rfl (w_ialoadV rfl (by first | rfl | assumption) (by omega) (by omega) (hs0) ?_)))))))
    refine w_icmp_ne (tgt := 19) rfl (by first | assumption | exact i32_0 | (unfold i32 at *; omega)) (by first | assumption | exact i32_0 | (unfold i32 at *; omega)) rfl (fun c12 => ?_) (fun c12 => ?_)
    · skip
      refine w_iconst rfl (w_istore (ls2 := [_, _, _, _, _]) rfl rfl rfl (w_iconst rfl (w_istore (ls2 := [_, _, _, _, _]) rfl rfl rfl ?_)))
      exact hgo
    · skip
      exfalso; omega
