/-! ===== the model's ways ===== -/
def wyR (X : Lab) (M : mM) : Prop := ∀ k, k < 16 → M 177 k = X.1 k ∧ M 178 k = X.2 k
def wyF (M N : mM) : Prop := ∀ b, b ≠ 177 → b ≠ 178 → N b = M b
theorem wyF_tr {M N O : mM} (h : wyF M N) (h2 : wyF N O) : wyF M O := fun b q1 q2 => (h2 b q1 q2).trans (h b q1 q2)
theorem wyF_rfl (M : mM) : wyF M M := fun _ _ _ => rfl
theorem wyR_upd {b : Nat} {X : Lab} {M : mM} (h : wyR X M) (v w : Int) : wyR (sR X.1 b v, sR X.2 b w) (upI (upI M 177 b v) 178 b w) := by
  intro k hk
  show upI (upI M 177 b v) 178 b w 177 k = sR X.1 b v k ∧ upI (upI M 177 b v) 178 b w 178 k = sR X.2 b w k
  have := h k hk
  unfold upI sR
  by_cases q : k = b
  · refine ⟨?_, ?_⟩
    · rw [if_neg (by omega), if_pos ⟨rfl, q⟩, if_pos q]
    · rw [if_pos ⟨rfl, q⟩, if_pos q]
  · refine ⟨?_, ?_⟩
    · rw [if_neg (by omega), if_neg (by omega), if_neg q]; exact this.1
    · rw [if_neg (by omega), if_neg (by omega), if_neg q]; exact this.2
theorem m_goes {a b c : Nat} {l : Int} {X : Lab} {M : mM} (h : wyR X M) (hX : labOK c X) (hc : c ≤ 10000) (ha : a < 16) (hb : b < 16) (hl : 0 ≤ l ∧ l ≤ 4000000000000) : EQ 1 229 [vR 155, vI a, vI b, vL l] M (fun r N => r = none ∧ wyR (rlx a b l X) N ∧ wyF M N) := by
  have b1 := hX a
  have b2 := hX b
  have x1 : M 177 ((a : Int)).toNat = X.1 a := (h a ha).1
  have x2 : M 178 ((a : Int)).toNat = X.2 a := (h a ha).2
  have y1 : M 177 ((b : Int)).toNat = X.1 b := (h b hb).1
  have y2 : M 178 ((b : Int)).toNat = X.2 b := (h b hb).2
  have hup := wyR_upd (b := b) h (X.1 a + l) (X.2 a + 1)
  have hfr : wyF M (upI (upI M 177 b (X.1 a + l)) 178 b (X.2 a + 1)) := fun x q1 q2 => by funext k; rw [upI_ne _ _ _ _ q2, upI_ne _ _ _ _ q1]
  have z2 : upI M 177 b (X.1 a + l) 178 ((a : Int)).toNat = X.2 a := by rw [upI_ne _ _ _ _ (by decide)]; exact x2
  refine q_in (ls := [vR 155, vI a, vI b, vL l, vN, vN, vN]) mq_229 (ml_229 rfl) rfl fun D hD => ?_
  unfold rlx
  generalize X.1 a = fa at *
  generalize X.1 b = fb at *
  generalize X.2 a = sa at *
  generalize X.2 b = sb at *
  by_cases q1 : 0 ≤ fa
  · by_cases q2 : fb < 0 ∨ fa + l < fb ∨ (fa + l = fb ∧ sa + 1 < sb)
    · rw [if_pos ⟨q1, q2⟩]
      have yes : Wp mc_229 D 73 [vR 155, vI a, vI b, vL l, vN, vL (fa + l), vN] [] M (fun r N => r = none ∧ wyR (sR X.1 b (fa + l), sR X.2 b (sa + 1)) N ∧ wyF M N) := by
        refine w_aload rfl rfl (w_getR rfl (by first | rfl | assumption) rfl (by first | rfl | assumption) (w_iload rfl rfl (w_lload rfl rfl (w_lastore rfl (by first | rfl | assumption) (by omega) (by omega) (w_aload rfl rfl (w_getR rfl (by first | rfl | assumption) rfl (by first | rfl | assumption) (w_iload rfl rfl ?_)))))))
        refine w_aload rfl rfl (w_getR rfl (by first | rfl | assumption) rfl (by first | rfl | assumption) (w_iload rfl rfl (w_ialoadV rfl (by first | rfl | assumption) (by omega) (by omega) (z2) (w_iconst rfl (w_iadd rfl (w_iastore rfl (by first | rfl | assumption) (by omega) (by omega) ?_))))))
        exact w_return rfl ⟨rfl, by exact ⟨hup, hfr⟩⟩
      refine w_aload rfl rfl (w_getR rfl (by first | rfl | assumption) rfl (by first | rfl | assumption) (w_iload rfl rfl (w_laloadV rfl (by first | rfl | assumption) (by omega) (by omega) (x1) (w_lload rfl rfl (w_ladd rfl (w_lstore (ls2 := [_, _, _, _, _, _, _]) rfl rfl rfl (w_aload rfl rfl ?_)))))))
      refine w_getR rfl (by first | rfl | assumption) rfl (by first | rfl | assumption) (w_iload rfl rfl (w_laloadV rfl (by first | rfl | assumption) (by omega) (by omega) (x1) (w_lconst rfl ?_)))
      refine w_lcmp rfl (by first | assumption | exact i64_0 | (unfold i64 at *; omega)) (by first | assumption | exact i64_0 | (unfold i64 at *; omega)) (fun c17 => ?_) (fun c17 => ?_) (fun c17 => ?_)
      · skip
        refine w_if_lt (tgt := 95) rfl (by first | assumption | exact i32_0 | (unfold i32 at *; omega)) rfl (fun _ => ?_) (fun c => absurd c (by decide))
        exfalso; omega
      · skip
        refine w_if_lt (tgt := 95) rfl (by first | assumption | exact i32_0 | (unfold i32 at *; omega)) rfl (fun c => absurd c (by decide)) (fun _ => ?_)
        refine w_aload rfl rfl (w_getR rfl (by first | rfl | assumption) rfl (by first | rfl | assumption) (w_iload rfl rfl (w_laloadV rfl (by first | rfl | assumption) (by omega) (by omega) (y1) (w_lconst rfl ?_))))
        refine w_lcmp rfl (by first | assumption | exact i64_0 | (unfold i64 at *; omega)) (by first | assumption | exact i64_0 | (unfold i64 at *; omega)) (fun c28 => ?_) (fun c28 => ?_) (fun c28 => ?_)
        · skip
          refine w_if_lt (tgt := 73) rfl (by first | assumption | exact i32_0 | (unfold i32 at *; omega)) rfl (fun _ => ?_) (fun c => absurd c (by decide))
          exact yes
        · skip
          refine w_if_lt (tgt := 73) rfl (by first | assumption | exact i32_0 | (unfold i32 at *; omega)) rfl (fun c => absurd c (by decide)) (fun _ => ?_)
          refine w_lload rfl rfl (w_aload rfl rfl (w_getR rfl (by first | rfl | assumption) rfl (by first | rfl | assumption) (w_iload rfl rfl (w_laloadV rfl (by first | rfl | assumption) (by omega) (by omega) (y1) ?_))))
          refine w_lcmp rfl (by first | assumption | exact i64_0 | (unfold i64 at *; omega)) (by first | assumption | exact i64_0 | (unfold i64 at *; omega)) (fun c40 => ?_) (fun c40 => ?_) (fun c40 => ?_)
          · skip
            refine w_if_lt (tgt := 73) rfl (by first | assumption | exact i32_0 | (unfold i32 at *; omega)) rfl (fun _ => ?_) (fun c => absurd c (by decide))
            exact yes
          · skip
            refine w_if_lt (tgt := 73) rfl (by first | assumption | exact i32_0 | (unfold i32 at *; omega)) rfl (fun c => absurd c (by decide)) (fun _ => ?_)
            refine w_lload rfl rfl (w_aload rfl rfl (w_getR rfl (by first | rfl | assumption) rfl (by first | rfl | assumption) (w_iload rfl rfl (w_laloadV rfl (by first | rfl | assumption) (by omega) (by omega) (y1) ?_))))
            refine w_lcmp rfl (by first | assumption | exact i64_0 | (unfold i64 at *; omega)) (by first | assumption | exact i64_0 | (unfold i64 at *; omega)) (fun c52 => ?_) (fun c52 => ?_) (fun c52 => ?_)
            · skip
              refine w_if_ne (tgt := 95) rfl (by first | assumption | exact i32_0 | (unfold i32 at *; omega)) rfl (fun _ => ?_) (fun c => absurd c (by decide))
              exfalso; omega
            · skip
              refine w_if_ne (tgt := 95) rfl (by first | assumption | exact i32_0 | (unfold i32 at *; omega)) rfl (fun _ => ?_) (fun c => absurd c (by decide))
              exfalso; omega
            · skip
              refine w_if_ne (tgt := 95) rfl (by first | assumption | exact i32_0 | (unfold i32 at *; omega)) rfl (fun c => absurd c (by decide)) (fun _ => ?_)
              refine w_aload rfl rfl (w_getR rfl (by first | rfl | assumption) rfl (by first | rfl | assumption) (w_iload rfl rfl (w_ialoadV rfl (by first | rfl | assumption) (by omega) (by omega) (x2) (w_iconst rfl (w_iadd rfl (w_aload rfl rfl (w_getR rfl (by first | rfl | assumption) rfl (by first | rfl | assumption) ?_)))))))
              refine w_iload rfl rfl (w_ialoadV rfl (by first | rfl | assumption) (by omega) (by omega) (y2) ?_)
              refine w_icmp_ge (tgt := 95) rfl (by first | assumption | exact i32_0 | (unfold i32 at *; omega)) (by first | assumption | exact i32_0 | (unfold i32 at *; omega)) rfl (fun c70 => ?_) (fun c70 => ?_)
              · skip
                exfalso; omega
              · skip
                exact yes
          · skip
            refine w_if_lt (tgt := 73) rfl (by first | assumption | exact i32_0 | (unfold i32 at *; omega)) rfl (fun c => absurd c (by decide)) (fun _ => ?_)
            refine w_lload rfl rfl (w_aload rfl rfl (w_getR rfl (by first | rfl | assumption) rfl (by first | rfl | assumption) (w_iload rfl rfl (w_laloadV rfl (by first | rfl | assumption) (by omega) (by omega) (y1) ?_))))
            refine w_lcmp rfl (by first | assumption | exact i64_0 | (unfold i64 at *; omega)) (by first | assumption | exact i64_0 | (unfold i64 at *; omega)) (fun c52 => ?_) (fun c52 => ?_) (fun c52 => ?_)
            · skip
              refine w_if_ne (tgt := 95) rfl (by first | assumption | exact i32_0 | (unfold i32 at *; omega)) rfl (fun _ => ?_) (fun c => absurd c (by decide))
              exfalso; omega
            · skip
              refine w_if_ne (tgt := 95) rfl (by first | assumption | exact i32_0 | (unfold i32 at *; omega)) rfl (fun _ => ?_) (fun c => absurd c (by decide))
              exfalso; omega
            · skip
              refine w_if_ne (tgt := 95) rfl (by first | assumption | exact i32_0 | (unfold i32 at *; omega)) rfl (fun c => absurd c (by decide)) (fun _ => ?_)
              refine w_aload rfl rfl (w_getR rfl (by first | rfl | assumption) rfl (by first | rfl | assumption) (w_iload rfl rfl (w_ialoadV rfl (by first | rfl | assumption) (by omega) (by omega) (x2) (w_iconst rfl (w_iadd rfl (w_aload rfl rfl (w_getR rfl (by first | rfl | assumption) rfl (by first | rfl | assumption) ?_)))))))
              refine w_iload rfl rfl (w_ialoadV rfl (by first | rfl | assumption) (by omega) (by omega) (y2) ?_)
              refine w_icmp_ge (tgt := 95) rfl (by first | assumption | exact i32_0 | (unfold i32 at *; omega)) (by first | assumption | exact i32_0 | (unfold i32 at *; omega)) rfl (fun c70 => ?_) (fun c70 => ?_)
              · skip
                exfalso; omega
              · skip
                exact yes
        · skip
          refine w_if_lt (tgt := 73) rfl (by first | assumption | exact i32_0 | (unfold i32 at *; omega)) rfl (fun c => absurd c (by decide)) (fun _ => ?_)
          refine w_lload rfl rfl (w_aload rfl rfl (w_getR rfl (by first | rfl | assumption) rfl (by first | rfl | assumption) (w_iload rfl rfl (w_laloadV rfl (by first | rfl | assumption) (by omega) (by omega) (y1) ?_))))
          refine w_lcmp rfl (by first | assumption | exact i64_0 | (unfold i64 at *; omega)) (by first | assumption | exact i64_0 | (unfold i64 at *; omega)) (fun c40 => ?_) (fun c40 => ?_) (fun c40 => ?_)
          · skip
            refine w_if_lt (tgt := 73) rfl (by first | assumption | exact i32_0 | (unfold i32 at *; omega)) rfl (fun _ => ?_) (fun c => absurd c (by decide))
            exact yes
          · skip
            refine w_if_lt (tgt := 73) rfl (by first | assumption | exact i32_0 | (unfold i32 at *; omega)) rfl (fun c => absurd c (by decide)) (fun _ => ?_)
            refine w_lload rfl rfl (w_aload rfl rfl (w_getR rfl (by first | rfl | assumption) rfl (by first | rfl | assumption) (w_iload rfl rfl (w_laloadV rfl (by first | rfl | assumption) (by omega) (by omega) (y1) ?_))))
            refine w_lcmp rfl (by first | assumption | exact i64_0 | (unfold i64 at *; omega)) (by first | assumption | exact i64_0 | (unfold i64 at *; omega)) (fun c52 => ?_) (fun c52 => ?_) (fun c52 => ?_)
            · skip
              refine w_if_ne (tgt := 95) rfl (by first | assumption | exact i32_0 | (unfold i32 at *; omega)) rfl (fun _ => ?_) (fun c => absurd c (by decide))
              exfalso; omega
            · skip
              refine w_if_ne (tgt := 95) rfl (by first | assumption | exact i32_0 | (unfold i32 at *; omega)) rfl (fun _ => ?_) (fun c => absurd c (by decide))
              exfalso; omega
            · skip
              refine w_if_ne (tgt := 95) rfl (by first | assumption | exact i32_0 | (unfold i32 at *; omega)) rfl (fun c => absurd c (by decide)) (fun _ => ?_)
              refine w_aload rfl rfl (w_getR rfl (by first | rfl | assumption) rfl (by first | rfl | assumption) (w_iload rfl rfl (w_ialoadV rfl (by first | rfl | assumption) (by omega) (by omega) (x2) (w_iconst rfl (w_iadd rfl (w_aload rfl rfl (w_getR rfl (by first | rfl | assumption) rfl (by first | rfl | assumption) ?_)))))))
              refine w_iload rfl rfl (w_ialoadV rfl (by first | rfl | assumption) (by omega) (by omega) (y2) ?_)
              refine w_icmp_ge (tgt := 95) rfl (by first | assumption | exact i32_0 | (unfold i32 at *; omega)) (by first | assumption | exact i32_0 | (unfold i32 at *; omega)) rfl (fun c70 => ?_) (fun c70 => ?_)
              · skip
                exfalso; omega
              · skip
                exact yes
          · skip
            refine w_if_lt (tgt := 73) rfl (by first | assumption | exact i32_0 | (unfold i32 at *; omega)) rfl (fun c => absurd c (by decide)) (fun _ => ?_)
            refine w_lload rfl rfl (w_aload rfl rfl (w_getR rfl (by first | rfl | assumption) rfl (by first | rfl | assumption) (w_iload rfl rfl (w_laloadV rfl (by first | rfl | assumption) (by omega) (by omega) (y1) ?_))))
            refine w_lcmp rfl (by first | assumption | exact i64_0 | (unfold i64 at *; omega)) (by first | assumption | exact i64_0 | (unfold i64 at *; omega)) (fun c52 => ?_) (fun c52 => ?_) (fun c52 => ?_)
            · skip
              refine w_if_ne (tgt := 95) rfl (by first | assumption | exact i32_0 | (unfold i32 at *; omega)) rfl (fun _ => ?_) (fun c => absurd c (by decide))
              exfalso; omega
            · skip
              refine w_if_ne (tgt := 95) rfl (by first | assumption | exact i32_0 | (unfold i32 at *; omega)) rfl (fun _ => ?_) (fun c => absurd c (by decide))
              exfalso; omega
            · skip
              refine w_if_ne (tgt := 95) rfl (by first | assumption | exact i32_0 | (unfold i32 at *; omega)) rfl (fun c => absurd c (by decide)) (fun _ => ?_)
              refine w_aload rfl rfl (w_getR rfl (by first | rfl | assumption) rfl (by first | rfl | assumption) (w_iload rfl rfl (w_ialoadV rfl (by first | rfl | assumption) (by omega) (by omega) (x2) (w_iconst rfl (w_iadd rfl (w_aload rfl rfl (w_getR rfl (by first | rfl | assumption) rfl (by first | rfl | assumption) ?_)))))))
              refine w_iload rfl rfl (w_ialoadV rfl (by first | rfl | assumption) (by omega) (by omega) (y2) ?_)
              refine w_icmp_ge (tgt := 95) rfl (by first | assumption | exact i32_0 | (unfold i32 at *; omega)) (by first | assumption | exact i32_0 | (unfold i32 at *; omega)) rfl (fun c70 => ?_) (fun c70 => ?_)
              · skip
                exfalso; omega
              · skip
                exact yes
      · skip
        refine w_if_lt (tgt := 95) rfl (by first | assumption | exact i32_0 | (unfold i32 at *; omega)) rfl (fun c => absurd c (by decide)) (fun _ => ?_)
        refine w_aload rfl rfl (w_getR rfl (by first | rfl | assumption) rfl (by first | rfl | assumption) (w_iload rfl rfl (w_laloadV rfl (by first | rfl | assumption) (by omega) (by omega) (y1) (w_lconst rfl ?_))))
        refine w_lcmp rfl (by first | assumption | exact i64_0 | (unfold i64 at *; omega)) (by first | assumption | exact i64_0 | (unfold i64 at *; omega)) (fun c28 => ?_) (fun c28 => ?_) (fun c28 => ?_)
        · skip
          refine w_if_lt (tgt := 73) rfl (by first | assumption | exact i32_0 | (unfold i32 at *; omega)) rfl (fun _ => ?_) (fun c => absurd c (by decide))
          exact yes
        · skip
          refine w_if_lt (tgt := 73) rfl (by first | assumption | exact i32_0 | (unfold i32 at *; omega)) rfl (fun c => absurd c (by decide)) (fun _ => ?_)
          refine w_lload rfl rfl (w_aload rfl rfl (w_getR rfl (by first | rfl | assumption) rfl (by first | rfl | assumption) (w_iload rfl rfl (w_laloadV rfl (by first | rfl | assumption) (by omega) (by omega) (y1) ?_))))
          refine w_lcmp rfl (by first | assumption | exact i64_0 | (unfold i64 at *; omega)) (by first | assumption | exact i64_0 | (unfold i64 at *; omega)) (fun c40 => ?_) (fun c40 => ?_) (fun c40 => ?_)
          · skip
            refine w_if_lt (tgt := 73) rfl (by first | assumption | exact i32_0 | (unfold i32 at *; omega)) rfl (fun _ => ?_) (fun c => absurd c (by decide))
            exact yes
          · skip
            refine w_if_lt (tgt := 73) rfl (by first | assumption | exact i32_0 | (unfold i32 at *; omega)) rfl (fun c => absurd c (by decide)) (fun _ => ?_)
            refine w_lload rfl rfl (w_aload rfl rfl (w_getR rfl (by first | rfl | assumption) rfl (by first | rfl | assumption) (w_iload rfl rfl (w_laloadV rfl (by first | rfl | assumption) (by omega) (by omega) (y1) ?_))))
            refine w_lcmp rfl (by first | assumption | exact i64_0 | (unfold i64 at *; omega)) (by first | assumption | exact i64_0 | (unfold i64 at *; omega)) (fun c52 => ?_) (fun c52 => ?_) (fun c52 => ?_)
            · skip
              refine w_if_ne (tgt := 95) rfl (by first | assumption | exact i32_0 | (unfold i32 at *; omega)) rfl (fun _ => ?_) (fun c => absurd c (by decide))
              exfalso; omega
            · skip
              refine w_if_ne (tgt := 95) rfl (by first | assumption | exact i32_0 | (unfold i32 at *; omega)) rfl (fun _ => ?_) (fun c => absurd c (by decide))
              exfalso; omega
            · skip
              refine w_if_ne (tgt := 95) rfl (by first | assumption | exact i32_0 | (unfold i32 at *; omega)) rfl (fun c => absurd c (by decide)) (fun _ => ?_)
              refine w_aload rfl rfl (w_getR rfl (by first | rfl | assumption) rfl (by first | rfl | assumption) (w_iload rfl rfl (w_ialoadV rfl (by first | rfl | assumption) (by omega) (by omega) (x2) (w_iconst rfl (w_iadd rfl (w_aload rfl rfl (w_getR rfl (by first | rfl | assumption) rfl (by first | rfl | assumption) ?_)))))))
              refine w_iload rfl rfl (w_ialoadV rfl (by first | rfl | assumption) (by omega) (by omega) (y2) ?_)
              refine w_icmp_ge (tgt := 95) rfl (by first | assumption | exact i32_0 | (unfold i32 at *; omega)) (by first | assumption | exact i32_0 | (unfold i32 at *; omega)) rfl (fun c70 => ?_) (fun c70 => ?_)
              · skip
                exfalso; omega
              · skip
                exact yes
          · skip
            refine w_if_lt (tgt := 73) rfl (by first | assumption | exact i32_0 | (unfold i32 at *; omega)) rfl (fun c => absurd c (by decide)) (fun _ => ?_)
            refine w_lload rfl rfl (w_aload rfl rfl (w_getR rfl (by first | rfl | assumption) rfl (by first | rfl | assumption) (w_iload rfl rfl (w_laloadV rfl (by first | rfl | assumption) (by omega) (by omega) (y1) ?_))))
            refine w_lcmp rfl (by first | assumption | exact i64_0 | (unfold i64 at *; omega)) (by first | assumption | exact i64_0 | (unfold i64 at *; omega)) (fun c52 => ?_) (fun c52 => ?_) (fun c52 => ?_)
            · skip
              refine w_if_ne (tgt := 95) rfl (by first | assumption | exact i32_0 | (unfold i32 at *; omega)) rfl (fun _ => ?_) (fun c => absurd c (by decide))
              exfalso; omega
            · skip
              refine w_if_ne (tgt := 95) rfl (by first | assumption | exact i32_0 | (unfold i32 at *; omega)) rfl (fun _ => ?_) (fun c => absurd c (by decide))
              exfalso; omega
            · skip
              refine w_if_ne (tgt := 95) rfl (by first | assumption | exact i32_0 | (unfold i32 at *; omega)) rfl (fun c => absurd c (by decide)) (fun _ => ?_)
              refine w_aload rfl rfl (w_getR rfl (by first | rfl | assumption) rfl (by first | rfl | assumption) (w_iload rfl rfl (w_ialoadV rfl (by first | rfl | assumption) (by omega) (by omega) (x2) (w_iconst rfl (w_iadd rfl (w_aload rfl rfl (w_getR rfl (by first | rfl | assumption) rfl (by first | rfl | assumption) ?_)))))))
              refine w_iload rfl rfl (w_ialoadV rfl (by first | rfl | assumption) (by omega) (by omega) (y2) ?_)
              refine w_icmp_ge (tgt := 95) rfl (by first | assumption | exact i32_0 | (unfold i32 at *; omega)) (by first | assumption | exact i32_0 | (unfold i32 at *; omega)) rfl (fun c70 => ?_) (fun c70 => ?_)
              · skip
                exfalso; omega
              · skip
                exact yes
        · skip
          refine w_if_lt (tgt := 73) rfl (by first | assumption | exact i32_0 | (unfold i32 at *; omega)) rfl (fun c => absurd c (by decide)) (fun _ => ?_)
          refine w_lload rfl rfl (w_aload rfl rfl (w_getR rfl (by first | rfl | assumption) rfl (by first | rfl | assumption) (w_iload rfl rfl (w_laloadV rfl (by first | rfl | assumption) (by omega) (by omega) (y1) ?_))))
          refine w_lcmp rfl (by first | assumption | exact i64_0 | (unfold i64 at *; omega)) (by first | assumption | exact i64_0 | (unfold i64 at *; omega)) (fun c40 => ?_) (fun c40 => ?_) (fun c40 => ?_)
          · skip
            refine w_if_lt (tgt := 73) rfl (by first | assumption | exact i32_0 | (unfold i32 at *; omega)) rfl (fun _ => ?_) (fun c => absurd c (by decide))
            exact yes
          · skip
            refine w_if_lt (tgt := 73) rfl (by first | assumption | exact i32_0 | (unfold i32 at *; omega)) rfl (fun c => absurd c (by decide)) (fun _ => ?_)
            refine w_lload rfl rfl (w_aload rfl rfl (w_getR rfl (by first | rfl | assumption) rfl (by first | rfl | assumption) (w_iload rfl rfl (w_laloadV rfl (by first | rfl | assumption) (by omega) (by omega) (y1) ?_))))
            refine w_lcmp rfl (by first | assumption | exact i64_0 | (unfold i64 at *; omega)) (by first | assumption | exact i64_0 | (unfold i64 at *; omega)) (fun c52 => ?_) (fun c52 => ?_) (fun c52 => ?_)
            · skip
              refine w_if_ne (tgt := 95) rfl (by first | assumption | exact i32_0 | (unfold i32 at *; omega)) rfl (fun _ => ?_) (fun c => absurd c (by decide))
              exfalso; omega
            · skip
              refine w_if_ne (tgt := 95) rfl (by first | assumption | exact i32_0 | (unfold i32 at *; omega)) rfl (fun _ => ?_) (fun c => absurd c (by decide))
              exfalso; omega
            · skip
              refine w_if_ne (tgt := 95) rfl (by first | assumption | exact i32_0 | (unfold i32 at *; omega)) rfl (fun c => absurd c (by decide)) (fun _ => ?_)
              refine w_aload rfl rfl (w_getR rfl (by first | rfl | assumption) rfl (by first | rfl | assumption) (w_iload rfl rfl (w_ialoadV rfl (by first | rfl | assumption) (by omega) (by omega) (x2) (w_iconst rfl (w_iadd rfl (w_aload rfl rfl (w_getR rfl (by first | rfl | assumption) rfl (by first | rfl | assumption) ?_)))))))
              refine w_iload rfl rfl (w_ialoadV rfl (by first | rfl | assumption) (by omega) (by omega) (y2) ?_)
              refine w_icmp_ge (tgt := 95) rfl (by first | assumption | exact i32_0 | (unfold i32 at *; omega)) (by first | assumption | exact i32_0 | (unfold i32 at *; omega)) rfl (fun c70 => ?_) (fun c70 => ?_)
              · skip
                exfalso; omega
              · skip
                exact yes
          · skip
            refine w_if_lt (tgt := 73) rfl (by first | assumption | exact i32_0 | (unfold i32 at *; omega)) rfl (fun c => absurd c (by decide)) (fun _ => ?_)
            refine w_lload rfl rfl (w_aload rfl rfl (w_getR rfl (by first | rfl | assumption) rfl (by first | rfl | assumption) (w_iload rfl rfl (w_laloadV rfl (by first | rfl | assumption) (by omega) (by omega) (y1) ?_))))
            refine w_lcmp rfl (by first | assumption | exact i64_0 | (unfold i64 at *; omega)) (by first | assumption | exact i64_0 | (unfold i64 at *; omega)) (fun c52 => ?_) (fun c52 => ?_) (fun c52 => ?_)
            · skip
              refine w_if_ne (tgt := 95) rfl (by first | assumption | exact i32_0 | (unfold i32 at *; omega)) rfl (fun _ => ?_) (fun c => absurd c (by decide))
              exfalso; omega
            · skip
              refine w_if_ne (tgt := 95) rfl (by first | assumption | exact i32_0 | (unfold i32 at *; omega)) rfl (fun _ => ?_) (fun c => absurd c (by decide))
              exfalso; omega
            · skip
              refine w_if_ne (tgt := 95) rfl (by first | assumption | exact i32_0 | (unfold i32 at *; omega)) rfl (fun c => absurd c (by decide)) (fun _ => ?_)
              refine w_aload rfl rfl (w_getR rfl (by first | rfl | assumption) rfl (by first | rfl | assumption) (w_iload rfl rfl (w_ialoadV rfl (by first | rfl | assumption) (by omega) (by omega) (x2) (w_iconst rfl (w_iadd rfl (w_aload rfl rfl (w_getR rfl (by first | rfl | assumption) rfl (by first | rfl | assumption) ?_)))))))
              refine w_iload rfl rfl (w_ialoadV rfl (by first | rfl | assumption) (by omega) (by omega) (y2) ?_)
              refine w_icmp_ge (tgt := 95) rfl (by first | assumption | exact i32_0 | (unfold i32 at *; omega)) (by first | assumption | exact i32_0 | (unfold i32 at *; omega)) rfl (fun c70 => ?_) (fun c70 => ?_)
              · skip
                exfalso; omega
              · skip
                exact yes
    · rw [if_neg (fun z => q2 z.2)]
      refine w_aload rfl rfl (w_getR rfl (by first | rfl | assumption) rfl (by first | rfl | assumption) (w_iload rfl rfl (w_laloadV rfl (by first | rfl | assumption) (by omega) (by omega) (x1) (w_lload rfl rfl (w_ladd rfl (w_lstore (ls2 := [_, _, _, _, _, _, _]) rfl rfl rfl (w_aload rfl rfl ?_)))))))
      refine w_getR rfl (by first | rfl | assumption) rfl (by first | rfl | assumption) (w_iload rfl rfl (w_laloadV rfl (by first | rfl | assumption) (by omega) (by omega) (x1) (w_lconst rfl ?_)))
      refine w_lcmp rfl (by first | assumption | exact i64_0 | (unfold i64 at *; omega)) (by first | assumption | exact i64_0 | (unfold i64 at *; omega)) (fun c17 => ?_) (fun c17 => ?_) (fun c17 => ?_)
      · skip
        refine w_if_lt (tgt := 95) rfl (by first | assumption | exact i32_0 | (unfold i32 at *; omega)) rfl (fun _ => ?_) (fun c => absurd c (by decide))
        exact w_return rfl ⟨rfl, by exact ⟨h, wyF_rfl M⟩⟩
      · skip
        refine w_if_lt (tgt := 95) rfl (by first | assumption | exact i32_0 | (unfold i32 at *; omega)) rfl (fun c => absurd c (by decide)) (fun _ => ?_)
        refine w_aload rfl rfl (w_getR rfl (by first | rfl | assumption) rfl (by first | rfl | assumption) (w_iload rfl rfl (w_laloadV rfl (by first | rfl | assumption) (by omega) (by omega) (y1) (w_lconst rfl ?_))))
        refine w_lcmp rfl (by first | assumption | exact i64_0 | (unfold i64 at *; omega)) (by first | assumption | exact i64_0 | (unfold i64 at *; omega)) (fun c28 => ?_) (fun c28 => ?_) (fun c28 => ?_)
        · skip
          refine w_if_lt (tgt := 73) rfl (by first | assumption | exact i32_0 | (unfold i32 at *; omega)) rfl (fun _ => ?_) (fun c => absurd c (by decide))
          exfalso; omega
        · skip
          refine w_if_lt (tgt := 73) rfl (by first | assumption | exact i32_0 | (unfold i32 at *; omega)) rfl (fun c => absurd c (by decide)) (fun _ => ?_)
          refine w_lload rfl rfl (w_aload rfl rfl (w_getR rfl (by first | rfl | assumption) rfl (by first | rfl | assumption) (w_iload rfl rfl (w_laloadV rfl (by first | rfl | assumption) (by omega) (by omega) (y1) ?_))))
          refine w_lcmp rfl (by first | assumption | exact i64_0 | (unfold i64 at *; omega)) (by first | assumption | exact i64_0 | (unfold i64 at *; omega)) (fun c40 => ?_) (fun c40 => ?_) (fun c40 => ?_)
          · skip
            refine w_if_lt (tgt := 73) rfl (by first | assumption | exact i32_0 | (unfold i32 at *; omega)) rfl (fun _ => ?_) (fun c => absurd c (by decide))
            exfalso; omega
          · skip
            refine w_if_lt (tgt := 73) rfl (by first | assumption | exact i32_0 | (unfold i32 at *; omega)) rfl (fun c => absurd c (by decide)) (fun _ => ?_)
            refine w_lload rfl rfl (w_aload rfl rfl (w_getR rfl (by first | rfl | assumption) rfl (by first | rfl | assumption) (w_iload rfl rfl (w_laloadV rfl (by first | rfl | assumption) (by omega) (by omega) (y1) ?_))))
            refine w_lcmp rfl (by first | assumption | exact i64_0 | (unfold i64 at *; omega)) (by first | assumption | exact i64_0 | (unfold i64 at *; omega)) (fun c52 => ?_) (fun c52 => ?_) (fun c52 => ?_)
            · skip
              refine w_if_ne (tgt := 95) rfl (by first | assumption | exact i32_0 | (unfold i32 at *; omega)) rfl (fun _ => ?_) (fun c => absurd c (by decide))
              exact w_return rfl ⟨rfl, by exact ⟨h, wyF_rfl M⟩⟩
            · skip
              refine w_if_ne (tgt := 95) rfl (by first | assumption | exact i32_0 | (unfold i32 at *; omega)) rfl (fun _ => ?_) (fun c => absurd c (by decide))
              exact w_return rfl ⟨rfl, by exact ⟨h, wyF_rfl M⟩⟩
            · skip
              refine w_if_ne (tgt := 95) rfl (by first | assumption | exact i32_0 | (unfold i32 at *; omega)) rfl (fun c => absurd c (by decide)) (fun _ => ?_)
              refine w_aload rfl rfl (w_getR rfl (by first | rfl | assumption) rfl (by first | rfl | assumption) (w_iload rfl rfl (w_ialoadV rfl (by first | rfl | assumption) (by omega) (by omega) (x2) (w_iconst rfl (w_iadd rfl (w_aload rfl rfl (w_getR rfl (by first | rfl | assumption) rfl (by first | rfl | assumption) ?_)))))))
              refine w_iload rfl rfl (w_ialoadV rfl (by first | rfl | assumption) (by omega) (by omega) (y2) ?_)
              refine w_icmp_ge (tgt := 95) rfl (by first | assumption | exact i32_0 | (unfold i32 at *; omega)) (by first | assumption | exact i32_0 | (unfold i32 at *; omega)) rfl (fun c70 => ?_) (fun c70 => ?_)
              · skip
                exact w_return rfl ⟨rfl, by exact ⟨h, wyF_rfl M⟩⟩
              · skip
                exfalso; omega
          · skip
            refine w_if_lt (tgt := 73) rfl (by first | assumption | exact i32_0 | (unfold i32 at *; omega)) rfl (fun c => absurd c (by decide)) (fun _ => ?_)
            refine w_lload rfl rfl (w_aload rfl rfl (w_getR rfl (by first | rfl | assumption) rfl (by first | rfl | assumption) (w_iload rfl rfl (w_laloadV rfl (by first | rfl | assumption) (by omega) (by omega) (y1) ?_))))
            refine w_lcmp rfl (by first | assumption | exact i64_0 | (unfold i64 at *; omega)) (by first | assumption | exact i64_0 | (unfold i64 at *; omega)) (fun c52 => ?_) (fun c52 => ?_) (fun c52 => ?_)
            · skip
              refine w_if_ne (tgt := 95) rfl (by first | assumption | exact i32_0 | (unfold i32 at *; omega)) rfl (fun _ => ?_) (fun c => absurd c (by decide))
              exact w_return rfl ⟨rfl, by exact ⟨h, wyF_rfl M⟩⟩
            · skip
              refine w_if_ne (tgt := 95) rfl (by first | assumption | exact i32_0 | (unfold i32 at *; omega)) rfl (fun _ => ?_) (fun c => absurd c (by decide))
              exact w_return rfl ⟨rfl, by exact ⟨h, wyF_rfl M⟩⟩
            · skip
              refine w_if_ne (tgt := 95) rfl (by first | assumption | exact i32_0 | (unfold i32 at *; omega)) rfl (fun c => absurd c (by decide)) (fun _ => ?_)
              refine w_aload rfl rfl (w_getR rfl (by first | rfl | assumption) rfl (by first | rfl | assumption) (w_iload rfl rfl (w_ialoadV rfl (by first | rfl | assumption) (by omega) (by omega) (x2) (w_iconst rfl (w_iadd rfl (w_aload rfl rfl (w_getR rfl (by first | rfl | assumption) rfl (by first | rfl | assumption) ?_)))))))
              refine w_iload rfl rfl (w_ialoadV rfl (by first | rfl | assumption) (by omega) (by omega) (y2) ?_)
              refine w_icmp_ge (tgt := 95) rfl (by first | assumption | exact i32_0 | (unfold i32 at *; omega)) (by first | assumption | exact i32_0 | (unfold i32 at *; omega)) rfl (fun c70 => ?_) (fun c70 => ?_)
              · skip
                exact w_return rfl ⟨rfl, by exact ⟨h, wyF_rfl M⟩⟩
              · skip
                exfalso; omega
        · skip
          refine w_if_lt (tgt := 73) rfl (by first | assumption | exact i32_0 | (unfold i32 at *; omega)) rfl (fun c => absurd c (by decide)) (fun _ => ?_)
          refine w_lload rfl rfl (w_aload rfl rfl (w_getR rfl (by first | rfl | assumption) rfl (by first | rfl | assumption) (w_iload rfl rfl (w_laloadV rfl (by first | rfl | assumption) (by omega) (by omega) (y1) ?_))))
          refine w_lcmp rfl (by first | assumption | exact i64_0 | (unfold i64 at *; omega)) (by first | assumption | exact i64_0 | (unfold i64 at *; omega)) (fun c40 => ?_) (fun c40 => ?_) (fun c40 => ?_)
          · skip
            refine w_if_lt (tgt := 73) rfl (by first | assumption | exact i32_0 | (unfold i32 at *; omega)) rfl (fun _ => ?_) (fun c => absurd c (by decide))
            exfalso; omega
          · skip
            refine w_if_lt (tgt := 73) rfl (by first | assumption | exact i32_0 | (unfold i32 at *; omega)) rfl (fun c => absurd c (by decide)) (fun _ => ?_)
            refine w_lload rfl rfl (w_aload rfl rfl (w_getR rfl (by first | rfl | assumption) rfl (by first | rfl | assumption) (w_iload rfl rfl (w_laloadV rfl (by first | rfl | assumption) (by omega) (by omega) (y1) ?_))))
            refine w_lcmp rfl (by first | assumption | exact i64_0 | (unfold i64 at *; omega)) (by first | assumption | exact i64_0 | (unfold i64 at *; omega)) (fun c52 => ?_) (fun c52 => ?_) (fun c52 => ?_)
            · skip
              refine w_if_ne (tgt := 95) rfl (by first | assumption | exact i32_0 | (unfold i32 at *; omega)) rfl (fun _ => ?_) (fun c => absurd c (by decide))
              exact w_return rfl ⟨rfl, by exact ⟨h, wyF_rfl M⟩⟩
            · skip
              refine w_if_ne (tgt := 95) rfl (by first | assumption | exact i32_0 | (unfold i32 at *; omega)) rfl (fun _ => ?_) (fun c => absurd c (by decide))
              exact w_return rfl ⟨rfl, by exact ⟨h, wyF_rfl M⟩⟩
            · skip
              refine w_if_ne (tgt := 95) rfl (by first | assumption | exact i32_0 | (unfold i32 at *; omega)) rfl (fun c => absurd c (by decide)) (fun _ => ?_)
              refine w_aload rfl rfl (w_getR rfl (by first | rfl | assumption) rfl (by first | rfl | assumption) (w_iload rfl rfl (w_ialoadV rfl (by first | rfl | assumption) (by omega) (by omega) (x2) (w_iconst rfl (w_iadd rfl (w_aload rfl rfl (w_getR rfl (by first | rfl | assumption) rfl (by first | rfl | assumption) ?_)))))))
              refine w_iload rfl rfl (w_ialoadV rfl (by first | rfl | assumption) (by omega) (by omega) (y2) ?_)
              refine w_icmp_ge (tgt := 95) rfl (by first | assumption | exact i32_0 | (unfold i32 at *; omega)) (by first | assumption | exact i32_0 | (unfold i32 at *; omega)) rfl (fun c70 => ?_) (fun c70 => ?_)
              · skip
                exact w_return rfl ⟨rfl, by exact ⟨h, wyF_rfl M⟩⟩
              · skip
                exfalso; omega
          · skip
            refine w_if_lt (tgt := 73) rfl (by first | assumption | exact i32_0 | (unfold i32 at *; omega)) rfl (fun c => absurd c (by decide)) (fun _ => ?_)
            refine w_lload rfl rfl (w_aload rfl rfl (w_getR rfl (by first | rfl | assumption) rfl (by first | rfl | assumption) (w_iload rfl rfl (w_laloadV rfl (by first | rfl | assumption) (by omega) (by omega) (y1) ?_))))
            refine w_lcmp rfl (by first | assumption | exact i64_0 | (unfold i64 at *; omega)) (by first | assumption | exact i64_0 | (unfold i64 at *; omega)) (fun c52 => ?_) (fun c52 => ?_) (fun c52 => ?_)
            · skip
              refine w_if_ne (tgt := 95) rfl (by first | assumption | exact i32_0 | (unfold i32 at *; omega)) rfl (fun _ => ?_) (fun c => absurd c (by decide))
              exact w_return rfl ⟨rfl, by exact ⟨h, wyF_rfl M⟩⟩
            · skip
              refine w_if_ne (tgt := 95) rfl (by first | assumption | exact i32_0 | (unfold i32 at *; omega)) rfl (fun _ => ?_) (fun c => absurd c (by decide))
              exact w_return rfl ⟨rfl, by exact ⟨h, wyF_rfl M⟩⟩
            · skip
              refine w_if_ne (tgt := 95) rfl (by first | assumption | exact i32_0 | (unfold i32 at *; omega)) rfl (fun c => absurd c (by decide)) (fun _ => ?_)
              refine w_aload rfl rfl (w_getR rfl (by first | rfl | assumption) rfl (by first | rfl | assumption) (w_iload rfl rfl (w_ialoadV rfl (by first | rfl | assumption) (by omega) (by omega) (x2) (w_iconst rfl (w_iadd rfl (w_aload rfl rfl (w_getR rfl (by first | rfl | assumption) rfl (by first | rfl | assumption) ?_)))))))
              refine w_iload rfl rfl (w_ialoadV rfl (by first | rfl | assumption) (by omega) (by omega) (y2) ?_)
              refine w_icmp_ge (tgt := 95) rfl (by first | assumption | exact i32_0 | (unfold i32 at *; omega)) (by first | assumption | exact i32_0 | (unfold i32 at *; omega)) rfl (fun c70 => ?_) (fun c70 => ?_)
              · skip
                exact w_return rfl ⟨rfl, by exact ⟨h, wyF_rfl M⟩⟩
              · skip
                exfalso; omega
      · skip
        refine w_if_lt (tgt := 95) rfl (by first | assumption | exact i32_0 | (unfold i32 at *; omega)) rfl (fun c => absurd c (by decide)) (fun _ => ?_)
        refine w_aload rfl rfl (w_getR rfl (by first | rfl | assumption) rfl (by first | rfl | assumption) (w_iload rfl rfl (w_laloadV rfl (by first | rfl | assumption) (by omega) (by omega) (y1) (w_lconst rfl ?_))))
        refine w_lcmp rfl (by first | assumption | exact i64_0 | (unfold i64 at *; omega)) (by first | assumption | exact i64_0 | (unfold i64 at *; omega)) (fun c28 => ?_) (fun c28 => ?_) (fun c28 => ?_)
        · skip
          refine w_if_lt (tgt := 73) rfl (by first | assumption | exact i32_0 | (unfold i32 at *; omega)) rfl (fun _ => ?_) (fun c => absurd c (by decide))
          exfalso; omega
        · skip
          refine w_if_lt (tgt := 73) rfl (by first | assumption | exact i32_0 | (unfold i32 at *; omega)) rfl (fun c => absurd c (by decide)) (fun _ => ?_)
          refine w_lload rfl rfl (w_aload rfl rfl (w_getR rfl (by first | rfl | assumption) rfl (by first | rfl | assumption) (w_iload rfl rfl (w_laloadV rfl (by first | rfl | assumption) (by omega) (by omega) (y1) ?_))))
          refine w_lcmp rfl (by first | assumption | exact i64_0 | (unfold i64 at *; omega)) (by first | assumption | exact i64_0 | (unfold i64 at *; omega)) (fun c40 => ?_) (fun c40 => ?_) (fun c40 => ?_)
          · skip
            refine w_if_lt (tgt := 73) rfl (by first | assumption | exact i32_0 | (unfold i32 at *; omega)) rfl (fun _ => ?_) (fun c => absurd c (by decide))
            exfalso; omega
          · skip
            refine w_if_lt (tgt := 73) rfl (by first | assumption | exact i32_0 | (unfold i32 at *; omega)) rfl (fun c => absurd c (by decide)) (fun _ => ?_)
            refine w_lload rfl rfl (w_aload rfl rfl (w_getR rfl (by first | rfl | assumption) rfl (by first | rfl | assumption) (w_iload rfl rfl (w_laloadV rfl (by first | rfl | assumption) (by omega) (by omega) (y1) ?_))))
            refine w_lcmp rfl (by first | assumption | exact i64_0 | (unfold i64 at *; omega)) (by first | assumption | exact i64_0 | (unfold i64 at *; omega)) (fun c52 => ?_) (fun c52 => ?_) (fun c52 => ?_)
            · skip
              refine w_if_ne (tgt := 95) rfl (by first | assumption | exact i32_0 | (unfold i32 at *; omega)) rfl (fun _ => ?_) (fun c => absurd c (by decide))
              exact w_return rfl ⟨rfl, by exact ⟨h, wyF_rfl M⟩⟩
            · skip
              refine w_if_ne (tgt := 95) rfl (by first | assumption | exact i32_0 | (unfold i32 at *; omega)) rfl (fun _ => ?_) (fun c => absurd c (by decide))
              exact w_return rfl ⟨rfl, by exact ⟨h, wyF_rfl M⟩⟩
            · skip
              refine w_if_ne (tgt := 95) rfl (by first | assumption | exact i32_0 | (unfold i32 at *; omega)) rfl (fun c => absurd c (by decide)) (fun _ => ?_)
              refine w_aload rfl rfl (w_getR rfl (by first | rfl | assumption) rfl (by first | rfl | assumption) (w_iload rfl rfl (w_ialoadV rfl (by first | rfl | assumption) (by omega) (by omega) (x2) (w_iconst rfl (w_iadd rfl (w_aload rfl rfl (w_getR rfl (by first | rfl | assumption) rfl (by first | rfl | assumption) ?_)))))))
              refine w_iload rfl rfl (w_ialoadV rfl (by first | rfl | assumption) (by omega) (by omega) (y2) ?_)
              refine w_icmp_ge (tgt := 95) rfl (by first | assumption | exact i32_0 | (unfold i32 at *; omega)) (by first | assumption | exact i32_0 | (unfold i32 at *; omega)) rfl (fun c70 => ?_) (fun c70 => ?_)
              · skip
                exact w_return rfl ⟨rfl, by exact ⟨h, wyF_rfl M⟩⟩
              · skip
                exfalso; omega
          · skip
            refine w_if_lt (tgt := 73) rfl (by first | assumption | exact i32_0 | (unfold i32 at *; omega)) rfl (fun c => absurd c (by decide)) (fun _ => ?_)
            refine w_lload rfl rfl (w_aload rfl rfl (w_getR rfl (by first | rfl | assumption) rfl (by first | rfl | assumption) (w_iload rfl rfl (w_laloadV rfl (by first | rfl | assumption) (by omega) (by omega) (y1) ?_))))
            refine w_lcmp rfl (by first | assumption | exact i64_0 | (unfold i64 at *; omega)) (by first | assumption | exact i64_0 | (unfold i64 at *; omega)) (fun c52 => ?_) (fun c52 => ?_) (fun c52 => ?_)
            · skip
              refine w_if_ne (tgt := 95) rfl (by first | assumption | exact i32_0 | (unfold i32 at *; omega)) rfl (fun _ => ?_) (fun c => absurd c (by decide))
              exact w_return rfl ⟨rfl, by exact ⟨h, wyF_rfl M⟩⟩
            · skip
              refine w_if_ne (tgt := 95) rfl (by first | assumption | exact i32_0 | (unfold i32 at *; omega)) rfl (fun _ => ?_) (fun c => absurd c (by decide))
              exact w_return rfl ⟨rfl, by exact ⟨h, wyF_rfl M⟩⟩
            · skip
              refine w_if_ne (tgt := 95) rfl (by first | assumption | exact i32_0 | (unfold i32 at *; omega)) rfl (fun c => absurd c (by decide)) (fun _ => ?_)
              refine w_aload rfl rfl (w_getR rfl (by first | rfl | assumption) rfl (by first | rfl | assumption) (w_iload rfl rfl (w_ialoadV rfl (by first | rfl | assumption) (by omega) (by omega) (x2) (w_iconst rfl (w_iadd rfl (w_aload rfl rfl (w_getR rfl (by first | rfl | assumption) rfl (by first | rfl | assumption) ?_)))))))
              refine w_iload rfl rfl (w_ialoadV rfl (by first | rfl | assumption) (by omega) (by omega) (y2) ?_)
              refine w_icmp_ge (tgt := 95) rfl (by first | assumption | exact i32_0 | (unfold i32 at *; omega)) (by first | assumption | exact i32_0 | (unfold i32 at *; omega)) rfl (fun c70 => ?_) (fun c70 => ?_)
              · skip
                exact w_return rfl ⟨rfl, by exact ⟨h, wyF_rfl M⟩⟩
              · skip
                exfalso; omega
        · skip
          refine w_if_lt (tgt := 73) rfl (by first | assumption | exact i32_0 | (unfold i32 at *; omega)) rfl (fun c => absurd c (by decide)) (fun _ => ?_)
          refine w_lload rfl rfl (w_aload rfl rfl (w_getR rfl (by first | rfl | assumption) rfl (by first | rfl | assumption) (w_iload rfl rfl (w_laloadV rfl (by first | rfl | assumption) (by omega) (by omega) (y1) ?_))))
          refine w_lcmp rfl (by first | assumption | exact i64_0 | (unfold i64 at *; omega)) (by first | assumption | exact i64_0 | (unfold i64 at *; omega)) (fun c40 => ?_) (fun c40 => ?_) (fun c40 => ?_)
          · skip
            refine w_if_lt (tgt := 73) rfl (by first | assumption | exact i32_0 | (unfold i32 at *; omega)) rfl (fun _ => ?_) (fun c => absurd c (by decide))
            exfalso; omega
          · skip
            refine w_if_lt (tgt := 73) rfl (by first | assumption | exact i32_0 | (unfold i32 at *; omega)) rfl (fun c => absurd c (by decide)) (fun _ => ?_)
            refine w_lload rfl rfl (w_aload rfl rfl (w_getR rfl (by first | rfl | assumption) rfl (by first | rfl | assumption) (w_iload rfl rfl (w_laloadV rfl (by first | rfl | assumption) (by omega) (by omega) (y1) ?_))))
            refine w_lcmp rfl (by first | assumption | exact i64_0 | (unfold i64 at *; omega)) (by first | assumption | exact i64_0 | (unfold i64 at *; omega)) (fun c52 => ?_) (fun c52 => ?_) (fun c52 => ?_)
            · skip
              refine w_if_ne (tgt := 95) rfl (by first | assumption | exact i32_0 | (unfold i32 at *; omega)) rfl (fun _ => ?_) (fun c => absurd c (by decide))
              exact w_return rfl ⟨rfl, by exact ⟨h, wyF_rfl M⟩⟩
            · skip
              refine w_if_ne (tgt := 95) rfl (by first | assumption | exact i32_0 | (unfold i32 at *; omega)) rfl (fun _ => ?_) (fun c => absurd c (by decide))
              exact w_return rfl ⟨rfl, by exact ⟨h, wyF_rfl M⟩⟩
            · skip
              refine w_if_ne (tgt := 95) rfl (by first | assumption | exact i32_0 | (unfold i32 at *; omega)) rfl (fun c => absurd c (by decide)) (fun _ => ?_)
              refine w_aload rfl rfl (w_getR rfl (by first | rfl | assumption) rfl (by first | rfl | assumption) (w_iload rfl rfl (w_ialoadV rfl (by first | rfl | assumption) (by omega) (by omega) (x2) (w_iconst rfl (w_iadd rfl (w_aload rfl rfl (w_getR rfl (by first | rfl | assumption) rfl (by first | rfl | assumption) ?_)))))))
              refine w_iload rfl rfl (w_ialoadV rfl (by first | rfl | assumption) (by omega) (by omega) (y2) ?_)
              refine w_icmp_ge (tgt := 95) rfl (by first | assumption | exact i32_0 | (unfold i32 at *; omega)) (by first | assumption | exact i32_0 | (unfold i32 at *; omega)) rfl (fun c70 => ?_) (fun c70 => ?_)
              · skip
                exact w_return rfl ⟨rfl, by exact ⟨h, wyF_rfl M⟩⟩
              · skip
                exfalso; omega
          · skip
            refine w_if_lt (tgt := 73) rfl (by first | assumption | exact i32_0 | (unfold i32 at *; omega)) rfl (fun c => absurd c (by decide)) (fun _ => ?_)
            refine w_lload rfl rfl (w_aload rfl rfl (w_getR rfl (by first | rfl | assumption) rfl (by first | rfl | assumption) (w_iload rfl rfl (w_laloadV rfl (by first | rfl | assumption) (by omega) (by omega) (y1) ?_))))
            refine w_lcmp rfl (by first | assumption | exact i64_0 | (unfold i64 at *; omega)) (by first | assumption | exact i64_0 | (unfold i64 at *; omega)) (fun c52 => ?_) (fun c52 => ?_) (fun c52 => ?_)
            · skip
              refine w_if_ne (tgt := 95) rfl (by first | assumption | exact i32_0 | (unfold i32 at *; omega)) rfl (fun _ => ?_) (fun c => absurd c (by decide))
              exact w_return rfl ⟨rfl, by exact ⟨h, wyF_rfl M⟩⟩
            · skip
              refine w_if_ne (tgt := 95) rfl (by first | assumption | exact i32_0 | (unfold i32 at *; omega)) rfl (fun _ => ?_) (fun c => absurd c (by decide))
              exact w_return rfl ⟨rfl, by exact ⟨h, wyF_rfl M⟩⟩
            · skip
              refine w_if_ne (tgt := 95) rfl (by first | assumption | exact i32_0 | (unfold i32 at *; omega)) rfl (fun c => absurd c (by decide)) (fun _ => ?_)
              refine w_aload rfl rfl (w_getR rfl (by first | rfl | assumption) rfl (by first | rfl | assumption) (w_iload rfl rfl (w_ialoadV rfl (by first | rfl | assumption) (by omega) (by omega) (x2) (w_iconst rfl (w_iadd rfl (w_aload rfl rfl (w_getR rfl (by first | rfl | assumption) rfl (by first | rfl | assumption) ?_)))))))
              refine w_iload rfl rfl (w_ialoadV rfl (by first | rfl | assumption) (by omega) (by omega) (y2) ?_)
              refine w_icmp_ge (tgt := 95) rfl (by first | assumption | exact i32_0 | (unfold i32 at *; omega)) (by first | assumption | exact i32_0 | (unfold i32 at *; omega)) rfl (fun c70 => ?_) (fun c70 => ?_)
              · skip
                exact w_return rfl ⟨rfl, by exact ⟨h, wyF_rfl M⟩⟩
              · skip
                exfalso; omega
  · rw [if_neg (fun z => q1 z.1)]
    refine w_aload rfl rfl (w_getR rfl (by first | rfl | assumption) rfl (by first | rfl | assumption) (w_iload rfl rfl (w_laloadV rfl (by first | rfl | assumption) (by omega) (by omega) (x1) (w_lload rfl rfl (w_ladd rfl (w_lstore (ls2 := [_, _, _, _, _, _, _]) rfl rfl rfl (w_aload rfl rfl ?_)))))))
    refine w_getR rfl (by first | rfl | assumption) rfl (by first | rfl | assumption) (w_iload rfl rfl (w_laloadV rfl (by first | rfl | assumption) (by omega) (by omega) (x1) (w_lconst rfl ?_)))
    refine w_lcmp rfl (by first | assumption | exact i64_0 | (unfold i64 at *; omega)) (by first | assumption | exact i64_0 | (unfold i64 at *; omega)) (fun c17 => ?_) (fun c17 => ?_) (fun c17 => ?_)
    · skip
      refine w_if_lt (tgt := 95) rfl (by first | assumption | exact i32_0 | (unfold i32 at *; omega)) rfl (fun _ => ?_) (fun c => absurd c (by decide))
      exact w_return rfl ⟨rfl, by exact ⟨h, wyF_rfl M⟩⟩
    · skip
      refine w_if_lt (tgt := 95) rfl (by first | assumption | exact i32_0 | (unfold i32 at *; omega)) rfl (fun c => absurd c (by decide)) (fun _ => ?_)
      exfalso; omega
    · skip
      refine w_if_lt (tgt := 95) rfl (by first | assumption | exact i32_0 | (unfold i32 at *; omega)) rfl (fun c => absurd c (by decide)) (fun _ => ?_)
      exfalso; omega
