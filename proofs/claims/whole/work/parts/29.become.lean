/-! ===== moved, mirrored, joined, multiplied ===== -/
theorem Tw.tr {t : Nat} {f g : Cv} {m n : Int} {M M1 M2 : mM} (h : Tw t f m M M1) (h2 : Tw t g n M1 M2) : Tw t g (m + n) M M2 := ⟨h2.1, by have := h.2.1; have := h2.2.1; omega, by have := h.2.2.1; have := h2.2.2.1; omega, fun a a1 a2 k => (h2.2.2.2 a a1 a2 k).trans (h.2.2.2 a a1 a2 k)⟩
theorem Tw.le {t : Nat} {f : Cv} {m n : Int} {M M1 : mM} (h : Tw t f m M M1) (hmn : m ≤ n) : Tw t f n M M1 := ⟨h.1, h.2.1, by have := h.2.2.1; omega, h.2.2.2⟩
theorem Tw.cg {t : Nat} {f g : Cv} {n : Int} {M M1 : mM} (h : Tw t f n M M1) (hfg : ∀ p, p < 21 → f p = g p) : Tw t g n M M1 := ⟨fun k hk => by rw [h.1 k hk, hfg k hk], h.2⟩
/-- a part of t's row written, its count of changes as it was -/
def Tp (t : Nat) (f : Cv) (M M1 : mM) : Prop := cur t f M1 ∧ M1 t 1 = M t 1 ∧ ∀ a, a ≠ t → a ≠ t + 1 → ∀ k, M1 a k = M a k
def downF (dx dy : Int) (p : Nat) : Int := pi p * dx + pj p * dy
def moveF (f : Cv) (dx dy : Int) : Cv := fun p => (f p).map fun c => c - downF dx dy p
def moveC (f : Cv) (dx dy : Int) (n : Nat) : Nat := fb_ct (fun p => hasF f p && !decide (downF dx dy p = 0)) n
theorem e_moved {t o : Nat} {f : Cv} {M : mM} {dx dy : Int} (ht : isT t) (ho : isT o) (hto : t ≠ o) (hto2 : t ≠ o + 1) (hot : o ≠ t + 1) (hc : cur o f M) (hf : Cok 999 f) (hx : -99 ≤ dx ∧ dx ≤ 99) (hy : -99 ≤ dy ∧ dy ≤ 99) :
    EQ 2 53 [vR t, vR o, vI dx, vI dy] M (fun r M1 => r = some (vI (moveC f dx dy 21)) ∧ Tw t (moveF f dx dy) 1 M M1) := by
  obtain ⟨ht1, ht2, ht3⟩ := id ht
  have ho1 := ho.1
  refine q_in (ls := [vR t, vR o, vI dx, vI dy, vN, vN, vN]) mq_53 (ml_53 rfl) rfl fun D hD => ?_
  have loop : ∀ (n k : Nat) (N : mM) (v6 : mV), 21 - k = n → k ≤ 21 → Tw t (fun p => if p < k then moveF f dx dy p else f p) 1 M N → Wp mc_53 D 11 [vR t, vR o, vI dx, vI dy, vI (moveC f dx dy k), vI k, v6] [] N (fun r M1 => r = some (vI (moveC f dx dy 21)) ∧ Tw t (moveF f dx dy) 1 M M1) := by
    intro n
    induction n with
    | zero =>
      intro k N v6 hn hk hi
      obtain rfl : k = 21 := by omega
      refine w_iload rfl rfl (w_aload rfl rfl (w_getR rfl (by first | rfl | assumption) rfl (by first | rfl | assumption) (w_alen rfl (by first | rfl | assumption) (by decide) (by decide) ?_)))
      refine w_icmp_ge (tgt := 74) rfl (by first | assumption | exact i32_0 | (unfold i32 at *; omega)) (by first | assumption | exact i32_0 | (unfold i32 at *; omega)) rfl (fun c18 => ?_) (fun c18 => ?_)
      · skip
        refine w_iload rfl rfl ?_
        exact w_ireturn rfl ⟨by first | rfl | (congr 2; omega), by exact hi.cg (fun p hp => if_pos hp)⟩
      · skip
        exfalso; omega
    | succ n ih =>
      intro k N v6 hn hk hi
      have hk2 : k < 21 := by omega
      have hd : -800 ≤ downF dx dy k ∧ downF dx dy k ≤ 800 := by
        have h1 := mul_le4 hx (pi_le (p := k) (by omega))
        have h2 := mul_le4 hy (pj_le k)
        unfold downF
        rw [Int.mul_comm (pi k), Int.mul_comm (pj k)]; omega
      have hcn : f k = none → N (t + 1) k = -1000000 := fun hg => by
        rw [hi.1 k hk2]; dsimp only; rw [if_neg (by omega), hg]; rfl
      have hcs : ∀ c, f k = some c → N (t + 1) k = c := fun c hg => by
        rw [hi.1 k hk2]; dsimp only; rw [if_neg (by omega), hg]; rfl
      cases hfk : f k with
      | none =>
        have e : moveC f dx dy (k + 1) = moveC f dx dy k := by unfold moveC; rw [fb_ct_succ]; simp [hasF, hfk]
        have ih2 := fun v6 => ih (k + 1) N v6 (by omega) (by omega) (hi.cg fun p hp => by
          by_cases q : p = k
          · subst q; rw [if_neg (by omega), if_pos (by omega)]; unfold moveF; rw [hfk]; rfl
          · by_cases q2 : p < k
            · rw [if_pos q2, if_pos (by omega)]
            · rw [if_neg q2, if_neg (by omega)])
        rw [e] at ih2
        refine w_iload rfl rfl (w_aload rfl rfl (w_getR rfl (by first | rfl | assumption) rfl (by first | rfl | assumption) (w_alen rfl (by first | rfl | assumption) (by decide) (by decide) ?_)))
        refine w_icmp_ge (tgt := 74) rfl (by first | assumption | exact i32_0 | (unfold i32 at *; omega)) (by first | assumption | exact i32_0 | (unfold i32 at *; omega)) rfl (fun c18 => ?_) (fun c18 => ?_)
        · skip
          exfalso; omega
        · skip
          refine w_iload rfl rfl (w_iconst rfl (w_idiv rfl (by first | assumption | exact i32_0 | (unfold i32 at *; omega)) (by first | assumption | exact i32_0 | (unfold i32 at *; omega)) (by first | decide | omega | assumption) (w_iload rfl rfl (w_imul rfl (w_iload rfl rfl (w_iconst rfl (w_irem rfl (by first | assumption | exact i32_0 | (unfold i32 at *; omega)) (by first | assumption | exact i32_0 | (unfold i32 at *; omega)) (by first | decide | omega | assumption) ?_)))))))
          refine w_iload rfl rfl (w_imul rfl (w_iadd rfl (w_istore (ls2 := [_, _, _, _, _, _, _]) rfl rfl rfl (w_aload rfl rfl (w_getR rfl (by first | rfl | assumption) rfl (by first | rfl | assumption) (w_iload rfl rfl (w_ialoadV rfl (by first | rfl | assumption) (by omega) (by omega) (hcn hfk) ?_)))))))
          refine w_iconst rfl ?_
          refine w_icmp_eq (tgt := 68) rfl (by first | assumption | exact i32_0 | (unfold i32 at *; omega)) (by first | assumption | exact i32_0 | (unfold i32 at *; omega)) rfl (fun c45 => ?_) (fun c45 => ?_)
          · skip
            refine w_iinc (ls2 := [_, _, _, _, _, _, _]) rfl rfl rfl (w_goto (tgt := 11) rfl rfl ?_)
            exact ih2 _
          · skip
            exact absurd rfl c45
      | some c =>
        have hcb := hf k c hfk
        by_cases hz : downF dx dy k = 0
        · have e : moveC f dx dy (k + 1) = moveC f dx dy k := by unfold moveC; rw [fb_ct_succ]; simp [hasF, hfk, hz]
          have ih2 := fun v6 => ih (k + 1) N v6 (by omega) (by omega) (hi.cg fun p hp => by
            by_cases q : p = k
            · subst q; rw [if_neg (by omega), if_pos (by omega)]; unfold moveF; rw [hfk, Option.map_some, hz, Int.sub_zero]
            · by_cases q2 : p < k
              · rw [if_pos q2, if_pos (by omega)]
              · rw [if_neg q2, if_neg (by omega)])
          rw [e] at ih2
          refine w_iload rfl rfl (w_aload rfl rfl (w_getR rfl (by first | rfl | assumption) rfl (by first | rfl | assumption) (w_alen rfl (by first | rfl | assumption) (by decide) (by decide) ?_)))
          refine w_icmp_ge (tgt := 74) rfl (by first | assumption | exact i32_0 | (unfold i32; show _ ≤ downF dx dy k ∧ downF dx dy k ≤ _; omega) | (show i32 c; unfold i32; omega) | (unfold i32 at *; omega)) (by first | assumption | exact i32_0 | (unfold i32; show _ ≤ downF dx dy k ∧ downF dx dy k ≤ _; omega) | (show i32 c; unfold i32; omega) | (unfold i32 at *; omega)) rfl (fun c18 => ?_) (fun c18 => ?_)
          · skip
            exfalso; omega
          · skip
            refine w_iload rfl rfl (w_iconst rfl (w_idiv rfl (by first | assumption | exact i32_0 | (unfold i32; show _ ≤ downF dx dy k ∧ downF dx dy k ≤ _; omega) | (show i32 c; unfold i32; omega) | (unfold i32 at *; omega)) (by first | assumption | exact i32_0 | (unfold i32; show _ ≤ downF dx dy k ∧ downF dx dy k ≤ _; omega) | (show i32 c; unfold i32; omega) | (unfold i32 at *; omega)) (by first | decide | omega | assumption) (w_iload rfl rfl (w_imul rfl (w_iload rfl rfl (w_iconst rfl (w_irem rfl (by first | assumption | exact i32_0 | (unfold i32; show _ ≤ downF dx dy k ∧ downF dx dy k ≤ _; omega) | (show i32 c; unfold i32; omega) | (unfold i32 at *; omega)) (by first | assumption | exact i32_0 | (unfold i32; show _ ≤ downF dx dy k ∧ downF dx dy k ≤ _; omega) | (show i32 c; unfold i32; omega) | (unfold i32 at *; omega)) (by first | decide | omega | assumption) ?_)))))))
            refine w_iload rfl rfl (w_imul rfl (w_iadd rfl (w_istore (ls2 := [_, _, _, _, _, _, _]) rfl rfl rfl (w_aload rfl rfl (w_getR rfl (by first | rfl | assumption) rfl (by first | rfl | assumption) (w_iload rfl rfl (w_ialoadV rfl (by first | rfl | assumption) (by omega) (by omega) (hcs c hfk) ?_)))))))
            refine w_iconst rfl ?_
            refine w_icmp_eq (tgt := 68) rfl (by first | assumption | exact i32_0 | (unfold i32; show _ ≤ downF dx dy k ∧ downF dx dy k ≤ _; omega) | (show i32 c; unfold i32; omega) | (unfold i32 at *; omega)) (by first | assumption | exact i32_0 | (unfold i32; show _ ≤ downF dx dy k ∧ downF dx dy k ≤ _; omega) | (show i32 c; unfold i32; omega) | (unfold i32 at *; omega)) rfl (fun c45 => ?_) (fun c45 => ?_)
            · skip
              refine w_iinc (ls2 := [_, _, _, _, _, _, _]) rfl rfl rfl (w_goto (tgt := 11) rfl rfl ?_)
              first | exact ih2 _ | exact absurd c45 (by show ¬ c = _; omega)
            · skip
              refine w_iload rfl rfl ?_
              refine w_if_eq (tgt := 68) rfl (by first | assumption | exact i32_0 | (unfold i32; show _ ≤ downF dx dy k ∧ downF dx dy k ≤ _; omega) | (show i32 c; unfold i32; omega) | (unfold i32 at *; omega)) rfl (fun c50 => ?_) (fun c50 => ?_)
              · skip
                refine w_iinc (ls2 := [_, _, _, _, _, _, _]) rfl rfl rfl (w_goto (tgt := 11) rfl rfl ?_)
                first | exact ih2 _ | exact absurd c45 (by show ¬ c = _; omega)
              · skip
                exact absurd hz c50
        · have e : ((moveC f dx dy (k + 1) : Nat) : Int) = ((moveC f dx dy k : Nat) : Int) + 1 := by unfold moveC; rw [fb_ct_succ]; simp [hasF, hfk, hz]
          have ih2 := fun v6 => ih (k + 1) (upI N (t + 1) k (c - downF dx dy k)) v6 (by omega) (by omega) ⟨fun p hp => by
            unfold upI
            by_cases q : p = k
            · rw [if_pos ⟨rfl, q⟩, q]; dsimp only; rw [if_pos (by omega)]; unfold moveF; rw [hfk]; rfl
            · rw [if_neg (fun z => q z.2), hi.1 p hp]; dsimp only
              by_cases q2 : p < k
              · rw [if_pos q2, if_pos (by omega)]
              · rw [if_neg q2, if_neg (by omega)], by rw [show upI N (t + 1) k (c - downF dx dy k) t 1 = N t 1 from if_neg (fun q => by omega)]; exact hi.2.1, by rw [show upI N (t + 1) k (c - downF dx dy k) t 1 = N t 1 from if_neg (fun q => by omega)]; exact hi.2.2.1, fun a a1 a2 j => by
            rw [show upI N (t + 1) k (c - downF dx dy k) a j = N a j from if_neg (fun q => a2 q.1)]; exact hi.2.2.2 a a1 a2 j⟩
          rw [e] at ih2
          refine w_iload rfl rfl (w_aload rfl rfl (w_getR rfl (by first | rfl | assumption) rfl (by first | rfl | assumption) (w_alen rfl (by first | rfl | assumption) (by decide) (by decide) ?_)))
          refine w_icmp_ge (tgt := 74) rfl (by first | assumption | exact i32_0 | (unfold i32; show _ ≤ downF dx dy k ∧ downF dx dy k ≤ _; omega) | (show i32 c; unfold i32; omega) | (unfold i32 at *; omega)) (by first | assumption | exact i32_0 | (unfold i32; show _ ≤ downF dx dy k ∧ downF dx dy k ≤ _; omega) | (show i32 c; unfold i32; omega) | (unfold i32 at *; omega)) rfl (fun c18 => ?_) (fun c18 => ?_)
          · skip
            exfalso; omega
          · skip
            refine w_iload rfl rfl (w_iconst rfl (w_idiv rfl (by first | assumption | exact i32_0 | (unfold i32; show _ ≤ downF dx dy k ∧ downF dx dy k ≤ _; omega) | (show i32 c; unfold i32; omega) | (unfold i32 at *; omega)) (by first | assumption | exact i32_0 | (unfold i32; show _ ≤ downF dx dy k ∧ downF dx dy k ≤ _; omega) | (show i32 c; unfold i32; omega) | (unfold i32 at *; omega)) (by first | decide | omega | assumption) (w_iload rfl rfl (w_imul rfl (w_iload rfl rfl (w_iconst rfl (w_irem rfl (by first | assumption | exact i32_0 | (unfold i32; show _ ≤ downF dx dy k ∧ downF dx dy k ≤ _; omega) | (show i32 c; unfold i32; omega) | (unfold i32 at *; omega)) (by first | assumption | exact i32_0 | (unfold i32; show _ ≤ downF dx dy k ∧ downF dx dy k ≤ _; omega) | (show i32 c; unfold i32; omega) | (unfold i32 at *; omega)) (by first | decide | omega | assumption) ?_)))))))
            refine w_iload rfl rfl (w_imul rfl (w_iadd rfl (w_istore (ls2 := [_, _, _, _, _, _, _]) rfl rfl rfl (w_aload rfl rfl (w_getR rfl (by first | rfl | assumption) rfl (by first | rfl | assumption) (w_iload rfl rfl (w_ialoadV rfl (by first | rfl | assumption) (by omega) (by omega) (hcs c hfk) ?_)))))))
            refine w_iconst rfl ?_
            refine w_icmp_eq (tgt := 68) rfl (by first | assumption | exact i32_0 | (unfold i32; show _ ≤ downF dx dy k ∧ downF dx dy k ≤ _; omega) | (show i32 c; unfold i32; omega) | (unfold i32 at *; omega)) (by first | assumption | exact i32_0 | (unfold i32; show _ ≤ downF dx dy k ∧ downF dx dy k ≤ _; omega) | (show i32 c; unfold i32; omega) | (unfold i32 at *; omega)) rfl (fun c45 => ?_) (fun c45 => ?_)
            · skip
              refine w_iinc (ls2 := [_, _, _, _, _, _, _]) rfl rfl rfl (w_goto (tgt := 11) rfl rfl ?_)
              first | exact ih2 _ | exact absurd c50 hz | exact absurd c45 (by show ¬ c = _; omega)
            · skip
              refine w_iload rfl rfl ?_
              refine w_if_eq (tgt := 68) rfl (by first | assumption | exact i32_0 | (unfold i32; show _ ≤ downF dx dy k ∧ downF dx dy k ≤ _; omega) | (show i32 c; unfold i32; omega) | (unfold i32 at *; omega)) rfl (fun c50 => ?_) (fun c50 => ?_)
              · skip
                refine w_iinc (ls2 := [_, _, _, _, _, _, _]) rfl rfl rfl (w_goto (tgt := 11) rfl rfl ?_)
                first | exact ih2 _ | exact absurd c50 hz | exact absurd c45 (by show ¬ c = _; omega)
              · skip
                refine w_aload rfl rfl (w_getR rfl (by first | rfl | assumption) rfl (by first | rfl | assumption) (w_iload rfl rfl (w_dup2 rfl rfl rfl (w_ialoadV rfl (by first | rfl | assumption) (by omega) (by omega) (hcs c hfk) (w_iload rfl rfl (w_isub rfl (w_iastore rfl (by first | rfl | assumption) (by omega) (by omega) ?_)))))))
                refine w_iinc (ls2 := [_, _, _, _, _, _, _]) rfl rfl rfl (w_iinc (ls2 := [_, _, _, _, _, _, _]) rfl rfl rfl (w_goto (tgt := 11) rfl rfl ?_))
                first | exact ih2 _ | exact absurd c50 hz | exact absurd c45 (by show ¬ c = _; omega)
  refine w_aload rfl rfl (w_aload rfl rfl ?_)
  refine w_callQ (Or.inr rfl) (e_take ht ho hto hto2 hot hc) (by omega) nof_34 rfl rfl rfl rfl (by first | rfl | (show cKB[_]? = _; assumption)) (fun r2 M2 hq2 => ?_)
  obtain ⟨rfl, hw⟩ := hq2
  refine w_iconst rfl (w_istore (ls2 := [_, _, _, _, _, _, _]) rfl rfl rfl (w_iconst rfl (w_istore (ls2 := [_, _, _, _, _, _, _]) rfl rfl rfl ?_)))
  exact loop 21 0 _ _ rfl (by omega) (hw.cg fun p hp => (if_neg (by omega)).symm)
def mir (p : Nat) : Nat := p % 5 * 5 + p / 5
def mirF (f : Cv) : Cv := fun p => if p < 25 then f (mir p) else none
def mirC (f : Cv) (n : Nat) : Nat := fb_ct (fun p => hasF f p && !decide (mir p = p)) n
theorem mir_mir : ∀ p, p < 25 → mir (mir p) = p ∧ mir p < 25 := by decide +kernel
theorem mir_pl : ∀ p, p < 25 → p / 5 + p % 5 ≤ 4 → mir p < 21 ∧ mir p / 5 + mir p % 5 ≤ 4 := by decide +kernel
theorem e_mirrored {t o : Nat} {f : Cv} {M : mM} (ht : isT t) (ho : isT o) (hto : t ≠ o) (hto2 : t ≠ o + 1) (hot : o ≠ t + 1) (hc : cur o f M) (hf : Cok 999 f) :
    EQ 3 56 [vR t, vR o] M (fun r M1 => r = some (vI (mirC f 21)) ∧ Tw t (mirF f) 30 M M1) := by
  obtain ⟨ht1, ht2, ht3⟩ := id ht
  have ho1 := ho.1
  refine q_in (ls := [vR t, vR o, vN, vN, vN]) mq_56 (ml_56 rfl) rfl fun D hD => ?_
  have loop : ∀ (n k : Nat) (N : mM) (v4 : mV), 21 - k = n → k ≤ 21 → Tw t (fun p => if mir p < k then mirF f p else none) (1 + k) M N → Wp mc_56 D 8 [vR t, vR o, vI (mirC f k), vI k, v4] [] N (fun r M1 => r = some (vI (mirC f 21)) ∧ Tw t (mirF f) 30 M M1) := by
    intro n
    induction n with
    | zero =>
      intro k N v4 hn hk hi
      obtain rfl : k = 21 := by omega
      have hfin : Tw t (mirF f) 30 M N := (hi.cg (fun p hp => by
        by_cases q : mir p < 21
        · rw [if_pos q]
        · rw [if_neg q]
          unfold mirF
          rw [if_pos (by omega)]
          cases h : f (mir p) with
          | none => rfl
          | some c => exact absurd (hf _ _ h).1 q)).le (by omega)
      refine w_iload rfl rfl (w_iconst rfl ?_)
      refine w_icmp_ge (tgt := 64) rfl (by first | assumption | exact i32_0 | (unfold i32 at *; omega)) (by first | assumption | exact i32_0 | (unfold i32 at *; omega)) rfl (fun c11 => ?_) (fun c11 => ?_)
      · skip
        refine w_iload rfl rfl ?_
        exact w_ireturn rfl ⟨by first | rfl | (congr 2; omega), by exact hfin⟩
      · skip
        exfalso; omega
    | succ n ih =>
      intro k N v4 hn hk hi
      have hk2 : k < 21 := by omega
      have hco : cur o f N := cur_fr hc (fun j => hi.2.2.2 (o + 1) (by omega) (by omega) j)
      have hstep : ∀ p, p < 21 → mir p ≠ k → (if mir p < k then mirF f p else none) = (if mir p < k + 1 then mirF f p else none) := fun p hp hne => by
        by_cases q2 : mir p < k
        · rw [if_pos q2, if_pos (by omega)]
        · rw [if_neg q2, if_neg (by omega)]
      cases hfk : f k with
      | none =>
        have e : mirC f (k + 1) = mirC f k := by unfold mirC; rw [fb_ct_succ]; simp [hasF, hfk]
        have ih2 := fun v4 => ih (k + 1) N v4 (by omega) (by omega) ((hi.cg fun p hp => by
          by_cases q : mir p = k
          · rw [if_neg (by omega), if_pos (by omega)]
            unfold mirF
            rw [if_pos (by omega), q, hfk]
          · exact hstep p hp q).le (by omega))
        rw [e] at ih2
        refine w_iload rfl rfl (w_iconst rfl ?_)
        refine w_icmp_ge (tgt := 64) rfl (by first | assumption | exact i32_0 | (unfold i32 at *; omega)) (by first | assumption | exact i32_0 | (unfold i32 at *; omega)) rfl (fun c11 => ?_) (fun c11 => ?_)
        · skip
          exfalso; omega
        · skip
          refine w_aload rfl rfl (w_iload rfl rfl ?_)
          refine w_call (Or.inr rfl) (e_has0 ho hco (by omega) hfk) (by omega) nof_30 rfl rfl rfl rfl (by first | rfl | (show cKB[_]? = _; assumption)) rfl ?_
          refine w_if_eq (tgt := 58) rfl (by first | assumption | exact i32_0 | (unfold i32 at *; omega)) rfl (fun _ => ?_) (fun c => absurd c (by decide))
          refine w_iinc (ls2 := [_, _, _, _, _]) rfl rfl rfl (w_goto (tgt := 8) rfl rfl ?_)
          exact ih2 _
      | some c =>
        have hcb := hf k c hfk
        have hm := mir_pl k (by omega) hcb.2.1
        have hmm := mir_mir k (by omega)
        have hset := Tw_set (t := t) (p := mir k) (o := some c) hi.1
        have hw2 : Tw t (fun p => if mir p < k + 1 then mirF f p else none) (1 + (k + 1 : Nat)) M (setM t (mir k) c N) := (((hi.tr hset).cg fun p hp => by
          unfold upF
          by_cases q : p = mir k
          · rw [if_pos q, q, hmm.1, if_pos (by omega)]
            unfold mirF
            rw [if_pos hmm.2, hmm.1, hfk]
          · rw [if_neg q]
            exact hstep p hp (fun z => q (by rw [← z]; exact (mir_mir p (by omega)).1.symm))).le (by omega))
        have ih2 := fun v4 => ih (k + 1) (setM t (mir k) c N) v4 (by omega) (by omega) hw2
        have hv : ((k : Int).tmod 5) * 5 + (k : Int).tdiv 5 = ((mir k : Nat) : Int) := by
          show ((k % 5 : Nat) : Int) * 5 + ((k / 5 : Nat) : Int) = ((k % 5 * 5 + k / 5 : Nat) : Int)
          omega
        by_cases hz : mir k = k
        · have e : ((mirC f (k + 1) : Nat) : Int) = ((mirC f k : Nat) : Int) + 0 := by unfold mirC; rw [fb_ct_succ]; simp [hasF, hfk, hz]
          rw [e] at ih2
          refine w_iload rfl rfl (w_iconst rfl ?_)
          refine w_icmp_ge (tgt := 64) rfl (by first | assumption | exact i32_0 | (unfold i32 at *; omega)) (by first | assumption | exact i32_0 | (unfold i32 at *; omega)) rfl (fun c11 => ?_) (fun c11 => ?_)
          · skip
            exfalso; omega
          · skip
            refine w_aload rfl rfl (w_iload rfl rfl ?_)
            refine w_call (Or.inr rfl) (e_has1 ho hco (by decide) hf hfk) (by omega) nof_30 rfl rfl rfl rfl (by first | rfl | (show cKB[_]? = _; assumption)) rfl ?_
            refine w_if_eq (tgt := 58) rfl (by first | assumption | exact i32_0 | (unfold i32 at *; omega)) rfl (fun c => absurd c (by decide)) (fun _ => ?_)
            refine w_iload rfl rfl (w_iconst rfl (w_irem rfl (by first | assumption | exact i32_0 | (unfold i32 at *; omega)) (by first | assumption | exact i32_0 | (unfold i32 at *; omega)) (by first | decide | omega | assumption) (w_iconst rfl (w_imul rfl (w_iload rfl rfl (w_iconst rfl (w_idiv rfl (by first | assumption | exact i32_0 | (unfold i32 at *; omega)) (by first | assumption | exact i32_0 | (unfold i32 at *; omega)) (by first | decide | omega | assumption) ?_)))))))
            refine w_iadd rfl ?_
            rw [hv]
            refine w_istore (ls2 := [_, _, _, _, _]) rfl rfl rfl (w_aload rfl rfl (w_iload rfl rfl (w_aload rfl rfl (w_iload rfl rfl ?_))))
            refine w_call (Or.inr rfl) (e_at_s ho hco hk2 hfk) (by omega) nof_31 rfl rfl rfl rfl (by first | rfl | (show cKB[_]? = _; assumption)) rfl ?_
            refine w_call (Or.inr rfl) (e_set ht hm.1) (by omega) nof_32 rfl rfl rfl rfl (by first | rfl | (show cKB[_]? = _; assumption)) rfl ?_
            refine w_iload rfl rfl (w_iload rfl rfl (w_iload rfl rfl ?_))
            refine w_icmp_ne (tgt := 55) rfl (by first | assumption | exact i32_0 | (unfold i32 at *; omega)) (by first | assumption | exact i32_0 | (unfold i32 at *; omega)) rfl (fun c48 => ?_) (fun c48 => ?_)
            · skip
              refine w_iconst rfl (w_iadd rfl (w_istore (ls2 := [_, _, _, _, _]) rfl rfl rfl (w_iinc (ls2 := [_, _, _, _, _]) rfl rfl rfl (w_goto (tgt := 8) rfl rfl ?_))))
              first | exact ih2 _ | (exfalso; omega)
            · skip
              refine w_iconst rfl (w_goto (tgt := 56) rfl rfl (w_iadd rfl (w_istore (ls2 := [_, _, _, _, _]) rfl rfl rfl (w_iinc (ls2 := [_, _, _, _, _]) rfl rfl rfl (w_goto (tgt := 8) rfl rfl ?_)))))
              first | exact ih2 _ | (exfalso; omega)
        · have e : ((mirC f (k + 1) : Nat) : Int) = ((mirC f k : Nat) : Int) + 1 := by unfold mirC; rw [fb_ct_succ]; simp [hasF, hfk, hz]
          rw [e] at ih2
          refine w_iload rfl rfl (w_iconst rfl ?_)
          refine w_icmp_ge (tgt := 64) rfl (by first | assumption | exact i32_0 | (unfold i32 at *; omega)) (by first | assumption | exact i32_0 | (unfold i32 at *; omega)) rfl (fun c11 => ?_) (fun c11 => ?_)
          · skip
            exfalso; omega
          · skip
            refine w_aload rfl rfl (w_iload rfl rfl ?_)
            refine w_call (Or.inr rfl) (e_has1 ho hco (by decide) hf hfk) (by omega) nof_30 rfl rfl rfl rfl (by first | rfl | (show cKB[_]? = _; assumption)) rfl ?_
            refine w_if_eq (tgt := 58) rfl (by first | assumption | exact i32_0 | (unfold i32 at *; omega)) rfl (fun c => absurd c (by decide)) (fun _ => ?_)
            refine w_iload rfl rfl (w_iconst rfl (w_irem rfl (by first | assumption | exact i32_0 | (unfold i32 at *; omega)) (by first | assumption | exact i32_0 | (unfold i32 at *; omega)) (by first | decide | omega | assumption) (w_iconst rfl (w_imul rfl (w_iload rfl rfl (w_iconst rfl (w_idiv rfl (by first | assumption | exact i32_0 | (unfold i32 at *; omega)) (by first | assumption | exact i32_0 | (unfold i32 at *; omega)) (by first | decide | omega | assumption) ?_)))))))
            refine w_iadd rfl ?_
            rw [hv]
            refine w_istore (ls2 := [_, _, _, _, _]) rfl rfl rfl (w_aload rfl rfl (w_iload rfl rfl (w_aload rfl rfl (w_iload rfl rfl ?_))))
            refine w_call (Or.inr rfl) (e_at_s ho hco hk2 hfk) (by omega) nof_31 rfl rfl rfl rfl (by first | rfl | (show cKB[_]? = _; assumption)) rfl ?_
            refine w_call (Or.inr rfl) (e_set ht hm.1) (by omega) nof_32 rfl rfl rfl rfl (by first | rfl | (show cKB[_]? = _; assumption)) rfl ?_
            refine w_iload rfl rfl (w_iload rfl rfl (w_iload rfl rfl ?_))
            refine w_icmp_ne (tgt := 55) rfl (by first | assumption | exact i32_0 | (unfold i32 at *; omega)) (by first | assumption | exact i32_0 | (unfold i32 at *; omega)) rfl (fun c48 => ?_) (fun c48 => ?_)
            · skip
              refine w_iconst rfl (w_iadd rfl (w_istore (ls2 := [_, _, _, _, _]) rfl rfl rfl (w_iinc (ls2 := [_, _, _, _, _]) rfl rfl rfl (w_goto (tgt := 8) rfl rfl ?_))))
              first | exact ih2 _ | (exfalso; omega)
            · skip
              refine w_iconst rfl (w_goto (tgt := 56) rfl rfl (w_iadd rfl (w_istore (ls2 := [_, _, _, _, _]) rfl rfl rfl (w_iinc (ls2 := [_, _, _, _, _]) rfl rfl rfl (w_goto (tgt := 8) rfl rfl ?_)))))
              first | exact ih2 _ | (exfalso; omega)
  refine w_aload rfl rfl ?_
  refine w_callQ (Or.inr rfl) (e_clear ht) (by omega) nof_5 rfl rfl rfl rfl (by first | rfl | (show cKB[_]? = _; assumption)) (fun r1 M1 hq1 => ?_)
  obtain ⟨rfl, hw⟩ := hq1
  refine w_iconst rfl (w_istore (ls2 := [_, _, _, _, _]) rfl rfl rfl (w_iconst rfl (w_istore (ls2 := [_, _, _, _, _]) rfl rfl rfl ?_)))
  exact loop 21 0 _ _ rfl (by omega) (hw.cg fun p hp => (if_neg (by omega)).symm)
