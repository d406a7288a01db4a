/-! ===== the model's move, times, keep, back ===== -/
theorem mv_move {f : Cv} {dx dy : Int} {p : Nat} : mv (moveF f dx dy) p = mv f p - if hasF f p = true then downF dx dy p else 0 := by
  unfold mv moveF hasF
  cases f p with
  | none => rfl
  | some c => rfl
theorem downF_le {dx dy : Int} {p : Nat} (hp : p < 25) (hx : -99 ≤ dx ∧ dx ≤ 99) (hy : -99 ≤ dy ∧ dy ≤ 99) : -792 ≤ downF dx dy p ∧ downF dx dy p ≤ 792 := by
  have b1 := pi_le hp
  have b2 := pj_le p
  have m1 := mul_le4 (c := 99) hx b1
  have m2 := mul_le4 (c := 99) hy b2
  unfold downF
  rw [Int.mul_comm (pi p), Int.mul_comm (pj p)]
  omega
theorem mo_move {s : Sta} {M : mM} {a dx dy : Int} (c : MI s M) (ha : i32 a) (hx : i32 dx) (hy : i32 dy) : EQ 12 178 [vR 155, vI a, vI dx, vI dy] M (MoQ M (dMove a dx dy s).1 (dMove a dx dy s).2) := by
  refine q_in (ls := [vR 155, vI a, vI dx, vI dy, vN, vN, vN]) mq_178 (ml_178 rfl) rfl fun D hD => ?_
  have hx' : -2147483648 ≤ dx ∧ dx ≤ 2147483647 := hx
  have hy' : -2147483648 ≤ dy ∧ dy ≤ 2147483647 := hy
  unfold dMove
  by_cases q : isCu a = true
  · rw [if_pos q]
    have q := isCu_iff.mp q
    obtain ⟨a, rfl⟩ : ∃ z : Nat, a = (z : Int) := ⟨a.toNat, by omega⟩
    have ha2 : a < 2 := by omega
    by_cases qp : movOK dx dy = true
    · rw [if_pos qp]
      obtain ⟨qx, qy⟩ := of_decide_eq_true qp
      have i1 := m_in1 (v := dx) (l := -99) (m := 99) M (by unfold i64; omega) (by unfold i64; omega) (by unfold i64; omega) qx
      have i2 := m_in1 (v := dy) (l := -99) (m := 99) M (by unfold i64; omega) (by unfold i64; omega) (by unfold i64; omega) qy
      have hc := mcur_sel ha2 c.2.1.1
      have hf := Cok_sel (a := (a : Int)) c.2.1.2.1 c.2.1.2.2
      have hc2 := Cok_move hf qx qy
      have hre := m_kept c
      have hsel : selF (a : Int) s.2.1 s.2.2.1 = selF (a : Int) s.2.1 s.2.2.1 := rfl
      generalize hfg : selF (a : Int) s.2.1 s.2.2.1 = f at *
      have hm25 : moveC f dx dy 21 = fb_ct (fun p => hasF f p && !decide (downF dx dy p = 0)) 25 := (fb_ct25 fun k hk => by rw [hasF_hi hf hk]; rfl).symm
      rw [hm25]
      have second : ∀ (ct : Int) (hh : Cok 999 (moveF f dx dy)) (N0 : mM), MI (remS s) N0 → mcur (25 * a) f N0 → N0 155 21 = 0 → (∀ b, b ≠ 155 → b ≠ 156 → N0 b = M b) → ∀ (z n : Nat) (N : mM) (v : mV), 25 - n = z → n ≤ 25 → (∀ p, p < n → N 156 (25 * a + p) = mv (moveF f dx dy) p) → (∀ k, (k < 25 * a + n ∧ 25 * a ≤ k) ∨ N 156 k = N0 156 k) → (∀ b, b ≠ 156 → N b = N0 b) → Wp mc_178 D 141 [vR 155, vI a, vI dx, vI dy, vI ct, vI n, v] [] N (MoQ M ct (setS a (moveF f dx dy) (remS s))) := by
        intro ct hh N0 c0 hc0 k0 w0 z
        induction z with
        | zero =>
          intro n N v hz hn h1 h2 h3
          obtain rfl : n = 25 := by omega
          have hr : mcur (25 * a) (moveF f dx dy) N := h1
          have hfin := MI_row ha2 c0 hh hr k0 (fun k hk => by rcases h2 k with z | z; omega; exact z) (fun b hb _ => h3 b hb)
          have hfr : mFr M N := fun b hb => by rw [h3 b (by omega)]; exact w0 b (by omega) (by omega)
          refine w_iload rfl rfl (w_iconst rfl ?_)
          refine w_icmp_ge (tgt := 196) rfl (by first | assumption | exact i32_0 | (unfold i32 at *; omega)) (by first | assumption | exact i32_0 | (unfold i32 at *; omega)) rfl (fun c145 => ?_) (fun c145 => ?_)
          · skip
            refine w_iload rfl rfl ?_
            exact w_ireturn rfl ⟨by first | rfl | (congr 2; omega), by exact ⟨hfin, hfr⟩⟩
          · skip
            exfalso; omega
        | succ z ih =>
          intro n N v hz hn h1 h2 h3
          have hx0 : N 156 (25 * a + n) = mv f n := by
            rcases h2 (25 * a + n) with z | z
            · omega
            · rw [z]; exact hc0 n (by omega)
          have e1 : (25 * (a : Int) + (n : Int)).toNat = 25 * a + n := by omega
          have hx : N 156 ((25 * (a : Int) + (n : Int)).toNat) = mv f n := by rw [e1]; exact hx0
          have ihn := ih (n + 1) (upI N 156 (25 * a + n) (mv (moveF f dx dy) n)) v (by omega) (by omega) (fun k hk => by
            unfold upI
            by_cases q : k = n
            · rw [if_pos ⟨rfl, by omega⟩, q]
            · rw [if_neg (by omega)]; exact h1 k (by omega)) (fun k => by
            by_cases q : k = 25 * a + n
            · left; omega
            · rcases h2 k with z | z
              · left; omega
              · right; exact (if_neg (by omega)).trans z) (fun b hb => by rw [upI_ne _ _ _ _ hb]; exact h3 b hb)
          rw [mv_move] at ihn
          -- the place's own number: has is asked of the row as it still is
          have hhas : E 1 167 [vR 155, vI a, vI n] N (some (vI (if hasF f n = true then 1 else 0))) N := by
            have hl := mv_le hf n
            have hs : ∀ b : Bool, hasF f n = b → E 1 167 [vR 155, vI a, vI n] N (some (vI (if hasF f n = true then 1 else 0))) N := by
              intro b hb
              cases b with
              | true =>
                rw [if_pos hb]
                have hv := mv_some hb
                have hcl := cv_le hf n
                refine e_in (ls := [vR 155, vI a, vI n]) mq_167 (ml_167 rfl) rfl fun D hD => ?_
                refine w_aload rfl rfl (w_getR rfl (by first | rfl | assumption) rfl (by first | rfl | assumption) (w_iconst rfl (w_iload rfl rfl (w_imul rfl (w_iload rfl rfl (w_iadd rfl (w_ialoadV rfl (by first | rfl | assumption) (by omega) (by omega) (hx) ?_)))))))
                refine w_iconst rfl ?_
                refine w_icmp_eq (tgt := 21) rfl (by first | assumption | exact i32_0 | (unfold i32 at *; omega)) (by first | assumption | exact i32_0 | (unfold i32 at *; omega)) rfl (fun c14 => ?_) (fun c14 => ?_)
                · skip
                  exfalso; omega
                · skip
                  refine w_iconst rfl (w_goto (tgt := 22) rfl rfl ?_)
                  exact w_zreturn rfl (by first | exact Or.inl rfl | exact Or.inr rfl | omega | assumption) ⟨by first | rfl | (congr 2; omega), by rfl⟩
              | false =>
                rw [if_neg (by rw [hb]; decide)]
                have hv := mv_none hb
                refine e_in (ls := [vR 155, vI a, vI n]) mq_167 (ml_167 rfl) rfl fun D hD => ?_
                refine w_aload rfl rfl (w_getR rfl (by first | rfl | assumption) rfl (by first | rfl | assumption) (w_iconst rfl (w_iload rfl rfl (w_imul rfl (w_iload rfl rfl (w_iadd rfl (w_ialoadV rfl (by first | rfl | assumption) (by omega) (by omega) (hx) ?_)))))))
                refine w_iconst rfl ?_
                refine w_icmp_eq (tgt := 21) rfl (by first | assumption | exact i32_0 | (unfold i32 at *; omega)) (by first | assumption | exact i32_0 | (unfold i32 at *; omega)) rfl (fun c14 => ?_) (fun c14 => ?_)
                · skip
                  refine w_iconst rfl ?_
                  exact w_zreturn rfl (by first | exact Or.inl rfl | exact Or.inr rfl | omega | assumption) ⟨by first | rfl | (congr 2; omega), by rfl⟩
                · skip
                  exfalso; omega
            exact hs _ rfl
          have d5 : (n : Int).tdiv 5 * dx + (n : Int).tmod 5 * dy = downF dx dy n := rfl
          cases e : hasF f n with
          | true =>
            rw [e, if_pos rfl] at hhas ihn
            refine w_iload rfl rfl (w_iconst rfl ?_)
            refine w_icmp_ge (tgt := 196) rfl (by first | assumption | exact i32_0 | (unfold i32 at *; omega)) (by first | assumption | exact i32_0 | (unfold i32 at *; omega)) rfl (fun c145 => ?_) (fun c145 => ?_)
            · skip
              exfalso; omega
            · skip
              refine w_aload rfl rfl (w_getR rfl (by first | rfl | assumption) rfl (by first | rfl | assumption) (w_iconst rfl (w_iload rfl rfl (w_imul rfl (w_iload rfl rfl (w_iadd rfl (w_dup2 rfl rfl rfl ?_)))))))
              refine w_ialoadV rfl (by first | rfl | assumption) (by omega) (by omega) (hx) (w_aload rfl rfl (w_iload rfl rfl (w_iload rfl rfl ?_)))
              refine w_call (Or.inr rfl) ((hhas)) (by omega) nof_167 rfl rfl rfl rfl (by first | rfl | (show cKB[_]? = _; assumption)) rfl ?_
              refine w_if_eq (tgt := 187) rfl (by first | assumption | exact i32_0 | (unfold i32 at *; omega)) rfl (fun c => absurd c (by decide)) (fun _ => ?_)
              refine w_iload rfl rfl (w_iconst rfl (w_idiv rfl (by first | assumption | exact i32_0 | (unfold i32 at *; omega)) (by first | assumption | exact i32_0 | (unfold i32 at *; omega)) (by first | decide | omega | assumption) (w_iload rfl rfl (w_imul rfl (w_iload rfl rfl (w_iconst rfl (w_irem rfl (by first | assumption | exact i32_0 | (unfold i32 at *; omega)) (by first | assumption | exact i32_0 | (unfold i32 at *; omega)) (by first | decide | omega | assumption) ?_)))))))
              refine w_iload rfl rfl (w_imul rfl (w_iadd rfl ?_))
              rw [d5]
              refine w_goto (tgt := 188) rfl rfl (w_isub rfl (w_iastore rfl (by first | rfl | assumption) (by omega) (by omega) (w_iinc (ls2 := [_, _, _, _, _, _, _]) rfl rfl rfl (w_goto (tgt := 141) rfl rfl ?_))))
              rw [e1]
              exact ihn
          | false =>
            rw [e, if_neg (by decide)] at hhas ihn
            refine w_iload rfl rfl (w_iconst rfl ?_)
            refine w_icmp_ge (tgt := 196) rfl (by first | assumption | exact i32_0 | (unfold i32 at *; omega)) (by first | assumption | exact i32_0 | (unfold i32 at *; omega)) rfl (fun c145 => ?_) (fun c145 => ?_)
            · skip
              exfalso; omega
            · skip
              refine w_aload rfl rfl (w_getR rfl (by first | rfl | assumption) rfl (by first | rfl | assumption) (w_iconst rfl (w_iload rfl rfl (w_imul rfl (w_iload rfl rfl (w_iadd rfl (w_dup2 rfl rfl rfl ?_)))))))
              refine w_ialoadV rfl (by first | rfl | assumption) (by omega) (by omega) (hx) (w_aload rfl rfl (w_iload rfl rfl (w_iload rfl rfl ?_)))
              refine w_call (Or.inr rfl) ((hhas)) (by omega) nof_167 rfl rfl rfl rfl (by first | rfl | (show cKB[_]? = _; assumption)) rfl ?_
              refine w_if_eq (tgt := 187) rfl (by first | assumption | exact i32_0 | (unfold i32 at *; omega)) rfl (fun _ => ?_) (fun c => absurd c (by decide))
              refine w_iconst rfl (w_isub rfl (w_iastore rfl (by first | rfl | assumption) (by omega) (by omega) (w_iinc (ls2 := [_, _, _, _, _, _, _]) rfl rfl rfl (w_goto (tgt := 141) rfl rfl ?_))))
              rw [e1]
              exact ihn
      have first : ∀ (z n : Nat) (v : mV), 25 - n = z → n ≤ 25 → rangeF (moveF f dx dy) n = true → Wp mc_178 D 47 [vR 155, vI a, vI dx, vI dy, vI (fb_ct (fun p => hasF f p && !decide (downF dx dy p = 0)) n : Nat), vI n, v] [] M (MoQ M (if rangeF (moveF f dx dy) 21 = true then (((fb_ct (fun p => hasF f p && !decide (downF dx dy p = 0)) 25 : Nat) : Int), setS a (moveF f dx dy) (remS s)) else (-1000003, s)).1 (if rangeF (moveF f dx dy) 21 = true then (((fb_ct (fun p => hasF f p && !decide (downF dx dy p = 0)) 25 : Nat) : Int), setS a (moveF f dx dy) (remS s)) else (-1000003, s)).2) := by
        intro z
        induction z with
        | zero =>
          intro n v hz hn hr
          obtain rfl : n = 25 := by omega
          have hr21 : rangeF (moveF f dx dy) 21 = true := (rangeF_iff 21).mpr fun k cc hk hkc => (rangeF_iff 25).mp hr k cc (by omega) hkc
          have hh := Cok_range hc2 hr21
          rw [if_pos hr21]
          refine w_iload rfl rfl (w_iconst rfl ?_)
          refine w_icmp_ge (tgt := 134) rfl (by first | assumption | exact i32_0 | (unfold i32 at *; omega)) (by first | assumption | exact i32_0 | (unfold i32 at *; omega)) rfl (fun c51 => ?_) (fun c51 => ?_)
          · skip
            refine w_aload rfl rfl ?_
            refine w_callQ (Or.inr rfl) (hre) (by omega) nof_175 rfl rfl rfl rfl (by first | rfl | (show cKB[_]? = _; assumption)) (fun r135 M135 hq135 => ?_)
            obtain ⟨rfl, w1, w2, w3, w4, w5⟩ := hq135
            have hgo := second (fb_ct (fun p => hasF f p && !decide (downF dx dy p = 0)) 25 : Nat) hh M135 w1 (mcur_fr hc (fun k q1 q2 => w3 k (by omega))) w2 w4 25 0 M135 v rfl (by decide) (fun k hk => absurd hk (Nat.not_lt_zero k)) (fun k => Or.inr rfl) (fun _ _ => rfl)
            refine w_iconst rfl (w_istore (ls2 := [_, _, _, _, _, _, _]) rfl rfl rfl ?_)
            exact hgo
          · skip
            exfalso; omega
        | succ z ih =>
          intro n v hz hn hr
          have hdl := downF_le (dx := dx) (dy := dy) (p := n) (by omega) qx qy
          have d5 : (n : Int).tdiv 5 * dx + (n : Int).tmod 5 * dy = downF dx dy n := rfl
          have hxx : M 156 ((25 * (a : Int) + (n : Int)).toNat) = mv f n := by rw [show (25 * (a : Int) + (n : Int)).toNat = 25 * a + n by omega]; exact hc n (by omega)
          have hrn : rangeF (moveF f dx dy) (n + 1) = (rangeF (moveF f dx dy) n && (match moveF f dx dy n with | none => true | some c => decide (-999 ≤ c) && decide (c ≤ 999))) := rfl
          have ihn := fun v => ih (n + 1) v (by omega) (by omega)
          rw [fb_ct_succ, hrn, hr] at ihn
          have hcl := fb_ct_le (fun p => hasF f p && !decide (downF dx dy p = 0)) n
          generalize fb_ct (fun p => hasF f p && !decide (downF dx dy p = 0)) n = ct at *
          cases e : hasF f n with
          | false =>
            have hn0 : moveF f dx dy n = none := by
              unfold hasF at e; unfold moveF
              cases z : f n with
              | none => rfl
              | some v => rw [z] at e; cases e
            rw [e, hn0] at ihn
            have ihn := fun v => ihn v rfl
            refine w_iload rfl rfl (w_iconst rfl ?_)
            refine w_icmp_ge (tgt := 134) rfl (by first | assumption | exact i32_0 | (unfold i32 at *; omega)) (by first | assumption | exact i32_0 | (unfold i32 at *; omega)) rfl (fun c51 => ?_) (fun c51 => ?_)
            · skip
              exfalso; omega
            · skip
              refine w_iload rfl rfl (w_iconst rfl (w_idiv rfl (by first | assumption | exact i32_0 | (unfold i32 at *; omega)) (by first | assumption | exact i32_0 | (unfold i32 at *; omega)) (by first | decide | omega | assumption) (w_iload rfl rfl (w_imul rfl (w_iload rfl rfl (w_iconst rfl (w_irem rfl (by first | assumption | exact i32_0 | (unfold i32 at *; omega)) (by first | assumption | exact i32_0 | (unfold i32 at *; omega)) (by first | decide | omega | assumption) ?_)))))))
              refine w_iload rfl rfl (w_imul rfl (w_iadd rfl ?_))
              rw [d5]
              refine w_istore (ls2 := [_, _, _, _, _, _, _]) rfl rfl rfl (w_aload rfl rfl (w_iload rfl rfl (w_iload rfl rfl ?_)))
              refine w_call (Or.inr rfl) (m_has0 ha2 hc hf (by omega) e) (by omega) nof_167 rfl rfl rfl rfl (by first | rfl | (show cKB[_]? = _; assumption)) rfl ?_
              refine w_if_eq (tgt := 103) rfl (by first | assumption | exact i32_0 | (unfold i32 at *; omega)) rfl (fun _ => ?_) (fun c => absurd c (by decide))
              refine w_iload rfl rfl (w_aload rfl rfl (w_iload rfl rfl (w_iload rfl rfl ?_)))
              refine w_call (Or.inr rfl) (m_has0 ha2 hc hf (by omega) e) (by omega) nof_167 rfl rfl rfl rfl (by first | rfl | (show cKB[_]? = _; assumption)) rfl ?_
              refine w_if_eq (tgt := 124) rfl (by first | assumption | exact i32_0 | (unfold i32 at *; omega)) rfl (fun _ => ?_) (fun c => absurd c (by decide))
              refine w_iconst rfl (w_iadd rfl (w_istore (ls2 := [_, _, _, _, _, _, _]) rfl rfl rfl (w_iinc (ls2 := [_, _, _, _, _, _, _]) rfl rfl rfl (w_goto (tgt := 47) rfl rfl ?_))))
              exact ihn _
          | true =>
            have hs := hasF_some e
            have hn0 : moveF f dx dy n = some (cv f n - downF dx dy n) := by unfold moveF; rw [hs]; rfl
            rw [mv_some e] at hxx
            have hcv := cv_le hf n
            rw [e, hn0] at ihn
            by_cases ho : -999 ≤ cv f n - downF dx dy n ∧ cv f n - downF dx dy n ≤ 999
            · have ihn := fun v => ihn v (by show (decide (-999 ≤ cv f n - downF dx dy n) && decide (cv f n - downF dx dy n ≤ 999)) = true; rw [decide_eq_true ho.1, decide_eq_true ho.2]; rfl)
              by_cases hz0 : downF dx dy n = 0
              · rw [hz0] at d5 ho
                rw [decide_eq_true hz0] at ihn
                refine w_iload rfl rfl (w_iconst rfl ?_)
                refine w_icmp_ge (tgt := 134) rfl (by first | assumption | exact i32_0 | (unfold i32 at *; omega)) (by first | assumption | exact i32_0 | (unfold i32 at *; omega)) rfl (fun c51 => ?_) (fun c51 => ?_)
                · skip
                  exfalso; omega
                · skip
                  refine w_iload rfl rfl (w_iconst rfl (w_idiv rfl (by first | assumption | exact i32_0 | (unfold i32 at *; omega)) (by first | assumption | exact i32_0 | (unfold i32 at *; omega)) (by first | decide | omega | assumption) (w_iload rfl rfl (w_imul rfl (w_iload rfl rfl (w_iconst rfl (w_irem rfl (by first | assumption | exact i32_0 | (unfold i32 at *; omega)) (by first | assumption | exact i32_0 | (unfold i32 at *; omega)) (by first | decide | omega | assumption) ?_)))))))
                  refine w_iload rfl rfl (w_imul rfl (w_iadd rfl ?_))
                  rw [d5]
                  refine w_istore (ls2 := [_, _, _, _, _, _, _]) rfl rfl rfl (w_aload rfl rfl (w_iload rfl rfl (w_iload rfl rfl ?_)))
                  refine w_call (Or.inr rfl) (m_has1 ha2 hc hf (by omega) e) (by omega) nof_167 rfl rfl rfl rfl (by first | rfl | (show cKB[_]? = _; assumption)) rfl ?_
                  refine w_if_eq (tgt := 103) rfl (by first | assumption | exact i32_0 | (unfold i32 at *; omega)) rfl (fun c => absurd c (by decide)) (fun _ => ?_)
                  refine w_aload rfl rfl (w_getR rfl (by first | rfl | assumption) rfl (by first | rfl | assumption) (w_iconst rfl (w_iload rfl rfl (w_imul rfl (w_iload rfl rfl (w_iadd rfl (w_ialoadV rfl (by first | rfl | assumption) (by omega) (by omega) (hxx) ?_)))))))
                  refine w_iload rfl rfl (w_isub rfl ?_)
                  refine w_call (Or.inl rfl) (m_isTerm1 M ho) (by omega) nof_174 rfl rfl rfl rfl trivial rfl ?_
                  refine w_if_ne (tgt := 103) rfl (by first | assumption | exact i32_0 | (unfold i32 at *; omega)) rfl (fun _ => ?_) (fun c => absurd c (by decide))
                  refine w_iload rfl rfl (w_aload rfl rfl (w_iload rfl rfl (w_iload rfl rfl ?_)))
                  refine w_call (Or.inr rfl) (m_has1 ha2 hc hf (by omega) e) (by omega) nof_167 rfl rfl rfl rfl (by first | rfl | (show cKB[_]? = _; assumption)) rfl ?_
                  refine w_if_eq (tgt := 124) rfl (by first | assumption | exact i32_0 | (unfold i32 at *; omega)) rfl (fun c => absurd c (by decide)) (fun _ => ?_)
                  refine w_iload rfl rfl ?_
                  refine w_if_eq (tgt := 124) rfl (by first | assumption | exact i32_0 | (unfold i32 at *; omega)) rfl (fun _ => ?_) (fun c => absurd c (by decide))
                  refine w_iconst rfl (w_iadd rfl (w_istore (ls2 := [_, _, _, _, _, _, _]) rfl rfl rfl (w_iinc (ls2 := [_, _, _, _, _, _, _]) rfl rfl rfl (w_goto (tgt := 47) rfl rfl ?_))))
                  exact ihn _
              · rw [decide_eq_false hz0] at ihn
                refine w_iload rfl rfl (w_iconst rfl ?_)
                refine w_icmp_ge (tgt := 134) rfl (by first | assumption | exact i32_0 | (unfold i32 at *; omega)) (by first | assumption | exact i32_0 | (unfold i32 at *; omega)) rfl (fun c51 => ?_) (fun c51 => ?_)
                · skip
                  exfalso; omega
                · skip
                  refine w_iload rfl rfl (w_iconst rfl (w_idiv rfl (by first | assumption | exact i32_0 | (unfold i32 at *; omega)) (by first | assumption | exact i32_0 | (unfold i32 at *; omega)) (by first | decide | omega | assumption) (w_iload rfl rfl (w_imul rfl (w_iload rfl rfl (w_iconst rfl (w_irem rfl (by first | assumption | exact i32_0 | (unfold i32 at *; omega)) (by first | assumption | exact i32_0 | (unfold i32 at *; omega)) (by first | decide | omega | assumption) ?_)))))))
                  refine w_iload rfl rfl (w_imul rfl (w_iadd rfl ?_))
                  rw [d5]
                  refine w_istore (ls2 := [_, _, _, _, _, _, _]) rfl rfl rfl (w_aload rfl rfl (w_iload rfl rfl (w_iload rfl rfl ?_)))
                  refine w_call (Or.inr rfl) (m_has1 ha2 hc hf (by omega) e) (by omega) nof_167 rfl rfl rfl rfl (by first | rfl | (show cKB[_]? = _; assumption)) rfl ?_
                  refine w_if_eq (tgt := 103) rfl (by first | assumption | exact i32_0 | (unfold i32 at *; omega)) rfl (fun c => absurd c (by decide)) (fun _ => ?_)
                  refine w_aload rfl rfl (w_getR rfl (by first | rfl | assumption) rfl (by first | rfl | assumption) (w_iconst rfl (w_iload rfl rfl (w_imul rfl (w_iload rfl rfl (w_iadd rfl (w_ialoadV rfl (by first | rfl | assumption) (by omega) (by omega) (hxx) ?_)))))))
                  refine w_iload rfl rfl (w_isub rfl ?_)
                  refine w_call (Or.inl rfl) (m_isTerm1 M ho) (by omega) nof_174 rfl rfl rfl rfl trivial rfl ?_
                  refine w_if_ne (tgt := 103) rfl (by first | assumption | exact i32_0 | (unfold i32 at *; omega)) rfl (fun _ => ?_) (fun c => absurd c (by decide))
                  refine w_iload rfl rfl (w_aload rfl rfl (w_iload rfl rfl (w_iload rfl rfl ?_)))
                  refine w_call (Or.inr rfl) (m_has1 ha2 hc hf (by omega) e) (by omega) nof_167 rfl rfl rfl rfl (by first | rfl | (show cKB[_]? = _; assumption)) rfl ?_
                  refine w_if_eq (tgt := 124) rfl (by first | assumption | exact i32_0 | (unfold i32 at *; omega)) rfl (fun c => absurd c (by decide)) (fun _ => ?_)
                  refine w_iload rfl rfl ?_
                  refine w_if_eq (tgt := 124) rfl (by first | assumption | exact i32_0 | (unfold i32 at *; omega)) rfl (fun c117 => ?_) (fun c117 => ?_)
                  · exfalso; omega
                  · skip
                    refine w_iconst rfl (w_goto (tgt := 125) rfl rfl (w_iadd rfl (w_istore (ls2 := [_, _, _, _, _, _, _]) rfl rfl rfl (w_iinc (ls2 := [_, _, _, _, _, _, _]) rfl rfl rfl (w_goto (tgt := 47) rfl rfl ?_)))))
                    exact ihn _
            · have hno : ¬ rangeF (moveF f dx dy) 21 = true := fun z => ho ((rangeF_iff 21).mp z n _ (by have := (hf n _ hs).1; omega) hn0)
              rw [if_neg hno]
              refine w_iload rfl rfl (w_iconst rfl ?_)
              refine w_icmp_ge (tgt := 134) rfl (by first | assumption | exact i32_0 | (unfold i32 at *; omega)) (by first | assumption | exact i32_0 | (unfold i32 at *; omega)) rfl (fun c51 => ?_) (fun c51 => ?_)
              · skip
                exfalso; omega
              · skip
                refine w_iload rfl rfl (w_iconst rfl (w_idiv rfl (by first | assumption | exact i32_0 | (unfold i32 at *; omega)) (by first | assumption | exact i32_0 | (unfold i32 at *; omega)) (by first | decide | omega | assumption) (w_iload rfl rfl (w_imul rfl (w_iload rfl rfl (w_iconst rfl (w_irem rfl (by first | assumption | exact i32_0 | (unfold i32 at *; omega)) (by first | assumption | exact i32_0 | (unfold i32 at *; omega)) (by first | decide | omega | assumption) ?_)))))))
                refine w_iload rfl rfl (w_imul rfl (w_iadd rfl ?_))
                rw [d5]
                refine w_istore (ls2 := [_, _, _, _, _, _, _]) rfl rfl rfl (w_aload rfl rfl (w_iload rfl rfl (w_iload rfl rfl ?_)))
                refine w_call (Or.inr rfl) (m_has1 ha2 hc hf (by omega) e) (by omega) nof_167 rfl rfl rfl rfl (by first | rfl | (show cKB[_]? = _; assumption)) rfl ?_
                refine w_if_eq (tgt := 103) rfl (by first | assumption | exact i32_0 | (unfold i32 at *; omega)) rfl (fun c => absurd c (by decide)) (fun _ => ?_)
                refine w_aload rfl rfl (w_getR rfl (by first | rfl | assumption) rfl (by first | rfl | assumption) (w_iconst rfl (w_iload rfl rfl (w_imul rfl (w_iload rfl rfl (w_iadd rfl (w_ialoadV rfl (by first | rfl | assumption) (by omega) (by omega) (hxx) ?_)))))))
                refine w_iload rfl rfl (w_isub rfl ?_)
                refine w_call (Or.inl rfl) (m_isTerm0 M (by unfold i32; omega) ho) (by omega) nof_174 rfl rfl rfl rfl trivial rfl ?_
                refine w_if_ne (tgt := 103) rfl (by first | assumption | exact i32_0 | (unfold i32 at *; omega)) rfl (fun c => absurd c (by decide)) (fun _ => ?_)
                refine w_iconst rfl ?_
                exact w_ireturn rfl ⟨by first | rfl | (congr 2; omega), by exact MI_same c⟩
      have hgo := first 25 0 vN rfl (by decide) rfl
      refine w_iload rfl rfl ?_
      refine w_call (Or.inl rfl) (m_isCurve1 M q) (by omega) nof_165 rfl rfl rfl rfl trivial rfl ?_
      refine w_if_ne (tgt := 10) rfl (by first | assumption | exact i32_0 | (unfold i32 at *; omega)) rfl (fun _ => ?_) (fun c => absurd c (by decide))
      refine w_iload rfl rfl (w_i2l rfl (by first | assumption | exact i32_0 | (unfold i32 at *; omega)) (w_lconst rfl (w_lconst rfl ?_)))
      refine w_call (Or.inl rfl) (i1) (by omega) nof_150 rfl rfl rfl rfl trivial rfl ?_
      refine w_if_eq (tgt := 38) rfl (by first | assumption | exact i32_0 | (unfold i32 at *; omega)) rfl (fun c => absurd c (by decide)) (fun _ => ?_)
      refine w_iload rfl rfl (w_i2l rfl (by first | assumption | exact i32_0 | (unfold i32 at *; omega)) (w_lconst rfl (w_lconst rfl ?_)))
      refine w_call (Or.inl rfl) ((i2)) (by omega) nof_150 rfl rfl rfl rfl trivial rfl ?_
      refine w_if_ne (tgt := 41) rfl (by first | assumption | exact i32_0 | (unfold i32 at *; omega)) rfl (fun _ => ?_) (fun c => absurd c (by decide))
      refine w_iconst rfl (w_istore (ls2 := [_, _, _, _, _, _, _]) rfl rfl rfl (w_iconst rfl (w_istore (ls2 := [_, _, _, _, _, _, _]) rfl rfl rfl ?_)))
      exact hgo
    · rw [if_neg qp]
      have qp := of_decide_eq_false (Bool.eq_false_iff.mpr qp)
      by_cases v1 : -99 ≤ dx ∧ dx ≤ 99
      · have v2 : ¬ (-99 ≤ dy ∧ dy ≤ 99) := fun z => qp ⟨v1, z⟩
        have i1 := m_in1 (v := dx) (l := -99) (m := 99) M (by unfold i64; omega) (by unfold i64; omega) (by unfold i64; omega) v1
        have i2 := m_in0 (v := dy) (l := -99) (m := 99) M (by unfold i64; omega) (by unfold i64; omega) (by unfold i64; omega) v2
        refine w_iload rfl rfl ?_
        refine w_call (Or.inl rfl) (m_isCurve1 M q) (by omega) nof_165 rfl rfl rfl rfl trivial rfl ?_
        refine w_if_ne (tgt := 10) rfl (by first | assumption | exact i32_0 | (unfold i32 at *; omega)) rfl (fun _ => ?_) (fun c => absurd c (by decide))
        refine w_iload rfl rfl (w_i2l rfl (by first | assumption | exact i32_0 | (unfold i32 at *; omega)) (w_lconst rfl (w_lconst rfl ?_)))
        refine w_call (Or.inl rfl) (i1) (by omega) nof_150 rfl rfl rfl rfl trivial rfl ?_
        refine w_if_eq (tgt := 38) rfl (by first | assumption | exact i32_0 | (unfold i32 at *; omega)) rfl (fun c => absurd c (by decide)) (fun _ => ?_)
        refine w_iload rfl rfl (w_i2l rfl (by first | assumption | exact i32_0 | (unfold i32 at *; omega)) (w_lconst rfl (w_lconst rfl ?_)))
        refine w_call (Or.inl rfl) ((i2)) (by omega) nof_150 rfl rfl rfl rfl trivial rfl ?_
        refine w_if_ne (tgt := 41) rfl (by first | assumption | exact i32_0 | (unfold i32 at *; omega)) rfl (fun c => absurd c (by decide)) (fun _ => ?_)
        refine w_iconst rfl ?_
        exact w_ireturn rfl ⟨by first | rfl | (congr 2; omega), by exact MI_same c⟩
      · have i1 := m_in0 (v := dx) (l := -99) (m := 99) M (by unfold i64; omega) (by unfold i64; omega) (by unfold i64; omega) v1
        refine w_iload rfl rfl ?_
        refine w_call (Or.inl rfl) (m_isCurve1 M q) (by omega) nof_165 rfl rfl rfl rfl trivial rfl ?_
        refine w_if_ne (tgt := 10) rfl (by first | assumption | exact i32_0 | (unfold i32 at *; omega)) rfl (fun _ => ?_) (fun c => absurd c (by decide))
        refine w_iload rfl rfl (w_i2l rfl (by first | assumption | exact i32_0 | (unfold i32 at *; omega)) (w_lconst rfl (w_lconst rfl ?_)))
        refine w_call (Or.inl rfl) ((id i1)) (by omega) nof_150 rfl rfl rfl rfl trivial rfl ?_
        refine w_if_eq (tgt := 38) rfl (by first | assumption | exact i32_0 | (unfold i32 at *; omega)) rfl (fun _ => ?_) (fun c => absurd c (by decide))
        refine w_iconst rfl ?_
        exact w_ireturn rfl ⟨by first | rfl | (congr 2; omega), by exact MI_same c⟩
  · rw [if_neg q]
    have q : ¬ (a = 0 ∨ a = 1) := fun z => q (isCu_iff.mpr z)
    refine w_iload rfl rfl ?_
    refine w_call (Or.inl rfl) (m_isCurve0 M ha q) (by omega) nof_165 rfl rfl rfl rfl trivial rfl ?_
    refine w_if_ne (tgt := 10) rfl (by first | assumption | exact i32_0 | (unfold i32 at *; omega)) rfl (fun c => absurd c (by decide)) (fun _ => ?_)
    refine w_iconst rfl ?_
    exact w_ireturn rfl ⟨by first | rfl | (congr 2; omega), by exact MI_same c⟩
theorem mo_keep {s : Sta} {M : mM} {k : Int} (c : MI s M) (hk : i32 k) : EQ 12 184 [vR 155, vI k] M (MoQ M (dKeep k s).1 (dKeep k s).2) := by
  refine q_in (ls := [vR 155, vI k]) mq_184 (ml_184 rfl) rfl fun D hD => ?_
  have hk' : -2147483648 ≤ k ∧ k ≤ 2147483647 := hk
  unfold dKeep
  have hf := c.2.1.2.1
  have hg := c.2.1.2.2
  have hc0 : ∀ N : mM, mrow 0 s.2.1 s.2.2.1 N → E 2 169 [vR 155, vI 0] N (some (vI (cntF s.2.1))) N ∧ E 2 169 [vR 155, vI 1] N (some (vI (cntF s.2.2.1))) N := fun N h => ⟨m_terms (a := 0) (by decide) h.1 hf, m_terms (a := 1) (by decide) h.2 hg⟩
  by_cases hk01 : k = 0 ∨ k = 1
  · have hi := m_in1 (v := k) (l := 0) (m := 1) M (by unfold i64; omega) (by unfold i64; omega) (by unfold i64; omega) (by omega)
    obtain ⟨k, rfl⟩ : ∃ z : Nat, k = (z : Int) := ⟨k.toNat, by omega⟩
    have hcp := m_copyRow (A := 0) (B := 450 + 50 * k) (M := M) (by omega) (by omega) (by omega) c.2.1.1
    have e2 : (450 + 50 * (k : Int)) = ((450 + 50 * k : Nat) : Int) := by omega
    rw [← e2] at hcp
    have hfin : ∀ N : mM, mrow (450 + 50 * k) s.2.1 s.2.2.1 N → (∀ j, (j < 450 + 50 * k ∨ 450 + 50 * k + 50 ≤ j) → N 156 j = M 156 j) → (∀ a, a ≠ 156 → N a = M a) → (MI (s.1, s.2.1, s.2.2.1, s.2.2.2.1, (if k = 0 then some (s.2.1, s.2.2.1) else s.2.2.2.2.1), (if k = 0 then s.2.2.2.2.2 else some (s.2.1, s.2.2.1))) (upI N 157 k 1) ∧ mFr M (upI N 157 k 1)) ∧ mrow 0 s.2.1 s.2.2.1 (upI N 157 k 1) := by
      intro N w1 w2 w3
      have gk : ∀ j, upI N 157 k 1 156 j = N 156 j := fun j => by rw [upI_ne _ _ _ _ (by decide)]
      have gb : ∀ b, b ≠ 156 → b ≠ 157 → upI N 157 k 1 b = M b := fun b b1 b2 => by rw [upI_ne _ _ _ _ b2]; exact w3 b b1
      have r0 : mrow 0 s.2.1 s.2.2.1 (upI N 157 k 1) := mrow_fr c.2.1.1 (fun j _ _ => by rw [gk j]; exact w2 j (by omega))
      refine ⟨⟨⟨mTx_fr c.1 (by rw [gb 155 (by decide) (by decide)]) (fun j => by rw [gb 158 (by decide) (by decide)]), ⟨r0, c.2.1.2⟩, ⟨mPa_fr c.2.2.1.1 (by rw [gb 155 (by decide) (by decide)]) (fun j q1 q2 => by rw [gk j]; exact w2 j (by omega)), c.2.2.1.2⟩, ?_, mKn_fr c.2.2.2.2 (by rw [gb 155 (by decide) (by decide)]) (fun a q1 q2 => gb a (by omega) (by omega)) (by rw [gb 155 (by decide) (by decide)])⟩, fun b hb => gb b (by omega) (by omega)⟩, r0⟩
      obtain ⟨s1, s2, s3, s4⟩ := c.2.2.2.1
      have hk2 : k = 0 ∨ k = 1 := by omega
      rcases hk2 with rfl | rfl
      · refine ⟨upI_same _ _ _ _, (if_neg (by omega)).trans (by rw [w3 157 (by decide)]; exact s2), fun q hq => ?_, fun q hq => ⟨mrow_fr (s4 q hq).1 (fun j q1 q2 => by rw [gk j]; exact w2 j (by omega)), (s4 q hq).2⟩⟩
        cases hq
        exact ⟨mrow_fr w1 (fun j q1 q2 => gk j), hf, hg⟩
      · refine ⟨(if_neg (by omega)).trans (by rw [w3 157 (by decide)]; exact s1), upI_same _ _ _ _, fun q hq => ⟨mrow_fr (s3 q hq).1 (fun j q1 q2 => by rw [gk j]; exact w2 j (by omega)), (s3 q hq).2⟩, fun q hq => ?_⟩
        cases hq
        exact ⟨mrow_fr w1 (fun j q1 q2 => gk j), hf, hg⟩
    have hk2 : k = 0 ∨ k = 1 := by omega
    rcases hk2 with rfl | rfl
    · rw [if_pos (show ((0 : Nat) : Int) = 0 from rfl)]
      refine w_iload rfl rfl (w_i2l rfl (by first | assumption | exact i32_0 | (unfold i32 at *; omega)) (w_lconst rfl (w_lconst rfl ?_)))
      refine w_call (Or.inl rfl) (hi) (by omega) nof_150 rfl rfl rfl rfl trivial rfl ?_
      refine w_if_ne (tgt := 13) rfl (by first | assumption | exact i32_0 | (unfold i32 at *; omega)) rfl (fun _ => ?_) (fun c => absurd c (by decide))
      refine w_aload rfl rfl (w_iconst rfl (w_iconst rfl (w_iconst rfl (w_iload rfl rfl (w_imul rfl (w_iadd rfl ?_))))))
      refine w_callQ (Or.inr rfl) (hcp) (by omega) nof_176 rfl rfl rfl rfl (by first | rfl | (show cKB[_]? = _; assumption)) (fun r23 M23 hq23 => ?_)
      obtain ⟨rfl, w1, w2, w3⟩ := hq23
      have hfi := hfin M23 w1 w2 w3
      have hts := hc0 _ hfi.2
      refine w_aload rfl rfl (w_getR rfl (by first | rfl | assumption) rfl (by first | rfl | assumption) (w_iload rfl rfl (w_iconst rfl (w_bastore rfl (by first | rfl | assumption) (by omega) (by omega) (by first | exact Or.inl rfl | exact Or.inr rfl | omega | assumption) (w_aload rfl rfl (w_iconst rfl ?_))))))
      refine w_call (Or.inr rfl) ((hts.1)) (by omega) nof_169 rfl rfl rfl rfl (by first | rfl | (show cKB[_]? = _; assumption)) rfl ?_
      refine w_aload rfl rfl (w_iconst rfl ?_)
      refine w_call (Or.inr rfl) ((hts.2)) (by omega) nof_169 rfl rfl rfl rfl (by first | rfl | (show cKB[_]? = _; assumption)) rfl ?_
      refine w_iadd rfl ?_
      exact w_ireturn rfl ⟨by first | rfl | (congr 2; omega), by exact hfi.1⟩
    · rw [if_neg (show ¬ ((1 : Nat) : Int) = 0 by decide), if_pos (show ((1 : Nat) : Int) = 1 from rfl)]
      refine w_iload rfl rfl (w_i2l rfl (by first | assumption | exact i32_0 | (unfold i32 at *; omega)) (w_lconst rfl (w_lconst rfl ?_)))
      refine w_call (Or.inl rfl) (hi) (by omega) nof_150 rfl rfl rfl rfl trivial rfl ?_
      refine w_if_ne (tgt := 13) rfl (by first | assumption | exact i32_0 | (unfold i32 at *; omega)) rfl (fun _ => ?_) (fun c => absurd c (by decide))
      refine w_aload rfl rfl (w_iconst rfl (w_iconst rfl (w_iconst rfl (w_iload rfl rfl (w_imul rfl (w_iadd rfl ?_))))))
      refine w_callQ (Or.inr rfl) (hcp) (by omega) nof_176 rfl rfl rfl rfl (by first | rfl | (show cKB[_]? = _; assumption)) (fun r23 M23 hq23 => ?_)
      obtain ⟨rfl, w1, w2, w3⟩ := hq23
      have hfi := hfin M23 w1 w2 w3
      have hts := hc0 _ hfi.2
      refine w_aload rfl rfl (w_getR rfl (by first | rfl | assumption) rfl (by first | rfl | assumption) (w_iload rfl rfl (w_iconst rfl (w_bastore rfl (by first | rfl | assumption) (by omega) (by omega) (by first | exact Or.inl rfl | exact Or.inr rfl | omega | assumption) (w_aload rfl rfl (w_iconst rfl ?_))))))
      refine w_call (Or.inr rfl) ((hts.1)) (by omega) nof_169 rfl rfl rfl rfl (by first | rfl | (show cKB[_]? = _; assumption)) rfl ?_
      refine w_aload rfl rfl (w_iconst rfl ?_)
      refine w_call (Or.inr rfl) ((hts.2)) (by omega) nof_169 rfl rfl rfl rfl (by first | rfl | (show cKB[_]? = _; assumption)) rfl ?_
      refine w_iadd rfl ?_
      exact w_ireturn rfl ⟨by first | rfl | (congr 2; omega), by exact hfi.1⟩
  · rw [if_neg (by omega), if_neg (by omega)]
    have hi := m_in0 (v := k) (l := 0) (m := 1) M (by unfold i64; omega) (by unfold i64; omega) (by unfold i64; omega) (by omega)
    refine w_iload rfl rfl (w_i2l rfl (by first | assumption | exact i32_0 | (unfold i32 at *; omega)) (w_lconst rfl (w_lconst rfl ?_)))
    refine w_call (Or.inl rfl) (hi) (by omega) nof_150 rfl rfl rfl rfl trivial rfl ?_
    refine w_if_ne (tgt := 13) rfl (by first | assumption | exact i32_0 | (unfold i32 at *; omega)) rfl (fun c => absurd c (by decide)) (fun _ => ?_)
    refine w_iconst rfl ?_
    exact w_ireturn rfl ⟨by first | rfl | (congr 2; omega), by exact MI_same c⟩
theorem mo_back {s : Sta} {M : mM} {k : Int} (c : MI s M) (hk : i32 k) : EQ 12 185 [vR 155, vI k] M (MoQ M (dBack k s).1 (dBack k s).2) := by
  refine q_in (ls := [vR 155, vI k]) mq_185 (ml_185 rfl) rfl fun D hD => ?_
  have hk' : -2147483648 ≤ k ∧ k ≤ 2147483647 := hk
  unfold dBack
  obtain ⟨s1, s2, s3, s4⟩ := c.2.2.2.1
  by_cases hk01 : k = 0 ∨ k = 1
  · have hi := m_in1 (v := k) (l := 0) (m := 1) M (by unfold i64; omega) (by unfold i64; omega) (by unfold i64; omega) (by omega)
    obtain ⟨k, rfl⟩ : ∃ z : Nat, k = (z : Int) := ⟨k.toNat, by omega⟩
    have e2 : (450 + 50 * (k : Int)) = ((450 + 50 * k : Nat) : Int) := by omega
    have some_ : ∀ q : Cv × Cv, M 157 k = 1 → (mrow (450 + 50 * k) q.1 q.2 M ∧ Cok 999 q.1 ∧ Cok 999 q.2) → Wp mc_185 D 0 [vR 155, vI k] [] M (MoQ M ((cntF q.1 : Int) + (cntF q.2 : Int)) (s.1, q.1, q.2, [], s.2.2.2.2)) := by
      intro q hk1 hq
      have hcp := m_copyRow (A := 450 + 50 * k) (B := 0) (M := M) (by omega) (by decide) (by omega) hq.1
      rw [← e2] at hcp
      have hfin : ∀ N : mM, mrow 0 q.1 q.2 N → (∀ j, (j < 0 ∨ 0 + 50 ≤ j) → N 156 j = M 156 j) → (∀ a, a ≠ 156 → N a = M a) → (MI (s.1, q.1, q.2, [], s.2.2.2.2) (upI (upI N 155 1 0) 155 21 0) ∧ mFr M (upI (upI N 155 1 0) 155 21 0)) ∧ mrow 0 q.1 q.2 (upI (upI N 155 1 0) 155 21 0) := by
        intro N w1 w2 w3
        have gk : ∀ j, upI (upI N 155 1 0) 155 21 0 156 j = N 156 j := fun j => by rw [upI_ne _ _ _ _ (by decide), upI_ne _ _ _ _ (by decide)]
        have gb : ∀ b, b ≠ 155 → b ≠ 156 → upI (upI N 155 1 0) 155 21 0 b = M b := fun b b1 b2 => by rw [upI_ne _ _ _ _ b1, upI_ne _ _ _ _ b1]; exact w3 b b2
        have g4 : upI (upI N 155 1 0) 155 21 0 155 4 = M 155 4 := (if_neg (by omega)).trans ((if_neg (by omega)).trans (by rw [w3 155 (by decide)]))
        have g1 : upI (upI N 155 1 0) 155 21 0 155 1 = 0 := (if_neg (by omega)).trans (upI_same _ _ _ _)
        have r0 : mrow 0 q.1 q.2 (upI (upI N 155 1 0) 155 21 0) := mrow_fr w1 (fun j _ _ => gk j)
        exact ⟨⟨⟨mTx_fr c.1 g4 (fun j => by rw [gb 158 (by decide) (by decide)]), ⟨r0, hq.2⟩, ⟨⟨g1, Nat.zero_le 8, fun j z hz => by simp at hz⟩, fun z hz => by cases hz⟩, moSl_fr c.2.2.2.1 (fun j => by rw [gb 157 (by decide) (by decide)]) (fun j q1 q2 => by rw [gk j]; exact w2 j (by omega)), mKn_0 (upI_same _ _ _ _)⟩, fun b hb => gb b (by omega) (by omega)⟩, r0⟩
      have hx : M 157 ((k : Int)).toNat = 1 := hk1
      refine w_iload rfl rfl (w_i2l rfl (by first | assumption | exact i32_0 | (unfold i32 at *; omega)) (w_lconst rfl (w_lconst rfl ?_)))
      refine w_call (Or.inl rfl) (hi) (by omega) nof_150 rfl rfl rfl rfl trivial rfl ?_
      refine w_if_ne (tgt := 13) rfl (by first | assumption | exact i32_0 | (unfold i32 at *; omega)) rfl (fun _ => ?_) (fun c => absurd c (by decide))
      refine w_aload rfl rfl (w_getR rfl (by first | rfl | assumption) rfl (by first | rfl | assumption) (w_iload rfl rfl (w_baloadV rfl (by first | rfl | assumption) (by omega) (by omega) (hx) ?_)))
      refine w_if_ne (tgt := 25) rfl (by first | assumption | exact i32_0 | (unfold i32 at *; omega)) rfl (fun _ => ?_) (fun c => absurd c (by decide))
      refine w_aload rfl rfl (w_iconst rfl (w_iconst rfl (w_iload rfl rfl (w_imul rfl (w_iadd rfl (w_iconst rfl ?_))))))
      refine w_callQ (Or.inr rfl) (hcp) (by omega) nof_176 rfl rfl rfl rfl (by first | rfl | (show cKB[_]? = _; assumption)) (fun r35 M35 hq35 => ?_)
      obtain ⟨rfl, w1, w2, w3⟩ := hq35
      have hfi := hfin M35 w1 w2 w3
      have t0 := m_terms (a := 0) (by decide) hfi.2.1 hq.2.1
      have tb := m_terms (a := 1) (by decide) hfi.2.2 hq.2.2
      refine w_aload rfl rfl (w_iconst rfl (w_putI rfl (by first | rfl | assumption) rfl (w_aload rfl rfl (w_iconst rfl (w_putZ rfl (by first | rfl | assumption) rfl (by first | exact Or.inl rfl | exact Or.inr rfl | omega | assumption) (w_aload rfl rfl (w_iconst rfl ?_)))))))
      refine w_call (Or.inr rfl) ((id t0)) (by omega) nof_169 rfl rfl rfl rfl (by first | rfl | (show cKB[_]? = _; assumption)) rfl ?_
      refine w_aload rfl rfl (w_iconst rfl ?_)
      refine w_call (Or.inr rfl) ((tb)) (by omega) nof_169 rfl rfl rfl rfl (by first | rfl | (show cKB[_]? = _; assumption)) rfl ?_
      refine w_iadd rfl ?_
      exact w_ireturn rfl ⟨by first | rfl | (congr 2; omega), by exact hfi.1⟩
    have none_ : M 157 k = 0 → Wp mc_185 D 0 [vR 155, vI k] [] M (MoQ M (-1000003) s) := by
      intro hk0
      have hx : M 157 ((k : Int)).toNat = 0 := hk0
      refine w_iload rfl rfl (w_i2l rfl (by first | assumption | exact i32_0 | (unfold i32 at *; omega)) (w_lconst rfl (w_lconst rfl ?_)))
      refine w_call (Or.inl rfl) (hi) (by omega) nof_150 rfl rfl rfl rfl trivial rfl ?_
      refine w_if_ne (tgt := 13) rfl (by first | assumption | exact i32_0 | (unfold i32 at *; omega)) rfl (fun _ => ?_) (fun c => absurd c (by decide))
      refine w_aload rfl rfl (w_getR rfl (by first | rfl | assumption) rfl (by first | rfl | assumption) (w_iload rfl rfl (w_baloadV rfl (by first | rfl | assumption) (by omega) (by omega) (hx) ?_)))
      refine w_if_ne (tgt := 25) rfl (by first | assumption | exact i32_0 | (unfold i32 at *; omega)) rfl (fun c => absurd c (by decide)) (fun _ => ?_)
      refine w_iconst rfl ?_
      exact w_ireturn rfl ⟨by first | rfl | (congr 2; omega), by exact MI_same c⟩
    have hk2 : k = 0 ∨ k = 1 := by omega
    rcases hk2 with rfl | rfl
    · rw [if_pos (show ((0 : Nat) : Int) = 0 from rfl)]
      cases e : s.2.2.2.2.1 with
      | none => rw [e] at s1; exact none_ s1
      | some q => rw [e] at s1; exact some_ q s1 (s3 q e)
    · rw [if_neg (show ¬ ((1 : Nat) : Int) = 0 by decide), if_pos (show ((1 : Nat) : Int) = 1 from rfl)]
      cases e : s.2.2.2.2.2 with
      | none => rw [e] at s2; exact none_ s2
      | some q => rw [e] at s2; exact some_ q s2 (s4 q e)
  · rw [if_neg (by omega), if_neg (by omega)]
    have hi := m_in0 (v := k) (l := 0) (m := 1) M (by unfold i64; omega) (by unfold i64; omega) (by unfold i64; omega) (by omega)
    refine w_iload rfl rfl (w_i2l rfl (by first | assumption | exact i32_0 | (unfold i32 at *; omega)) (w_lconst rfl (w_lconst rfl ?_)))
    refine w_call (Or.inl rfl) (hi) (by omega) nof_150 rfl rfl rfl rfl trivial rfl ?_
    refine w_if_ne (tgt := 13) rfl (by first | assumption | exact i32_0 | (unfold i32 at *; omega)) rfl (fun c => absurd c (by decide)) (fun _ => ?_)
    refine w_iconst rfl ?_
    exact w_ireturn rfl ⟨by first | rfl | (congr 2; omega), by exact MI_same c⟩
