/-! ===== the model's hull sides and areas ===== -/
def okQ (Q : List (Int × Int)) (a b : Nat) : Nat → Bool
  | 0 => !decide (a = b)
  | n + 1 => okQ Q a b n && (decide (0 ≤ crQ Q a b n) && !byQ Q a b n)
def abQ (Q : List (Int × Int)) (a b : Nat) : Nat → Bool
  | 0 => false
  | n + 1 => abQ Q a b n || decide (0 < crQ Q a b n)
def isdQ (Q : List (Int × Int)) (a b : Nat) : Bool := okQ Q a b Q.length && abQ Q a b Q.length
theorem okQ_mono {Q : List (Int × Int)} {a b n : Nat} (h : okQ Q a b n = false) : ∀ m, n ≤ m → okQ Q a b m = false
  | 0, hm => by obtain rfl : n = 0 := by omega
                exact h
  | m + 1, hm => by
    by_cases q : n = m + 1
    · rw [← q]; exact h
    · have := okQ_mono h m (by omega)
      unfold okQ
      rw [this, Bool.false_and]
def bI (b : Bool) : Int := if b = true then 1 else 0
theorem m_isSide {Q : List (Int × Int)} {M : mM} {a b : Nat} (h : mPL Q M) (ha : a < Q.length) (hb : b < Q.length) : E 4 200 [vR 155, vI a, vI b] M (some (vI (if isdQ Q a b = true then 1 else 0))) M := by
  have hl := h.2.1
  have hm := h.1
  refine e_in (ls := [vR 155, vI a, vI b, vN, vN, vN]) mq_200 (ml_200 rfl) rfl fun D hD => ?_
  have hret : ∀ (x y : Bool) (w : mV), x = okQ Q a b Q.length → y = abQ Q a b Q.length → Wp mc_200 D 87 [vR 155, vI a, vI b, vI (if x = true then 1 else 0), vI (if y = true then 1 else 0), w] [] M (fun r N => r = some (vI (if isdQ Q a b = true then 1 else 0)) ∧ N = M) := by
    intro x y w hx hy
    have he : isdQ Q a b = (x && y) := by rw [hx, hy]; rfl
    rw [he]
    cases x with
    | false =>
      refine w_iload rfl rfl ?_
      refine w_if_eq (tgt := 100) rfl (by first | assumption | exact i32_0 | (unfold i32 at *; omega)) rfl (fun _ => ?_) (fun c => absurd c (by decide))
      refine w_iconst rfl ?_
      exact w_zreturn rfl (by first | exact Or.inl rfl | exact Or.inr rfl | omega | assumption) ⟨by first | rfl | (congr 2; omega), by rfl⟩
    | true =>
      cases y with
      | false =>
        refine w_iload rfl rfl ?_
        refine w_if_eq (tgt := 100) rfl (by first | assumption | exact i32_0 | (unfold i32 at *; omega)) rfl (fun c => absurd c (by decide)) (fun _ => ?_)
        refine w_iload rfl rfl ?_
        refine w_if_eq (tgt := 100) rfl (by first | assumption | exact i32_0 | (unfold i32 at *; omega)) rfl (fun _ => ?_) (fun c => absurd c (by decide))
        refine w_iconst rfl ?_
        exact w_zreturn rfl (by first | exact Or.inl rfl | exact Or.inr rfl | omega | assumption) ⟨by first | rfl | (congr 2; omega), by rfl⟩
      | true =>
        refine w_iload rfl rfl ?_
        refine w_if_eq (tgt := 100) rfl (by first | assumption | exact i32_0 | (unfold i32 at *; omega)) rfl (fun c => absurd c (by decide)) (fun _ => ?_)
        refine w_iload rfl rfl ?_
        refine w_if_eq (tgt := 100) rfl (by first | assumption | exact i32_0 | (unfold i32 at *; omega)) rfl (fun c => absurd c (by decide)) (fun _ => ?_)
        refine w_iconst rfl (w_goto (tgt := 101) rfl rfl ?_)
        exact w_zreturn rfl (by first | exact Or.inl rfl | exact Or.inr rfl | omega | assumption) ⟨by first | rfl | (congr 2; omega), by rfl⟩
  have hbad : ∀ (n : Nat) (y : Bool) (w : mV), n ≤ Q.length → okQ Q a b n = false → Wp mc_200 D 87 [vR 155, vI a, vI b, vI 0, vI (if y = true then 1 else 0), w] [] M (fun r N => r = some (vI (if isdQ Q a b = true then 1 else 0)) ∧ N = M) := by
    intro n y w hn hk
    have he : isdQ Q a b = false := by unfold isdQ; rw [okQ_mono hk _ hn, Bool.false_and]
    rw [he]
    refine w_iload rfl rfl ?_
    refine w_if_eq (tgt := 100) rfl (by first | assumption | exact i32_0 | (unfold i32 at *; omega)) rfl (fun _ => ?_) (fun c => absurd c (by decide))
    refine w_iconst rfl ?_
    exact w_zreturn rfl (by first | exact Or.inl rfl | exact Or.inr rfl | omega | assumption) ⟨by first | rfl | (congr 2; omega), by rfl⟩
  have loop : ∀ (z n : Nat), Q.length - n = z → n ≤ Q.length → Wp mc_200 D 17 [vR 155, vI a, vI b, vI (if okQ Q a b n = true then 1 else 0), vI (if abQ Q a b n = true then 1 else 0), vI n] [] M (fun r N => r = some (vI (if isdQ Q a b = true then 1 else 0)) ∧ N = M) := by
    intro z
    induction z with
    | zero =>
      intro n hz hn
      obtain rfl : n = Q.length := by omega
      have hgo := hret _ _ (vI Q.length) rfl rfl
      generalize Q.length = m at *
      refine w_iload rfl rfl (w_aload rfl rfl (w_getIV rfl (by first | rfl | assumption) (by first | exact Or.inl rfl | exact Or.inr rfl) (hm) ?_))
      refine w_icmp_ge (tgt := 87) rfl (by first | assumption | exact i32_0 | (unfold i32 at *; omega)) (by first | assumption | exact i32_0 | (unfold i32 at *; omega)) rfl (fun c23 => ?_) (fun c23 => ?_)
      · skip
        exact hgo
      · skip
        exfalso; omega
    | succ z ih =>
      intro n hz hn
      have ihn := ih (n + 1) (by omega) (by omega)
      have hcr := m_sideOf h ha hb (k := n) (by omega)
      have hby := m_isBeyond h ha hb (k := n) (by omega)
      have hle := crQ_le (mPL_at h ha).2 (mPL_at h hb).2 (mPL_at h (show n < Q.length by omega)).2
      have hok : okQ Q a b (n + 1) = (okQ Q a b n && (decide (0 ≤ crQ Q a b n) && !byQ Q a b n)) := rfl
      have hab : abQ Q a b (n + 1) = (abQ Q a b n || decide (0 < crQ Q a b n)) := rfl
      have hbn := hbad n (abQ Q a b n) (vI n) hn
      rw [hok, hab] at ihn
      clear hbad ih hok hab hret
      generalize crQ Q a b n = c at *
      generalize byQ Q a b n = y at *
      generalize abQ Q a b n = v at *
      generalize Q.length = m at *
      cases e : okQ Q a b n with
      | false =>
        have hgo := hbn e
        refine w_iload rfl rfl (w_aload rfl rfl (w_getIV rfl (by first | rfl | assumption) (by first | exact Or.inl rfl | exact Or.inr rfl) (hm) ?_))
        refine w_icmp_ge (tgt := 87) rfl (by first | assumption | exact i32_0 | (unfold i32 at *; omega)) (by first | assumption | exact i32_0 | (unfold i32 at *; omega)) rfl (fun c23 => ?_) (fun c23 => ?_)
        · exfalso; omega
        · skip
          refine w_iload rfl rfl ?_
          refine w_if_eq (tgt := 87) rfl (by first | assumption | exact i32_0 | (unfold i32 at *; omega)) rfl (fun _ => ?_) (fun c => absurd c (by decide))
          exact hgo
      | true =>
        rw [e, Bool.true_and] at ihn
        by_cases h0 : 0 ≤ c
        · rw [decide_eq_true h0, Bool.true_and] at ihn
          by_cases h1 : 0 < c
          · rw [decide_eq_true h1, Bool.or_true] at ihn
            cases y with
            | true => 
              cases v with
              | true =>
                refine w_iload rfl rfl (w_aload rfl rfl (w_getIV rfl (by first | rfl | assumption) (by first | exact Or.inl rfl | exact Or.inr rfl) (hm) ?_))
                refine w_icmp_ge (tgt := 87) rfl (by first | assumption | exact i32_0 | (unfold i32 at *; omega)) (by first | assumption | exact i32_0 | (unfold i32 at *; omega)) rfl (fun c23 => ?_) (fun c23 => ?_)
                · exfalso; omega
                · skip
                  refine w_iload rfl rfl ?_
                  refine w_if_eq (tgt := 87) rfl (by first | assumption | exact i32_0 | (unfold i32 at *; omega)) rfl (fun c => absurd c (by decide)) (fun _ => ?_)
                  refine w_aload rfl rfl (w_iload rfl rfl (w_iload rfl rfl (w_iload rfl rfl ?_)))
                  refine w_call (Or.inr rfl) ((hcr)) (by omega) nof_201 rfl rfl rfl rfl (by first | rfl | (show cKB[_]? = _; assumption)) rfl ?_
                  refine w_if_lt (tgt := 56) rfl (by first | assumption | exact i32_0 | (unfold i32 at *; omega)) rfl (fun c38 => ?_) (fun c38 => ?_)
                  · exfalso; omega
                  · skip
                    refine w_aload rfl rfl (w_iload rfl rfl (w_iload rfl rfl (w_iload rfl rfl ?_)))
                    refine w_call (Or.inr rfl) ((hby)) (by omega) nof_202 rfl rfl rfl rfl (by first | rfl | (show cKB[_]? = _; assumption)) rfl ?_
                    refine w_if_ne (tgt := 56) rfl (by first | assumption | exact i32_0 | (unfold i32 at *; omega)) rfl (fun _ => ?_) (fun c => absurd c (by decide))
                    refine w_iconst rfl (w_istore (ls2 := [_, _, _, _, _, _]) rfl rfl rfl (w_iload rfl rfl ?_))
                    refine w_if_ne (tgt := 74) rfl (by first | assumption | exact i32_0 | (unfold i32 at *; omega)) rfl (fun _ => ?_) (fun c => absurd c (by decide))
                    refine w_iconst rfl (w_goto (tgt := 79) rfl rfl (w_istore (ls2 := [_, _, _, _, _, _]) rfl rfl rfl (w_iinc (ls2 := [_, _, _, _, _, _]) rfl rfl rfl (w_goto (tgt := 17) rfl rfl ?_))))
                    exact ihn
              | false =>
                refine w_iload rfl rfl (w_aload rfl rfl (w_getIV rfl (by first | rfl | assumption) (by first | exact Or.inl rfl | exact Or.inr rfl) (hm) ?_))
                refine w_icmp_ge (tgt := 87) rfl (by first | assumption | exact i32_0 | (unfold i32 at *; omega)) (by first | assumption | exact i32_0 | (unfold i32 at *; omega)) rfl (fun c23 => ?_) (fun c23 => ?_)
                · exfalso; omega
                · skip
                  refine w_iload rfl rfl ?_
                  refine w_if_eq (tgt := 87) rfl (by first | assumption | exact i32_0 | (unfold i32 at *; omega)) rfl (fun c => absurd c (by decide)) (fun _ => ?_)
                  refine w_aload rfl rfl (w_iload rfl rfl (w_iload rfl rfl (w_iload rfl rfl ?_)))
                  refine w_call (Or.inr rfl) ((hcr)) (by omega) nof_201 rfl rfl rfl rfl (by first | rfl | (show cKB[_]? = _; assumption)) rfl ?_
                  refine w_if_lt (tgt := 56) rfl (by first | assumption | exact i32_0 | (unfold i32 at *; omega)) rfl (fun c38 => ?_) (fun c38 => ?_)
                  · exfalso; omega
                  · skip
                    refine w_aload rfl rfl (w_iload rfl rfl (w_iload rfl rfl (w_iload rfl rfl ?_)))
                    refine w_call (Or.inr rfl) ((hby)) (by omega) nof_202 rfl rfl rfl rfl (by first | rfl | (show cKB[_]? = _; assumption)) rfl ?_
                    refine w_if_ne (tgt := 56) rfl (by first | assumption | exact i32_0 | (unfold i32 at *; omega)) rfl (fun _ => ?_) (fun c => absurd c (by decide))
                    refine w_iconst rfl (w_istore (ls2 := [_, _, _, _, _, _]) rfl rfl rfl (w_iload rfl rfl ?_))
                    refine w_if_ne (tgt := 74) rfl (by first | assumption | exact i32_0 | (unfold i32 at *; omega)) rfl (fun c => absurd c (by decide)) (fun _ => ?_)
                    refine w_aload rfl rfl (w_iload rfl rfl (w_iload rfl rfl (w_iload rfl rfl ?_)))
                    refine w_call (Or.inr rfl) ((hcr)) (by omega) nof_201 rfl rfl rfl rfl (by first | rfl | (show cKB[_]? = _; assumption)) rfl ?_
                    refine w_if_le (tgt := 78) rfl (by first | assumption | exact i32_0 | (unfold i32 at *; omega)) rfl (fun c71 => ?_) (fun c71 => ?_)
                    · exfalso; omega
                    · skip
                      refine w_iconst rfl (w_goto (tgt := 79) rfl rfl (w_istore (ls2 := [_, _, _, _, _, _]) rfl rfl rfl (w_iinc (ls2 := [_, _, _, _, _, _]) rfl rfl rfl (w_goto (tgt := 17) rfl rfl ?_))))
                      exact ihn
            | false =>
              cases v with
              | true =>
                refine w_iload rfl rfl (w_aload rfl rfl (w_getIV rfl (by first | rfl | assumption) (by first | exact Or.inl rfl | exact Or.inr rfl) (hm) ?_))
                refine w_icmp_ge (tgt := 87) rfl (by first | assumption | exact i32_0 | (unfold i32 at *; omega)) (by first | assumption | exact i32_0 | (unfold i32 at *; omega)) rfl (fun c23 => ?_) (fun c23 => ?_)
                · exfalso; omega
                · skip
                  refine w_iload rfl rfl ?_
                  refine w_if_eq (tgt := 87) rfl (by first | assumption | exact i32_0 | (unfold i32 at *; omega)) rfl (fun c => absurd c (by decide)) (fun _ => ?_)
                  refine w_aload rfl rfl (w_iload rfl rfl (w_iload rfl rfl (w_iload rfl rfl ?_)))
                  refine w_call (Or.inr rfl) ((hcr)) (by omega) nof_201 rfl rfl rfl rfl (by first | rfl | (show cKB[_]? = _; assumption)) rfl ?_
                  refine w_if_lt (tgt := 56) rfl (by first | assumption | exact i32_0 | (unfold i32 at *; omega)) rfl (fun c38 => ?_) (fun c38 => ?_)
                  · exfalso; omega
                  · skip
                    refine w_aload rfl rfl (w_iload rfl rfl (w_iload rfl rfl (w_iload rfl rfl ?_)))
                    refine w_call (Or.inr rfl) ((hby)) (by omega) nof_202 rfl rfl rfl rfl (by first | rfl | (show cKB[_]? = _; assumption)) rfl ?_
                    refine w_if_ne (tgt := 56) rfl (by first | assumption | exact i32_0 | (unfold i32 at *; omega)) rfl (fun c => absurd c (by decide)) (fun _ => ?_)
                    refine w_iconst rfl (w_goto (tgt := 57) rfl rfl (w_istore (ls2 := [_, _, _, _, _, _]) rfl rfl rfl (w_iload rfl rfl ?_)))
                    refine w_if_ne (tgt := 74) rfl (by first | assumption | exact i32_0 | (unfold i32 at *; omega)) rfl (fun _ => ?_) (fun c => absurd c (by decide))
                    refine w_iconst rfl (w_goto (tgt := 79) rfl rfl (w_istore (ls2 := [_, _, _, _, _, _]) rfl rfl rfl (w_iinc (ls2 := [_, _, _, _, _, _]) rfl rfl rfl (w_goto (tgt := 17) rfl rfl ?_))))
                    exact ihn
              | false =>
                refine w_iload rfl rfl (w_aload rfl rfl (w_getIV rfl (by first | rfl | assumption) (by first | exact Or.inl rfl | exact Or.inr rfl) (hm) ?_))
                refine w_icmp_ge (tgt := 87) rfl (by first | assumption | exact i32_0 | (unfold i32 at *; omega)) (by first | assumption | exact i32_0 | (unfold i32 at *; omega)) rfl (fun c23 => ?_) (fun c23 => ?_)
                · exfalso; omega
                · skip
                  refine w_iload rfl rfl ?_
                  refine w_if_eq (tgt := 87) rfl (by first | assumption | exact i32_0 | (unfold i32 at *; omega)) rfl (fun c => absurd c (by decide)) (fun _ => ?_)
                  refine w_aload rfl rfl (w_iload rfl rfl (w_iload rfl rfl (w_iload rfl rfl ?_)))
                  refine w_call (Or.inr rfl) ((hcr)) (by omega) nof_201 rfl rfl rfl rfl (by first | rfl | (show cKB[_]? = _; assumption)) rfl ?_
                  refine w_if_lt (tgt := 56) rfl (by first | assumption | exact i32_0 | (unfold i32 at *; omega)) rfl (fun c38 => ?_) (fun c38 => ?_)
                  · exfalso; omega
                  · skip
                    refine w_aload rfl rfl (w_iload rfl rfl (w_iload rfl rfl (w_iload rfl rfl ?_)))
                    refine w_call (Or.inr rfl) ((hby)) (by omega) nof_202 rfl rfl rfl rfl (by first | rfl | (show cKB[_]? = _; assumption)) rfl ?_
                    refine w_if_ne (tgt := 56) rfl (by first | assumption | exact i32_0 | (unfold i32 at *; omega)) rfl (fun c => absurd c (by decide)) (fun _ => ?_)
                    refine w_iconst rfl (w_goto (tgt := 57) rfl rfl (w_istore (ls2 := [_, _, _, _, _, _]) rfl rfl rfl (w_iload rfl rfl ?_)))
                    refine w_if_ne (tgt := 74) rfl (by first | assumption | exact i32_0 | (unfold i32 at *; omega)) rfl (fun c => absurd c (by decide)) (fun _ => ?_)
                    refine w_aload rfl rfl (w_iload rfl rfl (w_iload rfl rfl (w_iload rfl rfl ?_)))
                    refine w_call (Or.inr rfl) ((hcr)) (by omega) nof_201 rfl rfl rfl rfl (by first | rfl | (show cKB[_]? = _; assumption)) rfl ?_
                    refine w_if_le (tgt := 78) rfl (by first | assumption | exact i32_0 | (unfold i32 at *; omega)) rfl (fun c71 => ?_) (fun c71 => ?_)
                    · exfalso; omega
                    · skip
                      refine w_iconst rfl (w_goto (tgt := 79) rfl rfl (w_istore (ls2 := [_, _, _, _, _, _]) rfl rfl rfl (w_iinc (ls2 := [_, _, _, _, _, _]) rfl rfl rfl (w_goto (tgt := 17) rfl rfl ?_))))
                      exact ihn
          · rw [decide_eq_false h1, Bool.or_false] at ihn
            cases y with
            | true => 
              cases v with
              | true =>
                refine w_iload rfl rfl (w_aload rfl rfl (w_getIV rfl (by first | rfl | assumption) (by first | exact Or.inl rfl | exact Or.inr rfl) (hm) ?_))
                refine w_icmp_ge (tgt := 87) rfl (by first | assumption | exact i32_0 | (unfold i32 at *; omega)) (by first | assumption | exact i32_0 | (unfold i32 at *; omega)) rfl (fun c23 => ?_) (fun c23 => ?_)
                · exfalso; omega
                · skip
                  refine w_iload rfl rfl ?_
                  refine w_if_eq (tgt := 87) rfl (by first | assumption | exact i32_0 | (unfold i32 at *; omega)) rfl (fun c => absurd c (by decide)) (fun _ => ?_)
                  refine w_aload rfl rfl (w_iload rfl rfl (w_iload rfl rfl (w_iload rfl rfl ?_)))
                  refine w_call (Or.inr rfl) ((hcr)) (by omega) nof_201 rfl rfl rfl rfl (by first | rfl | (show cKB[_]? = _; assumption)) rfl ?_
                  refine w_if_lt (tgt := 56) rfl (by first | assumption | exact i32_0 | (unfold i32 at *; omega)) rfl (fun c38 => ?_) (fun c38 => ?_)
                  · exfalso; omega
                  · skip
                    refine w_aload rfl rfl (w_iload rfl rfl (w_iload rfl rfl (w_iload rfl rfl ?_)))
                    refine w_call (Or.inr rfl) ((hby)) (by omega) nof_202 rfl rfl rfl rfl (by first | rfl | (show cKB[_]? = _; assumption)) rfl ?_
                    refine w_if_ne (tgt := 56) rfl (by first | assumption | exact i32_0 | (unfold i32 at *; omega)) rfl (fun _ => ?_) (fun c => absurd c (by decide))
                    refine w_iconst rfl (w_istore (ls2 := [_, _, _, _, _, _]) rfl rfl rfl (w_iload rfl rfl ?_))
                    refine w_if_ne (tgt := 74) rfl (by first | assumption | exact i32_0 | (unfold i32 at *; omega)) rfl (fun _ => ?_) (fun c => absurd c (by decide))
                    refine w_iconst rfl (w_goto (tgt := 79) rfl rfl (w_istore (ls2 := [_, _, _, _, _, _]) rfl rfl rfl (w_iinc (ls2 := [_, _, _, _, _, _]) rfl rfl rfl (w_goto (tgt := 17) rfl rfl ?_))))
                    exact ihn
              | false =>
                refine w_iload rfl rfl (w_aload rfl rfl (w_getIV rfl (by first | rfl | assumption) (by first | exact Or.inl rfl | exact Or.inr rfl) (hm) ?_))
                refine w_icmp_ge (tgt := 87) rfl (by first | assumption | exact i32_0 | (unfold i32 at *; omega)) (by first | assumption | exact i32_0 | (unfold i32 at *; omega)) rfl (fun c23 => ?_) (fun c23 => ?_)
                · exfalso; omega
                · skip
                  refine w_iload rfl rfl ?_
                  refine w_if_eq (tgt := 87) rfl (by first | assumption | exact i32_0 | (unfold i32 at *; omega)) rfl (fun c => absurd c (by decide)) (fun _ => ?_)
                  refine w_aload rfl rfl (w_iload rfl rfl (w_iload rfl rfl (w_iload rfl rfl ?_)))
                  refine w_call (Or.inr rfl) ((hcr)) (by omega) nof_201 rfl rfl rfl rfl (by first | rfl | (show cKB[_]? = _; assumption)) rfl ?_
                  refine w_if_lt (tgt := 56) rfl (by first | assumption | exact i32_0 | (unfold i32 at *; omega)) rfl (fun c38 => ?_) (fun c38 => ?_)
                  · exfalso; omega
                  · skip
                    refine w_aload rfl rfl (w_iload rfl rfl (w_iload rfl rfl (w_iload rfl rfl ?_)))
                    refine w_call (Or.inr rfl) ((hby)) (by omega) nof_202 rfl rfl rfl rfl (by first | rfl | (show cKB[_]? = _; assumption)) rfl ?_
                    refine w_if_ne (tgt := 56) rfl (by first | assumption | exact i32_0 | (unfold i32 at *; omega)) rfl (fun _ => ?_) (fun c => absurd c (by decide))
                    refine w_iconst rfl (w_istore (ls2 := [_, _, _, _, _, _]) rfl rfl rfl (w_iload rfl rfl ?_))
                    refine w_if_ne (tgt := 74) rfl (by first | assumption | exact i32_0 | (unfold i32 at *; omega)) rfl (fun c => absurd c (by decide)) (fun _ => ?_)
                    refine w_aload rfl rfl (w_iload rfl rfl (w_iload rfl rfl (w_iload rfl rfl ?_)))
                    refine w_call (Or.inr rfl) ((hcr)) (by omega) nof_201 rfl rfl rfl rfl (by first | rfl | (show cKB[_]? = _; assumption)) rfl ?_
                    refine w_if_le (tgt := 78) rfl (by first | assumption | exact i32_0 | (unfold i32 at *; omega)) rfl (fun c71 => ?_) (fun c71 => ?_)
                    · skip
                      refine w_iconst rfl (w_istore (ls2 := [_, _, _, _, _, _]) rfl rfl rfl (w_iinc (ls2 := [_, _, _, _, _, _]) rfl rfl rfl (w_goto (tgt := 17) rfl rfl ?_)))
                      exact ihn
                    · exfalso; omega
            | false =>
              cases v with
              | true =>
                refine w_iload rfl rfl (w_aload rfl rfl (w_getIV rfl (by first | rfl | assumption) (by first | exact Or.inl rfl | exact Or.inr rfl) (hm) ?_))
                refine w_icmp_ge (tgt := 87) rfl (by first | assumption | exact i32_0 | (unfold i32 at *; omega)) (by first | assumption | exact i32_0 | (unfold i32 at *; omega)) rfl (fun c23 => ?_) (fun c23 => ?_)
                · exfalso; omega
                · skip
                  refine w_iload rfl rfl ?_
                  refine w_if_eq (tgt := 87) rfl (by first | assumption | exact i32_0 | (unfold i32 at *; omega)) rfl (fun c => absurd c (by decide)) (fun _ => ?_)
                  refine w_aload rfl rfl (w_iload rfl rfl (w_iload rfl rfl (w_iload rfl rfl ?_)))
                  refine w_call (Or.inr rfl) ((hcr)) (by omega) nof_201 rfl rfl rfl rfl (by first | rfl | (show cKB[_]? = _; assumption)) rfl ?_
                  refine w_if_lt (tgt := 56) rfl (by first | assumption | exact i32_0 | (unfold i32 at *; omega)) rfl (fun c38 => ?_) (fun c38 => ?_)
                  · exfalso; omega
                  · skip
                    refine w_aload rfl rfl (w_iload rfl rfl (w_iload rfl rfl (w_iload rfl rfl ?_)))
                    refine w_call (Or.inr rfl) ((hby)) (by omega) nof_202 rfl rfl rfl rfl (by first | rfl | (show cKB[_]? = _; assumption)) rfl ?_
                    refine w_if_ne (tgt := 56) rfl (by first | assumption | exact i32_0 | (unfold i32 at *; omega)) rfl (fun c => absurd c (by decide)) (fun _ => ?_)
                    refine w_iconst rfl (w_goto (tgt := 57) rfl rfl (w_istore (ls2 := [_, _, _, _, _, _]) rfl rfl rfl (w_iload rfl rfl ?_)))
                    refine w_if_ne (tgt := 74) rfl (by first | assumption | exact i32_0 | (unfold i32 at *; omega)) rfl (fun _ => ?_) (fun c => absurd c (by decide))
                    refine w_iconst rfl (w_goto (tgt := 79) rfl rfl (w_istore (ls2 := [_, _, _, _, _, _]) rfl rfl rfl (w_iinc (ls2 := [_, _, _, _, _, _]) rfl rfl rfl (w_goto (tgt := 17) rfl rfl ?_))))
                    exact ihn
              | false =>
                refine w_iload rfl rfl (w_aload rfl rfl (w_getIV rfl (by first | rfl | assumption) (by first | exact Or.inl rfl | exact Or.inr rfl) (hm) ?_))
                refine w_icmp_ge (tgt := 87) rfl (by first | assumption | exact i32_0 | (unfold i32 at *; omega)) (by first | assumption | exact i32_0 | (unfold i32 at *; omega)) rfl (fun c23 => ?_) (fun c23 => ?_)
                · exfalso; omega
                · skip
                  refine w_iload rfl rfl ?_
                  refine w_if_eq (tgt := 87) rfl (by first | assumption | exact i32_0 | (unfold i32 at *; omega)) rfl (fun c => absurd c (by decide)) (fun _ => ?_)
                  refine w_aload rfl rfl (w_iload rfl rfl (w_iload rfl rfl (w_iload rfl rfl ?_)))
                  refine w_call (Or.inr rfl) ((hcr)) (by omega) nof_201 rfl rfl rfl rfl (by first | rfl | (show cKB[_]? = _; assumption)) rfl ?_
                  refine w_if_lt (tgt := 56) rfl (by first | assumption | exact i32_0 | (unfold i32 at *; omega)) rfl (fun c38 => ?_) (fun c38 => ?_)
                  · exfalso; omega
                  · skip
                    refine w_aload rfl rfl (w_iload rfl rfl (w_iload rfl rfl (w_iload rfl rfl ?_)))
                    refine w_call (Or.inr rfl) ((hby)) (by omega) nof_202 rfl rfl rfl rfl (by first | rfl | (show cKB[_]? = _; assumption)) rfl ?_
                    refine w_if_ne (tgt := 56) rfl (by first | assumption | exact i32_0 | (unfold i32 at *; omega)) rfl (fun c => absurd c (by decide)) (fun _ => ?_)
                    refine w_iconst rfl (w_goto (tgt := 57) rfl rfl (w_istore (ls2 := [_, _, _, _, _, _]) rfl rfl rfl (w_iload rfl rfl ?_)))
                    refine w_if_ne (tgt := 74) rfl (by first | assumption | exact i32_0 | (unfold i32 at *; omega)) rfl (fun c => absurd c (by decide)) (fun _ => ?_)
                    refine w_aload rfl rfl (w_iload rfl rfl (w_iload rfl rfl (w_iload rfl rfl ?_)))
                    refine w_call (Or.inr rfl) ((hcr)) (by omega) nof_201 rfl rfl rfl rfl (by first | rfl | (show cKB[_]? = _; assumption)) rfl ?_
                    refine w_if_le (tgt := 78) rfl (by first | assumption | exact i32_0 | (unfold i32 at *; omega)) rfl (fun c71 => ?_) (fun c71 => ?_)
                    · skip
                      refine w_iconst rfl (w_istore (ls2 := [_, _, _, _, _, _]) rfl rfl rfl (w_iinc (ls2 := [_, _, _, _, _, _]) rfl rfl rfl (w_goto (tgt := 17) rfl rfl ?_)))
                      exact ihn
                    · exfalso; omega
        · rw [decide_eq_false h0, Bool.false_and, show decide (0 < c) = false from decide_eq_false (by omega), Bool.or_false] at ihn
          cases v with
          | true =>
            refine w_iload rfl rfl (w_aload rfl rfl (w_getIV rfl (by first | rfl | assumption) (by first | exact Or.inl rfl | exact Or.inr rfl) (hm) ?_))
            refine w_icmp_ge (tgt := 87) rfl (by first | assumption | exact i32_0 | (unfold i32 at *; omega)) (by first | assumption | exact i32_0 | (unfold i32 at *; omega)) rfl (fun c23 => ?_) (fun c23 => ?_)
            · exfalso; omega
            · skip
              refine w_iload rfl rfl ?_
              refine w_if_eq (tgt := 87) rfl (by first | assumption | exact i32_0 | (unfold i32 at *; omega)) rfl (fun c => absurd c (by decide)) (fun _ => ?_)
              refine w_aload rfl rfl (w_iload rfl rfl (w_iload rfl rfl (w_iload rfl rfl ?_)))
              refine w_call (Or.inr rfl) ((hcr)) (by omega) nof_201 rfl rfl rfl rfl (by first | rfl | (show cKB[_]? = _; assumption)) rfl ?_
              refine w_if_lt (tgt := 56) rfl (by first | assumption | exact i32_0 | (unfold i32 at *; omega)) rfl (fun c38 => ?_) (fun c38 => ?_)
              · skip
                refine w_iconst rfl (w_istore (ls2 := [_, _, _, _, _, _]) rfl rfl rfl (w_iload rfl rfl ?_))
                refine w_if_ne (tgt := 74) rfl (by first | assumption | exact i32_0 | (unfold i32 at *; omega)) rfl (fun _ => ?_) (fun c => absurd c (by decide))
                refine w_iconst rfl (w_goto (tgt := 79) rfl rfl (w_istore (ls2 := [_, _, _, _, _, _]) rfl rfl rfl (w_iinc (ls2 := [_, _, _, _, _, _]) rfl rfl rfl (w_goto (tgt := 17) rfl rfl ?_))))
                exact ihn
              · exfalso; omega
          | false =>
            refine w_iload rfl rfl (w_aload rfl rfl (w_getIV rfl (by first | rfl | assumption) (by first | exact Or.inl rfl | exact Or.inr rfl) (hm) ?_))
            refine w_icmp_ge (tgt := 87) rfl (by first | assumption | exact i32_0 | (unfold i32 at *; omega)) (by first | assumption | exact i32_0 | (unfold i32 at *; omega)) rfl (fun c23 => ?_) (fun c23 => ?_)
            · exfalso; omega
            · skip
              refine w_iload rfl rfl ?_
              refine w_if_eq (tgt := 87) rfl (by first | assumption | exact i32_0 | (unfold i32 at *; omega)) rfl (fun c => absurd c (by decide)) (fun _ => ?_)
              refine w_aload rfl rfl (w_iload rfl rfl (w_iload rfl rfl (w_iload rfl rfl ?_)))
              refine w_call (Or.inr rfl) ((hcr)) (by omega) nof_201 rfl rfl rfl rfl (by first | rfl | (show cKB[_]? = _; assumption)) rfl ?_
              refine w_if_lt (tgt := 56) rfl (by first | assumption | exact i32_0 | (unfold i32 at *; omega)) rfl (fun c38 => ?_) (fun c38 => ?_)
              · skip
                refine w_iconst rfl (w_istore (ls2 := [_, _, _, _, _, _]) rfl rfl rfl (w_iload rfl rfl ?_))
                refine w_if_ne (tgt := 74) rfl (by first | assumption | exact i32_0 | (unfold i32 at *; omega)) rfl (fun c => absurd c (by decide)) (fun _ => ?_)
                refine w_aload rfl rfl (w_iload rfl rfl (w_iload rfl rfl (w_iload rfl rfl ?_)))
                refine w_call (Or.inr rfl) ((hcr)) (by omega) nof_201 rfl rfl rfl rfl (by first | rfl | (show cKB[_]? = _; assumption)) rfl ?_
                refine w_if_le (tgt := 78) rfl (by first | assumption | exact i32_0 | (unfold i32 at *; omega)) rfl (fun c71 => ?_) (fun c71 => ?_)
                · skip
                  refine w_iconst rfl (w_istore (ls2 := [_, _, _, _, _, _]) rfl rfl rfl (w_iinc (ls2 := [_, _, _, _, _, _]) rfl rfl rfl (w_goto (tgt := 17) rfl rfl ?_)))
                  exact ihn
                · exfalso; omega
              · exfalso; omega
  have hgo := loop Q.length 0 rfl (Nat.zero_le _)
  have hk0 : okQ Q a b 0 = !decide (a = b) := rfl
  have ha0 : abQ Q a b 0 = false := rfl
  rw [hk0, ha0] at hgo
  clear loop hret hbad
  generalize Q.length = m at *
  by_cases q : a = b
  · rw [decide_eq_true q] at hgo
    refine w_iload rfl rfl (w_iload rfl rfl ?_)
    refine w_icmp_eq (tgt := 9) rfl (by first | assumption | exact i32_0 | (unfold i32 at *; omega)) (by first | assumption | exact i32_0 | (unfold i32 at *; omega)) rfl (fun c2 => ?_) (fun c2 => ?_)
    · skip
      refine w_iconst rfl (w_istore (ls2 := [_, _, _, _, _, _]) rfl rfl rfl (w_iconst rfl (w_istore (ls2 := [_, _, _, _, _, _]) rfl rfl rfl (w_iconst rfl (w_istore (ls2 := [_, _, _, _, _, _]) rfl rfl rfl ?_)))))
      exact hgo
    · skip
      exfalso; omega
  · rw [decide_eq_false q] at hgo
    refine w_iload rfl rfl (w_iload rfl rfl ?_)
    refine w_icmp_eq (tgt := 9) rfl (by first | assumption | exact i32_0 | (unfold i32 at *; omega)) (by first | assumption | exact i32_0 | (unfold i32 at *; omega)) rfl (fun c2 => ?_) (fun c2 => ?_)
    · skip
      exfalso; omega
    · skip
      refine w_iconst rfl (w_goto (tgt := 10) rfl rfl (w_istore (ls2 := [_, _, _, _, _, _]) rfl rfl rfl (w_iconst rfl (w_istore (ls2 := [_, _, _, _, _, _]) rfl rfl rfl (w_iconst rfl (w_istore (ls2 := [_, _, _, _, _, _]) rfl rfl rfl ?_))))))
      exact hgo
/-! twice the hull's area -/
def arT (Q : List (Int × Int)) (i j : Nat) : Int := if isdQ Q i j = true then ((ptQ Q i).1 - (ptQ Q 0).1) * ((ptQ Q j).2 - (ptQ Q 0).2) - ((ptQ Q i).2 - (ptQ Q 0).2) * ((ptQ Q j).1 - (ptQ Q 0).1) else 0
def arJ (Q : List (Int × Int)) (i : Nat) (s : Int) : Nat → Int
  | 0 => s
  | j + 1 => arJ Q i s j + arT Q i j
def arI (Q : List (Int × Int)) : Nat → Int
  | 0 => 0
  | i + 1 => arJ Q i (arI Q i) Q.length
def arQ (Q : List (Int × Int)) : Int := arI Q Q.length
theorem m_areaOfList {Q : List (Int × Int)} {M : mM} (h : mPL Q M) : E 5 206 [vR 155] M (some (vI (arQ Q))) M := by
  have hl := h.2.1
  have hm := h.1
  refine e_in (ls := [vR 155, vN, vN, vN]) mq_206 (ml_206 rfl) rfl fun D hD => ?_
  have loopJ : ∀ (i : Nat) (s : Int), i < Q.length → (Wp mc_206 D 99 [vR 155, vI (arJ Q i s Q.length), vI i, vI Q.length] [] M (fun r N => r = some (vI (arQ Q)) ∧ N = M)) → ∀ (z n : Nat), Q.length - n = z → n ≤ Q.length → Wp mc_206 D 14 [vR 155, vI (arJ Q i s n), vI i, vI n] [] M (fun r N => r = some (vI (arQ Q)) ∧ N = M) := by
    intro i s hi hout z
    induction z with
    | zero =>
      intro n hz hn
      obtain rfl : n = Q.length := by omega
      generalize arQ Q = res at *
      generalize Q.length = m at *
      refine w_iload rfl rfl (w_aload rfl rfl (w_getIV rfl (by first | rfl | assumption) (by first | exact Or.inl rfl | exact Or.inr rfl) (hm) ?_))
      refine w_icmp_ge (tgt := 99) rfl (by first | assumption | exact i32_0 | (unfold i32 at *; omega)) (by first | assumption | exact i32_0 | (unfold i32 at *; omega)) rfl (fun c19 => ?_) (fun c19 => ?_)
      · skip
        exact hout
      · skip
        exfalso; omega
    | succ z ih =>
      intro n hz hn
      have ihn := ih (n + 1) (by omega) (by omega)
      have his := m_isSide h hi (show n < Q.length by omega)
      have xi := mPL_at h hi
      have xn := mPL_at h (show n < Q.length by omega)
      have x0 : _ := mPL_at h (k := 0) (show 0 < Q.length by omega)
      have hcr := m_cross ((ptQ Q i).1 - (ptQ Q 0).1) ((ptQ Q i).2 - (ptQ Q 0).2) ((ptQ Q n).1 - (ptQ Q 0).1) ((ptQ Q n).2 - (ptQ Q 0).2) M
      have hT : arJ Q i s (n + 1) = arJ Q i s n + arT Q i n := rfl
      have hT2 : arT Q i n = if isdQ Q i n = true then ((ptQ Q i).1 - (ptQ Q 0).1) * ((ptQ Q n).2 - (ptQ Q 0).2) - ((ptQ Q i).2 - (ptQ Q 0).2) * ((ptQ Q n).1 - (ptQ Q 0).1) else 0 := rfl
      rw [hT, hT2] at ihn
      clear ih hout hT hT2
      generalize arQ Q = res at *
      generalize arJ Q i s n = acc at *
      generalize Q.length = m at *
      generalize ptQ Q i = pa at *
      generalize ptQ Q n = pb at *
      generalize ptQ Q 0 = po at *
      cases e : isdQ Q i n with
      | true =>
        rw [e, if_pos rfl] at his
        rw [e, if_pos rfl] at ihn
        refine w_iload rfl rfl (w_aload rfl rfl (w_getIV rfl (by first | rfl | assumption) (by first | exact Or.inl rfl | exact Or.inr rfl) (hm) ?_))
        refine w_icmp_ge (tgt := 99) rfl (by first | assumption | exact i32_0 | (unfold i32 at *; omega)) (by first | assumption | exact i32_0 | (unfold i32 at *; omega)) rfl (fun c19 => ?_) (fun c19 => ?_)
        · exfalso; omega
        · skip
          refine w_iload rfl rfl (w_aload rfl rfl (w_iload rfl rfl (w_iload rfl rfl ?_)))
          refine w_call (Or.inr rfl) ((his)) (by omega) nof_200 rfl rfl rfl rfl (by first | rfl | (show cKB[_]? = _; assumption)) rfl ?_
          refine w_if_eq (tgt := 90) rfl (by first | assumption | exact i32_0 | (unfold i32 at *; omega)) rfl (fun c => absurd c (by decide)) (fun _ => ?_)
          refine w_aload rfl rfl (w_getR rfl (by first | rfl | assumption) rfl (by first | rfl | assumption) (w_iload rfl rfl (w_ialoadV rfl (by first | rfl | assumption) (by omega) (by omega) (xi.1.1) (w_aload rfl rfl (w_getR rfl (by first | rfl | assumption) rfl (by first | rfl | assumption) (w_iconst rfl (w_ialoadV rfl (by first | rfl | assumption) (by omega) (by omega) (x0.1.1) ?_)))))))
          refine w_isub rfl (w_aload rfl rfl (w_getR rfl (by first | rfl | assumption) rfl (by first | rfl | assumption) (w_iload rfl rfl (w_ialoadV rfl (by first | rfl | assumption) (by omega) (by omega) (xi.1.2) (w_aload rfl rfl (w_getR rfl (by first | rfl | assumption) rfl (by first | rfl | assumption) (w_iconst rfl ?_)))))))
          refine w_ialoadV rfl (by first | rfl | assumption) (by omega) (by omega) (x0.1.2) (w_isub rfl (w_aload rfl rfl (w_getR rfl (by first | rfl | assumption) rfl (by first | rfl | assumption) (w_iload rfl rfl (w_ialoadV rfl (by first | rfl | assumption) (by omega) (by omega) (xn.1.1) (w_aload rfl rfl (w_getR rfl (by first | rfl | assumption) rfl (by first | rfl | assumption) ?_)))))))
          refine w_iconst rfl (w_ialoadV rfl (by first | rfl | assumption) (by omega) (by omega) (x0.1.1) (w_isub rfl (w_aload rfl rfl (w_getR rfl (by first | rfl | assumption) rfl (by first | rfl | assumption) (w_iload rfl rfl (w_ialoadV rfl (by first | rfl | assumption) (by omega) (by omega) (xn.1.2) (w_aload rfl rfl ?_)))))))
          refine w_getR rfl (by first | rfl | assumption) rfl (by first | rfl | assumption) (w_iconst rfl (w_ialoadV rfl (by first | rfl | assumption) (by omega) (by omega) (x0.1.2) (w_isub rfl ?_)))
          refine w_call (Or.inl rfl) ((hcr)) (by omega) nof_190 rfl rfl rfl rfl trivial rfl ?_
          refine w_goto (tgt := 91) rfl rfl (w_iadd rfl (w_istore (ls2 := [_, _, _, _]) rfl rfl rfl (w_iinc (ls2 := [_, _, _, _]) rfl rfl rfl (w_goto (tgt := 14) rfl rfl ?_))))
          exact ihn
      | false =>
        rw [e, if_neg (by decide)] at his
        rw [e, if_neg (by decide)] at ihn
        refine w_iload rfl rfl (w_aload rfl rfl (w_getIV rfl (by first | rfl | assumption) (by first | exact Or.inl rfl | exact Or.inr rfl) (hm) ?_))
        refine w_icmp_ge (tgt := 99) rfl (by first | assumption | exact i32_0 | (unfold i32 at *; omega)) (by first | assumption | exact i32_0 | (unfold i32 at *; omega)) rfl (fun c19 => ?_) (fun c19 => ?_)
        · exfalso; omega
        · skip
          refine w_iload rfl rfl (w_aload rfl rfl (w_iload rfl rfl (w_iload rfl rfl ?_)))
          refine w_call (Or.inr rfl) ((his)) (by omega) nof_200 rfl rfl rfl rfl (by first | rfl | (show cKB[_]? = _; assumption)) rfl ?_
          refine w_if_eq (tgt := 90) rfl (by first | assumption | exact i32_0 | (unfold i32 at *; omega)) rfl (fun _ => ?_) (fun c => absurd c (by decide))
          refine w_iconst rfl (w_iadd rfl (w_istore (ls2 := [_, _, _, _]) rfl rfl rfl (w_iinc (ls2 := [_, _, _, _]) rfl rfl rfl (w_goto (tgt := 14) rfl rfl ?_))))
          exact ihn
  have loop : ∀ (z n : Nat) (w : mV), Q.length - n = z → n ≤ Q.length → Wp mc_206 D 4 [vR 155, vI (arI Q n), vI n, w] [] M (fun r N => r = some (vI (arQ Q)) ∧ N = M) := by
    intro z
    induction z with
    | zero =>
      intro n w hz hn
      obtain rfl : n = Q.length := by omega
      have hA : arI Q Q.length = arQ Q := rfl
      rw [hA]
      clear loopJ
      generalize arQ Q = res at *
      generalize Q.length = m at *
      refine w_iload rfl rfl (w_aload rfl rfl (w_getIV rfl (by first | rfl | assumption) (by first | exact Or.inl rfl | exact Or.inr rfl) (hm) ?_))
      refine w_icmp_ge (tgt := 105) rfl (by first | assumption | exact i32_0 | (unfold i32 at *; omega)) (by first | assumption | exact i32_0 | (unfold i32 at *; omega)) rfl (fun c9 => ?_) (fun c9 => ?_)
      · skip
        refine w_iload rfl rfl ?_
        exact w_ireturn rfl ⟨by first | rfl | (congr 2; omega), by rfl⟩
      · skip
        exfalso; omega
    | succ z ih =>
      intro n w hz hn
      have ihn := ih (n + 1) (vI Q.length) (by omega) (by omega)
      have hJ : arJ Q n (arI Q n) Q.length = arI Q (n + 1) := rfl
      have hL := loopJ n (arI Q n) (by omega)
      rw [hJ] at hL
      have h0 : arJ Q n (arI Q n) 0 = arI Q n := rfl
      have hgo := fun q => hL q Q.length 0 rfl (Nat.zero_le _)
      rw [h0] at hgo
      clear ih hL loopJ
      generalize arI Q (n + 1) = nxt at *
      generalize arI Q n = acc at *
      generalize arQ Q = res at *
      generalize Q.length = m at *
      have h99 : Wp mc_206 D 99 [vR 155, vI nxt, vI n, vI m] [] M (fun r N => r = some (vI res) ∧ N = M) := by
        refine w_iinc (ls2 := [_, _, _, _]) rfl rfl rfl (w_goto (tgt := 4) rfl rfl ?_)
        exact ihn
      refine w_iload rfl rfl (w_aload rfl rfl (w_getIV rfl (by first | rfl | assumption) (by first | exact Or.inl rfl | exact Or.inr rfl) (hm) ?_))
      refine w_icmp_ge (tgt := 105) rfl (by first | assumption | exact i32_0 | (unfold i32 at *; omega)) (by first | assumption | exact i32_0 | (unfold i32 at *; omega)) rfl (fun c9 => ?_) (fun c9 => ?_)
      · exfalso; omega
      · skip
        refine w_iconst rfl (w_istore (ls2 := [_, _, _, _]) rfl rfl rfl ?_)
        exact hgo h99
  have hgo := loop Q.length 0 vN rfl (Nat.zero_le _)
  refine w_iconst rfl (w_istore (ls2 := [_, _, _, _]) rfl rfl rfl (w_iconst rfl (w_istore (ls2 := [_, _, _, _]) rfl rfl rfl ?_)))
  exact hgo
