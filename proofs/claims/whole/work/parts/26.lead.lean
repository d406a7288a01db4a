/-! ===== what is least at a point, and where ===== -/
/-- the least of the first n places' values, times d -/
def minF (f : Cv) (x y d : Int) : Nat → Option Int
  | 0 => none
  | n + 1 => match f n with
    | none => minF f x y d n
    | some c => match minF f x y d n with
      | none => some (wv c n x y d)
      | some m => some (min m (wv c n x y d))
/-- of which places the value is m -/
def atF (f : Cv) (x y d m : Int) (p : Nat) : Bool := match f p with
  | none => false
  | some c => decide (wv c p x y d = m)
theorem minF_none {f : Cv} {x y d : Int} : ∀ {n : Nat}, minF f x y d n = none → ∀ p, p < n → f p = none
  | 0, _, p, hp => by omega
  | n + 1, h, p, hp => by
    unfold minF at h
    cases hn : f n with
    | none =>
      rw [hn] at h
      by_cases q : p = n
      · rw [q]; exact hn
      · exact minF_none h p (by omega)
    | some c =>
      rw [hn] at h
      dsimp only at h
      split at h <;> cases h
theorem minF_some {f : Cv} {x y d : Int} : ∀ {n : Nat} {m : Int}, minF f x y d n = some m → (∃ p c, p < n ∧ f p = some c ∧ wv c p x y d = m) ∧ ∀ p c, p < n → f p = some c → m ≤ wv c p x y d
  | 0, m, h => by cases h
  | n + 1, m, h => by
    unfold minF at h
    cases hn : f n with
    | none =>
      rw [hn] at h
      obtain ⟨⟨p, c, h1, h2, h3⟩, h4⟩ := minF_some (n := n) h
      refine ⟨⟨p, c, by omega, h2, h3⟩, fun p c hp hc => ?_⟩
      by_cases q : p = n
      · subst q; rw [hn] at hc; cases hc
      · exact h4 p c (by omega) hc
    | some c =>
      rw [hn] at h
      dsimp only at h
      split at h
      · next h0 =>
        cases h
        refine ⟨⟨n, c, by omega, hn, rfl⟩, fun p c2 hp hc => ?_⟩
        by_cases q : p = n
        · subst q; rw [hn] at hc; cases hc; exact Int.le_refl _
        · rw [minF_none h0 p (by omega)] at hc; cases hc
      · next m0 h0 =>
        obtain ⟨⟨p, c1, h1, h2, h3⟩, h4⟩ := minF_some h0
        have hm : m = min m0 (wv c n x y d) := (Option.some.inj h).symm
        constructor
        · by_cases q : m0 ≤ wv c n x y d
          · exact ⟨p, c1, by omega, h2, by rw [h3]; omega⟩
          · exact ⟨n, c, by omega, hn, by omega⟩
        · intro p c2 hp hc
          by_cases q : p = n
          · subst q; rw [hn] at hc; cases hc; omega
          · have := h4 p c2 (by omega) hc; omega
/-- the least is known by what it does -/
theorem minF_eq {f : Cv} {x y d m : Int} {n : Nat} (h1 : ∃ p c, p < n ∧ f p = some c ∧ wv c p x y d = m) (h2 : ∀ p c, p < n → f p = some c → m ≤ wv c p x y d) : minF f x y d n = some m := by
  obtain ⟨p, c, a1, a2, a3⟩ := h1
  cases h : minF f x y d n with
  | none => rw [minF_none h p a1] at a2; cases a2
  | some m2 =>
    obtain ⟨⟨q, c2, b1, b2, b3⟩, b4⟩ := minF_some h
    have e1 := b4 p c a1 a2
    have e2 := h2 q c2 b1 b2
    congr 1
    omega
def leadF (f : Cv) (x y d : Int) : Nat := match minF f x y d 21 with
  | none => 0
  | some m => mk (atF f x y d m) 21
theorem leadF_lt (f : Cv) (x y d : Int) : leadF f x y d < 2 ^ 21 := by
  unfold leadF
  split
  · exact Nat.two_pow_pos 21
  · exact mk_lt _ _
theorem minF_le {f : Cv} {x y d A B X m : Int} {n : Nat} (hf : Cok B f) (hd : -A ≤ d ∧ d ≤ A) (hx : -X ≤ x ∧ x ≤ X) (hy : -X ≤ y ∧ y ≤ X) (h : minF f x y d n = some m) : -(A * B + 8 * X) ≤ m ∧ m ≤ A * B + 8 * X := by
  obtain ⟨⟨p, c, h1, h2, h3⟩, -⟩ := minF_some h
  have := hf p c h2
  rw [← h3]
  exact wv_le (by omega) hd ⟨this.2.2.1, this.2.2.2⟩ hx hy
theorem e_least {t : Nat} {f : Cv} {M : mM} {x y d : Int} (ht : isT t) (hc : cur t f M) (hf : Cok 999 f) (hd : -1000 ≤ d ∧ d ≤ 1000) (hx : -100000 ≤ x ∧ x ≤ 100000) (hy : -100000 ≤ y ∧ y ≤ 100000) : E 2 44 [vR t, vI x, vI y, vI d] M (some (vI ((minF f x y d 21).getD 0))) M := by
  obtain ⟨ht1, ht2, ht3⟩ := id ht
  refine e_in (ls := [vR t, vI x, vI y, vI d, vN, vN, vN, vN]) mq_44 (ml_44 rfl) rfl fun D hD => ?_
  have loop : ∀ (n k : Nat) (a m : Int) (v7 : mV), 21 - k = n → k ≤ 21 → (match minF f x y d k with
      | none => a = 0 ∧ m = 0
      | some z => a = 1 ∧ m = z) → Wp mc_44 D 9 [vR t, vI x, vI y, vI d, vI a, vI m, vI k, v7] [] M (fun r1 M2 => r1 = some (vI ((minF f x y d 21).getD 0)) ∧ M2 = M) := by
    intro n
    induction n with
    | zero =>
      intro k a m v7 hn hk hi
      obtain rfl : k = 21 := by omega
      have hm : m = (minF f x y d 21).getD 0 := by
        split at hi
        · next h => rw [h]; exact hi.2
        · next z h => rw [h]; exact hi.2
      refine w_iload rfl rfl (w_aload rfl rfl (w_getR rfl (by first | rfl | assumption) rfl (by first | rfl | assumption) (w_alen rfl (by first | rfl | assumption) (by decide) (by decide) ?_)))
      refine w_icmp_ge rfl (by first | assumption | exact i32_0 | (unfold i32 at *; omega)) (by first | assumption | exact i32_0 | (unfold i32 at *; omega)) rfl (fun c16 => ?_) (fun c16 => ?_)
      · skip
        refine w_iload rfl rfl ?_
        exact w_ireturn rfl ⟨by rw [hm], by rfl⟩
      · skip
        exfalso; omega
    | succ n ih =>
      intro k a m v7 hn hk hi
      have hk2 : k < 21 := by omega
      cases hfk : f k with
      | none =>
        have ih2 := ih (k + 1) a m v7 (by omega) (by omega) (by rw [minF, hfk]; exact hi)
        refine w_iload rfl rfl (w_aload rfl rfl (w_getR rfl (by first | rfl | assumption) rfl (by first | rfl | assumption) (w_alen rfl (by first | rfl | assumption) (by decide) (by decide) ?_)))
        refine w_icmp_ge rfl (by first | assumption | exact i32_0 | (unfold i32 at *; omega)) (by first | assumption | exact i32_0 | (unfold i32 at *; omega)) rfl (fun c16 => ?_) (fun c16 => ?_)
        · skip
          exfalso; omega
        · skip
          refine w_aload rfl rfl (w_getR rfl (by first | rfl | assumption) rfl (by first | rfl | assumption) (w_iload rfl rfl (w_ialoadV rfl (by first | rfl | assumption) (by omega) (by omega) (cur_n hc hk2 hfk) (w_iconst rfl ?_))))
          refine w_icmp_eq rfl (by first | assumption | exact i32_0 | (unfold i32 at *; omega)) (by first | assumption | exact i32_0 | (unfold i32 at *; omega)) rfl (fun c28 => ?_) (fun c28 => ?_)
          · skip
            refine w_iinc rfl rfl rfl (w_goto rfl rfl ?_)
            exact ih2
          · skip
            exact absurd rfl c28
      | some c =>
        have hcb := hf k c hfk
        have hw := wv_le (c := c) (p := k) (A := 1000) (B := 999) (X := 100000) (by omega) hd ⟨hcb.2.2.1, hcb.2.2.2⟩ hx hy
        cases hq : minF f x y d k with
        | none =>
          rw [hq] at hi
          obtain ⟨rfl, rfl⟩ := hi
          have ih2 := fun v7 => ih (k + 1) 1 (wv c k x y d) v7 (by omega) (by omega) (by rw [minF, hfk, hq]; exact ⟨rfl, rfl⟩)
          refine w_iload rfl rfl (w_aload rfl rfl (w_getR rfl (by first | rfl | assumption) rfl (by first | rfl | assumption) (w_alen rfl (by first | rfl | assumption) (by decide) (by decide) ?_)))
          refine w_icmp_ge rfl (by first | assumption | exact i32_0 | (unfold i32 at *; omega)) (by first | assumption | exact i32_0 | (unfold i32 at *; omega)) rfl (fun c16 => ?_) (fun c16 => ?_)
          · skip
            exfalso; omega
          · skip
            refine w_aload rfl rfl (w_getR rfl (by first | rfl | assumption) rfl (by first | rfl | assumption) (w_iload rfl rfl (w_ialoadV rfl (by first | rfl | assumption) (by omega) (by omega) (cur_s hc hk2 hfk) (w_iconst rfl ?_))))
            refine w_icmp_eq rfl (by first | assumption | exact i32_0 | (unfold i32 at *; omega)) (by first | assumption | exact i32_0 | (unfold i32 at *; omega)) rfl (fun c28 => ?_) (fun c28 => ?_)
            · skip
              refine w_iinc rfl rfl rfl (w_goto rfl rfl ?_)
              first | exact ih2 _ | (exfalso; omega)
            · skip
              refine w_aload rfl rfl (w_iload rfl rfl (w_iload rfl rfl (w_iload rfl rfl (w_iload rfl rfl ?_))))
              refine w_call (Or.inr rfl) (e_worth ht hc hk2 hfk) (by omega) nof_45 rfl rfl rfl rfl (by first | rfl | (show cKB[_]? = _; assumption)) rfl ?_
              refine w_istore rfl rfl rfl (w_iload rfl rfl ?_)
              refine w_if_eq rfl (by first | assumption | exact i32_0 | (unfold i32 at *; omega)) rfl (fun _ => ?_) (fun c => absurd c (by decide))
              refine w_iload rfl rfl (w_istore rfl rfl rfl (w_iconst rfl (w_istore rfl rfl rfl (w_iinc rfl rfl rfl (w_goto rfl rfl ?_)))))
              first | exact ih2 _ | (exfalso; omega)
        | some z =>
          rw [hq] at hi
          obtain ⟨rfl, rfl⟩ := hi
          have hz := minF_le hf hd hx hy hq
          have ih2 := fun v7 => ih (k + 1) 1 (min m (wv c k x y d)) v7 (by omega) (by omega) (by rw [minF, hfk, hq]; exact ⟨rfl, rfl⟩)
          refine w_iload rfl rfl (w_aload rfl rfl (w_getR rfl (by first | rfl | assumption) rfl (by first | rfl | assumption) (w_alen rfl (by first | rfl | assumption) (by decide) (by decide) ?_)))
          refine w_icmp_ge rfl (by first | assumption | exact i32_0 | (unfold i32 at *; omega)) (by first | assumption | exact i32_0 | (unfold i32 at *; omega)) rfl (fun c16 => ?_) (fun c16 => ?_)
          · skip
            exfalso; omega
          · skip
            refine w_aload rfl rfl (w_getR rfl (by first | rfl | assumption) rfl (by first | rfl | assumption) (w_iload rfl rfl (w_ialoadV rfl (by first | rfl | assumption) (by omega) (by omega) (cur_s hc hk2 hfk) (w_iconst rfl ?_))))
            refine w_icmp_eq rfl (by first | assumption | exact i32_0 | (unfold i32 at *; omega)) (by first | assumption | exact i32_0 | (unfold i32 at *; omega)) rfl (fun c28 => ?_) (fun c28 => ?_)
            · skip
              refine w_iinc rfl rfl rfl (w_goto rfl rfl ?_)
              first | exact ih2 _ | (exfalso; omega)
            · skip
              refine w_aload rfl rfl (w_iload rfl rfl (w_iload rfl rfl (w_iload rfl rfl (w_iload rfl rfl ?_))))
              refine w_call (Or.inr rfl) (e_worth ht hc hk2 hfk) (by omega) nof_45 rfl rfl rfl rfl (by first | rfl | (show cKB[_]? = _; assumption)) rfl ?_
              refine w_istore rfl rfl rfl (w_iload rfl rfl ?_)
              refine w_if_eq rfl (by first | assumption | exact i32_0 | (unfold i32 at *; omega)) rfl (fun c => absurd c (by decide)) (fun _ => ?_)
              refine w_iload rfl rfl (w_iload rfl rfl ?_)
              refine w_call (Or.inl rfl) (e_min m (wv c k x y d) M (by unfold i32; omega) (by unfold i32; omega)) (by omega) nof_46 rfl rfl rfl rfl trivial rfl ?_
              refine w_goto rfl rfl (w_istore rfl rfl rfl (w_iconst rfl (w_istore rfl rfl rfl (w_iinc rfl rfl rfl (w_goto rfl rfl ?_)))))
              first | exact ih2 _ | (exfalso; omega)
  refine w_iconst rfl (w_istore rfl rfl rfl (w_iconst rfl (w_istore rfl rfl rfl (w_iconst rfl (w_istore rfl rfl rfl ?_)))))
  exact loop 21 0 0 0 _ rfl (by omega) ⟨rfl, rfl⟩
theorem mk_one {P : Nat → Bool} {k : Nat} (h0 : ∀ p, p < k → P p = false) (h1 : P k = true) : mk P (k + 1) = 2 ^ k := by
  rw [mk, if_pos h1]
  have : mk P k = 0 := Nat.eq_of_testBit_eq fun j => by
    rw [mk_tb]
    by_cases q : j < k
    · rw [h0 j q]; simp
    · simp [q]
  rw [this, Nat.zero_or]
theorem mk_ne {P : Nat → Bool} {k p : Nat} (hp : p < k) (h1 : P p = true) : mk P k ≠ 0 := fun q => by
  have := mk_tb P p k
  rw [q, h1] at this
  simp [hp] at this
theorem e_leading {t : Nat} {f : Cv} {M : mM} {x y d : Int} (ht : isT t) (hc : cur t f M) (hf : Cok 999 f) (hd : -1000 ≤ d ∧ d ≤ 1000) (hx : -100000 ≤ x ∧ x ≤ 100000) (hy : -100000 ≤ y ∧ y ≤ 100000) : E 2 47 [vR t, vI x, vI y, vI d] M (some (vI (leadF f x y d))) M := by
  obtain ⟨ht1, ht2, ht3⟩ := id ht
  refine e_in (ls := [vR t, vI x, vI y, vI d, vN, vN, vN, vN]) mq_47 (ml_47 rfl) rfl fun D hD => ?_
  have loop : ∀ (n k s : Nat) (m : Int) (v7 : mV), 21 - k = n → k ≤ 21 → (match minF f x y d k with
      | none => s = 0
      | some z => s = mk (atF f x y d z) k ∧ m = z) → i32 m → Wp mc_47 D 9 [vR t, vI x, vI y, vI d, vI s, vI m, vI k, v7] [] M (fun r1 M2 => r1 = some (vI (leadF f x y d)) ∧ M2 = M) := by
    intro n
    induction n with
    | zero =>
      intro k s m v7 hn hk hi hm
      obtain rfl : k = 21 := by omega
      have hs : s = leadF f x y d := by
        unfold leadF
        split at hi
        · next h => exact hi
        · next z h => exact hi.1
      refine w_iload rfl rfl (w_aload rfl rfl (w_getR rfl (by first | rfl | assumption) rfl (by first | rfl | assumption) (w_alen rfl (by first | rfl | assumption) (by decide) (by decide) ?_)))
      refine w_icmp_ge rfl (by first | assumption | exact i32_0 | (unfold i32 at *; omega)) (by first | assumption | exact i32_0 | (unfold i32 at *; omega)) rfl (fun c16 => ?_) (fun c16 => ?_)
      · skip
        refine w_iload rfl rfl ?_
        exact w_ireturn rfl ⟨by rw [hs], by rfl⟩
      · skip
        exfalso; omega
    | succ n ih =>
      intro k s m v7 hn hk hi hm
      have hk2 : k < 21 := by omega
      have hp2 : 2 ^ k < 2 ^ 31 := Nat.pow_lt_pow_right (by decide) (by omega)
      cases hfk : f k with
      | none =>
        have ih2 := ih (k + 1) s m v7 (by omega) (by omega) (by
          rw [minF, hfk]
          dsimp only
          have e : ∀ z, mk (atF f x y d z) (k + 1) = mk (atF f x y d z) k := fun z => by rw [mk, if_neg (by simp [atF, hfk]), Nat.or_zero]
          simp only [e]
          exact hi) hm
        refine w_iload rfl rfl (w_aload rfl rfl (w_getR rfl (by first | rfl | assumption) rfl (by first | rfl | assumption) (w_alen rfl (by first | rfl | assumption) (by decide) (by decide) ?_)))
        refine w_icmp_ge rfl (by first | assumption | exact i32_0 | (unfold i32 at *; omega)) (by first | assumption | exact i32_0 | (unfold i32 at *; omega)) rfl (fun c16 => ?_) (fun c16 => ?_)
        · skip
          exfalso; omega
        · skip
          refine w_aload rfl rfl (w_getR rfl (by first | rfl | assumption) rfl (by first | rfl | assumption) (w_iload rfl rfl (w_ialoadV rfl (by first | rfl | assumption) (by omega) (by omega) (cur_n hc hk2 hfk) (w_iconst rfl ?_))))
          refine w_icmp_eq rfl (by first | assumption | exact i32_0 | (unfold i32 at *; omega)) (by first | assumption | exact i32_0 | (unfold i32 at *; omega)) rfl (fun c28 => ?_) (fun c28 => ?_)
          · skip
            refine w_iinc rfl rfl rfl (w_goto rfl rfl ?_)
            exact ih2
          · skip
            exact absurd rfl c28
      | some c =>
        have hcb := hf k c hfk
        have hw := wv_le (c := c) (p := k) (A := 1000) (B := 999) (X := 100000) (by omega) hd ⟨hcb.2.2.1, hcb.2.2.2⟩ hx hy
        have hwi : i32 (wv c k x y d) := by unfold i32; omega
        cases hq : minF f x y d k with
        | none =>
          rw [hq] at hi
          subst hi
          have hone : mk (atF f x y d (wv c k x y d)) (k + 1) = 2 ^ k := mk_one (fun p hp => by simp [atF, minF_none hq p hp]) (by simp [atF, hfk])
          have ih2 := fun v7 => ih (k + 1) (2 ^ k) (wv c k x y d) v7 (by omega) (by omega) (by rw [minF, hfk, hq]; exact ⟨hone.symm, rfl⟩) hwi
          refine w_iload rfl rfl (w_aload rfl rfl (w_getR rfl (by first | rfl | assumption) rfl (by first | rfl | assumption) (w_alen rfl (by first | rfl | assumption) (by decide) (by decide) ?_)))
          refine w_icmp_ge rfl (by first | assumption | exact i32_0 | (unfold i32 at *; omega)) (by first | assumption | exact i32_0 | (unfold i32 at *; omega)) rfl (fun c16 => ?_) (fun c16 => ?_)
          · skip
            exfalso; omega
          · skip
            refine w_aload rfl rfl (w_getR rfl (by first | rfl | assumption) rfl (by first | rfl | assumption) (w_iload rfl rfl (w_ialoadV rfl (by first | rfl | assumption) (by omega) (by omega) (cur_s hc hk2 hfk) (w_iconst rfl ?_))))
            refine w_icmp_eq rfl (by first | assumption | exact i32_0 | (unfold i32 at *; omega)) (by first | assumption | exact i32_0 | (unfold i32 at *; omega)) rfl (fun c28 => ?_) (fun c28 => ?_)
            · skip
              refine w_iinc rfl rfl rfl (w_goto rfl rfl ?_)
              first | exact ih2 _ | (exfalso; omega)
            · skip
              refine w_aload rfl rfl (w_iload rfl rfl (w_iload rfl rfl (w_iload rfl rfl (w_iload rfl rfl ?_))))
              refine w_call (Or.inr rfl) (e_worth ht hc hk2 hfk) (by omega) nof_45 rfl rfl rfl rfl (by first | rfl | (show cKB[_]? = _; assumption)) rfl ?_
              refine w_istore rfl rfl rfl (w_iload rfl rfl ?_)
              refine w_if_eq rfl (by first | assumption | exact i32_0 | (unfold i32 at *; omega)) rfl (fun _ => ?_) (fun c => absurd c (by decide))
              refine w_iload rfl rfl (w_istore rfl rfl rfl (w_iconst rfl (w_iload rfl rfl (w_ishl rfl (bitI_shl k (by omega)) (w_istore rfl rfl rfl (w_goto rfl rfl (w_iinc rfl rfl rfl ?_)))))))
              refine w_goto rfl rfl ?_
              first | exact ih2 _ | (exfalso; omega)
        | some z =>
          rw [hq] at hi
          obtain ⟨rfl, rfl⟩ := hi
          obtain ⟨⟨p0, c0, a1, a2, a3⟩, a4⟩ := minF_some hq
          have hs0 : mk (atF f x y d m) k ≠ 0 := mk_ne a1 (by simp [atF, a2, a3])
          have hsl : mk (atF f x y d m) k < 2 ^ 31 := Nat.lt_of_lt_of_le (mk_lt _ k) (Nat.pow_le_pow_right (by decide) (by omega))
          have ihm := ih (k + 1)
          rw [minF, hfk, hq] at ihm
          dsimp only at ihm
          by_cases q1 : wv c k x y d < m
          · have hone : mk (atF f x y d (wv c k x y d)) (k + 1) = 2 ^ k := mk_one (fun p hp => by
              cases hfp : f p with
              | none => simp [atF, hfp]
              | some c2 =>
                have := a4 p c2 hp hfp
                simp [atF, hfp]; omega) (by simp [atF, hfk])
            have ih2 := fun v7 => ihm (2 ^ k) (wv c k x y d) v7 (by omega) (by omega) ⟨by rw [show min m (wv c k x y d) = wv c k x y d by omega]; exact hone.symm, by omega⟩ hwi
            refine w_iload rfl rfl (w_aload rfl rfl (w_getR rfl (by first | rfl | assumption) rfl (by first | rfl | assumption) (w_alen rfl (by first | rfl | assumption) (by decide) (by decide) ?_)))
            refine w_icmp_ge rfl (by first | assumption | exact i32_0 | (unfold i32 at *; omega)) (by first | assumption | exact i32_0 | (unfold i32 at *; omega)) rfl (fun c16 => ?_) (fun c16 => ?_)
            · skip
              exfalso; omega
            · skip
              refine w_aload rfl rfl (w_getR rfl (by first | rfl | assumption) rfl (by first | rfl | assumption) (w_iload rfl rfl (w_ialoadV rfl (by first | rfl | assumption) (by omega) (by omega) (cur_s hc hk2 hfk) (w_iconst rfl ?_))))
              refine w_icmp_eq rfl (by first | assumption | exact i32_0 | (unfold i32 at *; omega)) (by first | assumption | exact i32_0 | (unfold i32 at *; omega)) rfl (fun c28 => ?_) (fun c28 => ?_)
              · skip
                refine w_iinc rfl rfl rfl (w_goto rfl rfl ?_)
                first | exact ih2 _ | (exfalso; omega)
              · skip
                refine w_aload rfl rfl (w_iload rfl rfl (w_iload rfl rfl (w_iload rfl rfl (w_iload rfl rfl ?_))))
                refine w_call (Or.inr rfl) (e_worth ht hc hk2 hfk) (by omega) nof_45 rfl rfl rfl rfl (by first | rfl | (show cKB[_]? = _; assumption)) rfl ?_
                refine w_istore rfl rfl rfl (w_iload rfl rfl ?_)
                refine w_if_eq rfl (by first | assumption | exact i32_0 | (unfold i32 at *; omega)) rfl (fun c44 => ?_) (fun c44 => ?_)
                · skip
                  refine w_iload rfl rfl (w_istore rfl rfl rfl (w_iconst rfl (w_iload rfl rfl (w_ishl rfl (bitI_shl k (by omega)) (w_istore rfl rfl rfl (w_goto rfl rfl (w_iinc rfl rfl rfl ?_)))))))
                  refine w_goto rfl rfl ?_
                  first | exact ih2 _ | (exfalso; omega)
                · skip
                  refine w_iload rfl rfl (w_iload rfl rfl ?_)
                  refine w_icmp_ge rfl (by first | assumption | exact i32_0 | (unfold i32 at *; omega)) (by first | assumption | exact i32_0 | (unfold i32 at *; omega)) rfl (fun c51 => ?_) (fun c51 => ?_)
                  · skip
                    exfalso; omega
                  · skip
                    refine w_iload rfl rfl (w_istore rfl rfl rfl (w_iconst rfl (w_iload rfl rfl (w_ishl rfl (bitI_shl k (by omega)) (w_istore rfl rfl rfl (w_goto rfl rfl (w_iinc rfl rfl rfl ?_)))))))
                    refine w_goto rfl rfl ?_
                    first | exact ih2 _ | (exfalso; omega)
          · by_cases q2 : wv c k x y d = m
            · have ih2 := fun v7 => ihm (mk (atF f x y d m) k ||| 2 ^ k) m v7 (by omega) (by omega) ⟨by rw [show min m (wv c k x y d) = m by omega, mk, if_pos (by simp [atF, hfk, q2])], by omega⟩ hm
              refine w_iload rfl rfl (w_aload rfl rfl (w_getR rfl (by first | rfl | assumption) rfl (by first | rfl | assumption) (w_alen rfl (by first | rfl | assumption) (by decide) (by decide) ?_)))
              refine w_icmp_ge rfl (by first | assumption | exact i32_0 | (unfold i32 at *; omega)) (by first | assumption | exact i32_0 | (unfold i32 at *; omega)) rfl (fun c16 => ?_) (fun c16 => ?_)
              · skip
                exfalso; omega
              · skip
                refine w_aload rfl rfl (w_getR rfl (by first | rfl | assumption) rfl (by first | rfl | assumption) (w_iload rfl rfl (w_ialoadV rfl (by first | rfl | assumption) (by omega) (by omega) (cur_s hc hk2 hfk) (w_iconst rfl ?_))))
                refine w_icmp_eq rfl (by first | assumption | exact i32_0 | (unfold i32 at *; omega)) (by first | assumption | exact i32_0 | (unfold i32 at *; omega)) rfl (fun c28 => ?_) (fun c28 => ?_)
                · skip
                  refine w_iinc rfl rfl rfl (w_goto rfl rfl ?_)
                  first | exact ih2 _ | (exfalso; omega)
                · skip
                  refine w_aload rfl rfl (w_iload rfl rfl (w_iload rfl rfl (w_iload rfl rfl (w_iload rfl rfl ?_))))
                  refine w_call (Or.inr rfl) (e_worth ht hc hk2 hfk) (by omega) nof_45 rfl rfl rfl rfl (by first | rfl | (show cKB[_]? = _; assumption)) rfl ?_
                  refine w_istore rfl rfl rfl (w_iload rfl rfl ?_)
                  refine w_if_eq rfl (by first | assumption | exact i32_0 | (unfold i32 at *; omega)) rfl (fun c44 => ?_) (fun c44 => ?_)
                  · skip
                    exfalso; omega
                  · skip
                    refine w_iload rfl rfl (w_iload rfl rfl ?_)
                    refine w_icmp_ge rfl (by first | assumption | exact i32_0 | (unfold i32 at *; omega)) (by first | assumption | exact i32_0 | (unfold i32 at *; omega)) rfl (fun c51 => ?_) (fun c51 => ?_)
                    · skip
                      refine w_iload rfl rfl (w_iload rfl rfl ?_)
                      refine w_icmp_ne rfl (by first | assumption | exact i32_0 | (unfold i32 at *; omega)) (by first | assumption | exact i32_0 | (unfold i32 at *; omega)) rfl (fun c71 => ?_) (fun c71 => ?_)
                      · skip
                        refine w_iinc rfl rfl rfl (w_goto rfl rfl ?_)
                        first | exact ih2 _ | (exfalso; omega)
                      · skip
                        refine w_iload rfl rfl (w_iconst rfl (w_iload rfl rfl (w_ishl rfl (bitI_shl k (by omega)) (w_ior rfl (bitI_or hsl hp2) (w_istore rfl rfl rfl (w_iinc rfl rfl rfl (w_goto rfl rfl ?_)))))))
                        first | exact ih2 _ | (exfalso; omega)
                    · skip
                      exfalso; omega
            · have ih2 := fun v7 => ihm (mk (atF f x y d m) k) m v7 (by omega) (by omega) ⟨by rw [show min m (wv c k x y d) = m by omega, mk, if_neg (by simp [atF, hfk, q2]), Nat.or_zero], by omega⟩ hm
              refine w_iload rfl rfl (w_aload rfl rfl (w_getR rfl (by first | rfl | assumption) rfl (by first | rfl | assumption) (w_alen rfl (by first | rfl | assumption) (by decide) (by decide) ?_)))
              refine w_icmp_ge rfl (by first | assumption | exact i32_0 | (unfold i32 at *; omega)) (by first | assumption | exact i32_0 | (unfold i32 at *; omega)) rfl (fun c16 => ?_) (fun c16 => ?_)
              · skip
                exfalso; omega
              · skip
                refine w_aload rfl rfl (w_getR rfl (by first | rfl | assumption) rfl (by first | rfl | assumption) (w_iload rfl rfl (w_ialoadV rfl (by first | rfl | assumption) (by omega) (by omega) (cur_s hc hk2 hfk) (w_iconst rfl ?_))))
                refine w_icmp_eq rfl (by first | assumption | exact i32_0 | (unfold i32 at *; omega)) (by first | assumption | exact i32_0 | (unfold i32 at *; omega)) rfl (fun c28 => ?_) (fun c28 => ?_)
                · skip
                  refine w_iinc rfl rfl rfl (w_goto rfl rfl ?_)
                  first | exact ih2 _ | (exfalso; omega)
                · skip
                  refine w_aload rfl rfl (w_iload rfl rfl (w_iload rfl rfl (w_iload rfl rfl (w_iload rfl rfl ?_))))
                  refine w_call (Or.inr rfl) (e_worth ht hc hk2 hfk) (by omega) nof_45 rfl rfl rfl rfl (by first | rfl | (show cKB[_]? = _; assumption)) rfl ?_
                  refine w_istore rfl rfl rfl (w_iload rfl rfl ?_)
                  refine w_if_eq rfl (by first | assumption | exact i32_0 | (unfold i32 at *; omega)) rfl (fun c44 => ?_) (fun c44 => ?_)
                  · skip
                    exfalso; omega
                  · skip
                    refine w_iload rfl rfl (w_iload rfl rfl ?_)
                    refine w_icmp_ge rfl (by first | assumption | exact i32_0 | (unfold i32 at *; omega)) (by first | assumption | exact i32_0 | (unfold i32 at *; omega)) rfl (fun c51 => ?_) (fun c51 => ?_)
                    · skip
                      refine w_iload rfl rfl (w_iload rfl rfl ?_)
                      refine w_icmp_ne rfl (by first | assumption | exact i32_0 | (unfold i32 at *; omega)) (by first | assumption | exact i32_0 | (unfold i32 at *; omega)) rfl (fun c71 => ?_) (fun c71 => ?_)
                      · skip
                        refine w_iinc rfl rfl rfl (w_goto rfl rfl ?_)
                        first | exact ih2 _ | (exfalso; omega)
                      · skip
                        exfalso; omega
                    · skip
                      exfalso; omega
  refine w_iconst rfl (w_istore rfl rfl rfl (w_iconst rfl (w_istore rfl rfl rfl (w_iconst rfl (w_istore rfl rfl rfl ?_)))))
  exact loop 21 0 0 0 _ rfl (by omega) rfl i32_0
/-- whether a place tells the least -/
theorem e_isLeading1 {t p : Nat} {f : Cv} {M : mM} {x y d c : Int} (ht : isT t) (hc : cur t f M) (hf : Cok 999 f) (hd : -1000 ≤ d ∧ d ≤ 1000) (hx : -100000 ≤ x ∧ x ≤ 100000) (hy : -100000 ≤ y ∧ y ≤ 100000) (hfp : f p = some c) (hm : minF f x y d 21 = some (wv c p x y d)) : E 2 73 [vR t, vI p, vI x, vI y, vI d] M (some (vI 1)) M := by
  obtain ⟨ht1, ht2, ht3⟩ := id ht
  have hpb := hf p c hfp
  have hw := wv_le (c := c) (p := p) (A := 1000) (B := 999) (X := 100000) (by omega) hd ⟨hpb.2.2.1, hpb.2.2.2⟩ hx hy
  obtain ⟨-, a4⟩ := minF_some hm
  refine e_in (ls := [vR t, vI p, vI x, vI y, vI d, vN, vN]) mq_73 (ml_73 rfl) rfl fun D hD => ?_
  have loop : ∀ (n k : Nat), 21 - k = n → k ≤ 21 → Wp mc_73 D 14 [vR t, vI p, vI x, vI y, vI d, vI (wv c p x y d), vI k] [] M (fun r1 M2 => r1 = some (vI 1) ∧ M2 = M) := by
    intro n
    induction n with
    | zero =>
      intro k hn hk
      obtain rfl : k = 21 := by omega
      refine w_iload rfl rfl (w_aload rfl rfl (w_getR rfl (by first | rfl | assumption) rfl (by first | rfl | assumption) (w_alen rfl (by first | rfl | assumption) (by decide) (by decide) ?_)))
      refine w_icmp_ge rfl (by first | assumption | exact i32_0 | (unfold i32 at *; omega)) (by first | assumption | exact i32_0 | (unfold i32 at *; omega)) rfl (fun c21 => ?_) (fun c21 => ?_)
      · skip
        refine w_iconst rfl ?_
        exact w_zreturn rfl (by first | exact Or.inl rfl | exact Or.inr rfl | omega | assumption) ⟨by first | rfl | (congr 2; omega), by rfl⟩
      · skip
        exfalso; omega
    | succ n ih =>
      intro k hn hk
      have hk2 : k < 21 := by omega
      have ih2 := ih (k + 1) (by omega) (by omega)
      cases hfk : f k with
      | none =>
        refine w_iload rfl rfl (w_aload rfl rfl (w_getR rfl (by first | rfl | assumption) rfl (by first | rfl | assumption) (w_alen rfl (by first | rfl | assumption) (by decide) (by decide) ?_)))
        refine w_icmp_ge rfl (by first | assumption | exact i32_0 | (unfold i32 at *; omega)) (by first | assumption | exact i32_0 | (unfold i32 at *; omega)) rfl (fun c21 => ?_) (fun c21 => ?_)
        · skip
          exfalso; omega
        · skip
          refine w_aload rfl rfl (w_getR rfl (by first | rfl | assumption) rfl (by first | rfl | assumption) (w_iload rfl rfl (w_ialoadV rfl (by first | rfl | assumption) (by omega) (by omega) (cur_n hc hk2 hfk) (w_iconst rfl ?_))))
          refine w_icmp_eq rfl (by first | assumption | exact i32_0 | (unfold i32 at *; omega)) (by first | assumption | exact i32_0 | (unfold i32 at *; omega)) rfl (fun c33 => ?_) (fun c33 => ?_)
          · skip
            refine w_iinc rfl rfl rfl (w_goto rfl rfl ?_)
            exact ih2
          · skip
            exact absurd rfl c33
      | some c2 =>
        have hcb := hf k c2 hfk
        have := a4 k c2 hk2 hfk
        have hw2 := wv_le (c := c2) (p := k) (A := 1000) (B := 999) (X := 100000) (by omega) hd ⟨hcb.2.2.1, hcb.2.2.2⟩ hx hy
        refine w_iload rfl rfl (w_aload rfl rfl (w_getR rfl (by first | rfl | assumption) rfl (by first | rfl | assumption) (w_alen rfl (by first | rfl | assumption) (by decide) (by decide) ?_)))
        refine w_icmp_ge rfl (by first | assumption | exact i32_0 | (unfold i32 at *; omega)) (by first | assumption | exact i32_0 | (unfold i32 at *; omega)) rfl (fun c21 => ?_) (fun c21 => ?_)
        · skip
          exfalso; omega
        · skip
          refine w_aload rfl rfl (w_getR rfl (by first | rfl | assumption) rfl (by first | rfl | assumption) (w_iload rfl rfl (w_ialoadV rfl (by first | rfl | assumption) (by omega) (by omega) (cur_s hc hk2 hfk) (w_iconst rfl ?_))))
          refine w_icmp_eq rfl (by first | assumption | exact i32_0 | (unfold i32 at *; omega)) (by first | assumption | exact i32_0 | (unfold i32 at *; omega)) rfl (fun c33 => ?_) (fun c33 => ?_)
          · skip
            refine w_iinc rfl rfl rfl (w_goto rfl rfl ?_)
            first | exact ih2 | (exfalso; omega)
          · skip
            refine w_aload rfl rfl (w_iload rfl rfl (w_iload rfl rfl (w_iload rfl rfl (w_iload rfl rfl ?_))))
            refine w_call (Or.inr rfl) (e_worth ht hc hk2 hfk) (by omega) nof_45 rfl rfl rfl rfl (by first | rfl | (show cKB[_]? = _; assumption)) rfl ?_
            refine w_iload rfl rfl ?_
            refine w_icmp_ge rfl (by first | assumption | exact i32_0 | (unfold i32 at *; omega)) (by first | assumption | exact i32_0 | (unfold i32 at *; omega)) rfl (fun c48 => ?_) (fun c48 => ?_)
            · skip
              refine w_iinc rfl rfl rfl (w_goto rfl rfl ?_)
              first | exact ih2 | (exfalso; omega)
            · skip
              exfalso; omega
  refine w_aload rfl rfl (w_iload rfl rfl (w_iload rfl rfl (w_iload rfl rfl (w_iload rfl rfl ?_))))
  refine w_call (Or.inr rfl) (e_worth ht hc hpb.1 hfp) (by omega) nof_45 rfl rfl rfl rfl (by first | rfl | (show cKB[_]? = _; assumption)) rfl ?_
  refine w_istore rfl rfl rfl (w_iconst rfl (w_istore rfl rfl rfl ?_))
  exact loop 21 0 rfl (by omega)
theorem e_isLeading0 {t p : Nat} {f : Cv} {M : mM} {x y d c : Int} (ht : isT t) (hc : cur t f M) (hf : Cok 999 f) (hd : -1000 ≤ d ∧ d ≤ 1000) (hx : -100000 ≤ x ∧ x ≤ 100000) (hy : -100000 ≤ y ∧ y ≤ 100000) (hfp : f p = some c) (hm : minF f x y d 21 ≠ some (wv c p x y d)) : E 2 73 [vR t, vI p, vI x, vI y, vI d] M (some (vI 0)) M := by
  obtain ⟨ht1, ht2, ht3⟩ := id ht
  have hpb := hf p c hfp
  have hw := wv_le (c := c) (p := p) (A := 1000) (B := 999) (X := 100000) (by omega) hd ⟨hpb.2.2.1, hpb.2.2.2⟩ hx hy
  refine e_in (ls := [vR t, vI p, vI x, vI y, vI d, vN, vN]) mq_73 (ml_73 rfl) rfl fun D hD => ?_
  have loop : ∀ (n k : Nat), 21 - k = n → k ≤ 21 → (∀ q c2, q < k → f q = some c2 → wv c p x y d ≤ wv c2 q x y d) → Wp mc_73 D 14 [vR t, vI p, vI x, vI y, vI d, vI (wv c p x y d), vI k] [] M (fun r1 M2 => r1 = some (vI 0) ∧ M2 = M) := by
    intro n
    induction n with
    | zero =>
      intro k hn hk hi
      obtain rfl : k = 21 := by omega
      exact absurd (minF_eq ⟨p, c, hpb.1, hfp, rfl⟩ hi) hm
    | succ n ih =>
      intro k hn hk hi
      have hk2 : k < 21 := by omega
      cases hfk : f k with
      | none =>
        have ih2 := ih (k + 1) (by omega) (by omega) (fun q c2 hq hc2 => by
          by_cases e : q = k
          · subst e; rw [hfk] at hc2; cases hc2
          · exact hi q c2 (by omega) hc2)
        refine w_iload rfl rfl (w_aload rfl rfl (w_getR rfl (by first | rfl | assumption) rfl (by first | rfl | assumption) (w_alen rfl (by first | rfl | assumption) (by decide) (by decide) ?_)))
        refine w_icmp_ge rfl (by first | assumption | exact i32_0 | (unfold i32 at *; omega)) (by first | assumption | exact i32_0 | (unfold i32 at *; omega)) rfl (fun c21 => ?_) (fun c21 => ?_)
        · skip
          exfalso; omega
        · skip
          refine w_aload rfl rfl (w_getR rfl (by first | rfl | assumption) rfl (by first | rfl | assumption) (w_iload rfl rfl (w_ialoadV rfl (by first | rfl | assumption) (by omega) (by omega) (cur_n hc hk2 hfk) (w_iconst rfl ?_))))
          refine w_icmp_eq rfl (by first | assumption | exact i32_0 | (unfold i32 at *; omega)) (by first | assumption | exact i32_0 | (unfold i32 at *; omega)) rfl (fun c33 => ?_) (fun c33 => ?_)
          · skip
            refine w_iinc rfl rfl rfl (w_goto rfl rfl ?_)
            exact ih2
          · skip
            exact absurd rfl c33
      | some c2 =>
        have hcb := hf k c2 hfk
        have hw2 := wv_le (c := c2) (p := k) (A := 1000) (B := 999) (X := 100000) (by omega) hd ⟨hcb.2.2.1, hcb.2.2.2⟩ hx hy
        have ih2 := fun (h : wv c p x y d ≤ wv c2 k x y d) => ih (k + 1) (by omega) (by omega) (fun q c3 hq hc3 => by
          by_cases e : q = k
          · subst e; rw [hfk] at hc3; cases hc3; exact h
          · exact hi q c3 (by omega) hc3)
        refine w_iload rfl rfl (w_aload rfl rfl (w_getR rfl (by first | rfl | assumption) rfl (by first | rfl | assumption) (w_alen rfl (by first | rfl | assumption) (by decide) (by decide) ?_)))
        refine w_icmp_ge rfl (by first | assumption | exact i32_0 | (unfold i32 at *; omega)) (by first | assumption | exact i32_0 | (unfold i32 at *; omega)) rfl (fun c21 => ?_) (fun c21 => ?_)
        · skip
          exfalso; omega
        · skip
          refine w_aload rfl rfl (w_getR rfl (by first | rfl | assumption) rfl (by first | rfl | assumption) (w_iload rfl rfl (w_ialoadV rfl (by first | rfl | assumption) (by omega) (by omega) (cur_s hc hk2 hfk) (w_iconst rfl ?_))))
          refine w_icmp_eq rfl (by first | assumption | exact i32_0 | (unfold i32 at *; omega)) (by first | assumption | exact i32_0 | (unfold i32 at *; omega)) rfl (fun c33 => ?_) (fun c33 => ?_)
          · skip
            refine w_iinc rfl rfl rfl (w_goto rfl rfl ?_)
            first | exact ih2 (by omega) | (exfalso; omega)
          · skip
            refine w_aload rfl rfl (w_iload rfl rfl (w_iload rfl rfl (w_iload rfl rfl (w_iload rfl rfl ?_))))
            refine w_call (Or.inr rfl) (e_worth ht hc hk2 hfk) (by omega) nof_45 rfl rfl rfl rfl (by first | rfl | (show cKB[_]? = _; assumption)) rfl ?_
            refine w_iload rfl rfl ?_
            refine w_icmp_ge rfl (by first | assumption | exact i32_0 | (unfold i32 at *; omega)) (by first | assumption | exact i32_0 | (unfold i32 at *; omega)) rfl (fun c48 => ?_) (fun c48 => ?_)
            · skip
              refine w_iinc rfl rfl rfl (w_goto rfl rfl ?_)
              first | exact ih2 (by omega) | (exfalso; omega)
            · skip
              refine w_iconst rfl ?_
              exact w_zreturn rfl (by first | exact Or.inl rfl | exact Or.inr rfl | omega | assumption) ⟨by first | rfl | (congr 2; omega), by rfl⟩
  refine w_aload rfl rfl (w_iload rfl rfl (w_iload rfl rfl (w_iload rfl rfl (w_iload rfl rfl ?_))))
  refine w_call (Or.inr rfl) (e_worth ht hc hpb.1 hfp) (by omega) nof_45 rfl rfl rfl rfl (by first | rfl | (show cKB[_]? = _; assumption)) rfl ?_
  refine w_istore rfl rfl rfl (w_iconst rfl (w_istore rfl rfl rfl ?_))
  exact loop 21 0 rfl (by omega) (fun q _ hq _ => absurd hq (Nat.not_lt_zero q))
