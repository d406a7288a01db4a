/-- how far a set reaches in a direction -/
def rch (s : Nat) (u v : Int) : Nat → Option Int
  | 0 => none
  | n + 1 => if s.testBit n = true then some (match rch s u v n with
    | none => u * pi n + v * pj n
    | some m => max m (u * pi n + v * pj n)) else rch s u v n
def reach (s : Nat) (u v : Int) : Int := (rch s u v 21).getD 0
theorem pi_le {p : Nat} (h : p < 25) : 0 ≤ pi p ∧ pi p ≤ 4 := by unfold pi; omega
theorem pj_le (p : Nat) : 0 ≤ pj p ∧ pj p ≤ 4 := by unfold pj; omega
theorem mul_le4 {u x c : Int} (hu : -c ≤ u ∧ u ≤ c) (hx : 0 ≤ x ∧ x ≤ 4) : -(4 * c) ≤ u * x ∧ u * x ≤ 4 * c := by
  have h4 : x = 0 ∨ x = 1 ∨ x = 2 ∨ x = 3 ∨ x = 4 := by omega
  rcases h4 with rfl | rfl | rfl | rfl | rfl <;> omega
theorem rch_le {s : Nat} {u v c : Int} (hu : -c ≤ u ∧ u ≤ c) (hv : -c ≤ v ∧ v ≤ c) : ∀ n m, n ≤ 25 → rch s u v n = some m → -(8 * c) ≤ m ∧ m ≤ 8 * c
  | 0, _, _, h => by cases h
  | n + 1, m, hn, h => by
    have h1 := mul_le4 hu (pi_le (p := n) (by omega))
    have h2 := mul_le4 hv (pj_le n)
    unfold rch at h
    split at h
    · split at h
      · cases h; omega
      · next m2 hm2 =>
        have := rch_le hu hv n m2 (by omega) hm2
        cases h; omega
    · exact rch_le hu hv n m (by omega) h
theorem reach_le {s : Nat} {u v c : Int} (hu : -c ≤ u ∧ u ≤ c) (hv : -c ≤ v ∧ v ≤ c) : -(8 * c) ≤ reach s u v ∧ reach s u v ≤ 8 * c := by
  unfold reach
  cases h : rch s u v 21 with
  | none => simp only [Option.getD_none]; omega
  | some m => exact rch_le hu hv 21 m (by omega) h
theorem e_reach (s : Nat) (u v : Int) (M : mM) (hs : s < 2 ^ 31) (hu : -100 ≤ u ∧ u ≤ 100) (hv : -100 ≤ v ∧ v ≤ 100) : E 2 100 [vI s, vI u, vI v] M (some (vI (reach s u v))) M := by
  refine e_in (ls := [vI s, vI u, vI v, vN, vN, vN, vN]) mq_100 (ml_100 rfl) rfl fun D hD => ?_
  have loop : ∀ (n k : Nat) (f m : Int) (v6 : mV), 21 - k = n → k ≤ 21 → (match rch s u v k with
      | none => f = 0 ∧ m = 0
      | some x => f = 1 ∧ m = x) → Wp mc_100 D 8 [vI s, vI u, vI v, vI f, vI m, vI k, v6] [] M (fun r1 M2 => r1 = some (vI (reach s u v)) ∧ M2 = M) := by
    intro n
    induction n with
    | zero =>
      intro k f m v6 hn hk hi
      obtain rfl : k = 21 := by omega
      have hm : m = reach s u v := by
        unfold reach
        split at hi
        · next h => rw [h]; exact hi.2
        · next x h => rw [h]; exact hi.2
      refine w_iload rfl rfl (w_iconst rfl ?_)
      refine w_icmp_ge rfl (by first | assumption | exact i32_0 | (unfold i32 at *; omega)) (by first | assumption | exact i32_0 | (unfold i32 at *; omega)) rfl (fun c12 => ?_) (fun c12 => ?_)
      · skip
        refine w_iload rfl rfl ?_
        exact w_ireturn rfl ⟨by rw [hm], by rfl⟩
      · skip
        exfalso; omega
    | succ n ih =>
      intro k f m v6 hn hk hi
      have hk2 : k < 21 := by omega
      have h1 := mul_le4 (c := 100) hu (pi_le (p := k) (by omega))
      have h2 := mul_le4 (c := 100) hv (pj_le k)
      cases hb : s.testBit k
      · have hr : rch s u v (k + 1) = rch s u v k := by rw [rch, if_neg (by rw [hb]; decide)]
        refine w_iload rfl rfl (w_iconst rfl ?_)
        refine w_icmp_ge rfl (by first | assumption | exact i32_0 | (unfold i32 at *; omega)) (by first | assumption | exact i32_0 | (unfold i32 at *; omega)) rfl (fun c12 => ?_) (fun c12 => ?_)
        · skip
          exfalso; omega
        · skip
          refine w_iload rfl rfl (w_iload rfl rfl ?_)
          refine w_call (Or.inl rfl) (e_holds0 M hs (by omega) hb) (by omega) nof_88 rfl rfl rfl rfl trivial rfl ?_
          refine w_if_eq rfl (by first | assumption | exact i32_0 | (unfold i32 at *; omega)) rfl (fun _ => ?_) (fun c => absurd c (by decide))
          refine w_iinc rfl rfl rfl (w_goto rfl rfl ?_)
          exact ih (k + 1) f m _ (by omega) (by omega) (by rw [hr]; exact hi)
      · cases hq : rch s u v k with
        | none =>
          rw [hq] at hi
          obtain ⟨rfl, rfl⟩ := hi
          have hr : rch s u v (k + 1) = some (u * pi k + v * pj k) := by rw [rch, if_pos hb, hq]
          refine w_iload rfl rfl (w_iconst rfl ?_)
          refine w_icmp_ge rfl (by first | assumption | exact i32_0 | (unfold i32 at *; omega)) (by first | assumption | exact i32_0 | (unfold i32 at *; omega)) rfl (fun c12 => ?_) (fun c12 => ?_)
          · skip
            exfalso; omega
          · skip
            refine w_iload rfl rfl (w_iload rfl rfl ?_)
            refine w_call (Or.inl rfl) (e_holds1 M hs (by omega) hb) (by omega) nof_88 rfl rfl rfl rfl trivial rfl ?_
            refine w_if_eq rfl (by first | assumption | exact i32_0 | (unfold i32 at *; omega)) rfl (fun c => absurd c (by decide)) (fun _ => ?_)
            refine w_iload rfl rfl (w_iload rfl rfl (w_iconst rfl (w_idiv rfl (by first | assumption | exact i32_0 | (unfold i32 at *; omega)) (by first | assumption | exact i32_0 | (unfold i32 at *; omega)) (by first | decide | omega | assumption) (w_imul rfl (w_iload rfl rfl (w_iload rfl rfl (w_iconst rfl ?_)))))))
            refine w_irem rfl (by first | assumption | exact i32_0 | (unfold i32 at *; omega)) (by first | assumption | exact i32_0 | (unfold i32 at *; omega)) (by first | decide | omega | assumption) (w_imul rfl (w_iadd rfl (w_istore rfl rfl rfl (w_iload rfl rfl ?_))))
            refine w_if_eq rfl (by first | assumption | exact i32_0 | (unfold i32 at *; omega)) rfl (fun c40 => ?_) (fun c40 => ?_)
            · skip
              refine w_iload rfl rfl (w_istore rfl rfl rfl (w_iconst rfl (w_istore rfl rfl rfl ?_)))
              refine w_iinc rfl rfl rfl (w_goto rfl rfl ?_)
              exact ih (k + 1) 1 (u * pi k + v * pj k) _ (by omega) (by omega) (by rw [hr]; exact ⟨rfl, rfl⟩)
            · skip
              exact absurd rfl c40
        | some x =>
          rw [hq] at hi
          obtain ⟨rfl, rfl⟩ := hi
          have hx := rch_le (c := 100) hu hv k m (by omega) hq
          have hr : rch s u v (k + 1) = some (max m (u * pi k + v * pj k)) := by rw [rch, if_pos hb, hq]
          refine w_iload rfl rfl (w_iconst rfl ?_)
          refine w_icmp_ge rfl (by first | assumption | exact i32_0 | (unfold i32 at *; omega)) (by first | assumption | exact i32_0 | (unfold i32 at *; omega)) rfl (fun c12 => ?_) (fun c12 => ?_)
          · skip
            exfalso; omega
          · skip
            refine w_iload rfl rfl (w_iload rfl rfl ?_)
            refine w_call (Or.inl rfl) (e_holds1 M hs (by omega) hb) (by omega) nof_88 rfl rfl rfl rfl trivial rfl ?_
            refine w_if_eq rfl (by first | assumption | exact i32_0 | (unfold i32 at *; omega)) rfl (fun c => absurd c (by decide)) (fun _ => ?_)
            refine w_iload rfl rfl (w_iload rfl rfl (w_iconst rfl (w_idiv rfl (by first | assumption | exact i32_0 | (unfold i32 at *; omega)) (by first | assumption | exact i32_0 | (unfold i32 at *; omega)) (by first | decide | omega | assumption) (w_imul rfl (w_iload rfl rfl (w_iload rfl rfl (w_iconst rfl ?_)))))))
            refine w_irem rfl (by first | assumption | exact i32_0 | (unfold i32 at *; omega)) (by first | assumption | exact i32_0 | (unfold i32 at *; omega)) (by first | decide | omega | assumption) (w_imul rfl (w_iadd rfl (w_istore rfl rfl rfl (w_iload rfl rfl ?_))))
            refine w_if_eq rfl (by first | assumption | exact i32_0 | (unfold i32 at *; omega)) rfl (fun c40 => ?_) (fun c40 => ?_)
            · skip
              exact absurd c40 (by decide)
            · skip
              refine w_iload rfl rfl (w_iload rfl rfl ?_)
              refine w_call (Or.inl rfl) (e_max m (u * pi k + v * pj k) M (by unfold i32; omega) (by unfold i32; omega)) (by omega) nof_9 rfl rfl rfl rfl trivial rfl ?_
              refine w_goto rfl rfl (w_istore rfl rfl rfl ?_)
              refine w_iconst rfl (w_istore rfl rfl rfl (w_iinc rfl rfl rfl (w_goto rfl rfl ?_)))
              exact ih (k + 1) 1 _ _ (by omega) (by omega) (by rw [hr]; exact ⟨rfl, rfl⟩)
  refine w_iconst rfl (w_istore rfl rfl rfl (w_iconst rfl (w_istore rfl rfl rfl (w_iconst rfl (w_istore rfl rfl rfl ?_)))))
  exact loop 21 0 0 0 _ rfl (by omega) ⟨rfl, rfl⟩
/-- twice .. the mixed area, as the sum over the one's sides -/
def mixRow (s o a : Nat) : Nat → Int
  | 0 => 0
  | n + 1 => mixRow s o a n + (if hside s a n = true then reach o (pj n - pj a) (pi a - pi n) else 0)
def mixSum (s o : Nat) : Nat → Int
  | 0 => 0
  | n + 1 => mixSum s o n + mixRow s o n 21
def mixed (s o : Nat) : Int := mixSum s o 21
theorem pd_le {a b : Nat} (ha : a < 25) (hb : b < 25) : (-4 ≤ pj b - pj a ∧ pj b - pj a ≤ 4) ∧ (-4 ≤ pi a - pi b ∧ pi a - pi b ≤ 4) := by
  have := pi_le ha; have := pi_le hb; have := pj_le a; have := pj_le b
  omega
theorem mixRow_le {s o a : Nat} (ha : a < 25) : ∀ n : Nat, n ≤ 25 → -(32 * (n : Int)) ≤ mixRow s o a n ∧ mixRow s o a n ≤ 32 * (n : Int)
  | 0, _ => by simp [mixRow]
  | n + 1, hn => by
    have h1 := mixRow_le (s := s) (o := o) ha n (by omega)
    have h2 := pd_le ha (b := n) (by omega)
    have h3 := reach_le (s := o) (c := 4) h2.1 h2.2
    unfold mixRow
    split <;> omega
theorem mixSum_le {s o : Nat} : ∀ n : Nat, n ≤ 25 → -(672 * (n : Int)) ≤ mixSum s o n ∧ mixSum s o n ≤ 672 * (n : Int)
  | 0, _ => by simp [mixSum]
  | n + 1, hn => by
    have h1 := mixSum_le (s := s) (o := o) n (by omega)
    have h2 := mixRow_le (s := s) (o := o) (a := n) (by omega) 21 (by omega)
    unfold mixSum
    omega
theorem mixed_le (s o : Nat) : -20000 ≤ mixed s o ∧ mixed s o ≤ 20000 := by
  have := mixSum_le (s := s) (o := o) 21 (by omega)
  unfold mixed; omega
theorem e_hside0 {s a b : Nat} (M : mM) (hs : s < 2 ^ 31) (ha : a < 25) (hb : b < 25) (h : hside s a b = false) : E 2 87 [vI s, vI a, vI b] M (some (vI 0)) M := by
  have := e_hside s a b M hs ha hb
  rw [h] at this; exact this
theorem e_hside1 {s a b : Nat} (M : mM) (hs : s < 2 ^ 31) (ha : a < 25) (hb : b < 25) (h : hside s a b = true) : E 2 87 [vI s, vI a, vI b] M (some (vI 1)) M := by
  have := e_hside s a b M hs ha hb
  rw [h] at this; exact this
theorem e_mixed (s o : Nat) (M : mM) (hs : s < 2 ^ 31) (ho : o < 2 ^ 31) : E 3 99 [vI s, vI o] M (some (vI (mixed s o))) M := by
  refine e_in (ls := [vI s, vI o, vN, vN, vN]) mq_99 (ml_99 rfl) rfl fun D hD => ?_
  have inner : ∀ (a : Nat), a < 21 → (∀ v4, Wp mc_99 D 4 [vI s, vI o, vI (mixSum s o (a + 1)), vI ((a : Int) + 1), v4] [] M (fun r1 M2 => r1 = some (vI (mixed s o)) ∧ M2 = M)) → ∀ (n b : Nat), 21 - b = n → b ≤ 21 → Wp mc_99 D 13 [vI s, vI o, vI (mixSum s o a + mixRow s o a b), vI a, vI b] [] M (fun r1 M2 => r1 = some (vI (mixed s o)) ∧ M2 = M) := by
    intro a ha hout n
    induction n with
    | zero =>
      intro b hn hb
      obtain rfl : b = 21 := by omega
      refine w_iload rfl rfl (w_iconst rfl ?_)
      refine w_icmp_ge rfl (by first | assumption | exact i32_0 | (unfold i32 at *; omega)) (by first | assumption | exact i32_0 | (unfold i32 at *; omega)) rfl (fun c17 => ?_) (fun c17 => ?_)
      · skip
        refine w_iinc rfl rfl rfl (w_goto rfl rfl ?_)
        exact hout _
      · skip
        exfalso; omega
    | succ n ih =>
      intro b hn hb
      have hb2 : b < 21 := by omega
      have h1 := mixSum_le (s := s) (o := o) a (by omega)
      have h2 := mixRow_le (s := s) (o := o) (a := a) (by omega) b (by omega)
      have h3 := pd_le (a := a) (b := b) (by omega) (by omega)
      cases hq : hside s a b
      · have hr : mixRow s o a (b + 1) = mixRow s o a b := by rw [mixRow, if_neg (by rw [hq]; decide)]; omega
        have ih2 := ih (b + 1) (by omega) (by omega)
        rw [hr] at ih2
        refine w_iload rfl rfl (w_iconst rfl ?_)
        refine w_icmp_ge rfl (by first | assumption | exact i32_0 | (unfold i32 at *; omega)) (by first | assumption | exact i32_0 | (unfold i32 at *; omega)) rfl (fun c17 => ?_) (fun c17 => ?_)
        · skip
          exfalso; omega
        · skip
          refine w_iload rfl rfl (w_iload rfl rfl (w_iload rfl rfl ?_))
          refine w_call (Or.inl rfl) (e_hside0 M hs (by omega) (by omega) hq) (by omega) nof_87 rfl rfl rfl rfl trivial rfl ?_
          refine w_if_eq rfl (by first | assumption | exact i32_0 | (unfold i32 at *; omega)) rfl (fun _ => ?_) (fun c => absurd c (by decide))
          refine w_iinc rfl rfl rfl (w_goto rfl rfl ?_)
          exact ih2
      · have hr : mixSum s o a + mixRow s o a (b + 1) = mixSum s o a + mixRow s o a b + reach o (pj b - pj a) (pi a - pi b) := by rw [mixRow, if_pos hq]; omega
        have ih2 := ih (b + 1) (by omega) (by omega)
        rw [hr] at ih2
        refine w_iload rfl rfl (w_iconst rfl ?_)
        refine w_icmp_ge rfl (by first | assumption | exact i32_0 | (unfold i32 at *; omega)) (by first | assumption | exact i32_0 | (unfold i32 at *; omega)) rfl (fun c17 => ?_) (fun c17 => ?_)
        · skip
          exfalso; omega
        · skip
          refine w_iload rfl rfl (w_iload rfl rfl (w_iload rfl rfl ?_))
          refine w_call (Or.inl rfl) (e_hside1 M hs (by omega) (by omega) hq) (by omega) nof_87 rfl rfl rfl rfl trivial rfl ?_
          refine w_if_eq rfl (by first | assumption | exact i32_0 | (unfold i32 at *; omega)) rfl (fun c => absurd c (by decide)) (fun _ => ?_)
          refine w_iload rfl rfl (w_iload rfl rfl (w_iload rfl rfl (w_iconst rfl (w_irem rfl (by first | assumption | exact i32_0 | (unfold i32 at *; omega)) (by first | assumption | exact i32_0 | (unfold i32 at *; omega)) (by first | decide | omega | assumption) (w_iload rfl rfl (w_iconst rfl (w_irem rfl (by first | assumption | exact i32_0 | (unfold i32 at *; omega)) (by first | assumption | exact i32_0 | (unfold i32 at *; omega)) (by first | decide | omega | assumption) ?_)))))))
          refine w_isub rfl (w_iload rfl rfl (w_iconst rfl (w_idiv rfl (by first | assumption | exact i32_0 | (unfold i32 at *; omega)) (by first | assumption | exact i32_0 | (unfold i32 at *; omega)) (by first | decide | omega | assumption) (w_iload rfl rfl (w_iconst rfl (w_idiv rfl (by first | assumption | exact i32_0 | (unfold i32 at *; omega)) (by first | assumption | exact i32_0 | (unfold i32 at *; omega)) (by first | decide | omega | assumption) (w_isub rfl ?_)))))))
          refine w_call (Or.inl rfl) (e_reach o (pj b - pj a) (pi a - pi b) M ho (by omega) (by omega)) (by omega) nof_100 rfl rfl rfl rfl trivial rfl ?_
          refine w_iadd rfl (w_istore rfl rfl rfl (w_iinc rfl rfl rfl (w_goto rfl rfl ?_)))
          exact ih2
  have outer : ∀ (n a : Nat) (v4 : mV), 21 - a = n → a ≤ 21 → Wp mc_99 D 4 [vI s, vI o, vI (mixSum s o a), vI a, v4] [] M (fun r1 M2 => r1 = some (vI (mixed s o)) ∧ M2 = M) := by
    intro n
    induction n with
    | zero =>
      intro a v4 hn ha
      obtain rfl : a = 21 := by omega
      refine w_iload rfl rfl (w_iconst rfl ?_)
      refine w_icmp_ge rfl (by first | assumption | exact i32_0 | (unfold i32 at *; omega)) (by first | assumption | exact i32_0 | (unfold i32 at *; omega)) rfl (fun c7 => ?_) (fun c7 => ?_)
      · skip
        refine w_iload rfl rfl ?_
        exact w_ireturn rfl ⟨by first | rfl | (congr 2; omega), by rfl⟩
      · skip
        exfalso; omega
    | succ n ih =>
      intro a v4 hn ha
      have h5 := inner a (by omega) (fun v4 => ih (a + 1) v4 (by omega) (by omega)) 21 0 rfl (by omega)
      rw [show mixSum s o a + mixRow s o a 0 = mixSum s o a from Int.add_zero _] at h5
      refine w_iload rfl rfl (w_iconst rfl ?_)
      refine w_icmp_ge rfl (by first | assumption | exact i32_0 | (unfold i32 at *; omega)) (by first | assumption | exact i32_0 | (unfold i32 at *; omega)) rfl (fun c7 => ?_) (fun c7 => ?_)
      · skip
        exfalso; omega
      · skip
        refine w_iconst rfl (w_istore rfl rfl rfl ?_)
        exact h5
  refine w_iconst rfl (w_istore rfl rfl rfl (w_iconst rfl (w_istore rfl rfl rfl ?_)))
  exact outer 21 0 _ rfl (by omega)
theorem e_area (s : Nat) (M : mM) (hs : s < 2 ^ 31) : E 4 98 [vI s] M (some (vI (mixed s s))) M := by
  refine e_in (ls := [vI s]) mq_98 (ml_98 rfl) rfl fun D hD => ?_
  refine w_iload rfl rfl (w_iload rfl rfl ?_)
  refine w_call (Or.inl rfl) (e_mixed s s M hs hs) (by omega) nof_99 rfl rfl rfl rfl trivial rfl ?_
  exact w_ireturn rfl ⟨by first | rfl | (congr 2; omega), by rfl⟩
/-- the greatest common divisor, 1 at least -/
def gcd1 (a b : Int) : Nat := max (Nat.gcd a.natAbs b.natAbs) 1
theorem half_mod {x y : Nat} (hy : 0 < y) (hr : 0 < x % y) : 2 * (y % (x % y)) < y := by
  have h1 := Nat.mod_lt x hy
  have h2 := Nat.mod_lt y hr
  by_cases h : 2 * (x % y) ≤ y
  · omega
  · have : y % (x % y) = y - x % y := by
      rw [Nat.mod_eq_sub_mod (by omega), Nat.mod_eq_of_lt (by omega)]
    omega
theorem e_divisor (a b : Int) (M : mM) (ha : -2147483647 ≤ a ∧ a ≤ 2147483647) (hb : -2147483647 ≤ b ∧ b ≤ 2147483647) : E 2 78 [vI a, vI b] M (some (vI (gcd1 a b))) M := by
  refine e_in (ls := [vI a, vI b, vN, vN, vN, vN]) mq_78 (ml_78 rfl) rfl fun D hD => ?_
  have hend : ∀ (x y : Nat) (k : Int) (v5 : mV), x < 2147483648 → (k ≥ 64 ∨ y = 0) → y = 0 → -10 ≤ k → k ≤ 100 → Nat.gcd a.natAbs b.natAbs = Nat.gcd x y → Wp mc_78 D 13 [vI a, vI b, vI x, vI y, vI k, v5] [] M (fun r1 M2 => r1 = some (vI (gcd1 a b)) ∧ M2 = M) := by
    intro x y k v5 hx h0 hy hk1 hk2 hg
    subst hy
    have hm := e_max x 1 M (by unfold i32; omega) (by unfold i32; omega)
    have hl : (max (x : Int) 1) = ((gcd1 a b : Nat) : Int) := by
      unfold gcd1; rw [hg, Nat.gcd_zero_right]; omega
    rw [hl] at hm
    refine w_iload rfl rfl (w_iconst rfl ?_)
    refine w_icmp_ge rfl (by first | assumption | exact i32_0 | (unfold i32 at *; omega)) (by first | assumption | exact i32_0 | (unfold i32 at *; omega)) rfl (fun c17 => ?_) (fun c17 => ?_)
    · skip
      refine w_iload rfl rfl (w_iconst rfl ?_)
      refine w_call (Or.inl rfl) (hm) (by omega) nof_9 rfl rfl rfl rfl trivial rfl ?_
      exact w_ireturn rfl ⟨by first | rfl | (congr 2; omega), by rfl⟩
    · skip
      refine w_iload rfl rfl ?_
      refine w_if_eq rfl (by first | assumption | exact i32_0 | (unfold i32 at *; omega)) rfl (fun c21 => ?_) (fun c21 => ?_)
      · skip
        refine w_iload rfl rfl (w_iconst rfl ?_)
        refine w_call (Or.inl rfl) (hm) (by omega) nof_9 rfl rfl rfl rfl trivial rfl ?_
        exact w_ireturn rfl ⟨by first | rfl | (congr 2; omega), by rfl⟩
      · skip
        exfalso; omega
  have loop : ∀ (m x y : Nat) (k : Int) (v5 : mV), x < 2147483648 → y < 2 ^ m → y < 2147483648 → 0 ≤ k → k ≤ 64 - 2 * (m : Int) → Nat.gcd a.natAbs b.natAbs = Nat.gcd x y → Wp mc_78 D 13 [vI a, vI b, vI x, vI y, vI k, v5] [] M (fun r1 M2 => r1 = some (vI (gcd1 a b)) ∧ M2 = M) := by
    intro m
    induction m with
    | zero =>
      intro x y k v5 hx hy hy2 hk0 hk hg
      exact hend x y k v5 hx (Or.inr (by omega)) (by omega) (by omega) (by omega) hg
    | succ m ih =>
      intro x y k v5 hx hy hy2 hk0 hk hg
      by_cases h0 : y = 0
      · exact hend x y k v5 hx (Or.inr h0) h0 (by omega) (by omega) hg
      · have hg1 : Nat.gcd x y = Nat.gcd y (x % y) := by rw [Nat.gcd_comm x y, Nat.gcd_rec y x, Nat.gcd_comm]
        have hlt := Nat.mod_lt x (show 0 < y by omega)
        have step : ∀ v5 : mV, Wp mc_78 D 13 [vI a, vI b, vI y, vI (((x % y : Nat)) : Int), vI (k + 1), v5] [] M (fun r1 M2 => r1 = some (vI (gcd1 a b)) ∧ M2 = M) := by
          intro v5
          by_cases h1 : x % y = 0
          · exact hend y (x % y) (k + 1) v5 hy2 (Or.inr h1) h1 (by omega) (by omega) (by rw [hg, hg1])
          · have hh := half_mod (show 0 < y by omega) (show 0 < x % y by omega)
            have hg2 : Nat.gcd y (x % y) = Nat.gcd (x % y) (y % (x % y)) := by rw [Nat.gcd_comm y, Nat.gcd_rec (x % y) y, Nat.gcd_comm]
            have hp : 2 ^ (m + 1) = 2 * 2 ^ m := by rw [Nat.pow_succ]; omega
            have ih2 := fun v5 => ih (x % y) (y % (x % y)) (k + 1 + 1) v5 (by omega) (by omega) (by omega) (by omega) (by omega) (by rw [hg, hg1, hg2])
            refine w_iload rfl rfl (w_iconst rfl ?_)
            refine w_icmp_ge rfl (by first | assumption | exact i32_0 | (unfold i32 at *; omega)) (by first | assumption | exact i32_0 | (unfold i32 at *; omega)) rfl (fun c17 => ?_) (fun c17 => ?_)
            · skip
              exfalso; omega
            · skip
              refine w_iload rfl rfl ?_
              refine w_if_eq rfl (by first | assumption | exact i32_0 | (unfold i32 at *; omega)) rfl (fun c21 => ?_) (fun c21 => ?_)
              · skip
                exfalso; omega
              · skip
                refine w_iload rfl rfl (w_iload rfl rfl (w_irem rfl (by first | assumption | exact i32_0 | (unfold i32 at *; omega)) (by first | assumption | exact i32_0 | (unfold i32 at *; omega)) (by first | decide | omega | assumption) (w_istore rfl rfl rfl (w_iload rfl rfl (w_istore rfl rfl rfl (w_iload rfl rfl (w_istore rfl rfl rfl ?_)))))))
                refine w_iinc rfl rfl rfl (w_goto rfl rfl ?_)
                exact ih2 _
        refine w_iload rfl rfl (w_iconst rfl ?_)
        refine w_icmp_ge rfl (by first | assumption | exact i32_0 | (unfold i32 at *; omega)) (by first | assumption | exact i32_0 | (unfold i32 at *; omega)) rfl (fun c17 => ?_) (fun c17 => ?_)
        · skip
          exfalso; omega
        · skip
          refine w_iload rfl rfl ?_
          refine w_if_eq rfl (by first | assumption | exact i32_0 | (unfold i32 at *; omega)) rfl (fun c21 => ?_) (fun c21 => ?_)
          · skip
            exfalso; omega
          · skip
            refine w_iload rfl rfl (w_iload rfl rfl (w_irem rfl (by first | assumption | exact i32_0 | (unfold i32 at *; omega)) (by first | assumption | exact i32_0 | (unfold i32 at *; omega)) (by first | decide | omega | assumption) (w_istore rfl rfl rfl (w_iload rfl rfl (w_istore rfl rfl rfl (w_iload rfl rfl (w_istore rfl rfl rfl ?_)))))))
            refine w_iinc rfl rfl rfl (w_goto rfl rfl ?_)
            exact step _
  have hA := e_abs a M (by unfold i32; omega)
  have hB := e_abs b M (by unfold i32; omega)
  refine w_iload rfl rfl ?_
  refine w_call (Or.inl rfl) (hA) (by omega) nof_79 rfl rfl rfl rfl trivial rfl ?_
  refine w_istore rfl rfl rfl (w_iload rfl rfl ?_)
  refine w_call (Or.inl rfl) (hB) (by omega) nof_79 rfl rfl rfl rfl trivial rfl ?_
  refine w_istore rfl rfl rfl (w_iconst rfl (w_istore rfl rfl rfl ?_))
  exact loop 31 _ _ 0 _ (by omega) (by omega) (by omega) (by omega) (by omega) rfl
