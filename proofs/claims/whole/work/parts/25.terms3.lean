theorem mul_le {d c A B : Int} (hd : -A ≤ d ∧ d ≤ A) (hc : -B ≤ c ∧ c ≤ B) : -(A * B) ≤ d * c ∧ d * c ≤ A * B := by
  have h1 : (d * c).natAbs ≤ A.natAbs * B.natAbs := by
    rw [Int.natAbs_mul]
    exact Nat.mul_le_mul (by omega) (by omega)
  have h2 : A * B = ((A.natAbs * B.natAbs : Nat) : Int) := by
    rw [Int.natCast_mul, Int.natAbs_of_nonneg (by omega), Int.natAbs_of_nonneg (by omega)]
  rw [h2]; omega
/-- d times the value of a term at (x / d, y / d) -/
def wv (c : Int) (p : Nat) (x y d : Int) : Int := d * c + pi p * x + pj p * y
theorem wv_le {c x y d A B X : Int} {p : Nat} (hp : p < 25) (hd : -A ≤ d ∧ d ≤ A) (hc : -B ≤ c ∧ c ≤ B) (hx : -X ≤ x ∧ x ≤ X) (hy : -X ≤ y ∧ y ≤ X) : -(A * B + 8 * X) ≤ wv c p x y d ∧ wv c p x y d ≤ A * B + 8 * X := by
  have h1 := mul_le hd hc
  have h2 := mul_le4 hx (pi_le hp)
  have h3 := mul_le4 hy (pj_le p)
  unfold wv
  rw [Int.mul_comm (pi p), Int.mul_comm (pj p)]
  omega
theorem e_worth {t p : Nat} {f : Cv} {M : mM} {c x y d : Int} (ht : isT t) (hc : cur t f M) (hp : p < 21) (hf : f p = some c) : E 1 45 [vR t, vI p, vI x, vI y, vI d] M (some (vI (wv c p x y d))) M := by
  obtain ⟨ht1, ht2, ht3⟩ := ht
  refine e_in (ls := [vR t, vI p, vI x, vI y, vI d, vN]) mq_45 (ml_45 rfl) rfl fun D hD => ?_
  refine w_iload rfl rfl ?_
  refine w_if_lt rfl (by first | assumption | exact i32_0 | (unfold i32 at *; omega)) rfl (fun c1 => ?_) (fun c1 => ?_)
  · skip
    exfalso; omega
  · skip
    refine w_iload rfl rfl (w_aload rfl rfl (w_getR rfl (by first | rfl | assumption) rfl (by first | rfl | assumption) (w_alen rfl (by first | rfl | assumption) (by decide) (by decide) ?_)))
    refine w_icmp_ge rfl (by first | assumption | exact i32_0 | (unfold i32 at *; omega)) (by first | assumption | exact i32_0 | (unfold i32 at *; omega)) rfl (fun c10 => ?_) (fun c10 => ?_)
    · skip
      exfalso; omega
    · skip
      refine w_aload rfl rfl (w_getR rfl (by first | rfl | assumption) rfl (by first | rfl | assumption) (w_iload rfl rfl (w_ialoadV rfl (by first | rfl | assumption) (by omega) (by omega) (cur_s hc hp hf) (w_goto rfl rfl (w_istore rfl rfl rfl (w_iload rfl rfl (w_iload rfl rfl ?_)))))))
      refine w_imul rfl (w_iload rfl rfl (w_iconst rfl (w_idiv rfl (by first | assumption | exact i32_0 | (unfold i32 at *; omega)) (by first | assumption | exact i32_0 | (unfold i32 at *; omega)) (by first | decide | omega | assumption) (w_iload rfl rfl (w_imul rfl (w_iadd rfl (w_iload rfl rfl ?_)))))))
      refine w_iconst rfl (w_irem rfl (by first | assumption | exact i32_0 | (unfold i32 at *; omega)) (by first | assumption | exact i32_0 | (unfold i32 at *; omega)) (by first | decide | omega | assumption) (w_iload rfl rfl (w_imul rfl (w_iadd rfl ?_))))
      exact w_ireturn rfl ⟨by rfl, by rfl⟩
def hasF (f : Cv) (k : Nat) : Bool := (f k).isSome
def placesF (f : Cv) : Nat := mk (hasF f) 21
theorem e_places {t : Nat} {f : Cv} {M : mM} {B : Int} (ht : isT t) (hc : cur t f M) (hB : B < 900000) (hf : Cok B f) : E 1 42 [vR t] M (some (vI (placesF f))) M := by
  obtain ⟨ht1, ht2, ht3⟩ := ht
  refine e_in (ls := [vR t, vN, vN]) mq_42 (ml_42 rfl) rfl fun D hD => ?_
  have loop : ∀ (n k : Nat), 21 - k = n → k ≤ 21 → Wp mc_42 D 4 [vR t, vI (mk (hasF f) k), vI k] [] M (fun r1 M2 => r1 = some (vI (placesF f)) ∧ M2 = M) := by
    intro n
    induction n with
    | zero =>
      intro k hn hk
      obtain rfl : k = 21 := by omega
      refine w_iload rfl rfl (w_aload rfl rfl (w_getR rfl (by first | rfl | assumption) rfl (by first | rfl | assumption) (w_alen rfl (by first | rfl | assumption) (by decide) (by decide) ?_)))
      refine w_icmp_ge rfl (by first | assumption | exact i32_0 | (unfold i32 at *; omega)) (by first | assumption | exact i32_0 | (unfold i32 at *; omega)) rfl (fun c10 => ?_) (fun c10 => ?_)
      · skip
        refine w_iload rfl rfl ?_
        exact w_ireturn rfl ⟨by first | rfl | (congr 2; omega), by rfl⟩
      · skip
        exfalso; omega
    | succ n ih =>
      intro k hn hk
      have hk2 : k < 21 := by omega
      have ih2 := ih (k + 1) (by omega) (by omega)
      have hl1 : mk (hasF f) k < 2 ^ 31 := Nat.lt_of_lt_of_le (mk_lt _ k) (Nat.pow_le_pow_right (by decide) (by omega))
      have hl2 : 2 ^ k < 2 ^ 31 := Nat.pow_lt_pow_right (by decide) (by omega)
      cases hfk : f k with
      | none =>
        have hm : mk (hasF f) (k + 1) = mk (hasF f) k := by rw [mk, if_neg (by simp [hasF, hfk]), Nat.or_zero]
        rw [hm] at ih2
        refine w_iload rfl rfl (w_aload rfl rfl (w_getR rfl (by first | rfl | assumption) rfl (by first | rfl | assumption) (w_alen rfl (by first | rfl | assumption) (by decide) (by decide) ?_)))
        refine w_icmp_ge rfl (by first | assumption | exact i32_0 | (unfold i32 at *; omega)) (by first | assumption | exact i32_0 | (unfold i32 at *; omega)) rfl (fun c10 => ?_) (fun c10 => ?_)
        · skip
          exfalso; omega
        · skip
          refine w_aload rfl rfl (w_getR rfl (by first | rfl | assumption) rfl (by first | rfl | assumption) (w_iload rfl rfl (w_ialoadV rfl (by first | rfl | assumption) (by omega) (by omega) (cur_n hc hk2 hfk) (w_iconst rfl ?_))))
          refine w_icmp_eq rfl (by first | assumption | exact i32_0 | (unfold i32 at *; omega)) (by first | assumption | exact i32_0 | (unfold i32 at *; omega)) rfl (fun c21 => ?_) (fun c21 => ?_)
          · skip
            refine w_iinc rfl rfl rfl (w_goto rfl rfl ?_)
            exact ih2
          · skip
            exact absurd rfl c21
      | some c =>
        have hcb := hf k c hfk
        have hm : mk (hasF f) (k + 1) = mk (hasF f) k ||| 2 ^ k := by rw [mk, if_pos (by simp [hasF, hfk])]
        rw [hm] at ih2
        refine w_iload rfl rfl (w_aload rfl rfl (w_getR rfl (by first | rfl | assumption) rfl (by first | rfl | assumption) (w_alen rfl (by first | rfl | assumption) (by decide) (by decide) ?_)))
        refine w_icmp_ge rfl (by first | assumption | exact i32_0 | (unfold i32 at *; omega)) (by first | assumption | exact i32_0 | (unfold i32 at *; omega)) rfl (fun c10 => ?_) (fun c10 => ?_)
        · skip
          exfalso; omega
        · skip
          refine w_aload rfl rfl (w_getR rfl (by first | rfl | assumption) rfl (by first | rfl | assumption) (w_iload rfl rfl (w_ialoadV rfl (by first | rfl | assumption) (by omega) (by omega) (cur_s hc hk2 hfk) (w_iconst rfl ?_))))
          refine w_icmp_eq rfl (by first | assumption | exact i32_0 | (unfold i32 at *; omega)) (by first | assumption | exact i32_0 | (unfold i32 at *; omega)) rfl (fun c21 => ?_) (fun c21 => ?_)
          · skip
            refine w_iinc rfl rfl rfl (w_goto rfl rfl ?_)
            first | exact ih2 | (exfalso; omega)
          · skip
            refine w_iload rfl rfl (w_iconst rfl (w_iload rfl rfl (w_ishl rfl (bitI_shl k (by omega)) (w_ior rfl (bitI_or hl1 hl2) (w_istore rfl rfl rfl (w_iinc rfl rfl rfl (w_goto rfl rfl ?_)))))))
            first | exact ih2 | (exfalso; omega)
  refine w_iconst rfl (w_istore rfl rfl rfl (w_iconst rfl (w_istore rfl rfl rfl ?_)))
  exact loop 21 0 rfl (by omega)
def cntF (f : Cv) : Nat := fb_ct (hasF f) 21
theorem placesF_lt (f : Cv) : placesF f < 2 ^ 21 := mk_lt _ _
theorem e_size {t : Nat} {f : Cv} {M : mM} {B : Int} (ht : isT t) (hc : cur t f M) (hB : B < 900000) (hf : Cok B f) : E 2 41 [vR t] M (some (vI (cntF f))) M := by
  have ht1 := ht.1
  have hl := placesF_lt f
  have hb := e_bitCount (placesF f) M (by omega)
  have hp : popc (placesF f) = cntF f := popc_mk fun k hk h => by
    cases hfk : f k with
    | none => simp [hasF, hfk] at h
    | some c => exact (hf k c hfk).2.1
  rw [hp] at hb
  refine e_in (ls := [vR t]) mq_41 (ml_41 rfl) rfl fun D hD => ?_
  refine w_aload rfl rfl ?_
  refine w_call (Or.inr rfl) (e_places ht hc hB hf) (by omega) nof_42 rfl rfl rfl rfl (by first | rfl | (show cKB[_]? = _; assumption)) rfl ?_
  refine w_call (Or.inl rfl) (hb) (by omega) nof_43 rfl rfl rfl rfl trivial rfl ?_
  exact w_ireturn rfl ⟨by first | rfl | (congr 2; omega), by rfl⟩
/-- the greatest i + j -/
def degF (f : Cv) : Nat → Int
  | 0 => -1000000
  | n + 1 => if hasF f n = true then max (degF f n) (pi n + pj n) else degF f n
theorem degF_le (f : Cv) : ∀ n, n ≤ 25 → -1000000 ≤ degF f n ∧ degF f n ≤ 8
  | 0, _ => by simp [degF]
  | n + 1, h => by
    have h1 := degF_le f n (by omega)
    have h2 := pi_le (p := n) (by omega)
    have h3 := pj_le n
    unfold degF
    split <;> omega
theorem e_degree {t : Nat} {f : Cv} {M : mM} {B : Int} (ht : isT t) (hc : cur t f M) (hB : B < 900000) (hf : Cok B f) : E 2 132 [vR t] M (some (vI (degF f 21))) M := by
  obtain ⟨ht1, ht2, ht3⟩ := ht
  refine e_in (ls := [vR t, vN, vN]) mq_132 (ml_132 rfl) rfl fun D hD => ?_
  have loop : ∀ (n k : Nat), 21 - k = n → k ≤ 21 → Wp mc_132 D 5 [vR t, vI (degF f k), vI k] [] M (fun r1 M2 => r1 = some (vI (degF f 21)) ∧ M2 = M) := by
    intro n
    induction n with
    | zero =>
      intro k hn hk
      obtain rfl : k = 21 := by omega
      refine w_iload rfl rfl (w_aload rfl rfl (w_getR rfl (by first | rfl | assumption) rfl (by first | rfl | assumption) (w_alen rfl (by first | rfl | assumption) (by decide) (by decide) ?_)))
      refine w_icmp_ge rfl (by first | assumption | exact i32_0 | (unfold i32 at *; omega)) (by first | assumption | exact i32_0 | (unfold i32 at *; omega)) rfl (fun c11 => ?_) (fun c11 => ?_)
      · skip
        refine w_iload rfl rfl ?_
        exact w_ireturn rfl ⟨by first | rfl | (congr 2; omega), by rfl⟩
      · skip
        exfalso; omega
    | succ n ih =>
      intro k hn hk
      have hk2 : k < 21 := by omega
      have ih2 := ih (k + 1) (by omega) (by omega)
      have h1 := degF_le f k (by omega)
      have h2 := pi_le (p := k) (by omega)
      have h3 := pj_le k
      cases hfk : f k with
      | none =>
        rw [degF, if_neg (by simp [hasF, hfk])] at ih2
        refine w_iload rfl rfl (w_aload rfl rfl (w_getR rfl (by first | rfl | assumption) rfl (by first | rfl | assumption) (w_alen rfl (by first | rfl | assumption) (by decide) (by decide) ?_)))
        refine w_icmp_ge rfl (by first | assumption | exact i32_0 | (unfold i32 at *; omega)) (by first | assumption | exact i32_0 | (unfold i32 at *; omega)) rfl (fun c11 => ?_) (fun c11 => ?_)
        · skip
          exfalso; omega
        · skip
          refine w_aload rfl rfl (w_getR rfl (by first | rfl | assumption) rfl (by first | rfl | assumption) (w_iload rfl rfl (w_ialoadV rfl (by first | rfl | assumption) (by omega) (by omega) (cur_n hc hk2 hfk) (w_iconst rfl ?_))))
          refine w_icmp_eq rfl (by first | assumption | exact i32_0 | (unfold i32 at *; omega)) (by first | assumption | exact i32_0 | (unfold i32 at *; omega)) rfl (fun c22 => ?_) (fun c22 => ?_)
          · skip
            refine w_iinc rfl rfl rfl (w_goto rfl rfl ?_)
            exact ih2
          · skip
            exact absurd rfl c22
      | some c =>
        have hcb := hf k c hfk
        rw [degF, if_pos (by simp [hasF, hfk])] at ih2
        refine w_iload rfl rfl (w_aload rfl rfl (w_getR rfl (by first | rfl | assumption) rfl (by first | rfl | assumption) (w_alen rfl (by first | rfl | assumption) (by decide) (by decide) ?_)))
        refine w_icmp_ge rfl (by first | assumption | exact i32_0 | (unfold i32 at *; omega)) (by first | assumption | exact i32_0 | (unfold i32 at *; omega)) rfl (fun c11 => ?_) (fun c11 => ?_)
        · skip
          exfalso; omega
        · skip
          refine w_aload rfl rfl (w_getR rfl (by first | rfl | assumption) rfl (by first | rfl | assumption) (w_iload rfl rfl (w_ialoadV rfl (by first | rfl | assumption) (by omega) (by omega) (cur_s hc hk2 hfk) (w_iconst rfl ?_))))
          refine w_icmp_eq rfl (by first | assumption | exact i32_0 | (unfold i32 at *; omega)) (by first | assumption | exact i32_0 | (unfold i32 at *; omega)) rfl (fun c22 => ?_) (fun c22 => ?_)
          · skip
            refine w_iinc rfl rfl rfl (w_goto rfl rfl ?_)
            first | exact ih2 | (exfalso; omega)
          · skip
            refine w_iload rfl rfl (w_iload rfl rfl (w_iconst rfl (w_idiv rfl (by first | assumption | exact i32_0 | (unfold i32 at *; omega)) (by first | assumption | exact i32_0 | (unfold i32 at *; omega)) (by first | decide | omega | assumption) (w_iload rfl rfl (w_iconst rfl (w_irem rfl (by first | assumption | exact i32_0 | (unfold i32 at *; omega)) (by first | assumption | exact i32_0 | (unfold i32 at *; omega)) (by first | decide | omega | assumption) (w_iadd rfl ?_)))))))
            refine w_call (Or.inl rfl) (e_max (degF f k) (pi k + pj k) M (by unfold i32; omega) (by unfold i32; omega)) (by omega) nof_9 rfl rfl rfl rfl trivial rfl ?_
            refine w_istore rfl rfl rfl (w_iinc rfl rfl rfl (w_goto rfl rfl ?_))
            first | exact ih2 | (exfalso; omega)
  refine w_iconst rfl (w_istore rfl rfl rfl (w_iconst rfl (w_istore rfl rfl rfl ?_)))
  exact loop 21 0 rfl (by omega)
def rangeF (f : Cv) : Nat → Bool
  | 0 => true
  | n + 1 => rangeF f n && (match f n with
    | none => true
    | some c => decide (-999 ≤ c) && decide (c ≤ 999))
theorem rangeF_no {f : Cv} {k : Nat} {c : Int} (h : f k = some c) (hc : c < -999 ∨ 999 < c) : ∀ n, k < n → rangeF f n = false
  | 0, hk => by omega
  | n + 1, hk => by
    unfold rangeF
    by_cases q : k = n
    · subst q
      rw [h]
      simp; omega
    · rw [rangeF_no h hc n (by omega), Bool.false_and]
theorem rangeF_iff {f : Cv} : ∀ n, rangeF f n = true ↔ ∀ k c, k < n → f k = some c → -999 ≤ c ∧ c ≤ 999
  | 0 => by simp [rangeF]
  | n + 1 => by
    unfold rangeF
    rw [Bool.and_eq_true, rangeF_iff n]
    constructor
    · rintro ⟨h1, h2⟩ k c hk hf
      by_cases q : k = n
      · subst q
        rw [hf] at h2
        simpa using h2
      · exact h1 k c (by omega) hf
    · intro h
      refine ⟨fun k c hk hf => h k c (by omega) hf, ?_⟩
      cases hf : f n with
      | none => rfl
      | some c => simpa using h n c (by omega) hf
theorem e_isInRange {t : Nat} {f : Cv} {M : mM} {B : Int} (ht : isT t) (hc : cur t f M) (hB : B < 900000) (hf : Cok B f) : E 1 54 [vR t] M (some (vI (if rangeF f 21 = true then 1 else 0))) M := by
  obtain ⟨ht1, ht2, ht3⟩ := ht
  refine e_in (ls := [vR t, vN]) mq_54 (ml_54 rfl) rfl fun D hD => ?_
  have loop : ∀ (n k : Nat), 21 - k = n → k ≤ 21 → rangeF f k = true → Wp mc_54 D 2 [vR t, vI k] [] M (fun r1 M2 => r1 = some (vI (if rangeF f 21 = true then 1 else 0)) ∧ M2 = M) := by
    intro n
    induction n with
    | zero =>
      intro k hn hk hr
      obtain rfl : k = 21 := by omega
      refine w_iload rfl rfl (w_aload rfl rfl (w_getR rfl (by first | rfl | assumption) rfl (by first | rfl | assumption) (w_alen rfl (by first | rfl | assumption) (by decide) (by decide) ?_)))
      refine w_icmp_ge rfl (by first | assumption | exact i32_0 | (unfold i32 at *; omega)) (by first | assumption | exact i32_0 | (unfold i32 at *; omega)) rfl (fun c8 => ?_) (fun c8 => ?_)
      · skip
        refine w_iconst rfl ?_
        exact w_zreturn rfl (by first | exact Or.inl rfl | exact Or.inr rfl | omega | assumption) ⟨by rw [hr]; rfl, by rfl⟩
      · skip
        exfalso; omega
    | succ n ih =>
      intro k hn hk hr
      have hk2 : k < 21 := by omega
      cases hfk : f k with
      | none =>
        have ih2 := ih (k + 1) (by omega) (by omega) (by rw [rangeF, hr, hfk]; rfl)
        refine w_iload rfl rfl (w_aload rfl rfl (w_getR rfl (by first | rfl | assumption) rfl (by first | rfl | assumption) (w_alen rfl (by first | rfl | assumption) (by decide) (by decide) ?_)))
        refine w_icmp_ge rfl (by first | assumption | exact i32_0 | (unfold i32 at *; omega)) (by first | assumption | exact i32_0 | (unfold i32 at *; omega)) rfl (fun c8 => ?_) (fun c8 => ?_)
        · skip
          exfalso; omega
        · skip
          refine w_aload rfl rfl (w_getR rfl (by first | rfl | assumption) rfl (by first | rfl | assumption) (w_iload rfl rfl (w_ialoadV rfl (by first | rfl | assumption) (by omega) (by omega) (cur_n hc hk2 hfk) (w_iconst rfl ?_))))
          refine w_icmp_eq rfl (by first | assumption | exact i32_0 | (unfold i32 at *; omega)) (by first | assumption | exact i32_0 | (unfold i32 at *; omega)) rfl (fun c19 => ?_) (fun c19 => ?_)
          · skip
            refine w_iinc rfl rfl rfl (w_goto rfl rfl ?_)
            exact ih2
          · skip
            exact absurd rfl c19
      | some c =>
        have hcb := hf k c hfk
        have hno := fun h => rangeF_no hfk h 21 hk2
        have ih2 := fun (h : -999 ≤ c ∧ c ≤ 999) => ih (k + 1) (by omega) (by omega) (by rw [rangeF, hr, hfk]; simp [h])
        refine w_iload rfl rfl (w_aload rfl rfl (w_getR rfl (by first | rfl | assumption) rfl (by first | rfl | assumption) (w_alen rfl (by first | rfl | assumption) (by decide) (by decide) ?_)))
        refine w_icmp_ge rfl (by first | assumption | exact i32_0 | (unfold i32 at *; omega)) (by first | assumption | exact i32_0 | (unfold i32 at *; omega)) rfl (fun c8 => ?_) (fun c8 => ?_)
        · skip
          exfalso; omega
        · skip
          refine w_aload rfl rfl (w_getR rfl (by first | rfl | assumption) rfl (by first | rfl | assumption) (w_iload rfl rfl (w_ialoadV rfl (by first | rfl | assumption) (by omega) (by omega) (cur_s hc hk2 hfk) (w_iconst rfl ?_))))
          refine w_icmp_eq rfl (by first | assumption | exact i32_0 | (unfold i32 at *; omega)) (by first | assumption | exact i32_0 | (unfold i32 at *; omega)) rfl (fun c19 => ?_) (fun c19 => ?_)
          · skip
            refine w_iinc rfl rfl rfl (w_goto rfl rfl ?_)
            exact ih2 (by omega)
          · skip
            refine w_aload rfl rfl (w_getR rfl (by first | rfl | assumption) rfl (by first | rfl | assumption) (w_iload rfl rfl (w_ialoadV rfl (by first | rfl | assumption) (by omega) (by omega) (cur_s hc hk2 hfk) (w_iconst rfl ?_))))
            refine w_icmp_lt rfl (by first | assumption | exact i32_0 | (unfold i32 at *; omega)) (by first | assumption | exact i32_0 | (unfold i32 at *; omega)) rfl (fun c31 => ?_) (fun c31 => ?_)
            · skip
              refine w_iconst rfl ?_
              exact w_zreturn rfl (by first | exact Or.inl rfl | exact Or.inr rfl | omega | assumption) ⟨by rw [hno (by omega)]; rfl, by rfl⟩
            · skip
              refine w_aload rfl rfl (w_getR rfl (by first | rfl | assumption) rfl (by first | rfl | assumption) (w_iload rfl rfl (w_ialoadV rfl (by first | rfl | assumption) (by omega) (by omega) (cur_s hc hk2 hfk) (w_iconst rfl ?_))))
              refine w_icmp_le rfl (by first | assumption | exact i32_0 | (unfold i32 at *; omega)) (by first | assumption | exact i32_0 | (unfold i32 at *; omega)) rfl (fun c43 => ?_) (fun c43 => ?_)
              · skip
                refine w_iinc rfl rfl rfl (w_goto rfl rfl ?_)
                exact ih2 (by omega)
              · skip
                refine w_iconst rfl ?_
                exact w_zreturn rfl (by first | exact Or.inl rfl | exact Or.inr rfl | omega | assumption) ⟨by rw [hno (by omega)]; rfl, by rfl⟩
  refine w_iconst rfl (w_istore rfl rfl rfl ?_)
  exact loop 21 0 rfl (by omega) rfl
theorem e_inRange0 {t : Nat} {f : Cv} {M : mM} {B : Int} (ht : isT t) (hc : cur t f M) (hB : B < 900000) (hf : Cok B f) (h : rangeF f 21 = false) : E 1 54 [vR t] M (some (vI 0)) M := by
  have := e_isInRange ht hc hB hf
  rw [h] at this; exact this
theorem e_inRange1 {t : Nat} {f : Cv} {M : mM} {B : Int} (ht : isT t) (hc : cur t f M) (hB : B < 900000) (hf : Cok B f) (h : rangeF f 21 = true) : E 1 54 [vR t] M (some (vI 1)) M := by
  have := e_isInRange ht hc hB hf
  rw [h] at this; exact this
theorem e_lower_set {t p : Nat} {f : Cv} {M : mM} {v B : Int} (ht : isT t) (hc : cur t f M) (hB : B < 900000) (hf : Cok B f) (hv : i32 v) (hp : p < 21) (h : ∀ c, f p = some c → v < c) : E 3 29 [vR t, vI p, vI v] M none (setM t p v M) := by
  have ht1 := ht.1
  refine e_in (ls := [vR t, vI p, vI v]) mq_29 (ml_29 rfl) rfl fun D hD => ?_
  cases hfp : f p with
  | none =>
    refine w_aload rfl rfl (w_iload rfl rfl ?_)
    refine w_call (Or.inr rfl) (e_has0 ht hc (by omega) hfp) (by omega) nof_30 rfl rfl rfl rfl (by first | rfl | (show cKB[_]? = _; assumption)) rfl ?_
    refine w_if_eq rfl (by first | assumption | exact i32_0 | (unfold i32 at *; omega)) rfl (fun _ => ?_) (fun c => absurd c (by decide))
    refine w_aload rfl rfl (w_iload rfl rfl (w_iload rfl rfl ?_))
    refine w_call (Or.inr rfl) (e_set ht hp) (by omega) nof_32 rfl rfl rfl rfl (by first | rfl | (show cKB[_]? = _; assumption)) rfl ?_
    exact w_return rfl ⟨rfl, by rfl⟩
  | some c =>
    have hcb := hf p c hfp
    have := h c hfp
    refine w_aload rfl rfl (w_iload rfl rfl ?_)
    refine w_call (Or.inr rfl) (e_has1 ht hc hB hf hfp) (by omega) nof_30 rfl rfl rfl rfl (by first | rfl | (show cKB[_]? = _; assumption)) rfl ?_
    refine w_if_eq rfl (by first | assumption | exact i32_0 | (unfold i32 at *; omega)) rfl (fun c => absurd c (by decide)) (fun _ => ?_)
    refine w_aload rfl rfl (w_iload rfl rfl ?_)
    refine w_call (Or.inr rfl) (e_at_s ht hc hp hfp) (by omega) nof_31 rfl rfl rfl rfl (by first | rfl | (show cKB[_]? = _; assumption)) rfl ?_
    refine w_iload rfl rfl ?_
    refine w_icmp_le rfl (by first | assumption | exact i32_0 | (unfold i32 at *; omega)) (by first | assumption | exact i32_0 | (unfold i32 at *; omega)) rfl (fun c14 => ?_) (fun c14 => ?_)
    · skip
      first | (exfalso; omega) | exact w_return rfl ⟨rfl, rfl⟩
    · skip
      refine w_aload rfl rfl (w_iload rfl rfl (w_iload rfl rfl ?_))
      refine w_call (Or.inr rfl) (e_set ht hp) (by omega) nof_32 rfl rfl rfl rfl (by first | rfl | (show cKB[_]? = _; assumption)) rfl ?_
      first | (exfalso; omega) | exact w_return rfl ⟨rfl, rfl⟩
theorem e_lower_not {t p : Nat} {f : Cv} {M : mM} {v B c : Int} (ht : isT t) (hc : cur t f M) (hB : B < 900000) (hf : Cok B f) (hv : i32 v) (hfp : f p = some c) (h : c ≤ v) : E 3 29 [vR t, vI p, vI v] M none M := by
  have ht1 := ht.1
  have hcb := hf p c hfp
  refine e_in (ls := [vR t, vI p, vI v]) mq_29 (ml_29 rfl) rfl fun D hD => ?_
  refine w_aload rfl rfl (w_iload rfl rfl ?_)
  refine w_call (Or.inr rfl) (e_has1 ht hc hB hf hfp) (by omega) nof_30 rfl rfl rfl rfl (by first | rfl | (show cKB[_]? = _; assumption)) rfl ?_
  refine w_if_eq rfl (by first | assumption | exact i32_0 | (unfold i32 at *; omega)) rfl (fun c => absurd c (by decide)) (fun _ => ?_)
  refine w_aload rfl rfl (w_iload rfl rfl ?_)
  refine w_call (Or.inr rfl) (e_at_s ht hc hcb.1 hfp) (by omega) nof_31 rfl rfl rfl rfl (by first | rfl | (show cKB[_]? = _; assumption)) rfl ?_
  refine w_iload rfl rfl ?_
  refine w_icmp_le rfl (by first | assumption | exact i32_0 | (unfold i32 at *; omega)) (by first | assumption | exact i32_0 | (unfold i32 at *; omega)) rfl (fun c14 => ?_) (fun c14 => ?_)
  · skip
    exact w_return rfl ⟨rfl, by rfl⟩
  · skip
    exfalso; omega
