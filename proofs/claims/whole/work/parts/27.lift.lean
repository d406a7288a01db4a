/-! ===== floorDiv and the greatest c below ===== -/
theorem bitI_xor_neg {a b : Int} (ha : i32 a) (hb : i32 b) (h1 : a < 0) (h2 : 0 ≤ b) : bitI (· ^^^ ·) a b < 0 ∧ i32 (bitI (· ^^^ ·) a b) := by
  have e1 : (Int32.ofInt a).toBitVec.msb = true := by
    rw [BitVec.msb_eq_toInt]
    exact decide_eq_true (by rw [show (Int32.ofInt a).toBitVec.toInt = (Int32.ofInt a).toInt from rfl, i32_to ha]; exact h1)
  have e2 : (Int32.ofInt b).toBitVec.msb = false := by
    rw [BitVec.msb_eq_toInt]
    exact decide_eq_false (by rw [show (Int32.ofInt b).toBitVec.toInt = (Int32.ofInt b).toInt from rfl, i32_to hb]; omega)
  constructor
  · unfold bitI
    have e3 : (Int32.ofInt a ^^^ Int32.ofInt b).toBitVec.msb = true := by
      rw [Int32.toBitVec_xor, BitVec.msb_xor, e1, e2]; rfl
    rw [BitVec.msb_eq_toInt] at e3
    exact of_decide_eq_true e3
  · unfold bitI i32
    have h3 := Int32.minValue_le_toInt (Int32.ofInt a ^^^ Int32.ofInt b)
    have h4 := Int32.toInt_le (Int32.ofInt a ^^^ Int32.ofInt b)
    constructor
    · rw [i32_min] at h3; exact h3
    · rw [i32_max] at h4; exact h4
theorem bitI_xor_nat {a b : Nat} (ha : a < 2 ^ 31) (hb : b < 2 ^ 31) : bitI (· ^^^ ·) (a : Int) (b : Int) = ((a ^^^ b : Nat) : Int) := bitI_nat (nx_xor a b) (Nat.xor_lt_two_pow ha hb)
theorem tmod_np {x y : Int} (h : x ≤ 0) : x.tmod y ≤ 0 := by
  have := Int.tmod_nonneg y (show 0 ≤ -x by omega)
  rw [Int.neg_tmod] at this
  omega
theorem fdiv_neg {x y q : Int} (hy : 0 < y) (hx : x < 0) (hq : q = x.tdiv y) : (q * y = x → x / y = q) ∧ (q * y ≠ x → x / y = q - 1) := by
  have h1 := Int.tmod_add_mul_tdiv x y
  have h2 : x.tmod y ≤ 0 := tmod_np (by omega)
  have h3 : -y < x.tmod y := by
    have := Int.lt_tmod_of_pos x hy
    omega
  subst hq
  constructor
  · intro h
    rw [← h, Int.mul_ediv_cancel _ (by omega), h]
  · intro h
    have h4 : x.tmod y ≠ 0 := fun q => h (by rw [q] at h1; rw [Int.mul_comm]; omega)
    have h5 : x = (x.tmod y + y) + y * (x.tdiv y - 1) := by rw [Int.mul_sub]; omega
    exact ((Int.ediv_emod_unique hy).mpr ⟨h5.symm, by omega, by omega⟩).1
theorem e_floorDiv (x y : Int) (M : mM) (hx : i32 x) (hy : i32 y) (h0 : 0 < y) : E 1 117 [vI x, vI y] M (some (vI (x / y))) M := by
  refine e_in (ls := [vI x, vI y, vN]) mq_117 (ml_117 rfl) rfl fun D hD => ?_
  by_cases hn : x < 0
  · obtain ⟨q1, q2⟩ := bitI_xor_neg hx hy hn (by omega)
    obtain ⟨q3, q4⟩ := fdiv_neg h0 hn rfl
    generalize hv : bitI (· ^^^ ·) x y = v at *
    have hqy : i32 (x.tdiv y * y) := by
      have h1 := Int.tmod_add_mul_tdiv x y
      have h2 : x.tmod y ≤ 0 := tmod_np (by omega)
      have h3 := Int.lt_tmod_of_pos x h0
      rw [Int.mul_comm]
      unfold i32 at *
      omega
    refine w_iload rfl rfl (w_iload rfl rfl (w_idiv rfl (by first | assumption | exact i32_0 | (unfold i32 at *; omega)) (by first | assumption | exact i32_0 | (unfold i32 at *; omega)) (by first | decide | omega | assumption) (w_istore (ls2 := [_, _, _]) rfl rfl rfl (w_iload rfl rfl (w_iload rfl rfl (w_ixor rfl (hv) ?_))))))
    refine w_if_ge (tgt := 21) rfl (by first | assumption | exact i32_0 | (unfold i32 at *; omega)) rfl (fun c7 => ?_) (fun c7 => ?_)
    · skip
      refine w_iload rfl rfl ?_
      exact w_ireturn rfl ⟨by first | (exfalso; omega) | (rw [q3 (by assumption)]) | (rw [q4 (by assumption)]), by rfl⟩
    · skip
      refine w_iload rfl rfl (w_iload rfl rfl (w_imul rfl (w_iload rfl rfl ?_)))
      refine w_icmp_eq (tgt := 21) rfl (by first | assumption | exact i32_0 | (unfold i32 at *; omega)) (by first | assumption | exact i32_0 | (unfold i32 at *; omega)) rfl (fun c14 => ?_) (fun c14 => ?_)
      · skip
        refine w_iload rfl rfl ?_
        exact w_ireturn rfl ⟨by first | (exfalso; omega) | (rw [q3 (by assumption)]) | (rw [q4 (by assumption)]), by rfl⟩
      · skip
        refine w_iload rfl rfl (w_iconst rfl (w_isub rfl ?_))
        exact w_ireturn rfl ⟨by first | (exfalso; omega) | (rw [q3 (by assumption)]) | (rw [q4 (by assumption)]), by rfl⟩
  · have e1 : x.tdiv y = x / y := Int.tdiv_eq_ediv_of_nonneg (by omega)
    obtain ⟨a, rfl⟩ : ∃ a : Nat, x = a := ⟨x.toNat, by omega⟩
    obtain ⟨b, rfl⟩ : ∃ b : Nat, y = b := ⟨y.toNat, by omega⟩
    have hv := bitI_xor_nat (a := a) (b := b) (by unfold i32 at hx; omega) (by unfold i32 at hy; omega)
    have hlt : a ^^^ b < 2 ^ 31 := Nat.xor_lt_two_pow (by unfold i32 at hx; omega) (by unfold i32 at hy; omega)
    refine w_iload rfl rfl (w_iload rfl rfl (w_idiv rfl (by first | assumption | exact i32_0 | (unfold i32 at *; omega)) (by first | assumption | exact i32_0 | (unfold i32 at *; omega)) (by first | decide | omega | assumption) (w_istore (ls2 := [_, _, _]) rfl rfl rfl (w_iload rfl rfl (w_iload rfl rfl (w_ixor rfl (hv) ?_))))))
    refine w_if_ge (tgt := 21) rfl (by first | assumption | exact i32_0 | (unfold i32 at *; omega)) rfl (fun c7 => ?_) (fun c7 => ?_)
    · skip
      refine w_iload rfl rfl ?_
      exact w_ireturn rfl ⟨by rw [e1], by rfl⟩
    · skip
      exfalso; omega
theorem e_below {a b : Int} {t : Nat} (M : mM) (ha : -2000000000 ≤ a ∧ a ≤ 2000000000) (hb : i32 b) (h : 0 < b) : E 2 116 [vI a, vI b] M (some (vI ((a - 1) / b))) M := by
  refine e_in (ls := [vI a, vI b]) mq_116 (ml_116 rfl) rfl fun D hD => ?_
  refine w_iload rfl rfl ?_
  refine w_if_le (tgt := 14) rfl (by first | assumption | exact i32_0 | (unfold i32 at *; omega)) rfl (fun c1 => ?_) (fun c1 => ?_)
  · skip
    exfalso; omega
  · skip
    refine w_iload rfl rfl (w_iconst rfl (w_isub rfl (w_iload rfl rfl ?_)))
    refine w_call (Or.inl rfl) (e_floorDiv (a - 1) b M (by unfold i32; omega) hb h) (by omega) nof_117 rfl rfl rfl rfl trivial rfl ?_
    refine w_goto (tgt := 17) rfl rfl ?_
    exact w_ireturn rfl ⟨by first | rfl | (congr 2; omega), by rfl⟩
/-- the greatest c below a segment of two others at a place -/
def segF (p a b : Nat) (ca cb : Int) : Int := if a < p ∧ p < b ∧ turn a b p = 0 then (ca * ((b : Int) - (p : Int)) + cb * ((p : Int) - (a : Int)) - 1) / ((b : Int) - (a : Int)) else 999
theorem e_segF {t p a b : Nat} {f : Cv} {M : mM} {ca cb : Int} (ht : isT t) (hc : cur t f M) (hf : Cok 999 f) (hp : p < 25) (ha : f a = some ca) (hb : f b = some cb) : E 3 115 [vR t, vI p, vI a, vI b] M (some (vI (segF p a b ca cb))) M := by
  have ht1 := ht.1
  have a1 := hf a ca ha
  have b1 := hf b cb hb
  have hturn := turn_le a (by omega) b (by omega) p hp
  refine e_in (ls := [vR t, vI p, vI a, vI b]) mq_115 (ml_115 rfl) rfl fun D hD => ?_
  by_cases h : a < p ∧ p < b ∧ turn a b p = 0
  · have e : segF p a b ca cb = (ca * ((b : Int) - (p : Int)) + cb * ((p : Int) - (a : Int)) - 1) / ((b : Int) - (a : Int)) := if_pos h
    rw [e]
    have m1 := mul_le (d := ca) (c := (b : Int) - (p : Int)) (A := 999) (B := 30) a1.2.2 (by omega)
    have m2 := mul_le (d := cb) (c := (p : Int) - (a : Int)) (A := 999) (B := 30) b1.2.2 (by omega)
    refine w_iload rfl rfl (w_iload rfl rfl ?_)
    refine w_icmp_le (tgt := 19) rfl (by first | assumption | exact i32_0 | (unfold i32 at *; omega)) (by first | assumption | exact i32_0 | (unfold i32 at *; omega)) rfl (fun c2 => ?_) (fun c2 => ?_)
    · skip
      exfalso; omega
    · skip
      refine w_iload rfl rfl (w_iload rfl rfl ?_)
      refine w_icmp_ge (tgt := 19) rfl (by first | assumption | exact i32_0 | (unfold i32 at *; omega)) (by first | assumption | exact i32_0 | (unfold i32 at *; omega)) rfl (fun c7 => ?_) (fun c7 => ?_)
      · skip
        exfalso; omega
      · skip
        refine w_iload rfl rfl (w_iload rfl rfl (w_iload rfl rfl ?_))
        refine w_call (Or.inl rfl) (e_turn a b p M (by omega) (by omega) (by omega)) (by omega) nof_72 rfl rfl rfl rfl trivial rfl ?_
        refine w_if_eq (tgt := 23) rfl (by first | assumption | exact i32_0 | (unfold i32 at *; omega)) rfl (fun c16 => ?_) (fun c16 => ?_)
        · skip
          refine w_aload rfl rfl (w_iload rfl rfl ?_)
          refine w_call (Or.inr rfl) (e_at_s ht hc a1.1 ha) (by omega) nof_31 rfl rfl rfl rfl (by first | rfl | (show cKB[_]? = _; assumption)) rfl ?_
          refine w_iload rfl rfl (w_iload rfl rfl (w_isub rfl (w_imul rfl (w_aload rfl rfl (w_iload rfl rfl ?_)))))
          refine w_call (Or.inr rfl) (e_at_s ht hc b1.1 hb) (by omega) nof_31 rfl rfl rfl rfl (by first | rfl | (show cKB[_]? = _; assumption)) rfl ?_
          refine w_iload rfl rfl (w_iload rfl rfl (w_isub rfl (w_imul rfl (w_iadd rfl (w_iload rfl rfl (w_iload rfl rfl (w_isub rfl ?_)))))))
          refine w_call (Or.inl rfl) (e_below (t := t) M (by omega) (by unfold i32; omega) (by omega)) (by omega) nof_116 rfl rfl rfl rfl trivial rfl ?_
          exact w_ireturn rfl ⟨by first | rfl | (congr 2; omega), by rfl⟩
        · skip
          exfalso; omega
  · have e : segF p a b ca cb = 999 := if_neg h
    rw [e]
    refine w_iload rfl rfl (w_iload rfl rfl ?_)
    refine w_icmp_le (tgt := 19) rfl (by first | assumption | exact i32_0 | (unfold i32 at *; omega)) (by first | assumption | exact i32_0 | (unfold i32 at *; omega)) rfl (fun c2 => ?_) (fun c2 => ?_)
    · skip
      refine w_iconst rfl ?_
      exact w_ireturn rfl ⟨by first | rfl | (congr 2; omega), by rfl⟩
    · skip
      refine w_iload rfl rfl (w_iload rfl rfl ?_)
      refine w_icmp_ge (tgt := 19) rfl (by first | assumption | exact i32_0 | (unfold i32 at *; omega)) (by first | assumption | exact i32_0 | (unfold i32 at *; omega)) rfl (fun c7 => ?_) (fun c7 => ?_)
      · skip
        refine w_iconst rfl ?_
        exact w_ireturn rfl ⟨by first | rfl | (congr 2; omega), by rfl⟩
      · skip
        refine w_iload rfl rfl (w_iload rfl rfl (w_iload rfl rfl ?_))
        refine w_call (Or.inl rfl) (e_turn a b p M (by omega) (by omega) (by omega)) (by omega) nof_72 rfl rfl rfl rfl trivial rfl ?_
        refine w_if_eq (tgt := 23) rfl (by first | assumption | exact i32_0 | (unfold i32 at *; omega)) rfl (fun c16 => ?_) (fun c16 => ?_)
        · skip
          exfalso; omega
        · skip
          refine w_iconst rfl ?_
          exact w_ireturn rfl ⟨by first | rfl | (congr 2; omega), by rfl⟩
/-- the greatest c below a triangle of three others at a place -/
def triF (p a b e : Nat) (ca cb ce : Int) : Int := (fun w => (fun s : Int => if w = 0 ∨ s * turn p b e ≤ 0 ∨ s * turn a p e ≤ 0 ∨ s * turn a b p ≤ 0 then 999 else (ca * (s * turn p b e) + cb * (s * turn a p e) + ce * (s * turn a b p) - 1) / (s * w)) (if w < 0 then -1 else 1)) (turn a b e)
theorem e_triF {t p a b e : Nat} {f : Cv} {M : mM} {ca cb ce : Int} (ht : isT t) (hc : cur t f M) (hf : Cok 999 f) (hp : p < 25) (ha : f a = some ca) (hb : f b = some cb) (he : f e = some ce) : E 3 118 [vR t, vI p, vI a, vI b, vI e] M (some (vI (triF p a b e ca cb ce))) M := by
  have ht1 := ht.1
  have a1 := hf a ca ha
  have b1 := hf b cb hb
  have c1 := hf e ce he
  have w1 := turn_le a (by omega) b (by omega) e (by omega)
  have w2 := turn_le p (by omega) b (by omega) e (by omega)
  have w3 := turn_le a (by omega) p (by omega) e (by omega)
  have w4 := turn_le a (by omega) b (by omega) p (by omega)
  refine e_in (ls := [vR t, vI p, vI a, vI b, vI e, vN, vN, vN, vN, vN]) mq_118 (ml_118 rfl) rfl fun D hD => ?_
  unfold triF
  dsimp only
  have hT1 := e_turn a b e M (by omega) (by omega) (by omega)
  have hT2 := e_turn p b e M (by omega) (by omega) (by omega)
  have hT3 := e_turn a p e M (by omega) (by omega) (by omega)
  have hT4 := e_turn a b p M (by omega) (by omega) (by omega)
  generalize turn a b e = W at *
  generalize turn p b e = A at *
  generalize turn a p e = B at *
  generalize turn a b p = C at *
  by_cases hw : W < 0
  · rw [if_pos hw]
    have m1 := mul_le (d := ca) (c := -1 * A) (A := 999) (B := 64) a1.2.2 (by omega)
    have m2 := mul_le (d := cb) (c := -1 * B) (A := 999) (B := 64) b1.2.2 (by omega)
    have m3 := mul_le (d := ce) (c := -1 * C) (A := 999) (B := 64) c1.2.2 (by omega)
    by_cases h : W = 0 ∨ -1 * A ≤ 0 ∨ -1 * B ≤ 0 ∨ -1 * C ≤ 0
    · rw [if_pos h]
      refine w_iload rfl rfl (w_iload rfl rfl (w_iload rfl rfl ?_))
      refine w_call (Or.inl rfl) (hT1) (by omega) nof_72 rfl rfl rfl rfl trivial rfl ?_
      refine w_istore (ls2 := [_, _, _, _, _, _, _, _, _, _]) rfl rfl rfl (w_iload rfl rfl ?_)
      refine w_if_ge (tgt := 18) rfl (by first | assumption | exact i32_0 | (unfold i32 at *; omega)) rfl (fun c11 => ?_) (fun c11 => ?_)
      · skip
        exfalso; omega
      · skip
        refine w_iconst rfl (w_goto (tgt := 19) rfl rfl (w_istore (ls2 := [_, _, _, _, _, _, _, _, _, _]) rfl rfl rfl (w_iload rfl rfl (w_iload rfl rfl (w_iload rfl rfl (w_iload rfl rfl ?_))))))
        refine w_call (Or.inl rfl) (hT2) (by omega) nof_72 rfl rfl rfl rfl trivial rfl ?_
        refine w_imul rfl (w_istore (ls2 := [_, _, _, _, _, _, _, _, _, _]) rfl rfl rfl (w_iload rfl rfl (w_iload rfl rfl (w_iload rfl rfl (w_iload rfl rfl ?_)))))
        refine w_call (Or.inl rfl) (hT3) (by omega) nof_72 rfl rfl rfl rfl trivial rfl ?_
        refine w_imul rfl (w_istore (ls2 := [_, _, _, _, _, _, _, _, _, _]) rfl rfl rfl (w_iload rfl rfl (w_iload rfl rfl (w_iload rfl rfl (w_iload rfl rfl ?_)))))
        refine w_call (Or.inl rfl) (hT4) (by omega) nof_72 rfl rfl rfl rfl trivial rfl ?_
        refine w_imul rfl (w_istore (ls2 := [_, _, _, _, _, _, _, _, _, _]) rfl rfl rfl (w_iload rfl rfl ?_))
        refine w_if_eq (tgt := 76) rfl (by first | assumption | exact i32_0 | (unfold i32 at *; omega)) rfl (fun c58 => ?_) (fun c58 => ?_)
        · skip
          refine w_iconst rfl ?_
          exact w_ireturn rfl ⟨by first | rfl | (congr 2; omega), by rfl⟩
        · skip
          refine w_iload rfl rfl ?_
          refine w_if_le (tgt := 76) rfl (by first | assumption | exact i32_0 | (unfold i32 at *; omega)) rfl (fun c63 => ?_) (fun c63 => ?_)
          · skip
            refine w_iconst rfl ?_
            exact w_ireturn rfl ⟨by first | rfl | (congr 2; omega), by rfl⟩
          · skip
            refine w_iload rfl rfl ?_
            refine w_if_le (tgt := 76) rfl (by first | assumption | exact i32_0 | (unfold i32 at *; omega)) rfl (fun c68 => ?_) (fun c68 => ?_)
            · skip
              refine w_iconst rfl ?_
              exact w_ireturn rfl ⟨by first | rfl | (congr 2; omega), by rfl⟩
            · skip
              refine w_iload rfl rfl ?_
              refine w_if_gt (tgt := 80) rfl (by first | assumption | exact i32_0 | (unfold i32 at *; omega)) rfl (fun c73 => ?_) (fun c73 => ?_)
              · skip
                exfalso; omega
              · skip
                refine w_iconst rfl ?_
                exact w_ireturn rfl ⟨by first | rfl | (congr 2; omega), by rfl⟩
    · rw [if_neg h]
      refine w_iload rfl rfl (w_iload rfl rfl (w_iload rfl rfl ?_))
      refine w_call (Or.inl rfl) (hT1) (by omega) nof_72 rfl rfl rfl rfl trivial rfl ?_
      refine w_istore (ls2 := [_, _, _, _, _, _, _, _, _, _]) rfl rfl rfl (w_iload rfl rfl ?_)
      refine w_if_ge (tgt := 18) rfl (by first | assumption | exact i32_0 | (unfold i32 at *; omega)) rfl (fun c11 => ?_) (fun c11 => ?_)
      · skip
        exfalso; omega
      · skip
        refine w_iconst rfl (w_goto (tgt := 19) rfl rfl (w_istore (ls2 := [_, _, _, _, _, _, _, _, _, _]) rfl rfl rfl (w_iload rfl rfl (w_iload rfl rfl (w_iload rfl rfl (w_iload rfl rfl ?_))))))
        refine w_call (Or.inl rfl) (hT2) (by omega) nof_72 rfl rfl rfl rfl trivial rfl ?_
        refine w_imul rfl (w_istore (ls2 := [_, _, _, _, _, _, _, _, _, _]) rfl rfl rfl (w_iload rfl rfl (w_iload rfl rfl (w_iload rfl rfl (w_iload rfl rfl ?_)))))
        refine w_call (Or.inl rfl) (hT3) (by omega) nof_72 rfl rfl rfl rfl trivial rfl ?_
        refine w_imul rfl (w_istore (ls2 := [_, _, _, _, _, _, _, _, _, _]) rfl rfl rfl (w_iload rfl rfl (w_iload rfl rfl (w_iload rfl rfl (w_iload rfl rfl ?_)))))
        refine w_call (Or.inl rfl) (hT4) (by omega) nof_72 rfl rfl rfl rfl trivial rfl ?_
        refine w_imul rfl (w_istore (ls2 := [_, _, _, _, _, _, _, _, _, _]) rfl rfl rfl (w_iload rfl rfl ?_))
        refine w_if_eq (tgt := 76) rfl (by first | assumption | exact i32_0 | (unfold i32 at *; omega)) rfl (fun c58 => ?_) (fun c58 => ?_)
        · skip
          exfalso; omega
        · skip
          refine w_iload rfl rfl ?_
          refine w_if_le (tgt := 76) rfl (by first | assumption | exact i32_0 | (unfold i32 at *; omega)) rfl (fun c63 => ?_) (fun c63 => ?_)
          · skip
            exfalso; omega
          · skip
            refine w_iload rfl rfl ?_
            refine w_if_le (tgt := 76) rfl (by first | assumption | exact i32_0 | (unfold i32 at *; omega)) rfl (fun c68 => ?_) (fun c68 => ?_)
            · skip
              exfalso; omega
            · skip
              refine w_iload rfl rfl ?_
              refine w_if_gt (tgt := 80) rfl (by first | assumption | exact i32_0 | (unfold i32 at *; omega)) rfl (fun c73 => ?_) (fun c73 => ?_)
              · skip
                refine w_aload rfl rfl (w_iload rfl rfl ?_)
                refine w_call (Or.inr rfl) (e_at_s ht hc a1.1 ha) (by omega) nof_31 rfl rfl rfl rfl (by first | rfl | (show cKB[_]? = _; assumption)) rfl ?_
                refine w_iload rfl rfl (w_imul rfl (w_aload rfl rfl (w_iload rfl rfl ?_)))
                refine w_call (Or.inr rfl) (e_at_s ht hc b1.1 hb) (by omega) nof_31 rfl rfl rfl rfl (by first | rfl | (show cKB[_]? = _; assumption)) rfl ?_
                refine w_iload rfl rfl (w_imul rfl (w_iadd rfl (w_aload rfl rfl (w_iload rfl rfl ?_))))
                refine w_call (Or.inr rfl) (e_at_s ht hc c1.1 he) (by omega) nof_31 rfl rfl rfl rfl (by first | rfl | (show cKB[_]? = _; assumption)) rfl ?_
                refine w_iload rfl rfl (w_imul rfl (w_iadd rfl (w_iload rfl rfl (w_iload rfl rfl (w_imul rfl ?_)))))
                refine w_call (Or.inl rfl) (e_below (t := t) M (by omega) (by unfold i32; omega) (by omega)) (by omega) nof_116 rfl rfl rfl rfl trivial rfl ?_
                exact w_ireturn rfl ⟨by first | rfl | (congr 2; omega), by rfl⟩
              · skip
                exfalso; omega
  · rw [if_neg hw]
    have m1 := mul_le (d := ca) (c := 1 * A) (A := 999) (B := 64) a1.2.2 (by omega)
    have m2 := mul_le (d := cb) (c := 1 * B) (A := 999) (B := 64) b1.2.2 (by omega)
    have m3 := mul_le (d := ce) (c := 1 * C) (A := 999) (B := 64) c1.2.2 (by omega)
    by_cases h : W = 0 ∨ 1 * A ≤ 0 ∨ 1 * B ≤ 0 ∨ 1 * C ≤ 0
    · rw [if_pos h]
      refine w_iload rfl rfl (w_iload rfl rfl (w_iload rfl rfl ?_))
      refine w_call (Or.inl rfl) (hT1) (by omega) nof_72 rfl rfl rfl rfl trivial rfl ?_
      refine w_istore (ls2 := [_, _, _, _, _, _, _, _, _, _]) rfl rfl rfl (w_iload rfl rfl ?_)
      refine w_if_ge (tgt := 18) rfl (by first | assumption | exact i32_0 | (unfold i32 at *; omega)) rfl (fun c11 => ?_) (fun c11 => ?_)
      · skip
        refine w_iconst rfl (w_istore (ls2 := [_, _, _, _, _, _, _, _, _, _]) rfl rfl rfl (w_iload rfl rfl (w_iload rfl rfl (w_iload rfl rfl (w_iload rfl rfl ?_)))))
        refine w_call (Or.inl rfl) (hT2) (by omega) nof_72 rfl rfl rfl rfl trivial rfl ?_
        refine w_imul rfl (w_istore (ls2 := [_, _, _, _, _, _, _, _, _, _]) rfl rfl rfl (w_iload rfl rfl (w_iload rfl rfl (w_iload rfl rfl (w_iload rfl rfl ?_)))))
        refine w_call (Or.inl rfl) (hT3) (by omega) nof_72 rfl rfl rfl rfl trivial rfl ?_
        refine w_imul rfl (w_istore (ls2 := [_, _, _, _, _, _, _, _, _, _]) rfl rfl rfl (w_iload rfl rfl (w_iload rfl rfl (w_iload rfl rfl (w_iload rfl rfl ?_)))))
        refine w_call (Or.inl rfl) (hT4) (by omega) nof_72 rfl rfl rfl rfl trivial rfl ?_
        refine w_imul rfl (w_istore (ls2 := [_, _, _, _, _, _, _, _, _, _]) rfl rfl rfl (w_iload rfl rfl ?_))
        refine w_if_eq (tgt := 76) rfl (by first | assumption | exact i32_0 | (unfold i32 at *; omega)) rfl (fun c58 => ?_) (fun c58 => ?_)
        · skip
          refine w_iconst rfl ?_
          exact w_ireturn rfl ⟨by first | rfl | (congr 2; omega), by rfl⟩
        · skip
          refine w_iload rfl rfl ?_
          refine w_if_le (tgt := 76) rfl (by first | assumption | exact i32_0 | (unfold i32 at *; omega)) rfl (fun c63 => ?_) (fun c63 => ?_)
          · skip
            refine w_iconst rfl ?_
            exact w_ireturn rfl ⟨by first | rfl | (congr 2; omega), by rfl⟩
          · skip
            refine w_iload rfl rfl ?_
            refine w_if_le (tgt := 76) rfl (by first | assumption | exact i32_0 | (unfold i32 at *; omega)) rfl (fun c68 => ?_) (fun c68 => ?_)
            · skip
              refine w_iconst rfl ?_
              exact w_ireturn rfl ⟨by first | rfl | (congr 2; omega), by rfl⟩
            · skip
              refine w_iload rfl rfl ?_
              refine w_if_gt (tgt := 80) rfl (by first | assumption | exact i32_0 | (unfold i32 at *; omega)) rfl (fun c73 => ?_) (fun c73 => ?_)
              · skip
                exfalso; omega
              · skip
                refine w_iconst rfl ?_
                exact w_ireturn rfl ⟨by first | rfl | (congr 2; omega), by rfl⟩
      · skip
        exfalso; omega
    · rw [if_neg h]
      refine w_iload rfl rfl (w_iload rfl rfl (w_iload rfl rfl ?_))
      refine w_call (Or.inl rfl) (hT1) (by omega) nof_72 rfl rfl rfl rfl trivial rfl ?_
      refine w_istore (ls2 := [_, _, _, _, _, _, _, _, _, _]) rfl rfl rfl (w_iload rfl rfl ?_)
      refine w_if_ge (tgt := 18) rfl (by first | assumption | exact i32_0 | (unfold i32 at *; omega)) rfl (fun c11 => ?_) (fun c11 => ?_)
      · skip
        refine w_iconst rfl (w_istore (ls2 := [_, _, _, _, _, _, _, _, _, _]) rfl rfl rfl (w_iload rfl rfl (w_iload rfl rfl (w_iload rfl rfl (w_iload rfl rfl ?_)))))
        refine w_call (Or.inl rfl) (hT2) (by omega) nof_72 rfl rfl rfl rfl trivial rfl ?_
        refine w_imul rfl (w_istore (ls2 := [_, _, _, _, _, _, _, _, _, _]) rfl rfl rfl (w_iload rfl rfl (w_iload rfl rfl (w_iload rfl rfl (w_iload rfl rfl ?_)))))
        refine w_call (Or.inl rfl) (hT3) (by omega) nof_72 rfl rfl rfl rfl trivial rfl ?_
        refine w_imul rfl (w_istore (ls2 := [_, _, _, _, _, _, _, _, _, _]) rfl rfl rfl (w_iload rfl rfl (w_iload rfl rfl (w_iload rfl rfl (w_iload rfl rfl ?_)))))
        refine w_call (Or.inl rfl) (hT4) (by omega) nof_72 rfl rfl rfl rfl trivial rfl ?_
        refine w_imul rfl (w_istore (ls2 := [_, _, _, _, _, _, _, _, _, _]) rfl rfl rfl (w_iload rfl rfl ?_))
        refine w_if_eq (tgt := 76) rfl (by first | assumption | exact i32_0 | (unfold i32 at *; omega)) rfl (fun c58 => ?_) (fun c58 => ?_)
        · skip
          exfalso; omega
        · skip
          refine w_iload rfl rfl ?_
          refine w_if_le (tgt := 76) rfl (by first | assumption | exact i32_0 | (unfold i32 at *; omega)) rfl (fun c63 => ?_) (fun c63 => ?_)
          · skip
            exfalso; omega
          · skip
            refine w_iload rfl rfl ?_
            refine w_if_le (tgt := 76) rfl (by first | assumption | exact i32_0 | (unfold i32 at *; omega)) rfl (fun c68 => ?_) (fun c68 => ?_)
            · skip
              exfalso; omega
            · skip
              refine w_iload rfl rfl ?_
              refine w_if_gt (tgt := 80) rfl (by first | assumption | exact i32_0 | (unfold i32 at *; omega)) rfl (fun c73 => ?_) (fun c73 => ?_)
              · skip
                refine w_aload rfl rfl (w_iload rfl rfl ?_)
                refine w_call (Or.inr rfl) (e_at_s ht hc a1.1 ha) (by omega) nof_31 rfl rfl rfl rfl (by first | rfl | (show cKB[_]? = _; assumption)) rfl ?_
                refine w_iload rfl rfl (w_imul rfl (w_aload rfl rfl (w_iload rfl rfl ?_)))
                refine w_call (Or.inr rfl) (e_at_s ht hc b1.1 hb) (by omega) nof_31 rfl rfl rfl rfl (by first | rfl | (show cKB[_]? = _; assumption)) rfl ?_
                refine w_iload rfl rfl (w_imul rfl (w_iadd rfl (w_aload rfl rfl (w_iload rfl rfl ?_))))
                refine w_call (Or.inr rfl) (e_at_s ht hc c1.1 he) (by omega) nof_31 rfl rfl rfl rfl (by first | rfl | (show cKB[_]? = _; assumption)) rfl ?_
                refine w_iload rfl rfl (w_imul rfl (w_iadd rfl (w_iload rfl rfl (w_iload rfl rfl (w_imul rfl ?_)))))
                refine w_call (Or.inl rfl) (e_below (t := t) M (by omega) (by unfold i32; omega) (by omega)) (by omega) nof_116 rfl rfl rfl rfl trivial rfl ?_
                exact w_ireturn rfl ⟨by first | rfl | (congr 2; omega), by rfl⟩
              · skip
                exfalso; omega
      · skip
        exfalso; omega
