/-! ===== sets, counts, floor ===== -/
theorem bitI_ushr {n p : Nat} (hn : n < 2 ^ 31) (hp : p < 32) : bitI (fun x y => (x.toUInt32 >>> (y.toUInt32 &&& Int32.toUInt32 31)).toInt32) (n : Int) (p : Int) = ((n >>> p : Nat) : Int) := by
  have hlt : n >>> p < 2 ^ 31 := Nat.lt_of_le_of_lt (Nat.shiftRight_le n p) hn
  refine bitI_nat ?_ hlt
  apply b_ext
  intro i hi
  rw [b_ushr p hp (nI n) i, bt_nI hi, Nat.testBit_shiftRight]
  by_cases h : p + i < 32
  · rw [bt_nI h]
  · rw [b_big (by omega)]
    exact (Nat.testBit_lt_two_pow (Nat.lt_of_lt_of_le hn (Nat.pow_le_pow_right (by decide) (by omega)))).symm
theorem bAnd {a b : Int} {n m : Nat} (ha : a = (n : Int)) (hb : b = (m : Int)) (hn : n < 2 ^ 31) : bitI (· &&& ·) a b = ((n &&& m : Nat) : Int) := by
  subst ha; subst hb; exact bitI_and hn
theorem bOr {a b : Int} {n m : Nat} (ha : a = (n : Int)) (hb : b = (m : Int)) (hn : n < 2 ^ 31) (hm : m < 2 ^ 31) : bitI (· ||| ·) a b = ((n ||| m : Nat) : Int) := by
  subst ha; subst hb; exact bitI_or hn hm
theorem bUsh {a b : Int} {n m : Nat} (ha : a = (n : Int)) (hb : b = (m : Int)) (hn : n < 2 ^ 31) (hm : m < 32) : bitI (fun x y => (x.toUInt32 >>> (y.toUInt32 &&& Int32.toUInt32 31)).toInt32) a b = ((n >>> m : Nat) : Int) := by
  subst ha; subst hb; exact bitI_ushr hn hm
def pop1 (n : Nat) : Nat := n - ((n >>> 1) &&& 1431655765)
def pop2 (n : Nat) : Nat := (n &&& 858993459) + ((n >>> 2) &&& 858993459)
def pop3 (n : Nat) : Nat := (n + (n >>> 4)) &&& 252645135
def popc (n : Nat) : Nat := (fun d => (d + (d >>> 16)) &&& 63) ((fun c => c + (c >>> 8)) (pop3 (pop2 (pop1 n))))
theorem e_bitCount (n : Nat) (M : mM) (hn : n < 2 ^ 25) : E 1 43 [vI n] M (some (vI (popc n))) M := by
  have l1 : (n >>> 1) &&& 1431655765 ≤ n := Nat.le_trans Nat.and_le_left (Nat.shiftRight_le n 1)
  have e1 : (n : Int) - (((n >>> 1) &&& 1431655765 : Nat) : Int) = ((pop1 n : Nat) : Int) := by unfold pop1; omega
  have l2 : pop1 n < 2 ^ 25 := by unfold pop1; omega
  generalize hA : pop1 n = A at *
  have l3 : A &&& 858993459 ≤ A := Nat.and_le_left
  have l4 : (A >>> 2) &&& 858993459 ≤ A := Nat.le_trans Nat.and_le_left (Nat.shiftRight_le A 2)
  have e2 : ((A &&& 858993459 : Nat) : Int) + (((A >>> 2) &&& 858993459 : Nat) : Int) = ((pop2 A : Nat) : Int) := by unfold pop2; omega
  have l5 : pop2 A < 2 ^ 26 := by unfold pop2; omega
  generalize hB : pop2 A = B at *
  have l6 : B >>> 4 ≤ B := Nat.shiftRight_le B 4
  have e3 : (B : Int) + ((B >>> 4 : Nat) : Int) = ((B + (B >>> 4) : Nat) : Int) := by omega
  have l7 : pop3 B < 2 ^ 27 := Nat.lt_of_le_of_lt Nat.and_le_left (by omega)
  have e4 : ((B + (B >>> 4)) &&& 252645135) = pop3 B := rfl
  generalize hC : pop3 B = C at *
  have l8 : C >>> 8 ≤ C := Nat.shiftRight_le C 8
  have e5 : (C : Int) + ((C >>> 8 : Nat) : Int) = ((C + (C >>> 8) : Nat) : Int) := by omega
  have hr : popc n = ((C + (C >>> 8)) + ((C + (C >>> 8)) >>> 16)) &&& 63 := by unfold popc; rw [hA, hB, hC]
  rw [hr]
  generalize hF : C + (C >>> 8) = F at *
  have l9 : F < 2 ^ 28 := by omega
  have l10 : F >>> 16 ≤ F := Nat.shiftRight_le F 16
  have e6 : (F : Int) + ((F >>> 16 : Nat) : Int) = ((F + (F >>> 16) : Nat) : Int) := by omega
  refine e_in (ls := [vI n]) mq_43 (ml_43 rfl) rfl fun D hD => ?_
  refine w_iload rfl rfl (w_iload rfl rfl (w_iconst rfl (w_iushr rfl (bUsh (n := n) (m := 1) rfl rfl (by omega) (by decide)) ?_)))
  refine w_iconst rfl (w_iand rfl (bAnd (n := n >>> 1) (m := 1431655765) rfl rfl (by have := Nat.shiftRight_le n 1; omega)) (w_isub rfl (w_istore rfl rfl rfl ?_)))
  refine w_iload rfl rfl (w_iconst rfl (w_iand rfl (bAnd (n := A) (m := 858993459) e1 rfl (by omega)) (w_iload rfl rfl ?_)))
  refine w_iconst rfl (w_iushr rfl (bUsh (n := A) (m := 2) e1 rfl (by omega) (by decide)) (w_iconst rfl (w_iand rfl (bAnd (n := A >>> 2) (m := 858993459) rfl rfl (by have := Nat.shiftRight_le A 2; omega)) ?_)))
  refine w_iadd rfl (w_istore rfl rfl rfl (w_iload rfl rfl (w_iload rfl rfl ?_)))
  refine w_iconst rfl (w_iushr rfl (bUsh (n := B) (m := 4) e2 rfl (by omega) (by decide)) (w_iadd rfl (w_iconst rfl ?_)))
  refine w_iand rfl (show _ = ((C : Nat) : Int) from by rw [← e4]; exact bAnd (n := B + (B >>> 4)) (m := 252645135) (by rw [e2, e3]) rfl (by omega)) (w_istore rfl rfl rfl (w_iload rfl rfl (w_iload rfl rfl ?_)))
  refine w_iconst rfl (w_iushr rfl (bUsh (n := C) (m := 8) rfl rfl (by omega) (by decide)) (w_iadd rfl (w_istore rfl rfl rfl ?_)))
  refine w_iload rfl rfl (w_iload rfl rfl (w_iconst rfl (w_iushr rfl (bUsh (n := F) (m := 16) e5 rfl (by omega) (by decide)) ?_)))
  refine w_iadd rfl (w_istore rfl rfl rfl (w_iload rfl rfl (w_iconst rfl ?_)))
  refine w_iand rfl (bAnd (n := F + (F >>> 16)) (m := 63) (by rw [e5, e6]) rfl (by omega)) ?_
  exact w_ireturn rfl ⟨by rfl, by rfl⟩
/-- the set of the places of which P tells true -/
def mk (P : Nat → Bool) : Nat → Nat
  | 0 => 0
  | n + 1 => mk P n ||| (if P n = true then 2 ^ n else 0)
theorem mk_tb (P : Nat → Bool) (k : Nat) : ∀ n, (mk P n).testBit k = (decide (k < n) && P k)
  | 0 => by simp [mk]
  | n + 1 => by
    unfold mk
    rw [Nat.testBit_or, mk_tb P k n]
    by_cases h : k = n
    · subst h
      cases hp : P k
      · simp
      · simp
    · have h2 : (if P n = true then 2 ^ n else 0).testBit k = false := by
        split
        · rw [Nat.testBit_two_pow]; exact decide_eq_false (fun q => h q.symm)
        · simp
      rw [h2, Bool.or_false]
      congr 1
      by_cases h3 : k < n
      · simp [h3]; omega
      · simp [h3]; omega
theorem mk_lt (P : Nat → Bool) (n : Nat) : mk P n < 2 ^ n := by
  apply Nat.lt_pow_two_of_testBit
  intro i hi
  rw [mk_tb]
  simp; omega
theorem mk_cong {P Q : Nat → Bool} {n m : Nat} (h : ∀ k, (decide (k < n) && P k) = (decide (k < m) && Q k)) : mk P n = mk Q m := Nat.eq_of_testBit_eq fun k => by rw [mk_tb, mk_tb, h]
def pickS (P : Nat → Bool) : List Nat → Nat
  | [] => 0
  | v :: vs => pickS P vs ||| (if P v = true then 2 ^ v else 0)
def cntS (P : Nat → Bool) : List Nat → Nat
  | [] => 0
  | v :: vs => cntS P vs + (if P v = true then 1 else 0)
def chkS : List Nat → Nat → Nat → Bool
  | [], m, c => Nat.beq (popc m) c
  | v :: vs, m, c => chkS vs m c && chkS vs (m ||| 2 ^ v) (c + 1)
def placesL : List Nat := [0, 1, 2, 3, 4, 5, 6, 7, 8, 10, 11, 12, 15, 16, 20]
set_option maxRecDepth 100000 in
theorem chkS_ok : chkS placesL 0 0 = true := by decide +kernel
theorem chkS_use (P : Nat → Bool) : ∀ (l : List Nat) (m c : Nat), chkS l m c = true → popc (m ||| pickS P l) = c + cntS P l
  | [], m, c, h => by
    have := Nat.eq_of_beq_eq_true h
    simpa [pickS, cntS] using this
  | v :: vs, m, c, h => by
    unfold chkS at h
    rw [Bool.and_eq_true] at h
    cases hv : P v
    · have := chkS_use P vs m c h.1
      simp [pickS, cntS, hv, this]
    · have := chkS_use P vs _ _ h.2
      simp only [pickS, cntS, hv, if_true]
      rw [Nat.or_comm (pickS P vs), ← Nat.or_assoc, this]
      omega
theorem popc_mk {P : Nat → Bool} (h : ∀ k, k < 21 → P k = true → k / 5 + k % 5 ≤ 4) : popc (mk P 21) = fb_ct P 21 := by
  have e9 : P 9 = false := by cases q : P 9 with | false => rfl | true => exact absurd (h 9 (by decide) q) (by decide)
  have e13 : P 13 = false := by cases q : P 13 with | false => rfl | true => exact absurd (h 13 (by decide) q) (by decide)
  have e14 : P 14 = false := by cases q : P 14 with | false => rfl | true => exact absurd (h 14 (by decide) q) (by decide)
  have e17 : P 17 = false := by cases q : P 17 with | false => rfl | true => exact absurd (h 17 (by decide) q) (by decide)
  have e18 : P 18 = false := by cases q : P 18 with | false => rfl | true => exact absurd (h 18 (by decide) q) (by decide)
  have e19 : P 19 = false := by cases q : P 19 with | false => rfl | true => exact absurd (h 19 (by decide) q) (by decide)
  have hm : mk P 21 = pickS P placesL := by
    simp only [mk, placesL, pickS, e9, e13, e14, e17, e18, e19]
    simp only [Nat.or_assoc, Nat.zero_or, Nat.or_zero, if_false, Bool.false_eq_true]
    ac_rfl
  have hc : fb_ct P 21 = cntS P placesL := by
    simp only [fb_ct, placesL, cntS, e9, e13, e14, e17, e18, e19]
    simp only [if_false, Bool.false_eq_true]
    omega
  rw [hm, hc]
  have := chkS_use P placesL 0 0 chkS_ok
  simpa using this
