/-! ===== the model's lines placed ===== -/
theorem mE_cg {a i : Nat} {R : List (Nat → Int)} {x y : Nat → Int} {M : mM} (h : mE a (R.take i ++ x :: R.drop i) M) (hi : i ≤ R.length) (hxy : ∀ t, t < 6 → x t = y t) : mE a (R.take i ++ y :: R.drop i) M := by
  have hl : (R.take i ++ x :: R.drop i)[i]? = some x := by
    rw [List.getElem?_append_right (by rw [List.length_take]; omega), List.length_take, show i - min i R.length = 0 by omega]
    rfl
  rw [← set_ins R i x y hi]
  refine mE_set h (List.getElem?_eq_some_iff.mp hl).1 ?_ rfl ?_ (fun _ _ _ _ => rfl)
  · intro t ht
    rw [← hxy t ht]
    exact h.2.2.1 x (List.mem_of_getElem? hl) t ht
  · intro t ht
    rw [← hxy t ht]
    exact h.2.2.2 i x hl t ht
def lnG (p q : Nat) : Nat := Nat.gcd (pi q - pi p).natAbs (pj q - pj p).natAbs
def luA (p q : Nat) : Int := (pi q - pi p).tdiv (lnG p q : Int)
def lvA (p q : Nat) : Int := (pj q - pj p).tdiv (lnG p q : Int)
def lFl (u v : Int) : Bool := decide (v < 0) || (decide (v = 0) && decide (0 < u))
def lnPut (R : List (Nat → Int)) (p q u v : Int) : List (Nat → Int) := match R[posE p q R]? with
  | some e => if e 0 = p ∧ e 1 = q then R.set (posE p q R) (sR (sR e 4 u) 5 v) else insE R p q (-1000000) u v
  | none => insE R p q (-1000000) u v
theorem lnPut_len (R : List (Nat → Int)) (p q u v : Int) : R.length ≤ (lnPut R p q u v).length := by
  unfold lnPut
  split
  · split
    · rw [List.length_set]; exact Nat.le_refl _
    · rw [insE_len]; omega
  · rw [insE_len]; omega
def lnStep (p q : Nat) (R : List (Nat → Int)) : List (Nat → Int) := lnPut R p q (if lFl (luA p q) (lvA p q) = true then -(lvA p q) else lvA p q) (if lFl (luA p q) (lvA p q) = true then luA p q else -(luA p q))
def lnB (f : Cv) (p : Nat) (R : List (Nat → Int)) : Nat → List (Nat → Int)
  | 0 => R
  | n + 1 => if p < n ∧ hasF f p = true ∧ hasF f n = true ∧ arL f p n (luA p n) (lvA p n) 25 = true then lnStep p n (lnB f p R n) else lnB f p R n
def lnA (f : Cv) : Nat → List (Nat → Int)
  | 0 => []
  | n + 1 => lnB f n (lnA f n) 25
theorem lnB_len (f : Cv) (p : Nat) (R : List (Nat → Int)) : ∀ n m, n ≤ m → (lnB f p R n).length ≤ (lnB f p R m).length
  | n, 0, h => by obtain rfl : n = 0 := by omega
                  exact Nat.le_refl _
  | n, m + 1, h => by
    by_cases q : n = m + 1
    · rw [q]; exact Nat.le_refl _
    · refine Nat.le_trans (lnB_len f p R n m (by omega)) ?_
      have e : lnB f p R (m + 1) = if p < m ∧ hasF f p = true ∧ hasF f m = true ∧ arL f p m (luA p m) (lvA p m) 25 = true then lnStep p m (lnB f p R m) else lnB f p R m := rfl
      rw [e]
      split
      · exact lnPut_len _ _ _ _ _
      · exact Nat.le_refl _
theorem lnB_lo (f : Cv) (p : Nat) (R : List (Nat → Int)) : ∀ n, n ≤ p + 1 → lnB f p R n = R
  | 0, _ => rfl
  | n + 1, h => by unfold lnB; rw [if_neg (by omega)]; exact lnB_lo f p R n (by omega)
theorem lnA_len (f : Cv) : ∀ n m, n ≤ m → (lnA f n).length ≤ (lnA f m).length
  | n, 0, h => by obtain rfl : n = 0 := by omega
                  exact Nat.le_refl _
  | n, m + 1, h => by
    by_cases q : n = m + 1
    · rw [q]; exact Nat.le_refl _
    · exact Nat.le_trans (lnA_len f n m (by omega)) (lnB_len f m (lnA f m) 0 25 (by decide))
theorem pij_inj {p q : Nat} (h : p ≠ q) : ¬ (pi q - pi p = 0 ∧ pj q - pj p = 0) := by
  unfold pi pj
  omega
theorem lg_pos {p q : Nat} (hp : p < 25) (hq : q < 25) (h : p ≠ q) : 0 < lnG p q ∧ lnG p q ≤ 8 := by
  have b1 := pi_le hp
  have b2 := pi_le hq
  have b3 := pj_le p
  have b4 := pj_le q
  exact gcd_le8 (by omega) (by omega) (pij_inj h)
theorem tdivN_le4 {x : Int} {g : Nat} (hx : -4 ≤ x ∧ x ≤ 4) : -4 ≤ x.tdiv (g : Int) ∧ x.tdiv (g : Int) ≤ 4 := by
  have h1 : (x.tdiv (g : Int)).natAbs ≤ x.natAbs := by
    rw [Int.natAbs_tdiv]; exact Nat.div_le_self _ _
  omega
theorem luv_ne {p q : Nat} (h : p ≠ q) : ¬ (luA p q = 0 ∧ lvA p q = 0) := by
  rintro ⟨h1, h2⟩
  have d1 : (lnG p q : Int) ∣ (pi q - pi p) := Int.ofNat_dvd_left.mpr (Nat.gcd_dvd_left _ _)
  have d2 : (lnG p q : Int) ∣ (pj q - pj p) := Int.ofNat_dvd_left.mpr (Nat.gcd_dvd_right _ _)
  have e1 := Int.mul_tdiv_cancel' d1
  have e2 := Int.mul_tdiv_cancel' d2
  have h1 : (pi q - pi p).tdiv (lnG p q : Int) = 0 := h1
  have h2 : (pj q - pj p).tdiv (lnG p q : Int) = 0 := h2
  rw [h1, Int.mul_zero] at e1
  rw [h2, Int.mul_zero] at e2
  exact pij_inj h ⟨e1.symm, e2.symm⟩
