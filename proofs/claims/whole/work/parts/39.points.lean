/-! ===== points: kept in parts of 720720 ===== -/
abbrev Pt := Int × Int × Int
abbrev ptLt (P Q : Pt) : Prop := P.1 < Q.1 ∨ (P.1 = Q.1 ∧ P.2.1 < Q.2.1)
abbrev ptEq (P Q : Pt) : Prop := P.1 = Q.1 ∧ P.2.1 = Q.2.1
def insP : List Pt → Pt → List Pt
  | [], P => [P]
  | Q :: L, P => if ptLt Q P then Q :: insP L P else if ptEq Q P then Q :: L else P :: Q :: L
def capP (L : List Pt) (P : Pt) : List Pt := if 16 ≤ L.length then L else insP L P
theorem insP_at {P : Pt} : ∀ (L : List Pt) (i : Nat), i ≤ L.length → (∀ j Q, j < i → L[j]? = some Q → ptLt Q P) → (∀ Q, L[i]? = some Q → ¬ ptLt Q P ∧ ¬ ptEq Q P) → insP L P = L.take i ++ P :: L.drop i := by
  intro L
  induction L with
  | nil => intro i hi _ _; simp at hi; subst hi; rfl
  | cons Q L ih =>
    intro i hi h1 h2
    cases i with
    | zero =>
      have := h2 Q rfl
      unfold insP
      rw [if_neg this.1, if_neg this.2]
      rfl
    | succ i =>
      have := h1 0 Q (by omega) rfl
      unfold insP
      rw [if_pos this, ih i (by simp at hi; omega) (fun j R hj hR => h1 (j + 1) R (by omega) (by simpa using hR)) (fun R hR => h2 R (by simpa using hR))]
      rfl
theorem insP_found {P Q : Pt} : ∀ (L : List Pt) (i : Nat), (∀ j Q, j < i → L[j]? = some Q → ptLt Q P) → L[i]? = some Q → ptEq Q P → insP L P = L := by
  intro L
  induction L with
  | nil => intro i _ h; simp at h
  | cons R L ih =>
    intro i h1 h2 h3
    cases i with
    | zero =>
      simp at h2; subst h2
      unfold insP
      rw [if_neg (fun q => by unfold ptLt at q; unfold ptEq at h3; omega), if_pos h3]
    | succ i =>
      unfold insP
      rw [if_pos (h1 0 R (by omega) rfl), ih i (fun j S hj hS => h1 (j + 1) S (by omega) (by simpa using hS)) (by simpa using h2) h3]
def numP (X : Int) : Int := X / (Int.gcd X 720720 : Int)
def denP (X : Int) : Int := 720720 / (Int.gcd X 720720 : Int)
theorem gcdP_pos (X : Int) : 0 < (Int.gcd X 720720 : Int) := by
  have : 0 < Int.gcd X 720720 := Int.gcd_pos_of_ne_zero_right X (by decide)
  omega
theorem numP_mul (X : Int) : numP X * (Int.gcd X 720720 : Int) = X := Int.ediv_mul_cancel (Int.gcd_dvd_left X 720720)
theorem denP_mul (X : Int) : denP X * (Int.gcd X 720720 : Int) = 720720 := Int.ediv_mul_cancel (Int.gcd_dvd_right X 720720)
theorem gcd1_eq {x d : Int} (hd : 0 < d) : gcd1 x d = Int.gcd x d := by
  have : 0 < Int.gcd x d := Int.gcd_pos_of_ne_zero_right x (by omega)
  unfold gcd1
  show max (Int.gcd x d) 1 = _
  omega
theorem frac_num {x d t : Int} (hd : 0 < d) (ht : 0 < t) (h : d * t = 720720) : numP (x * t) = x.tdiv (gcd1 x d) ∧ denP (x * t) = d.tdiv (gcd1 x d) := by
  have hg : (Int.gcd (x * t) 720720 : Int) = (Int.gcd x d : Int) * t := by
    rw [← h, Int.gcd_mul_right, Int.natCast_mul, Int.natAbs_of_nonneg (Int.le_of_lt ht)]
  rw [gcd1_eq hd, Int.tdiv_eq_ediv_of_dvd (Int.gcd_dvd_left x d), Int.tdiv_eq_ediv_of_dvd (Int.gcd_dvd_right x d)]
  unfold numP denP
  rw [hg]
  constructor
  · exact Int.mul_ediv_mul_of_pos_left x _ ht
  · rw [← h]; exact Int.mul_ediv_mul_of_pos_left d _ ht
/-- compared as fractions or as whole parts -/
theorem cmp_num {X x d t : Int} (hd : 0 < d) (ht : 0 < t) (h : d * t = 720720) : (numP X * d < x * denP X ↔ X < x * t) ∧ (x * denP X < numP X * d ↔ x * t < X) := by
  have hg := gcdP_pos X
  have h1 := numP_mul X
  have h2 := denP_mul X
  generalize (Int.gcd X 720720 : Int) = g at hg h1 h2
  generalize numP X = n at h1 ⊢
  generalize denP X = e at h2 ⊢
  have hgt : 0 < g * t := Int.mul_pos hg ht
  have a1 : n * d * (g * t) = X * 720720 := by rw [← h, ← h1]; simp only [Int.mul_assoc, Int.mul_comm, Int.mul_left_comm]
  have a2 : x * e * (g * t) = x * t * 720720 := by rw [← h2]; simp only [Int.mul_assoc, Int.mul_comm, Int.mul_left_comm]
  constructor
  · constructor
    · intro q
      have := Int.mul_lt_mul_of_pos_right q hgt
      omega
    · intro q
      refine Int.lt_of_mul_lt_mul_right (a := g * t) ?_ (Int.le_of_lt hgt)
      omega
  · constructor
    · intro q
      have := Int.mul_lt_mul_of_pos_right q hgt
      omega
    · intro q
      refine Int.lt_of_mul_lt_mul_right (a := g * t) ?_ (Int.le_of_lt hgt)
      omega
/-- fits the class's numbers -/
def ptOK (P : Pt) : Prop := (-100000 ≤ numP P.1 ∧ numP P.1 ≤ 100000 ∧ 1 ≤ denP P.1 ∧ denP P.1 ≤ 16) ∧ (-100000 ≤ numP P.2.1 ∧ numP P.2.1 ≤ 100000 ∧ 1 ≤ denP P.2.1 ∧ denP P.2.1 ≤ 16) ∧ -3000000 ≤ P.2.2 ∧ P.2.2 ≤ 3000000
theorem numP_le {x d t : Int} (hd : 0 < d ∧ d ≤ 16) (ht : 0 < t) (h : d * t = 720720) (hx : -100000 ≤ x ∧ x ≤ 100000) : -100000 ≤ numP (x * t) ∧ numP (x * t) ≤ 100000 ∧ 1 ≤ denP (x * t) ∧ denP (x * t) ≤ 16 := by
  have h1 := numP_mul (x * t)
  have h2 := denP_mul (x * t)
  have hg := gcdP_pos (x * t)
  have hf := frac_num (x := x) hd.1 ht h
  rw [gcd1_eq hd.1] at hf
  have hp : 0 < (Int.gcd x d : Int) := by
    have : 0 < Int.gcd x d := Int.gcd_pos_of_ne_zero_right x (by omega)
    omega
  have e1 : numP (x * t) * (Int.gcd x d : Int) = x := by rw [hf.1]; exact Int.tdiv_mul_cancel (Int.gcd_dvd_left x d)
  have e2 : denP (x * t) * (Int.gcd x d : Int) = d := by rw [hf.2]; exact Int.tdiv_mul_cancel (Int.gcd_dvd_right x d)
  generalize (Int.gcd x d : Int) = g at hp e1 e2
  generalize numP (x * t) = n at e1 ⊢
  generalize denP (x * t) = e at e2 ⊢
  have hn : -100000 ≤ n ∧ n ≤ 100000 := by
    constructor
    · rcases Int.lt_or_le n (-100000) with q | q
      · exfalso
        have : n * g ≤ n * 1 := Int.mul_le_mul_of_nonpos_left (by omega) (by omega)
        omega
      · exact q
    · rcases Int.lt_or_le 100000 n with q | q
      · exfalso
        have : n * 1 ≤ n * g := Int.mul_le_mul_of_nonneg_left (by omega) (by omega)
        omega
      · exact q
  refine ⟨hn.1, hn.2, ?_, ?_⟩
  · rcases Int.lt_or_le e 1 with q | q
    · exfalso
      have : e * g ≤ 0 * g := Int.mul_le_mul_of_nonneg_right (by omega) (by omega)
      omega
    · exact q
  · rcases Int.lt_or_le 16 e with q | q
    · exfalso
      have : e * 1 ≤ e * g := Int.mul_le_mul_of_nonneg_left (by omega) (by omega)
      omega
    · exact q
/-! the object -/
def isPts (p : Nat) : Prop := (cKB[p]? = some (0, 5) ∧ cRT p 0 = some (p + 1) ∧ cRT p 1 = some (p + 2) ∧ cRT p 2 = some (p + 3) ∧ cRT p 3 = some (p + 4) ∧ cRT p 4 = some (p + 5)) ∧ cKB[p + 1]? = some (1, 16) ∧ cKB[p + 2]? = some (1, 16) ∧ cKB[p + 3]? = some (1, 16) ∧ cKB[p + 4]? = some (1, 16) ∧ cKB[p + 5]? = some (1, 16)
theorem isPts_69 : isPts 69 := ⟨⟨rfl, rfl, rfl, rfl, rfl, rfl⟩, rfl, rfl, rfl, rfl, rfl⟩
theorem isPts_109 : isPts 109 := ⟨⟨rfl, rfl, rfl, rfl, rfl, rfl⟩, rfl, rfl, rfl, rfl, rfl⟩
theorem isPts_149 : isPts 149 := ⟨⟨rfl, rfl, rfl, rfl, rfl, rfl⟩, rfl, rfl, rfl, rfl, rfl⟩
def fldP (P : Pt) : Nat → Int
  | 0 => numP P.1
  | 1 => denP P.1
  | 2 => numP P.2.1
  | 3 => denP P.2.1
  | _ => P.2.2
def PtR (p : Nat) (L : List Pt) (M : mM) : Prop := M p 5 = (L.length : Int) ∧ L.length ≤ 16 ∧ (∀ (k : Nat) (P : Pt), L[k]? = some P → ptOK P ∧ ∀ i, i < 5 → M (p + 1 + i) k = fldP P i)
theorem PtR_fr {p : Nat} {L : List Pt} {M M1 : mM} (h : PtR p L M) (e : ∀ a, p ≤ a → a ≤ p + 5 → ∀ k, M1 a k = M a k) : PtR p L M1 := ⟨by rw [e p (by omega) (by omega)]; exact h.1, h.2.1, fun k P hk => ⟨(h.2.2 k P hk).1, fun i hi => by rw [e _ (by omega) (by omega)]; exact (h.2.2 k P hk).2 i hi⟩⟩
theorem e_pclear {p : Nat} {M : mM} (hp : isPts p) : E 1 70 [vR p] M none (upI M p 5 0) := by
  obtain ⟨⟨k0, k1, k2, k3, k4, k5⟩, b1, b2, b3, b4, b5⟩ := hp
  refine e_in (ls := [vR p]) mq_70 (ml_70 rfl) rfl fun D hD => ?_
  refine w_aload rfl rfl (w_iconst rfl (w_putI rfl (by first | rfl | assumption) rfl ?_))
  exact w_return rfl ⟨rfl, by rfl⟩
theorem PtR_nil {p : Nat} {M : mM} (e : M p 5 = 0) : PtR p [] M := ⟨e, by decide, fun k P h => by simp at h⟩
theorem e_markAt {p k : Nat} {L : List Pt} {M : mM} {P : Pt} (hp : isPts p) (h : PtR p L M) (hk : L[k]? = some P) : E 1 86 [vR p, vI k] M (some (vI P.2.2)) M := by
  obtain ⟨⟨k0, k1, k2, k3, k4, k5⟩, b1, b2, b3, b4, b5⟩ := hp
  obtain ⟨h1, h2, h3⟩ := h
  obtain ⟨h4, h5⟩ := h3 k P hk
  have hl : k < L.length := (List.getElem?_eq_some_iff.mp hk).1
  have e5 : M (p + 5) k = P.2.2 := h5 4 (by decide)
  refine e_in (ls := [vR p, vI k]) mq_86 (ml_86 rfl) rfl fun D hD => ?_
  refine w_iload rfl rfl ?_
  refine w_if_lt (tgt := 21) rfl (by first | assumption | exact i32_0 | (unfold i32 at *; omega)) rfl (fun c1 => ?_) (fun c1 => ?_)
  · skip
    exfalso; omega
  · skip
    refine w_iload rfl rfl (w_aload rfl rfl (w_getIV rfl (by first | rfl | assumption) (by first | exact Or.inl rfl | exact Or.inr rfl) (h1) ?_))
    refine w_icmp_ge (tgt := 21) rfl (by first | assumption | exact i32_0 | (unfold i32 at *; omega)) (by first | assumption | exact i32_0 | (unfold i32 at *; omega)) rfl (fun c9 => ?_) (fun c9 => ?_)
    · skip
      exfalso; omega
    · skip
      refine w_aload rfl rfl (w_getR rfl (by first | rfl | assumption) rfl (by first | rfl | assumption) (w_iload rfl rfl (w_ialoadV rfl (by first | rfl | assumption) (by omega) (by omega) (e5) (w_goto (tgt := 22) rfl rfl ?_))))
      exact w_ireturn rfl ⟨by first | rfl | (congr 2; omega), by rfl⟩
theorem e_coord {p k : Nat} {L : List Pt} {M : mM} {P : Pt} (hp : isPts p) (h : PtR p L M) (hk : L[k]? = some P) (i : Nat) (hi : i < 4) : E 1 92 [vR p, vI k, vI i] M (some (vI (fldP P i))) M := by
  obtain ⟨⟨k0, k1, k2, k3, k4, k5⟩, b1, b2, b3, b4, b5⟩ := hp
  obtain ⟨h1, h2, h3⟩ := h
  obtain ⟨h4, h5⟩ := h3 k P hk
  have hl : k < L.length := (List.getElem?_eq_some_iff.mp hk).1
  have e1 : M (p + 1) k = fldP P 0 := h5 0 (by decide)
  have e2 : M (p + 2) k = fldP P 1 := h5 1 (by decide)
  have e3 : M (p + 3) k = fldP P 2 := h5 2 (by decide)
  have e4 : M (p + 4) k = fldP P 3 := h5 3 (by decide)
  refine e_in (ls := [vR p, vI k, vI i]) mq_92 (ml_92 rfl) rfl fun D hD => ?_
  have hi4 : i = 0 ∨ i = 1 ∨ i = 2 ∨ i = 3 := by omega
  rcases hi4 with rfl | rfl | rfl | rfl
  · skip
    refine w_iload rfl rfl ?_
    refine w_if_lt (tgt := 12) rfl (by first | assumption | exact i32_0 | (unfold i32 at *; omega)) rfl (fun c1 => ?_) (fun c1 => ?_)
    · skip
      exfalso; omega
    · skip
      refine w_iload rfl rfl (w_aload rfl rfl (w_getIV rfl (by first | rfl | assumption) (by first | exact Or.inl rfl | exact Or.inr rfl) (h1) ?_))
      refine w_icmp_lt (tgt := 14) rfl (by first | assumption | exact i32_0 | (unfold i32 at *; omega)) (by first | assumption | exact i32_0 | (unfold i32 at *; omega)) rfl (fun c9 => ?_) (fun c9 => ?_)
      · skip
        refine w_iload rfl rfl ?_
        skip
        · skip
          refine w_tsw (tgt := 40) rfl (by first | assumption | exact i32_0 | (unfold i32 at *; omega)) (by rfl) ?_
          refine w_aload rfl rfl (w_getR rfl (by first | rfl | assumption) rfl (by first | rfl | assumption) (w_iload rfl rfl (w_ialoadV rfl (by first | rfl | assumption) (by omega) (by omega) (e1) ?_)))
          exact w_ireturn rfl ⟨by first | rfl | (congr 2; omega), by rfl⟩
      · skip
        exfalso; omega
  · skip
    refine w_iload rfl rfl ?_
    refine w_if_lt (tgt := 12) rfl (by first | assumption | exact i32_0 | (unfold i32 at *; omega)) rfl (fun c1 => ?_) (fun c1 => ?_)
    · skip
      exfalso; omega
    · skip
      refine w_iload rfl rfl (w_aload rfl rfl (w_getIV rfl (by first | rfl | assumption) (by first | exact Or.inl rfl | exact Or.inr rfl) (h1) ?_))
      refine w_icmp_lt (tgt := 14) rfl (by first | assumption | exact i32_0 | (unfold i32 at *; omega)) (by first | assumption | exact i32_0 | (unfold i32 at *; omega)) rfl (fun c9 => ?_) (fun c9 => ?_)
      · skip
        refine w_iload rfl rfl ?_
        skip
        · skip
          refine w_tsw (tgt := 47) rfl (by first | assumption | exact i32_0 | (unfold i32 at *; omega)) (by rfl) ?_
          refine w_aload rfl rfl (w_getR rfl (by first | rfl | assumption) rfl (by first | rfl | assumption) (w_iload rfl rfl (w_ialoadV rfl (by first | rfl | assumption) (by omega) (by omega) (e2) ?_)))
          exact w_ireturn rfl ⟨by first | rfl | (congr 2; omega), by rfl⟩
      · skip
        exfalso; omega
  · skip
    refine w_iload rfl rfl ?_
    refine w_if_lt (tgt := 12) rfl (by first | assumption | exact i32_0 | (unfold i32 at *; omega)) rfl (fun c1 => ?_) (fun c1 => ?_)
    · skip
      exfalso; omega
    · skip
      refine w_iload rfl rfl (w_aload rfl rfl (w_getIV rfl (by first | rfl | assumption) (by first | exact Or.inl rfl | exact Or.inr rfl) (h1) ?_))
      refine w_icmp_lt (tgt := 14) rfl (by first | assumption | exact i32_0 | (unfold i32 at *; omega)) (by first | assumption | exact i32_0 | (unfold i32 at *; omega)) rfl (fun c9 => ?_) (fun c9 => ?_)
      · skip
        refine w_iload rfl rfl ?_
        skip
        · skip
          refine w_tsw (tgt := 54) rfl (by first | assumption | exact i32_0 | (unfold i32 at *; omega)) (by rfl) ?_
          refine w_aload rfl rfl (w_getR rfl (by first | rfl | assumption) rfl (by first | rfl | assumption) (w_iload rfl rfl (w_ialoadV rfl (by first | rfl | assumption) (by omega) (by omega) (e3) ?_)))
          exact w_ireturn rfl ⟨by first | rfl | (congr 2; omega), by rfl⟩
      · skip
        exfalso; omega
  · skip
    refine w_iload rfl rfl ?_
    refine w_if_lt (tgt := 12) rfl (by first | assumption | exact i32_0 | (unfold i32 at *; omega)) rfl (fun c1 => ?_) (fun c1 => ?_)
    · skip
      exfalso; omega
    · skip
      refine w_iload rfl rfl (w_aload rfl rfl (w_getIV rfl (by first | rfl | assumption) (by first | exact Or.inl rfl | exact Or.inr rfl) (h1) ?_))
      refine w_icmp_lt (tgt := 14) rfl (by first | assumption | exact i32_0 | (unfold i32 at *; omega)) (by first | assumption | exact i32_0 | (unfold i32 at *; omega)) rfl (fun c9 => ?_) (fun c9 => ?_)
      · skip
        refine w_iload rfl rfl ?_
        skip
        · skip
          refine w_tsw (tgt := 61) rfl (by first | assumption | exact i32_0 | (unfold i32 at *; omega)) (by rfl) ?_
          refine w_aload rfl rfl (w_getR rfl (by first | rfl | assumption) rfl (by first | rfl | assumption) (w_iload rfl rfl (w_ialoadV rfl (by first | rfl | assumption) (by omega) (by omega) (e4) ?_)))
          exact w_ireturn rfl ⟨by first | rfl | (congr 2; omega), by rfl⟩
      · skip
        exfalso; omega
def cmpP (P Q : Pt) : Int := if P.1 < Q.1 then -1 else if Q.1 < P.1 then 1 else if P.2.1 < Q.2.1 then -1 else if Q.2.1 < P.2.1 then 1 else 0
theorem e_pcompare {p k : Nat} {L : List Pt} {M : mM} {P : Pt} {x y d t m : Int} (hp : isPts p) (h : PtR p L M) (hk : L[k]? = some P) (hx : -100000 ≤ x ∧ x ≤ 100000) (hy : -100000 ≤ y ∧ y ≤ 100000) (hd : 0 < d ∧ d ≤ 16) (ht : 0 < t) (hdt : d * t = 720720) : E 2 75 [vR p, vI k, vI x, vI y, vI d] M (some (vI (cmpP P (x * t, y * t, m)))) M := by
  obtain ⟨⟨k0, k1, k2, k3, k4, k5⟩, b1, b2, b3, b4, b5⟩ := hp
  obtain ⟨h1, h2, h3⟩ := h
  obtain ⟨⟨o1, o2, o3⟩, h5⟩ := h3 k P hk
  have hl : k < L.length := (List.getElem?_eq_some_iff.mp hk).1
  have e1 : M (p + 1) k = numP P.1 := h5 0 (by decide)
  have e2 : M (p + 2) k = denP P.1 := h5 1 (by decide)
  have e3 : M (p + 3) k = numP P.2.1 := h5 2 (by decide)
  have e4 : M (p + 4) k = denP P.2.1 := h5 3 (by decide)
  have c1 := cmp_num (X := P.1) (x := x) hd.1 ht hdt
  have c2 := cmp_num (X := P.2.1) (x := y) hd.1 ht hdt
  have l1 := mul_le (A := 100000) (B := 16) ⟨o1.1, o1.2.1⟩ (⟨by omega, hd.2⟩ : -16 ≤ d ∧ d ≤ 16)
  have l2 := mul_le (A := 100000) (B := 16) hx (⟨by omega, o1.2.2.2⟩ : -16 ≤ denP P.1 ∧ denP P.1 ≤ 16)
  have l3 := mul_le (A := 100000) (B := 16) ⟨o2.1, o2.2.1⟩ (⟨by omega, hd.2⟩ : -16 ≤ d ∧ d ≤ 16)
  have l4 := mul_le (A := 100000) (B := 16) hy (⟨by omega, o2.2.2.2⟩ : -16 ≤ denP P.2.1 ∧ denP P.2.1 ≤ 16)
  have hc1 := e_compare (numP P.1 * d) (x * denP P.1) M (by unfold i64; omega) (by unfold i64; omega)
  have hc2 := e_compare (numP P.2.1 * d) (y * denP P.2.1) M (by unfold i64; omega) (by unfold i64; omega)
  unfold cmpP
  simp only [c1.1, c1.2] at hc1
  simp only [c2.1, c2.2] at hc2
  show E 2 _ _ _ (some (vI (if P.1 < x * t then -1 else if x * t < P.1 then 1 else if P.2.1 < y * t then -1 else if y * t < P.2.1 then 1 else 0))) _
  refine e_in (ls := [vR p, vI k, vI x, vI y, vI d, vN]) mq_75 (ml_75 rfl) rfl fun D hD => ?_
  by_cases a1 : P.1 < x * t
  · rw [if_pos a1] at hc1 ⊢
    refine w_aload rfl rfl (w_getR rfl (by first | rfl | assumption) rfl (by first | rfl | assumption) (w_iload rfl rfl (w_ialoadV rfl (by first | rfl | assumption) (by omega) (by omega) (e1) (w_i2l rfl (by first | assumption | exact i32_0 | (unfold i32 at *; omega)) (w_iload rfl rfl (w_i2l rfl (by first | assumption | exact i32_0 | (unfold i32 at *; omega)) (w_lmul rfl ?_)))))))
    refine w_iload rfl rfl (w_i2l rfl (by first | assumption | exact i32_0 | (unfold i32 at *; omega)) (w_aload rfl rfl (w_getR rfl (by first | rfl | assumption) rfl (by first | rfl | assumption) (w_iload rfl rfl (w_ialoadV rfl (by first | rfl | assumption) (by omega) (by omega) (e2) (w_i2l rfl (by first | assumption | exact i32_0 | (unfold i32 at *; omega)) (w_lmul rfl ?_)))))))
    refine w_call (Or.inl rfl) (hc1) (by omega) nof_76 rfl rfl rfl rfl trivial rfl ?_
    refine w_istore (ls2 := [_, _, _, _, _, _]) rfl rfl rfl (w_iload rfl rfl ?_)
    refine w_if_eq (tgt := 36) rfl (by first | assumption | exact i32_0 | (unfold i32 at *; omega)) rfl (fun c => absurd c (by decide)) (fun _ => ?_)
    refine w_iload rfl rfl (w_goto (tgt := 60) rfl rfl ?_)
    exact w_ireturn rfl ⟨by first | rfl | (congr 2; omega), by rfl⟩
  · rw [if_neg a1] at hc1 ⊢
    by_cases a2 : x * t < P.1
    · rw [if_pos a2] at hc1 ⊢
      refine w_aload rfl rfl (w_getR rfl (by first | rfl | assumption) rfl (by first | rfl | assumption) (w_iload rfl rfl (w_ialoadV rfl (by first | rfl | assumption) (by omega) (by omega) (e1) (w_i2l rfl (by first | assumption | exact i32_0 | (unfold i32 at *; omega)) (w_iload rfl rfl (w_i2l rfl (by first | assumption | exact i32_0 | (unfold i32 at *; omega)) (w_lmul rfl ?_)))))))
      refine w_iload rfl rfl (w_i2l rfl (by first | assumption | exact i32_0 | (unfold i32 at *; omega)) (w_aload rfl rfl (w_getR rfl (by first | rfl | assumption) rfl (by first | rfl | assumption) (w_iload rfl rfl (w_ialoadV rfl (by first | rfl | assumption) (by omega) (by omega) (e2) (w_i2l rfl (by first | assumption | exact i32_0 | (unfold i32 at *; omega)) (w_lmul rfl ?_)))))))
      refine w_call (Or.inl rfl) (hc1) (by omega) nof_76 rfl rfl rfl rfl trivial rfl ?_
      refine w_istore (ls2 := [_, _, _, _, _, _]) rfl rfl rfl (w_iload rfl rfl ?_)
      refine w_if_eq (tgt := 36) rfl (by first | assumption | exact i32_0 | (unfold i32 at *; omega)) rfl (fun c => absurd c (by decide)) (fun _ => ?_)
      refine w_iload rfl rfl (w_goto (tgt := 60) rfl rfl ?_)
      exact w_ireturn rfl ⟨by first | rfl | (congr 2; omega), by rfl⟩
    · rw [if_neg a2] at hc1 ⊢
      refine w_aload rfl rfl (w_getR rfl (by first | rfl | assumption) rfl (by first | rfl | assumption) (w_iload rfl rfl (w_ialoadV rfl (by first | rfl | assumption) (by omega) (by omega) (e1) (w_i2l rfl (by first | assumption | exact i32_0 | (unfold i32 at *; omega)) (w_iload rfl rfl (w_i2l rfl (by first | assumption | exact i32_0 | (unfold i32 at *; omega)) (w_lmul rfl ?_)))))))
      refine w_iload rfl rfl (w_i2l rfl (by first | assumption | exact i32_0 | (unfold i32 at *; omega)) (w_aload rfl rfl (w_getR rfl (by first | rfl | assumption) rfl (by first | rfl | assumption) (w_iload rfl rfl (w_ialoadV rfl (by first | rfl | assumption) (by omega) (by omega) (e2) (w_i2l rfl (by first | assumption | exact i32_0 | (unfold i32 at *; omega)) (w_lmul rfl ?_)))))))
      refine w_call (Or.inl rfl) (hc1) (by omega) nof_76 rfl rfl rfl rfl trivial rfl ?_
      refine w_istore (ls2 := [_, _, _, _, _, _]) rfl rfl rfl (w_iload rfl rfl ?_)
      refine w_if_eq (tgt := 36) rfl (by first | assumption | exact i32_0 | (unfold i32 at *; omega)) rfl (fun _ => ?_) (fun c => absurd c (by decide))
      refine w_aload rfl rfl (w_getR rfl (by first | rfl | assumption) rfl (by first | rfl | assumption) (w_iload rfl rfl (w_ialoadV rfl (by first | rfl | assumption) (by omega) (by omega) (e3) (w_i2l rfl (by first | assumption | exact i32_0 | (unfold i32 at *; omega)) (w_iload rfl rfl (w_i2l rfl (by first | assumption | exact i32_0 | (unfold i32 at *; omega)) (w_lmul rfl ?_)))))))
      refine w_iload rfl rfl (w_i2l rfl (by first | assumption | exact i32_0 | (unfold i32 at *; omega)) (w_aload rfl rfl (w_getR rfl (by first | rfl | assumption) rfl (by first | rfl | assumption) (w_iload rfl rfl (w_ialoadV rfl (by first | rfl | assumption) (by omega) (by omega) (e4) (w_i2l rfl (by first | assumption | exact i32_0 | (unfold i32 at *; omega)) (w_lmul rfl ?_)))))))
      refine w_call (Or.inl rfl) (hc2) (by omega) nof_76 rfl rfl rfl rfl trivial rfl ?_
      exact w_ireturn rfl ⟨by first | rfl | (congr 2; omega), by rfl⟩
/-- a point's numbers taken over -/
def cpy (p src dst : Nat) (M : mM) : mM := fun a k => if p + 1 ≤ a ∧ a ≤ p + 5 ∧ k = dst then M a src else M a k
theorem e_pcopy {p src dst : Nat} {M : mM} (hp : isPts p) (h1 : src < 16) (h2 : dst < 16) : E 1 77 [vR p, vI src, vI dst] M none (cpy p src dst M) := by
  obtain ⟨⟨k0, k1, k2, k3, k4, k5⟩, b1, b2, b3, b4, b5⟩ := hp
  have hfin : upI (upI (upI (upI (upI M (p + 1) dst (M (p + 1) src)) (p + 2) dst (M (p + 2) src)) (p + 3) dst (M (p + 3) src)) (p + 4) dst (M (p + 4) src)) (p + 5) dst (M (p + 5) src) = cpy p src dst M := by
    funext a k
    unfold upI cpy
    by_cases hk : k = dst
    · by_cases q1 : a = p + 1
      · subst q1; subst hk
        rw [if_neg (by omega), if_neg (by omega), if_neg (by omega), if_neg (by omega), if_pos ⟨rfl, rfl⟩, if_pos (by omega)]
      · by_cases q2 : a = p + 2
        · subst q2; subst hk
          rw [if_neg (by omega), if_neg (by omega), if_neg (by omega), if_pos ⟨rfl, rfl⟩, if_pos (by omega)]
        · by_cases q3 : a = p + 3
          · subst q3; subst hk
            rw [if_neg (by omega), if_neg (by omega), if_pos ⟨rfl, rfl⟩, if_pos (by omega)]
          · by_cases q4 : a = p + 4
            · subst q4; subst hk
              rw [if_neg (by omega), if_pos ⟨rfl, rfl⟩, if_pos (by omega)]
            · by_cases q5 : a = p + 5
              · subst q5; subst hk
                rw [if_pos ⟨rfl, rfl⟩, if_pos (by omega)]
              · rw [if_neg (by omega), if_neg (by omega), if_neg (by omega), if_neg (by omega), if_neg (by omega), if_neg (by omega)]
    · rw [if_neg (by omega), if_neg (by omega), if_neg (by omega), if_neg (by omega), if_neg (by omega), if_neg (by omega)]
  refine e_in (ls := [vR p, vI src, vI dst]) mq_77 (ml_77 rfl) rfl fun D hD => ?_
  refine w_aload rfl rfl (w_getR rfl (by first | rfl | assumption) rfl (by first | rfl | assumption) (w_iload rfl rfl (w_aload rfl rfl (w_getR rfl (by first | rfl | assumption) rfl (by first | rfl | assumption) (w_iload rfl rfl (w_ialoadV rfl (by first | rfl | assumption) (by omega) (by omega) (rfl) (w_iastore rfl (by first | rfl | assumption) (by omega) (by omega) ?_)))))))
  refine w_aload rfl rfl (w_getR rfl (by first | rfl | assumption) rfl (by first | rfl | assumption) (w_iload rfl rfl (w_aload rfl rfl (w_getR rfl (by first | rfl | assumption) rfl (by first | rfl | assumption) (w_iload rfl rfl (w_ialoadV rfl (by first | rfl | assumption) (by omega) (by omega) ((if_neg (by omega))) (w_iastore rfl (by first | rfl | assumption) (by omega) (by omega) ?_)))))))
  refine w_aload rfl rfl (w_getR rfl (by first | rfl | assumption) rfl (by first | rfl | assumption) (w_iload rfl rfl (w_aload rfl rfl (w_getR rfl (by first | rfl | assumption) rfl (by first | rfl | assumption) (w_iload rfl rfl (w_ialoadV rfl (by first | rfl | assumption) (by omega) (by omega) ((if_neg (by omega)).trans (if_neg (by omega))) (w_iastore rfl (by first | rfl | assumption) (by omega) (by omega) ?_)))))))
  refine w_aload rfl rfl (w_getR rfl (by first | rfl | assumption) rfl (by first | rfl | assumption) (w_iload rfl rfl (w_aload rfl rfl (w_getR rfl (by first | rfl | assumption) rfl (by first | rfl | assumption) (w_iload rfl rfl (w_ialoadV rfl (by first | rfl | assumption) (by omega) (by omega) ((if_neg (by omega)).trans ((if_neg (by omega)).trans (if_neg (by omega)))) (w_iastore rfl (by first | rfl | assumption) (by omega) (by omega) ?_)))))))
  refine w_aload rfl rfl (w_getR rfl (by first | rfl | assumption) rfl (by first | rfl | assumption) (w_iload rfl rfl (w_aload rfl rfl (w_getR rfl (by first | rfl | assumption) rfl (by first | rfl | assumption) (w_iload rfl rfl (w_ialoadV rfl (by first | rfl | assumption) (by omega) (by omega) ((if_neg (by omega)).trans ((if_neg (by omega)).trans ((if_neg (by omega)).trans (if_neg (by omega))))) (w_iastore rfl (by first | rfl | assumption) (by omega) (by omega) ?_)))))))
  exact w_return rfl ⟨rfl, by exact hfin⟩
