/-! ===== an edge described ===== -/
theorem insP_mem {P Q : Pt} : ∀ {L : List Pt}, P ∈ insP L Q → P ∈ L ∨ P = Q
  | [], h => by
    unfold insP at h
    simp at h
    exact Or.inr h
  | R :: L, h => by
    unfold insP at h
    split at h
    · rcases List.mem_cons.mp h with q | q
      · exact Or.inl (by rw [q]; exact List.mem_cons_self)
      · rcases insP_mem q with z | z
        · exact Or.inl (List.mem_cons_of_mem _ z)
        · exact Or.inr z
    · split at h
      · exact Or.inl h
      · rcases List.mem_cons.mp h with q | q
        · exact Or.inr q
        · exact Or.inl q
theorem cornStep_all {f : Cv} {F : Pt → Prop} (hF : ∀ a b d, isCorn f a b d = true → F (crX f a b d, crY f a b d, (ledW f (crX f a b d) (crY f a b d) : Int))) {a b d : Nat} {L : List Pt} (h : ∀ P ∈ L, F P) : ∀ P ∈ cornStep f a b d L, F P := by
  intro P hP
  unfold cornStep at hP
  split at hP
  · next q =>
    unfold capP at hP
    split at hP
    · exact h P hP
    · rcases insP_mem hP with z | z
      · exact h P z
      · rw [z]; exact hF a b d q
  · exact h P hP
theorem cornD_all {f : Cv} {F : Pt → Prop} (hF : ∀ a b d, isCorn f a b d = true → F (crX f a b d, crY f a b d, (ledW f (crX f a b d) (crY f a b d) : Int))) {a b : Nat} {L : List Pt} (h : ∀ P ∈ L, F P) : ∀ n, ∀ P ∈ cornD f a b L n, F P
  | 0 => h
  | n + 1 => by
    unfold cornD
    split
    · exact cornStep_all hF (cornD_all hF h n)
    · exact cornD_all hF h n
theorem cornB_all {f : Cv} {F : Pt → Prop} (hF : ∀ a b d, isCorn f a b d = true → F (crX f a b d, crY f a b d, (ledW f (crX f a b d) (crY f a b d) : Int))) {N a : Nat} {L : List Pt} (h : ∀ P ∈ L, F P) : ∀ n, ∀ P ∈ cornB f N a L n, F P
  | 0 => h
  | n + 1 => by
    unfold cornB
    split
    · exact cornD_all hF (cornB_all hF h n) N
    · exact cornB_all hF h n
theorem cornA_all {f : Cv} {F : Pt → Prop} (hF : ∀ a b d, isCorn f a b d = true → F (crX f a b d, crY f a b d, (ledW f (crX f a b d) (crY f a b d) : Int))) {N : Nat} : ∀ n, ∀ P ∈ cornA f N n, F P
  | 0 => fun P h => by cases h
  | n + 1 => by
    unfold cornA
    exact cornB_all hF (cornA_all hF n) N
/-- the marks are sets of places -/
def celOK (C : List Pt) : Prop := ∀ P ∈ C, ∃ n : Nat, n < 2 ^ 21 ∧ P.2.2 = (n : Int)
theorem celOK_cornF (f : Cv) : celOK (cornF f) := cornA_all (F := fun P => ∃ n : Nat, n < 2 ^ 21 ∧ P.2.2 = (n : Int)) (fun a b d _ => ⟨_, leadF_lt f _ _ _, rfl⟩) 21
def cellAt (C : List Pt) (k : Nat) : Nat := ((C[k]?).getD (0, 0, 0)).2.2.toNat
def sdE (s p q : Nat) : Option Bool := if hside s p q = true then some true else if hside s q p = true then some false else none
def rowN (f : Cv) (C : List Pt) (p q : Nat) : Nat → Nat → Int
  | 0 => beR p q (cv f q - cv f p)
  | k + 1 => match sdE (cellAt C k) p q with
    | some b => enR (rowN f C p q k) k b
    | none => rowN f C p q k
def ptAt (C : List Pt) (k : Int) : Pt := (C[k.toNat]?).getD (0, 0, 0)
def lenE (C : List Pt) (e : Nat → Int) : Int := if e 6 ≠ 0 then ((ptAt C (e 5)).1 - (ptAt C (e 4)).1).tdiv (e 6) else ((ptAt C (e 5)).2.1 - (ptAt C (e 4)).2.1).tdiv (e 7)
def rowE (f : Cv) (C : List Pt) (p q : Nat) : Nat → Int := if rowN f C p q C.length 5 = -1000000 then rowN f C p q C.length else sR (sR (rowN f C p q C.length) 8 (numP (lenE C (rowN f C p q C.length)))) 9 (denP (lenE C (rowN f C p q C.length)))
/-- the lengths are what they should be -/
def geoE (C : List Pt) (e : Nat → Int) : Prop := e 5 ≠ -1000000 → 0 < lenE C e ∧ ((e 6 ≠ 0 ∧ (ptAt C (e 5)).1 - (ptAt C (e 4)).1 = e 6 * lenE C e) ∨ (e 6 = 0 ∧ e 7 ≠ 0 ∧ (ptAt C (e 5)).2.1 - (ptAt C (e 4)).2.1 = e 7 * lenE C e)) ∧ numP (lenE C e) ≤ 4000000
def geoOK (f : Cv) (C : List Pt) : Prop := ∀ p q, p < q → hasF f p = true → hasF f q = true → geoE C (rowN f C p q C.length)
def wholeL (f : Cv) (p q : Nat) : Bool := hside (leadF f (-(cv f q - cv f p) * (pi q - pi p)) (-(cv f q - cv f p) * (pj q - pj p)) ((pi q - pi p) * (pi q - pi p) + (pj q - pj p) * (pj q - pj p))) p q
def isE (f : Cv) (C : List Pt) (p q : Nat) : Bool := !decide (rowN f C p q C.length 4 = -1000000) || (decide (C.length = 0) && wholeL f p q)
/-- what holds of the rows on the way -/
def rowI (f : Cv) (p q : Nat) (e : Nat → Int) : Prop := edOK e ∧ (e 0 = (p : Int) ∧ e 1 = (q : Int) ∧ e 2 = cv f q - cv f p ∧ e 8 = -1000000 ∧ e 9 = -1000000 ∧ e 10 = 0) ∧ (e 5 ≠ -1000000 → e 4 ≠ -1000000)
theorem gcd_le4 {a b : Int} (ha : -4 ≤ a ∧ a ≤ 4) (hb : -4 ≤ b ∧ b ≤ 4) : 1 ≤ gcd1 a b ∧ gcd1 a b ≤ 4 := by
  unfold gcd1
  have h1 := Nat.gcd_le_left b.natAbs (m := a.natAbs)
  have h2 := Nat.gcd_le_right a.natAbs (n := b.natAbs)
  rcases Nat.eq_zero_or_pos a.natAbs with z | z
  · rcases Nat.eq_zero_or_pos b.natAbs with z2 | z2
    · rw [z, z2]; decide
    · have := h2 z2; omega
  · have := h1 z; omega
theorem lineU_le {a b : Int} (ha : -4 ≤ a ∧ a ≤ 4) (hb : -4 ≤ b ∧ b ≤ 4) : (-4 ≤ lineU a b ∧ lineU a b ≤ 4) ∧ -4 ≤ lineV a b ∧ lineV a b ≤ 4 := by
  have hg := gcd_le4 ha hb
  have l1 := tdiv_le4 (x := b) (g := gcd1 a b) (by omega) hb
  have l2 := tdiv_le4 (x := -a) (g := gcd1 a b) (by omega) (by omega)
  unfold lineU lineV
  constructor
  · split <;> omega
  · split <;> omega
theorem beR_ok {f : Cv} {p q : Nat} (hf : Cok 999 f) (hp : p < 21) (hq : q < 21) : rowI f p q (beR p q (cv f q - cv f p)) := by
  have b1 := pi_le (p := p) (by omega)
  have b2 := pi_le (p := q) (by omega)
  have b3 := pj_le p
  have b4 := pj_le q
  have c1 := cv_le hf p
  have c2 := cv_le hf q
  have hg := gcd_le4 (a := pi q - pi p) (b := pj q - pj p) (by omega) (by omega)
  have hl := lineU_le (a := pi q - pi p) (b := pj q - pj p) (by omega) (by omega)
  refine ⟨⟨⟨?_, ?_, ?_, ?_⟩, ⟨?_, ?_⟩, Or.inl rfl, Or.inl rfl, ⟨hl.1.1, hl.1.2, hl.2.1, hl.2.2⟩, ?_, ?_⟩, ⟨rfl, rfl, rfl, rfl, rfl, rfl⟩, fun h => absurd rfl h⟩
  · show (0 : Int) ≤ (p : Int); omega
  · show (p : Int) < 21; omega
  · show (0 : Int) ≤ (q : Int); omega
  · show (q : Int) < 21; omega
  · show (-2000 : Int) ≤ cv f q - cv f p; omega
  · show cv f q - cv f p ≤ 2000; omega
  · show (0 : Int) ≤ (gcd1 (pi q - pi p) (pj q - pj p) : Int); omega
  · show (gcd1 (pi q - pi p) (pj q - pj p) : Int) ≤ 4; omega
theorem enR_ok {f : Cv} {p q k : Nat} {e : Nat → Int} {b : Bool} (hk : k < 16) (h : rowI f p q e) : rowI f p q (enR e k b) := by
  unfold enR
  split
  · split
    · unfold rowI edOK at h ⊢; simp [sR]; omega
    · unfold rowI edOK at h ⊢; simp [sR]; omega
  · unfold rowI edOK at h ⊢; simp [sR]; omega
theorem rowN_ok {f : Cv} {C : List Pt} {p q : Nat} (hf : Cok 999 f) (hp : p < 21) (hq : q < 21) : ∀ k, k ≤ 16 → rowI f p q (rowN f C p q k)
  | 0, _ => beR_ok hf hp hq
  | k + 1, h => by
    unfold rowN
    split
    · exact enR_ok (by omega) (rowN_ok hf hp hq k (by omega))
    · exact rowN_ok hf hp hq k (by omega)
theorem e_isWholeLine {s t c p q : Nat} {f : Cv} {e : Nat → Int} {M : mM} (hs : isS s t) (hcu : cur t f M) (hf : Cok 999 f) (hc : isEd c) (h : EdR c e M) (hp : p < 21) (hq : q < 21) (h0 : e 0 = (p : Int)) (h1 : e 1 = (q : Int)) (h2 : e 2 = cv f q - cv f p) : E 3 93 [vR s, vR c] M (some (vI (if wholeL f p q = true then 1 else 0))) M := by
  obtain ⟨⟨k0, k1, k2, k3, k4, k5⟩, -, ht, -, hts, -⟩ := hs
  have hc0 : cKB[c]? = some (0, 0) := hc
  have ht0 := ht.1
  have m0 : M c 0 = (p : Int) := (h 0 (by decide)).trans h0
  have m1 : M c 1 = (q : Int) := (h 1 (by decide)).trans h1
  have m2 : M c 2 = cv f q - cv f p := (h 2 (by decide)).trans h2
  have s1 := e_stepI hc m0 m1 (by omega) (by omega)
  have s2 := e_stepJ hc m0 m1 (by omega) (by omega)
  rw [Int.toNat_natCast, Int.toNat_natCast] at s1 s2
  have b1 := pi_le (p := p) (by omega)
  have b2 := pi_le (p := q) (by omega)
  have b3 := pj_le p
  have b4 := pj_le q
  have c1 := cv_le hf p
  have c2 := cv_le hf q
  have w1 : -4 ≤ pi q - pi p ∧ pi q - pi p ≤ 4 := by omega
  have w2 : -4 ≤ pj q - pj p ∧ pj q - pj p ≤ 4 := by omega
  have w3 : -1998 ≤ cv f q - cv f p ∧ cv f q - cv f p ≤ 1998 := by omega
  unfold wholeL
  generalize pi q - pi p = si at *
  generalize pj q - pj p = sj at *
  generalize cv f q - cv f p = ri at *
  have l1 := mul_le (d := -ri) (c := si) (A := 1998) (B := 4) (by omega) (by omega)
  have l2 := mul_le (d := -ri) (c := sj) (A := 1998) (B := 4) (by omega) (by omega)
  have l3 := mul_le (d := si) (c := si) (A := 4) (B := 4) (by omega) (by omega)
  have l4 := mul_le (d := sj) (c := sj) (A := 4) (B := 4) (by omega) (by omega)
  have hld := e_leading (t := t) (M := M) (x := -ri * si) (y := -ri * sj) (d := si * si + sj * sj) ht hcu hf (by omega) (by omega) (by omega)
  have hlt := leadF_lt f (-ri * si) (-ri * sj) (si * si + sj * sj)
  generalize leadF f (-ri * si) (-ri * sj) (si * si + sj * sj) = led at *
  have hh := e_hside led p q M (by omega) (by omega) (by omega)
  refine e_in (ls := [vR s, vR c, vN, vN, vN]) mq_93 (ml_93 rfl) rfl fun D hD => ?_
  refine w_aload rfl rfl ?_
  refine w_call (Or.inr rfl) ((s1)) (by omega) nof_83 rfl rfl rfl rfl (by first | rfl | (show cKB[_]? = _; assumption)) rfl ?_
  refine w_istore (ls2 := [_, _, _, _, _]) rfl rfl rfl (w_aload rfl rfl ?_)
  refine w_call (Or.inr rfl) ((s2)) (by omega) nof_84 rfl rfl rfl rfl (by first | rfl | (show cKB[_]? = _; assumption)) rfl ?_
  refine w_istore (ls2 := [_, _, _, _, _]) rfl rfl rfl (w_aload rfl rfl (w_getR rfl (by first | rfl | assumption) rfl (by first | rfl | assumption) (w_aload rfl rfl (w_getIV rfl (by first | rfl | assumption) (by first | exact Or.inl rfl | exact Or.inr rfl) (m2) (w_ineg rfl (w_iload rfl rfl (w_imul rfl ?_)))))))
  refine w_aload rfl rfl (w_getIV rfl (by first | rfl | assumption) (by first | exact Or.inl rfl | exact Or.inr rfl) (m2) (w_ineg rfl (w_iload rfl rfl (w_imul rfl (w_iload rfl rfl (w_iload rfl rfl (w_imul rfl ?_)))))))
  refine w_iload rfl rfl (w_iload rfl rfl (w_imul rfl (w_iadd rfl ?_)))
  refine w_call (Or.inr rfl) (hld) (by omega) nof_47 rfl rfl rfl rfl (by first | rfl | (show cKB[_]? = _; assumption)) rfl ?_
  refine w_istore (ls2 := [_, _, _, _, _]) rfl rfl rfl (w_iload rfl rfl (w_aload rfl rfl (w_getIV rfl (by first | rfl | assumption) (by first | exact Or.inl rfl | exact Or.inr rfl) (m0) (w_aload rfl rfl (w_getIV rfl (by first | rfl | assumption) (by first | exact Or.inl rfl | exact Or.inr rfl) (m1) ?_)))))
  refine w_call (Or.inl rfl) (hh) (by omega) nof_87 rfl rfl rfl rfl trivial rfl ?_
  exact w_zreturn rfl (by first | (split <;> first | exact Or.inl rfl | exact Or.inr rfl) | exact Or.inl rfl | exact Or.inr rfl) ⟨by first | rfl | (congr 2; omega), by rfl⟩
theorem rowE_4 (f : Cv) (C : List Pt) (p q : Nat) : rowE f C p q 4 = rowN f C p q C.length 4 := by
  unfold rowE
  split
  · rfl
  · rfl
theorem sdE_hs {s p q : Nat} : (sdE s p q = some true ↔ hside s p q = true) ∧ (sdE s p q = some false ↔ hside s p q = false ∧ hside s q p = true) ∧ (sdE s p q = none ↔ hside s p q = false ∧ hside s q p = false) := by
  unfold sdE
  cases hside s p q <;> cases hside s q p <;> simp
