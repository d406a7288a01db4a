/-! ===== edges: a cell's row ===== -/
def isEd (c : Nat) : Prop := cKB[c]? = some (0, 0)
def EdR (c : Nat) (e : Nat → Int) (M : mM) : Prop := ∀ j, j < 11 → M c j = e j
theorem EdR_fr {c : Nat} {e : Nat → Int} {M M1 : mM} (h : EdR c e M) (q : M1 c = M c) : EdR c e M1 := fun j hj => by rw [q]; exact h j hj
theorem EdR_cg {c : Nat} {e d : Nat → Int} {M : mM} (h : EdR c e M) (q : ∀ j, j < 11 → e j = d j) : EdR c d M := fun j hj => by rw [h j hj, q j hj]
def eN : Int := -1000000
def edSI (e : Nat → Int) : Int := pi (e 1).toNat - pi (e 0).toNat
def edSJ (e : Nat → Int) : Int := pj (e 1).toNat - pj (e 0).toNat
/-- the fields fit -/
def edOK (e : Nat → Int) : Prop := (0 ≤ e 0 ∧ e 0 < 21 ∧ 0 ≤ e 1 ∧ e 1 < 21) ∧ (-2000 ≤ e 2 ∧ e 2 ≤ 2000) ∧ (e 4 = -1000000 ∨ (0 ≤ e 4 ∧ e 4 < 16)) ∧ (e 5 = -1000000 ∨ (0 ≤ e 5 ∧ e 5 < 16)) ∧ (-4 ≤ e 6 ∧ e 6 ≤ 4 ∧ -4 ≤ e 7 ∧ e 7 ≤ 4) ∧ (0 ≤ e 3 ∧ e 3 ≤ 4)
theorem tdiv5 {x : Int} (h : 0 ≤ x) : x.tdiv 5 = pi x.toNat := by
  unfold pi; rw [Int.tdiv_eq_ediv_of_nonneg h]; omega
theorem tmod5 {x : Int} (h : 0 ≤ x) : x.tmod 5 = pj x.toNat := by
  unfold pj; rw [Int.tmod_eq_emod_of_nonneg h]; omega
theorem e_stepI {c : Nat} {M : mM} {a b : Int} (hc : isEd c) (h0 : M c 0 = a) (h1 : M c 1 = b) (ha : 0 ≤ a ∧ a < 21) (hb : 0 ≤ b ∧ b < 21) : E 1 83 [vR c] M (some (vI (pi b.toNat - pi a.toNat))) M := by
  have hc : cKB[c]? = some (0, 0) := hc
  rw [← tdiv5 ha.1, ← tdiv5 hb.1]
  refine e_in (ls := [vR c]) mq_83 (ml_83 rfl) rfl fun D hD => ?_
  refine w_aload rfl rfl (w_getIV rfl (by first | rfl | assumption) (by first | exact Or.inl rfl | exact Or.inr rfl) (h1) (w_iconst rfl (w_idiv rfl (by first | assumption | exact i32_0 | (unfold i32 at *; omega)) (by first | assumption | exact i32_0 | (unfold i32 at *; omega)) (by first | decide | omega | assumption) (w_aload rfl rfl (w_getIV rfl (by first | rfl | assumption) (by first | exact Or.inl rfl | exact Or.inr rfl) (h0) (w_iconst rfl (w_idiv rfl (by first | assumption | exact i32_0 | (unfold i32 at *; omega)) (by first | assumption | exact i32_0 | (unfold i32 at *; omega)) (by first | decide | omega | assumption) ?_)))))))
  refine w_isub rfl ?_
  exact w_ireturn rfl ⟨by first | rfl | (congr 2; omega), by rfl⟩
theorem e_stepJ {c : Nat} {M : mM} {a b : Int} (hc : isEd c) (h0 : M c 0 = a) (h1 : M c 1 = b) (ha : 0 ≤ a ∧ a < 21) (hb : 0 ≤ b ∧ b < 21) : E 1 84 [vR c] M (some (vI (pj b.toNat - pj a.toNat))) M := by
  have hc : cKB[c]? = some (0, 0) := hc
  rw [← tmod5 ha.1, ← tmod5 hb.1]
  refine e_in (ls := [vR c]) mq_84 (ml_84 rfl) rfl fun D hD => ?_
  refine w_aload rfl rfl (w_getIV rfl (by first | rfl | assumption) (by first | exact Or.inl rfl | exact Or.inr rfl) (h1) (w_iconst rfl (w_irem rfl (by first | assumption | exact i32_0 | (unfold i32 at *; omega)) (by first | assumption | exact i32_0 | (unfold i32 at *; omega)) (by first | decide | omega | assumption) (w_aload rfl rfl (w_getIV rfl (by first | rfl | assumption) (by first | exact Or.inl rfl | exact Or.inr rfl) (h0) (w_iconst rfl (w_irem rfl (by first | assumption | exact i32_0 | (unfold i32 at *; omega)) (by first | assumption | exact i32_0 | (unfold i32 at *; omega)) (by first | decide | omega | assumption) ?_)))))))
  refine w_isub rfl ?_
  exact w_ireturn rfl ⟨by first | rfl | (congr 2; omega), by rfl⟩
theorem e_turnRound {c : Nat} {M : mM} {u v : Int} (hc : isEd c) (h6 : M c 6 = u) (h7 : M c 7 = v) : E 1 85 [vR c] M none (upI (upI M c 6 (-u)) c 7 (-v)) := by
  have hc : cKB[c]? = some (0, 0) := hc
  have h7b : upI M c 6 (-u) c 7 = v := (if_neg (by omega)).trans h7
  refine e_in (ls := [vR c]) mq_85 (ml_85 rfl) rfl fun D hD => ?_
  refine w_aload rfl rfl (w_aload rfl rfl (w_getIV rfl (by first | rfl | assumption) (by first | exact Or.inl rfl | exact Or.inr rfl) (h6) (w_ineg rfl (w_putI rfl (by first | rfl | assumption) rfl (w_aload rfl rfl (w_aload rfl rfl (w_getIV rfl (by first | rfl | assumption) (by first | exact Or.inl rfl | exact Or.inr rfl) (h7b) ?_)))))))
  refine w_ineg rfl (w_putI rfl (by first | rfl | assumption) rfl ?_)
  exact w_return rfl ⟨rfl, by rfl⟩
/-- u and v of a line that has no start -/
def lineU (si sj : Int) : Int := if sj.tdiv (gcd1 si sj) < 0 ∨ (sj.tdiv (gcd1 si sj) = 0 ∧ (-si).tdiv (gcd1 si sj) < 0) then -(sj.tdiv (gcd1 si sj)) else sj.tdiv (gcd1 si sj)
def lineV (si sj : Int) : Int := if sj.tdiv (gcd1 si sj) < 0 ∨ (sj.tdiv (gcd1 si sj) = 0 ∧ (-si).tdiv (gcd1 si sj) < 0) then -((-si).tdiv (gcd1 si sj)) else (-si).tdiv (gcd1 si sj)
def edRow (a0 a1 a2 a3 a4 a5 a6 a7 a8 a9 a10 : Int) : Nat → Int
  | 0 => a0
  | 1 => a1
  | 2 => a2
  | 3 => a3
  | 4 => a4
  | 5 => a5
  | 6 => a6
  | 7 => a7
  | 8 => a8
  | 9 => a9
  | _ => a10
theorem EdR_mk {c : Nat} {M : mM} {a0 a1 a2 a3 a4 a5 a6 a7 a8 a9 a10 : Int} (h0 : M c 0 = a0) (h1 : M c 1 = a1) (h2 : M c 2 = a2) (h3 : M c 3 = a3) (h4 : M c 4 = a4) (h5 : M c 5 = a5) (h6 : M c 6 = a6) (h7 : M c 7 = a7) (h8 : M c 8 = a8) (h9 : M c 9 = a9) (h10 : M c 10 = a10) : EdR c (edRow a0 a1 a2 a3 a4 a5 a6 a7 a8 a9 a10) M := by
  intro j hj
  have : j = 0 ∨ j = 1 ∨ j = 2 ∨ j = 3 ∨ j = 4 ∨ j = 5 ∨ j = 6 ∨ j = 7 ∨ j = 8 ∨ j = 9 ∨ j = 10 := by omega
  rcases this with rfl | rfl | rfl | rfl | rfl | rfl | rfl | rfl | rfl | rfl | rfl
  · exact h0
  · exact h1
  · exact h2
  · exact h3
  · exact h4
  · exact h5
  · exact h6
  · exact h7
  · exact h8
  · exact h9
  · exact h10
def beR (p q : Nat) (rise : Int) : Nat → Int := edRow p q rise (gcd1 (pi q - pi p) (pj q - pj p)) (-1000000) (-1000000) (lineU (pi q - pi p) (pj q - pj p)) (lineV (pi q - pi p) (pj q - pj p)) (-1000000) (-1000000) 0
theorem tdiv_le4 {x g : Int} (hg : 1 ≤ g) (hx : -4 ≤ x ∧ x ≤ 4) : -4 ≤ x.tdiv g ∧ x.tdiv g ≤ 4 := by
  have h1 : (x.tdiv g).natAbs ≤ x.natAbs := by
    rw [Int.natAbs_tdiv]; exact Nat.div_le_self _ _
  omega
theorem e_become {c p q : Nat} {M : mM} {rise : Int} (hc : isEd c) (hp : p < 21) (hq : q < 21) : EQ 3 82 [vR c, vI p, vI q, vI rise] M (fun r M1 => r = none ∧ EdR c (beR p q rise) M1 ∧ ∀ a, a ≠ c → M1 a = M a) := by
  have hc0 : cKB[c]? = some (0, 0) := hc
  have b1 := pi_le (p := p) (by omega)
  have b2 := pi_le (p := q) (by omega)
  have b3 := pj_le p
  have b4 := pj_le q
  refine q_in (ls := [vR c, vI p, vI q, vI rise]) mq_82 (ml_82 rfl) rfl fun D hD => ?_
  have hgw : 1 ≤ gcd1 (pi q - pi p) (pj q - pj p) := by unfold gcd1; omega
  have hgw2 : gcd1 (pi q - pi p) (pj q - pj p) ≤ 4 := by
    unfold gcd1
    have h1 := Nat.gcd_le_left (pj q - pj p).natAbs (m := (pi q - pi p).natAbs)
    have h2 := Nat.gcd_le_right (pi q - pi p).natAbs (n := (pj q - pj p).natAbs)
    rcases Nat.eq_zero_or_pos (pi q - pi p).natAbs with z | z
    · rcases Nat.eq_zero_or_pos (pj q - pj p).natAbs with z2 | z2
      · rw [z, z2]; decide
      · have := h2 z2; omega
    · have := h1 z; omega
  have s1 : ∀ N : mM, N c 0 = (p : Int) → N c 1 = (q : Int) → E 1 83 [vR c] N (some (vI (pi q - pi p))) N := fun N z0 z1 => by
    have := e_stepI hc z0 z1 (by omega) (by omega)
    rwa [Int.toNat_natCast, Int.toNat_natCast] at this
  have s2 : ∀ N : mM, N c 0 = (p : Int) → N c 1 = (q : Int) → E 1 84 [vR c] N (some (vI (pj q - pj p))) N := fun N z0 z1 => by
    have := e_stepJ hc z0 z1 (by omega) (by omega)
    rwa [Int.toNat_natCast, Int.toNat_natCast] at this
  have hdv := fun N : mM => e_divisor (pi q - pi p) (pj q - pj p) N (by omega) (by omega)
  have l1 := tdiv_le4 (x := pj q - pj p) (g := gcd1 (pi q - pi p) (pj q - pj p)) (by omega) (by omega)
  have l2 := tdiv_le4 (x := -(pi q - pi p)) (g := gcd1 (pi q - pi p) (pj q - pj p)) (by omega) (by omega)
  generalize hsi : pi q - pi p = si at *
  generalize hsj : pj q - pj p = sj at *
  have hrow : beR p q rise = edRow p q rise (gcd1 si sj) (-1000000) (-1000000) (lineU si sj) (lineV si sj) (-1000000) (-1000000) 0 := by
    rw [← hsi, ← hsj]
    rfl
  rw [hrow]
  generalize hw : gcd1 si sj = w at *
  generalize hu : sj.tdiv w = u at *
  generalize hv : (-si).tdiv w = v at *
  have hlu : lineU si sj = if u < 0 ∨ (u = 0 ∧ v < 0) then -u else u := by unfold lineU; rw [hw, hu, hv]
  have hlv : lineV si sj = if u < 0 ∨ (u = 0 ∧ v < 0) then -v else v := by unfold lineV; rw [hw, hu, hv]
  rw [hlu, hlv]
  generalize hN1 : upI (upI (upI M c 0 p) c 1 q) c 2 rise = N1
  have n10 : N1 c 0 = (p : Int) := by rw [← hN1]; simp [upI]
  have n11 : N1 c 1 = (q : Int) := by rw [← hN1]; simp [upI]
  generalize hN2 : upI (upI (upI N1 c 3 w) c 4 (-1000000)) c 5 (-1000000) = N2
  have n20 : N2 c 0 = (p : Int) := by rw [← hN2]; simp [upI, n10]
  have n21 : N2 c 1 = (q : Int) := by rw [← hN2]; simp [upI, n11]
  have n23 : N2 c 3 = (w : Int) := by rw [← hN2]; simp [upI]
  generalize hN3 : upI N2 c 6 u = N3
  have n30 : N3 c 0 = (p : Int) := by rw [← hN3]; simp [upI, n20]
  have n31 : N3 c 1 = (q : Int) := by rw [← hN3]; simp [upI, n21]
  have n33 : N3 c 3 = (w : Int) := by rw [← hN3]; simp [upI, n23]
  generalize hN4 : upI N3 c 7 v = N4
  have n46 : N4 c 6 = u := by rw [← hN4, ← hN3]; simp [upI]
  have n47 : N4 c 7 = v := by rw [← hN4]; simp [upI]
  have hfr : ∀ a, a ≠ c → N4 a = M a := fun a ha => by rw [← hN4, ← hN3, ← hN2, ← hN1]; simp only [upI_ne _ _ _ _ ha]
  have q0 : N4 c 0 = (p : Int) := by rw [← hN4]; simp [upI, n30]
  have q1 : N4 c 1 = (q : Int) := by rw [← hN4]; simp [upI, n31]
  have q2 : N4 c 2 = rise := by rw [← hN4, ← hN3, ← hN2, ← hN1]; simp [upI]
  have q3 : N4 c 3 = (w : Int) := by rw [← hN4]; simp [upI, n33]
  have q4 : N4 c 4 = -1000000 := by rw [← hN4, ← hN3, ← hN2]; simp [upI]
  have q5 : N4 c 5 = -1000000 := by rw [← hN4, ← hN3, ← hN2]; simp [upI]
  by_cases hneg : u < 0 ∨ (u = 0 ∧ v < 0)
  · rw [if_pos hneg, if_pos hneg]
    have htr := e_turnRound hc n46 n47
    have hfin : EdR c (edRow p q rise w (-1000000) (-1000000) (-u) (-v) (-1000000) (-1000000) 0) (upI (upI (upI (upI (upI N4 c 6 (-u)) c 7 (-v)) c 8 (-1000000)) c 9 (-1000000)) c 10 0) := by
      refine EdR_mk ?_ ?_ ?_ ?_ ?_ ?_ ?_ ?_ ?_ ?_ ?_ <;> simp [upI, q0, q1, q2, q3, q4, q5]
    have hff : ∀ a, a ≠ c → (upI (upI (upI (upI (upI N4 c 6 (-u)) c 7 (-v)) c 8 (-1000000)) c 9 (-1000000)) c 10 0) a = M a := fun a ha => by simp only [upI_ne _ _ _ _ ha]; exact hfr a ha
    have tail : Wp mc_82 D 94 [vR c, vI p, vI q, vI rise] [] (upI (upI N4 c 6 (-u)) c 7 (-v)) (fun r M1 => r = none ∧ EdR c (edRow p q rise w (-1000000) (-1000000) (-u) (-v) (-1000000) (-1000000) 0) M1 ∧ ∀ a, a ≠ c → M1 a = M a) := by
      refine w_aload rfl rfl (w_iconst rfl (w_putI rfl (by first | rfl | assumption) rfl (w_aload rfl rfl (w_iconst rfl (w_putI rfl (by first | rfl | assumption) rfl (w_aload rfl rfl (w_iconst rfl ?_)))))))
      refine w_putZ rfl (by first | rfl | assumption) rfl (by first | exact Or.inl rfl | exact Or.inr rfl | omega | assumption) ?_
      exact w_return rfl ⟨rfl, by exact ⟨hfin, hff⟩⟩
    refine w_aload rfl rfl (w_iload rfl rfl (w_putI rfl (by first | rfl | assumption) rfl (w_aload rfl rfl (w_iload rfl rfl (w_putI rfl (by first | rfl | assumption) rfl (w_aload rfl rfl (w_iload rfl rfl ?_)))))))
    refine w_putI rfl (by first | rfl | assumption) rfl ?_
    rw [hN1]
    refine w_aload rfl rfl (w_aload rfl rfl ?_)
    refine w_call (Or.inr rfl) (s1 _ n10 n11) (by omega) nof_83 rfl rfl rfl rfl (by first | rfl | (show cKB[_]? = _; assumption)) rfl ?_
    refine w_aload rfl rfl ?_
    refine w_call (Or.inr rfl) (s2 _ n10 n11) (by omega) nof_84 rfl rfl rfl rfl (by first | rfl | (show cKB[_]? = _; assumption)) rfl ?_
    refine w_call (Or.inl rfl) (hdv _) (by omega) nof_78 rfl rfl rfl rfl trivial rfl ?_
    refine w_putI rfl (by first | rfl | assumption) rfl (w_aload rfl rfl (w_iconst rfl (w_putI rfl (by first | rfl | assumption) rfl (w_aload rfl rfl (w_iconst rfl (w_putI rfl (by first | rfl | assumption) rfl ?_))))))
    rw [hN2]
    refine w_aload rfl rfl (w_aload rfl rfl ?_)
    refine w_call (Or.inr rfl) (s2 _ n20 n21) (by omega) nof_84 rfl rfl rfl rfl (by first | rfl | (show cKB[_]? = _; assumption)) rfl ?_
    refine w_aload rfl rfl (w_getIV rfl (by first | rfl | assumption) (by first | exact Or.inl rfl | exact Or.inr rfl) (n23) (w_idiv rfl (by first | assumption | exact i32_0 | (unfold i32 at *; omega)) (by first | assumption | exact i32_0 | (unfold i32 at *; omega)) (by first | decide | omega | assumption) (w_putI rfl (by first | rfl | assumption) rfl ?_)))
    rw [hu, hN3]
    refine w_aload rfl rfl (w_aload rfl rfl ?_)
    refine w_call (Or.inr rfl) (s1 _ n30 n31) (by omega) nof_83 rfl rfl rfl rfl (by first | rfl | (show cKB[_]? = _; assumption)) rfl ?_
    refine w_ineg rfl (w_aload rfl rfl (w_getIV rfl (by first | rfl | assumption) (by first | exact Or.inl rfl | exact Or.inr rfl) (n33) (w_idiv rfl (by first | assumption | exact i32_0 | (unfold i32 at *; omega)) (by first | assumption | exact i32_0 | (unfold i32 at *; omega)) (by first | decide | omega | assumption) (w_putI rfl (by first | rfl | assumption) rfl ?_))))
    rw [hv, hN4]
    refine w_aload rfl rfl (w_getIV rfl (by first | rfl | assumption) (by first | exact Or.inl rfl | exact Or.inr rfl) (n46) ?_)
    refine w_if_lt (tgt := 90) rfl (by first | assumption | exact i32_0 | (unfold i32 at *; omega)) rfl (fun c73 => ?_) (fun c73 => ?_)
    · skip
      refine w_aload rfl rfl ?_
      refine w_call (Or.inr rfl) (htr) (by omega) nof_85 rfl rfl rfl rfl (by first | rfl | (show cKB[_]? = _; assumption)) rfl ?_
      first | exact tail | (exfalso; omega)
    · skip
      refine w_aload rfl rfl (w_getIV rfl (by first | rfl | assumption) (by first | exact Or.inl rfl | exact Or.inr rfl) (n46) ?_)
      refine w_if_ne (tgt := 94) rfl (by first | assumption | exact i32_0 | (unfold i32 at *; omega)) rfl (fun c80 => ?_) (fun c80 => ?_)
      · skip
        first | exact tail | (exfalso; omega)
      · skip
        refine w_aload rfl rfl (w_getIV rfl (by first | rfl | assumption) (by first | exact Or.inl rfl | exact Or.inr rfl) (n47) ?_)
        refine w_if_ge (tgt := 94) rfl (by first | assumption | exact i32_0 | (unfold i32 at *; omega)) rfl (fun c87 => ?_) (fun c87 => ?_)
        · skip
          first | exact tail | (exfalso; omega)
        · skip
          refine w_aload rfl rfl ?_
          refine w_call (Or.inr rfl) (htr) (by omega) nof_85 rfl rfl rfl rfl (by first | rfl | (show cKB[_]? = _; assumption)) rfl ?_
          first | exact tail | (exfalso; omega)
  · rw [if_neg hneg, if_neg hneg]
    have hfin : EdR c (edRow p q rise w (-1000000) (-1000000) u v (-1000000) (-1000000) 0) (upI (upI (upI N4 c 8 (-1000000)) c 9 (-1000000)) c 10 0) := by
      refine EdR_mk ?_ ?_ ?_ ?_ ?_ ?_ ?_ ?_ ?_ ?_ ?_ <;> simp [upI, q0, q1, q2, q3, q4, q5, n46, n47]
    have hff : ∀ a, a ≠ c → (upI (upI (upI N4 c 8 (-1000000)) c 9 (-1000000)) c 10 0) a = M a := fun a ha => by simp only [upI_ne _ _ _ _ ha]; exact hfr a ha
    refine w_aload rfl rfl (w_iload rfl rfl (w_putI rfl (by first | rfl | assumption) rfl (w_aload rfl rfl (w_iload rfl rfl (w_putI rfl (by first | rfl | assumption) rfl (w_aload rfl rfl (w_iload rfl rfl ?_)))))))
    refine w_putI rfl (by first | rfl | assumption) rfl ?_
    rw [hN1]
    refine w_aload rfl rfl (w_aload rfl rfl ?_)
    refine w_call (Or.inr rfl) (s1 _ n10 n11) (by omega) nof_83 rfl rfl rfl rfl (by first | rfl | (show cKB[_]? = _; assumption)) rfl ?_
    refine w_aload rfl rfl ?_
    refine w_call (Or.inr rfl) (s2 _ n10 n11) (by omega) nof_84 rfl rfl rfl rfl (by first | rfl | (show cKB[_]? = _; assumption)) rfl ?_
    refine w_call (Or.inl rfl) (hdv _) (by omega) nof_78 rfl rfl rfl rfl trivial rfl ?_
    refine w_putI rfl (by first | rfl | assumption) rfl (w_aload rfl rfl (w_iconst rfl (w_putI rfl (by first | rfl | assumption) rfl (w_aload rfl rfl (w_iconst rfl (w_putI rfl (by first | rfl | assumption) rfl ?_))))))
    rw [hN2]
    refine w_aload rfl rfl (w_aload rfl rfl ?_)
    refine w_call (Or.inr rfl) (s2 _ n20 n21) (by omega) nof_84 rfl rfl rfl rfl (by first | rfl | (show cKB[_]? = _; assumption)) rfl ?_
    refine w_aload rfl rfl (w_getIV rfl (by first | rfl | assumption) (by first | exact Or.inl rfl | exact Or.inr rfl) (n23) (w_idiv rfl (by first | assumption | exact i32_0 | (unfold i32 at *; omega)) (by first | assumption | exact i32_0 | (unfold i32 at *; omega)) (by first | decide | omega | assumption) (w_putI rfl (by first | rfl | assumption) rfl ?_)))
    rw [hu, hN3]
    refine w_aload rfl rfl (w_aload rfl rfl ?_)
    refine w_call (Or.inr rfl) (s1 _ n30 n31) (by omega) nof_83 rfl rfl rfl rfl (by first | rfl | (show cKB[_]? = _; assumption)) rfl ?_
    refine w_ineg rfl (w_aload rfl rfl (w_getIV rfl (by first | rfl | assumption) (by first | exact Or.inl rfl | exact Or.inr rfl) (n33) (w_idiv rfl (by first | assumption | exact i32_0 | (unfold i32 at *; omega)) (by first | assumption | exact i32_0 | (unfold i32 at *; omega)) (by first | decide | omega | assumption) (w_putI rfl (by first | rfl | assumption) rfl ?_))))
    rw [hv, hN4]
    refine w_aload rfl rfl (w_getIV rfl (by first | rfl | assumption) (by first | exact Or.inl rfl | exact Or.inr rfl) (n46) ?_)
    refine w_if_lt (tgt := 90) rfl (by first | assumption | exact i32_0 | (unfold i32 at *; omega)) rfl (fun c73 => ?_) (fun c73 => ?_)
    · skip
      exfalso; omega
    · skip
      refine w_aload rfl rfl (w_getIV rfl (by first | rfl | assumption) (by first | exact Or.inl rfl | exact Or.inr rfl) (n46) ?_)
      refine w_if_ne (tgt := 94) rfl (by first | assumption | exact i32_0 | (unfold i32 at *; omega)) rfl (fun c80 => ?_) (fun c80 => ?_)
      · skip
        refine w_aload rfl rfl (w_iconst rfl (w_putI rfl (by first | rfl | assumption) rfl (w_aload rfl rfl (w_iconst rfl (w_putI rfl (by first | rfl | assumption) rfl (w_aload rfl rfl (w_iconst rfl ?_)))))))
        refine w_putZ rfl (by first | rfl | assumption) rfl (by first | exact Or.inl rfl | exact Or.inr rfl | omega | assumption) ?_
        exact w_return rfl ⟨rfl, by exact ⟨hfin, hff⟩⟩
      · skip
        refine w_aload rfl rfl (w_getIV rfl (by first | rfl | assumption) (by first | exact Or.inl rfl | exact Or.inr rfl) (n47) ?_)
        refine w_if_ge (tgt := 94) rfl (by first | assumption | exact i32_0 | (unfold i32 at *; omega)) rfl (fun c87 => ?_) (fun c87 => ?_)
        · skip
          refine w_aload rfl rfl (w_iconst rfl (w_putI rfl (by first | rfl | assumption) rfl (w_aload rfl rfl (w_iconst rfl (w_putI rfl (by first | rfl | assumption) rfl (w_aload rfl rfl (w_iconst rfl ?_)))))))
          refine w_putZ rfl (by first | rfl | assumption) rfl (by first | exact Or.inl rfl | exact Or.inr rfl | omega | assumption) ?_
          exact w_return rfl ⟨rfl, by exact ⟨hfin, hff⟩⟩
        · skip
          exfalso; omega
/-- an end found at corner k: the row then -/
def enR (e : Nat → Int) (k : Int) (left : Bool) : Nat → Int :=
  if e 4 = -1000000 then (if decide (0 < edSI e * e 7 - edSJ e * e 6) = left then sR e 4 k else sR (sR (sR e 4 k) 6 (-(e 6))) 7 (-(e 7))) else sR e 5 k
theorem EdR_up {c : Nat} {e : Nat → Int} {M : mM} (h : EdR c e M) (k : Nat) (v : Int) : EdR c (sR e k v) (upI M c k v) := by
  intro j hj
  unfold upI sR
  by_cases q : j = k
  · rw [if_pos ⟨rfl, q⟩, if_pos q]
  · rw [if_neg (fun z => q z.2), if_neg q]; exact h j hj
theorem e_endAt {c : Nat} {e : Nat → Int} {M : mM} {k : Int} {left : Bool} (hc : isEd c) (h : EdR c e M) (hok : edOK e) : EQ 2 89 [vR c, vI k, vI (if left = true then 1 else 0)] M (fun r M1 => r = none ∧ EdR c (enR e k left) M1 ∧ ∀ a, a ≠ c → M1 a = M a) := by
  have hc0 : cKB[c]? = some (0, 0) := hc
  obtain ⟨⟨o0, o1, o2, o3⟩, -, o4, -, o6, -⟩ := hok
  have b1 := pi_le (p := (e 0).toNat) (by omega)
  have b2 := pi_le (p := (e 1).toNat) (by omega)
  have b3 := pj_le (e 0).toNat
  have b4 := pj_le (e 1).toNat
  have h4 := h 4 (by decide)
  have hU := EdR_up h 4 k
  have s1 := e_stepI (M := upI M c 4 k) hc (hU 0 (by decide)) (hU 1 (by decide)) ⟨o0, o1⟩ ⟨o2, o3⟩
  have s2 := e_stepJ (M := upI M c 4 k) hc (hU 0 (by decide)) (hU 1 (by decide)) ⟨o0, o1⟩ ⟨o2, o3⟩
  have h6 : upI M c 4 k c 6 = e 6 := hU 6 (by decide)
  have h7 : upI M c 4 k c 7 = e 7 := hU 7 (by decide)
  have s1 : E 1 83 [vR c] (upI M c 4 k) (some (vI (edSI e))) (upI M c 4 k) := s1
  have s2 : E 1 84 [vR c] (upI M c 4 k) (some (vI (edSJ e))) (upI M c 4 k) := s2
  have z1 : -4 ≤ edSI e ∧ edSI e ≤ 4 := by unfold edSI; omega
  have z2 : -4 ≤ edSJ e ∧ edSJ e ≤ 4 := by unfold edSJ; omega
  have m1 := mul_le (A := 4) (B := 4) z1 ⟨o6.2.2.1, o6.2.2.2⟩
  have m2 := mul_le (A := 4) (B := 4) z2 ⟨o6.1, o6.2.1⟩
  have htr := e_turnRound (M := upI M c 4 k) hc h6 h7
  unfold enR
  refine q_in (ls := [vR c, vI k, vI (if left = true then 1 else 0), vN]) mq_89 (ml_89 rfl) rfl fun D hD => ?_
  by_cases q4 : e 4 = -1000000
  · rw [if_pos q4]
    have hU3 : EdR c (sR (sR (sR e 4 k) 6 (-(e 6))) 7 (-(e 7))) (upI (upI (upI M c 4 k) c 6 (-(e 6))) c 7 (-(e 7))) := EdR_up (EdR_up hU 6 _) 7 _
    generalize edSI e = si at *
    generalize edSJ e = sj at *
    generalize hz1 : si * e 7 = z1 at *
    generalize hz2 : sj * e 6 = z2 at *
    by_cases hl : decide (0 < z1 - z2) = left
    · rw [if_pos hl]
      subst hl
      by_cases hp : 0 < z1 - z2
      · rw [decide_eq_true hp]
        refine w_aload rfl rfl (w_getIV rfl (by first | rfl | assumption) (by first | exact Or.inl rfl | exact Or.inr rfl) (h4) (w_iconst rfl ?_))
        refine w_icmp_eq (tgt := 15) rfl (by first | assumption | exact i32_0 | (unfold i32 at *; omega)) (by first | assumption | exact i32_0 | (unfold i32 at *; omega)) rfl (fun c6 => ?_) (fun c6 => ?_)
        · skip
          refine w_aload rfl rfl (w_iload rfl rfl (w_putI rfl (by first | rfl | assumption) rfl (w_aload rfl rfl ?_)))
          refine w_call (Or.inr rfl) (s1) (by omega) nof_83 rfl rfl rfl rfl (by first | rfl | (show cKB[_]? = _; assumption)) rfl ?_
          refine w_aload rfl rfl (w_getIV rfl (by first | rfl | assumption) (by first | exact Or.inl rfl | exact Or.inr rfl) (h7) (w_imul rfl ?_))
          rw [hz1]
          refine w_aload rfl rfl ?_
          refine w_call (Or.inr rfl) (s2) (by omega) nof_84 rfl rfl rfl rfl (by first | rfl | (show cKB[_]? = _; assumption)) rfl ?_
          refine w_aload rfl rfl (w_getIV rfl (by first | rfl | assumption) (by first | exact Or.inl rfl | exact Or.inr rfl) (h6) (w_imul rfl ?_))
          rw [hz2]
          refine w_isub rfl ?_
          refine w_if_le (tgt := 46) rfl (by first | assumption | exact i32_0 | (unfold i32 at *; omega)) rfl (fun c39 => ?_) (fun c39 => ?_)
          · skip
            exfalso; omega
          · skip
            refine w_iconst rfl (w_goto (tgt := 47) rfl rfl (w_istore (ls2 := [_, _, _, _]) rfl rfl rfl (w_iload rfl rfl (w_iload rfl rfl ?_))))
            refine w_icmp_eq (tgt := 57) rfl (by first | assumption | exact i32_0 | (unfold i32 at *; omega)) (by first | assumption | exact i32_0 | (unfold i32 at *; omega)) rfl (fun c50 => ?_) (fun c50 => ?_)
            · skip
              exact w_return rfl ⟨rfl, by exact ⟨hU, fun a ha => upI_ne _ _ _ _ ha⟩⟩
            · exact absurd rfl c50
        · skip
          exfalso; omega
      · rw [decide_eq_false hp]
        refine w_aload rfl rfl (w_getIV rfl (by first | rfl | assumption) (by first | exact Or.inl rfl | exact Or.inr rfl) (h4) (w_iconst rfl ?_))
        refine w_icmp_eq (tgt := 15) rfl (by first | assumption | exact i32_0 | (unfold i32 at *; omega)) (by first | assumption | exact i32_0 | (unfold i32 at *; omega)) rfl (fun c6 => ?_) (fun c6 => ?_)
        · skip
          refine w_aload rfl rfl (w_iload rfl rfl (w_putI rfl (by first | rfl | assumption) rfl (w_aload rfl rfl ?_)))
          refine w_call (Or.inr rfl) (s1) (by omega) nof_83 rfl rfl rfl rfl (by first | rfl | (show cKB[_]? = _; assumption)) rfl ?_
          refine w_aload rfl rfl (w_getIV rfl (by first | rfl | assumption) (by first | exact Or.inl rfl | exact Or.inr rfl) (h7) (w_imul rfl ?_))
          rw [hz1]
          refine w_aload rfl rfl ?_
          refine w_call (Or.inr rfl) (s2) (by omega) nof_84 rfl rfl rfl rfl (by first | rfl | (show cKB[_]? = _; assumption)) rfl ?_
          refine w_aload rfl rfl (w_getIV rfl (by first | rfl | assumption) (by first | exact Or.inl rfl | exact Or.inr rfl) (h6) (w_imul rfl ?_))
          rw [hz2]
          refine w_isub rfl ?_
          refine w_if_le (tgt := 46) rfl (by first | assumption | exact i32_0 | (unfold i32 at *; omega)) rfl (fun c39 => ?_) (fun c39 => ?_)
          · skip
            refine w_iconst rfl (w_istore (ls2 := [_, _, _, _]) rfl rfl rfl (w_iload rfl rfl (w_iload rfl rfl ?_)))
            refine w_icmp_eq (tgt := 57) rfl (by first | assumption | exact i32_0 | (unfold i32 at *; omega)) (by first | assumption | exact i32_0 | (unfold i32 at *; omega)) rfl (fun c50 => ?_) (fun c50 => ?_)
            · skip
              exact w_return rfl ⟨rfl, by exact ⟨hU, fun a ha => upI_ne _ _ _ _ ha⟩⟩
            · exact absurd rfl c50
          · skip
            exfalso; omega
        · skip
          exfalso; omega
    · rw [if_neg hl]
      by_cases hp : 0 < z1 - z2
      · rw [decide_eq_true hp] at hl
        obtain rfl : left = false := by cases left <;> simp at hl ⊢
        refine w_aload rfl rfl (w_getIV rfl (by first | rfl | assumption) (by first | exact Or.inl rfl | exact Or.inr rfl) (h4) (w_iconst rfl ?_))
        refine w_icmp_eq (tgt := 15) rfl (by first | assumption | exact i32_0 | (unfold i32 at *; omega)) (by first | assumption | exact i32_0 | (unfold i32 at *; omega)) rfl (fun c6 => ?_) (fun c6 => ?_)
        · skip
          refine w_aload rfl rfl (w_iload rfl rfl (w_putI rfl (by first | rfl | assumption) rfl (w_aload rfl rfl ?_)))
          refine w_call (Or.inr rfl) (s1) (by omega) nof_83 rfl rfl rfl rfl (by first | rfl | (show cKB[_]? = _; assumption)) rfl ?_
          refine w_aload rfl rfl (w_getIV rfl (by first | rfl | assumption) (by first | exact Or.inl rfl | exact Or.inr rfl) (h7) (w_imul rfl ?_))
          rw [hz1]
          refine w_aload rfl rfl ?_
          refine w_call (Or.inr rfl) (s2) (by omega) nof_84 rfl rfl rfl rfl (by first | rfl | (show cKB[_]? = _; assumption)) rfl ?_
          refine w_aload rfl rfl (w_getIV rfl (by first | rfl | assumption) (by first | exact Or.inl rfl | exact Or.inr rfl) (h6) (w_imul rfl ?_))
          rw [hz2]
          refine w_isub rfl ?_
          refine w_if_le (tgt := 46) rfl (by first | assumption | exact i32_0 | (unfold i32 at *; omega)) rfl (fun c39 => ?_) (fun c39 => ?_)
          · skip
            exfalso; omega
          · skip
            refine w_iconst rfl (w_goto (tgt := 47) rfl rfl (w_istore (ls2 := [_, _, _, _]) rfl rfl rfl (w_iload rfl rfl (w_iload rfl rfl ?_))))
            refine w_icmp_eq (tgt := 57) rfl (by first | assumption | exact i32_0 | (unfold i32 at *; omega)) (by first | assumption | exact i32_0 | (unfold i32 at *; omega)) rfl (fun c50 => ?_) (fun c50 => ?_)
            · exact absurd c50 (by decide)
            · skip
              refine w_aload rfl rfl ?_
              refine w_call (Or.inr rfl) (htr) (by omega) nof_85 rfl rfl rfl rfl (by first | rfl | (show cKB[_]? = _; assumption)) rfl ?_
              exact w_return rfl ⟨rfl, by exact ⟨hU3, fun a ha => by simp only [upI_ne _ _ _ _ ha]⟩⟩
        · skip
          exfalso; omega
      · rw [decide_eq_false hp] at hl
        obtain rfl : left = true := by cases left <;> simp at hl ⊢
        refine w_aload rfl rfl (w_getIV rfl (by first | rfl | assumption) (by first | exact Or.inl rfl | exact Or.inr rfl) (h4) (w_iconst rfl ?_))
        refine w_icmp_eq (tgt := 15) rfl (by first | assumption | exact i32_0 | (unfold i32 at *; omega)) (by first | assumption | exact i32_0 | (unfold i32 at *; omega)) rfl (fun c6 => ?_) (fun c6 => ?_)
        · skip
          refine w_aload rfl rfl (w_iload rfl rfl (w_putI rfl (by first | rfl | assumption) rfl (w_aload rfl rfl ?_)))
          refine w_call (Or.inr rfl) (s1) (by omega) nof_83 rfl rfl rfl rfl (by first | rfl | (show cKB[_]? = _; assumption)) rfl ?_
          refine w_aload rfl rfl (w_getIV rfl (by first | rfl | assumption) (by first | exact Or.inl rfl | exact Or.inr rfl) (h7) (w_imul rfl ?_))
          rw [hz1]
          refine w_aload rfl rfl ?_
          refine w_call (Or.inr rfl) (s2) (by omega) nof_84 rfl rfl rfl rfl (by first | rfl | (show cKB[_]? = _; assumption)) rfl ?_
          refine w_aload rfl rfl (w_getIV rfl (by first | rfl | assumption) (by first | exact Or.inl rfl | exact Or.inr rfl) (h6) (w_imul rfl ?_))
          rw [hz2]
          refine w_isub rfl ?_
          refine w_if_le (tgt := 46) rfl (by first | assumption | exact i32_0 | (unfold i32 at *; omega)) rfl (fun c39 => ?_) (fun c39 => ?_)
          · skip
            refine w_iconst rfl (w_istore (ls2 := [_, _, _, _]) rfl rfl rfl (w_iload rfl rfl (w_iload rfl rfl ?_)))
            refine w_icmp_eq (tgt := 57) rfl (by first | assumption | exact i32_0 | (unfold i32 at *; omega)) (by first | assumption | exact i32_0 | (unfold i32 at *; omega)) rfl (fun c50 => ?_) (fun c50 => ?_)
            · exact absurd c50 (by decide)
            · skip
              refine w_aload rfl rfl ?_
              refine w_call (Or.inr rfl) (htr) (by omega) nof_85 rfl rfl rfl rfl (by first | rfl | (show cKB[_]? = _; assumption)) rfl ?_
              exact w_return rfl ⟨rfl, by exact ⟨hU3, fun a ha => by simp only [upI_ne _ _ _ _ ha]⟩⟩
          · skip
            exfalso; omega
        · skip
          exfalso; omega
  · rw [if_neg q4]
    refine w_aload rfl rfl (w_getIV rfl (by first | rfl | assumption) (by first | exact Or.inl rfl | exact Or.inr rfl) (h4) (w_iconst rfl ?_))
    refine w_icmp_eq (tgt := 15) rfl (by first | assumption | exact i32_0 | (unfold i32 at *; omega)) (by first | assumption | exact i32_0 | (unfold i32 at *; omega)) rfl (fun c6 => ?_) (fun c6 => ?_)
    · skip
      exfalso; omega
    · skip
      refine w_aload rfl rfl (w_iload rfl rfl (w_putI rfl (by first | rfl | assumption) rfl ?_))
      exact w_return rfl ⟨rfl, by exact ⟨EdR_up h 5 k, fun a ha => upI_ne _ _ _ _ ha⟩⟩
def endsR (e : Nat → Int) : Int := if e 4 = -1000000 then 0 else if e 5 = -1000000 then 1 else 2
theorem e_ends {c : Nat} {e : Nat → Int} {M : mM} (hc : isEd c) (h : EdR c e M) (hok : edOK e) : E 1 135 [vR c] M (some (vI (endsR e))) M := by
  have hc0 : cKB[c]? = some (0, 0) := hc
  obtain ⟨-, -, o4, o5, -⟩ := hok
  have h4 := h 4 (by decide)
  have h5 := h 5 (by decide)
  unfold endsR
  refine e_in (ls := [vR c]) mq_135 (ml_135 rfl) rfl fun D hD => ?_
  by_cases q4 : e 4 = -1000000
  · rw [if_pos q4]
    refine w_aload rfl rfl (w_getIV rfl (by first | rfl | assumption) (by first | exact Or.inl rfl | exact Or.inr rfl) (h4) (w_iconst rfl ?_))
    refine w_icmp_ne (tgt := 11) rfl (by first | assumption | exact i32_0 | (unfold i32 at *; omega)) (by first | assumption | exact i32_0 | (unfold i32 at *; omega)) rfl (fun c6 => ?_) (fun c6 => ?_)
    · skip
      exfalso; omega
    · skip
      refine w_iconst rfl ?_
      exact w_ireturn rfl ⟨by first | rfl | (congr 2; omega), by rfl⟩
  · rw [if_neg q4]
    by_cases q5 : e 5 = -1000000
    · rw [if_pos q5]
      refine w_aload rfl rfl (w_getIV rfl (by first | rfl | assumption) (by first | exact Or.inl rfl | exact Or.inr rfl) (h4) (w_iconst rfl ?_))
      refine w_icmp_ne (tgt := 11) rfl (by first | assumption | exact i32_0 | (unfold i32 at *; omega)) (by first | assumption | exact i32_0 | (unfold i32 at *; omega)) rfl (fun c6 => ?_) (fun c6 => ?_)
      · skip
        refine w_aload rfl rfl (w_getIV rfl (by first | rfl | assumption) (by first | exact Or.inl rfl | exact Or.inr rfl) (h5) (w_iconst rfl ?_))
        refine w_icmp_ne (tgt := 24) rfl (by first | assumption | exact i32_0 | (unfold i32 at *; omega)) (by first | assumption | exact i32_0 | (unfold i32 at *; omega)) rfl (fun c17 => ?_) (fun c17 => ?_)
        · skip
          exfalso; omega
        · skip
          refine w_iconst rfl (w_goto (tgt := 25) rfl rfl ?_)
          exact w_ireturn rfl ⟨by first | rfl | (congr 2; omega), by rfl⟩
      · skip
        exfalso; omega
    · rw [if_neg q5]
      refine w_aload rfl rfl (w_getIV rfl (by first | rfl | assumption) (by first | exact Or.inl rfl | exact Or.inr rfl) (h4) (w_iconst rfl ?_))
      refine w_icmp_ne (tgt := 11) rfl (by first | assumption | exact i32_0 | (unfold i32 at *; omega)) (by first | assumption | exact i32_0 | (unfold i32 at *; omega)) rfl (fun c6 => ?_) (fun c6 => ?_)
      · skip
        refine w_aload rfl rfl (w_getIV rfl (by first | rfl | assumption) (by first | exact Or.inl rfl | exact Or.inr rfl) (h5) (w_iconst rfl ?_))
        refine w_icmp_ne (tgt := 24) rfl (by first | assumption | exact i32_0 | (unfold i32 at *; omega)) (by first | assumption | exact i32_0 | (unfold i32 at *; omega)) rfl (fun c17 => ?_) (fun c17 => ?_)
        · skip
          refine w_iconst rfl ?_
          exact w_ireturn rfl ⟨by first | rfl | (congr 2; omega), by rfl⟩
        · skip
          exfalso; omega
      · skip
        exfalso; omega
theorem e_isBounded0 {c : Nat} {e : Nat → Int} {M : mM} (hc : isEd c) (h : EdR c e M) (h5 : e 5 = -1000000) : E 1 91 [vR c] M (some (vI 0)) M := by
  have hc0 : cKB[c]? = some (0, 0) := hc
  have h5 := (h 5 (by decide)).trans h5
  refine e_in (ls := [vR c]) mq_91 (ml_91 rfl) rfl fun D hD => ?_
  refine w_aload rfl rfl (w_getIV rfl (by first | rfl | assumption) (by first | exact Or.inl rfl | exact Or.inr rfl) (h5) (w_iconst rfl ?_))
  refine w_icmp_eq (tgt := 13) rfl (by first | assumption | exact i32_0 | (unfold i32 at *; omega)) (by first | assumption | exact i32_0 | (unfold i32 at *; omega)) rfl (fun c6 => ?_) (fun c6 => ?_)
  · skip
    refine w_iconst rfl ?_
    exact w_zreturn rfl (by first | exact Or.inl rfl | exact Or.inr rfl | omega | assumption) ⟨by first | rfl | (congr 2; omega), by rfl⟩
  · skip
    exfalso; omega
theorem e_isBounded1 {c : Nat} {e : Nat → Int} {M : mM} (hc : isEd c) (h : EdR c e M) (o5 : 0 ≤ e 5 ∧ e 5 < 16) : E 1 91 [vR c] M (some (vI 1)) M := by
  have hc0 : cKB[c]? = some (0, 0) := hc
  have h5 := h 5 (by decide)
  refine e_in (ls := [vR c]) mq_91 (ml_91 rfl) rfl fun D hD => ?_
  refine w_aload rfl rfl (w_getIV rfl (by first | rfl | assumption) (by first | exact Or.inl rfl | exact Or.inr rfl) (h5) (w_iconst rfl ?_))
  refine w_icmp_eq (tgt := 13) rfl (by first | assumption | exact i32_0 | (unfold i32 at *; omega)) (by first | assumption | exact i32_0 | (unfold i32 at *; omega)) rfl (fun c6 => ?_) (fun c6 => ?_)
  · skip
    exfalso; omega
  · skip
    refine w_iconst rfl (w_goto (tgt := 14) rfl rfl ?_)
    exact w_zreturn rfl (by first | exact Or.inl rfl | exact Or.inr rfl | omega | assumption) ⟨by first | rfl | (congr 2; omega), by rfl⟩
theorem e_touches {c : Nat} {e : Nat → Int} {M : mM} {k : Nat} (hc : isEd c) (h : EdR c e M) (hok : edOK e) (hk : k < 1000) : E 1 102 [vR c, vI k] M (some (vI (if e 4 = k ∨ e 5 = k then 1 else 0))) M := by
  have hc0 : cKB[c]? = some (0, 0) := hc
  obtain ⟨-, -, o4, o5, -⟩ := hok
  have h4 := h 4 (by decide)
  have h5 := h 5 (by decide)
  refine e_in (ls := [vR c, vI k]) mq_102 (ml_102 rfl) rfl fun D hD => ?_
  by_cases q : e 4 = k ∨ e 5 = k
  · rw [if_pos q]
    refine w_aload rfl rfl (w_getIV rfl (by first | rfl | assumption) (by first | exact Or.inl rfl | exact Or.inr rfl) (h4) (w_iload rfl rfl ?_))
    refine w_icmp_eq (tgt := 16) rfl (by first | assumption | exact i32_0 | (unfold i32 at *; omega)) (by first | assumption | exact i32_0 | (unfold i32 at *; omega)) rfl (fun c5 => ?_) (fun c5 => ?_)
    · skip
      refine w_iconst rfl (w_goto (tgt := 21) rfl rfl ?_)
      exact w_zreturn rfl (by first | exact Or.inl rfl | exact Or.inr rfl | omega | assumption) ⟨by first | rfl | (congr 2; omega), by rfl⟩
    · skip
      refine w_aload rfl rfl (w_getIV rfl (by first | rfl | assumption) (by first | exact Or.inl rfl | exact Or.inr rfl) (h5) (w_iload rfl rfl ?_))
      refine w_icmp_ne (tgt := 20) rfl (by first | assumption | exact i32_0 | (unfold i32 at *; omega)) (by first | assumption | exact i32_0 | (unfold i32 at *; omega)) rfl (fun c13 => ?_) (fun c13 => ?_)
      · skip
        exfalso; omega
      · skip
        refine w_iconst rfl (w_goto (tgt := 21) rfl rfl ?_)
        exact w_zreturn rfl (by first | exact Or.inl rfl | exact Or.inr rfl | omega | assumption) ⟨by first | rfl | (congr 2; omega), by rfl⟩
  · rw [if_neg q]
    refine w_aload rfl rfl (w_getIV rfl (by first | rfl | assumption) (by first | exact Or.inl rfl | exact Or.inr rfl) (h4) (w_iload rfl rfl ?_))
    refine w_icmp_eq (tgt := 16) rfl (by first | assumption | exact i32_0 | (unfold i32 at *; omega)) (by first | assumption | exact i32_0 | (unfold i32 at *; omega)) rfl (fun c5 => ?_) (fun c5 => ?_)
    · skip
      exfalso; omega
    · skip
      refine w_aload rfl rfl (w_getIV rfl (by first | rfl | assumption) (by first | exact Or.inl rfl | exact Or.inr rfl) (h5) (w_iload rfl rfl ?_))
      refine w_icmp_ne (tgt := 20) rfl (by first | assumption | exact i32_0 | (unfold i32 at *; omega)) (by first | assumption | exact i32_0 | (unfold i32 at *; omega)) rfl (fun c13 => ?_) (fun c13 => ?_)
      · skip
        refine w_iconst rfl ?_
        exact w_zreturn rfl (by first | exact Or.inl rfl | exact Or.inr rfl | omega | assumption) ⟨by first | rfl | (congr 2; omega), by rfl⟩
      · skip
        exfalso; omega
def sideR (e : Nat → Int) (k : Int) : Bool := decide (e 0 = k ∨ e 1 = k)
theorem e_isSideOf0 {c : Nat} {e : Nat → Int} {M : mM} {k : Nat} (hc : isEd c) (h : EdR c e M) (hok : edOK e) (hk : k < 1000) (q : sideR e k = false) : E 1 108 [vR c, vI k] M (some (vI 0)) M := by
  have hc0 : cKB[c]? = some (0, 0) := hc
  obtain ⟨o0, -⟩ := hok
  have h4 := h 0 (by decide)
  have h5 := h 1 (by decide)
  have q := of_decide_eq_false q
  refine e_in (ls := [vR c, vI k]) mq_108 (ml_108 rfl) rfl fun D hD => ?_
  refine w_aload rfl rfl (w_getIV rfl (by first | rfl | assumption) (by first | exact Or.inl rfl | exact Or.inr rfl) (h4) (w_iload rfl rfl ?_))
  refine w_icmp_eq (tgt := 16) rfl (by first | assumption | exact i32_0 | (unfold i32 at *; omega)) (by first | assumption | exact i32_0 | (unfold i32 at *; omega)) rfl (fun c5 => ?_) (fun c5 => ?_)
  · skip
    exfalso; omega
  · skip
    refine w_aload rfl rfl (w_getIV rfl (by first | rfl | assumption) (by first | exact Or.inl rfl | exact Or.inr rfl) (h5) (w_iload rfl rfl ?_))
    refine w_icmp_ne (tgt := 20) rfl (by first | assumption | exact i32_0 | (unfold i32 at *; omega)) (by first | assumption | exact i32_0 | (unfold i32 at *; omega)) rfl (fun c13 => ?_) (fun c13 => ?_)
    · skip
      refine w_iconst rfl ?_
      exact w_zreturn rfl (by first | exact Or.inl rfl | exact Or.inr rfl | omega | assumption) ⟨by first | rfl | (congr 2; omega), by rfl⟩
    · skip
      exfalso; omega
theorem e_isSideOf1 {c : Nat} {e : Nat → Int} {M : mM} {k : Nat} (hc : isEd c) (h : EdR c e M) (hok : edOK e) (hk : k < 1000) (q : sideR e k = true) : E 1 108 [vR c, vI k] M (some (vI 1)) M := by
  have hc0 : cKB[c]? = some (0, 0) := hc
  obtain ⟨o0, -⟩ := hok
  have h4 := h 0 (by decide)
  have h5 := h 1 (by decide)
  have q := of_decide_eq_true q
  refine e_in (ls := [vR c, vI k]) mq_108 (ml_108 rfl) rfl fun D hD => ?_
  refine w_aload rfl rfl (w_getIV rfl (by first | rfl | assumption) (by first | exact Or.inl rfl | exact Or.inr rfl) (h4) (w_iload rfl rfl ?_))
  refine w_icmp_eq (tgt := 16) rfl (by first | assumption | exact i32_0 | (unfold i32 at *; omega)) (by first | assumption | exact i32_0 | (unfold i32 at *; omega)) rfl (fun c5 => ?_) (fun c5 => ?_)
  · skip
    refine w_iconst rfl (w_goto (tgt := 21) rfl rfl ?_)
    exact w_zreturn rfl (by first | exact Or.inl rfl | exact Or.inr rfl | omega | assumption) ⟨by first | rfl | (congr 2; omega), by rfl⟩
  · skip
    refine w_aload rfl rfl (w_getIV rfl (by first | rfl | assumption) (by first | exact Or.inl rfl | exact Or.inr rfl) (h5) (w_iload rfl rfl ?_))
    refine w_icmp_ne (tgt := 20) rfl (by first | assumption | exact i32_0 | (unfold i32 at *; omega)) (by first | assumption | exact i32_0 | (unfold i32 at *; omega)) rfl (fun c13 => ?_) (fun c13 => ?_)
    · skip
      exfalso; omega
    · skip
      refine w_iconst rfl (w_goto (tgt := 21) rfl rfl ?_)
      exact w_zreturn rfl (by first | exact Or.inl rfl | exact Or.inr rfl | omega | assumption) ⟨by first | rfl | (congr 2; omega), by rfl⟩
/-- the vertices reached, with the edge's ends if one of them is reached -/
def spreadR (e : Nat → Int) (s : Nat) : Nat := if e 5 = -1000000 then s else if s &&& (2 ^ (e 4).toNat ||| 2 ^ (e 5).toNat) = 0 then s else s ||| (2 ^ (e 4).toNat ||| 2 ^ (e 5).toNat)
theorem e_spread {c s : Nat} {e : Nat → Int} {M : mM} (hc : isEd c) (h : EdR c e M) (hok : edOK e) (hs : s < 2 ^ 16) (h45 : e 5 ≠ -1000000 → e 4 ≠ -1000000) : E 2 97 [vR c, vI s] M (some (vI (spreadR e s))) M := by
  have hc0 : cKB[c]? = some (0, 0) := hc
  obtain ⟨-, -, o4, o5, -⟩ := hok
  have h4 := h 4 (by decide)
  have h5 := h 5 (by decide)
  unfold spreadR
  refine e_in (ls := [vR c, vI s, vN]) mq_97 (ml_97 rfl) rfl fun D hD => ?_
  by_cases q5 : e 5 = -1000000
  · rw [if_pos q5]
    refine w_aload rfl rfl ?_
    refine w_call (Or.inr rfl) (e_isBounded0 hc h q5) (by omega) nof_91 rfl rfl rfl rfl (by first | rfl | (show cKB[_]? = _; assumption)) rfl ?_
    refine w_if_ne (tgt := 9) rfl (by first | assumption | exact i32_0 | (unfold i32 at *; omega)) rfl (fun c => absurd c (by decide)) (fun _ => ?_)
    refine w_iload rfl rfl ?_
    exact w_ireturn rfl ⟨by first | rfl | (congr 2; omega), by rfl⟩
  · rw [if_neg q5]
    have o4b : 0 ≤ e 4 ∧ e 4 < 16 := by have := h45 q5; omega
    have o5b : 0 ≤ e 5 ∧ e 5 < 16 := by omega
    have h4 : M c 4 = ((e 4).toNat : Int) := by rw [h4]; omega
    have h5b : M c 5 = ((e 5).toNat : Int) := by rw [h5]; omega
    have a4 : (e 4).toNat < 16 := by omega
    have a5 : (e 5).toNat < 16 := by omega
    generalize (e 4).toNat = i at *
    generalize (e 5).toNat = j at *
    have p4 : 2 ^ i < 2 ^ 16 := Nat.pow_lt_pow_right (by decide) a4
    have p5 : 2 ^ j < 2 ^ 16 := Nat.pow_lt_pow_right (by decide) a5
    have e14 := bitI_shl i (by omega)
    have e20 := bitI_shl j (by omega)
    have e21 := bitI_or (a := 2 ^ i) (b := 2 ^ j) (by omega) (by omega)
    have p6 : 2 ^ i ||| 2 ^ j < 2 ^ 16 := Nat.or_lt_two_pow p4 p5
    generalize 2 ^ i ||| 2 ^ j = m at *
    have e25 := bitI_and (a := s) (b := m) (by omega)
    have e35 := bitI_or (a := s) (b := m) (by omega) (by omega)
    have p7 : s &&& m ≤ s := Nat.and_le_left
    by_cases qz : s &&& m = 0
    · rw [if_pos qz]
      rw [qz] at e25
      refine w_aload rfl rfl ?_
      refine w_call (Or.inr rfl) (e_isBounded1 hc h o5b) (by omega) nof_91 rfl rfl rfl rfl (by first | rfl | (show cKB[_]? = _; assumption)) rfl ?_
      refine w_if_ne (tgt := 9) rfl (by first | assumption | exact i32_0 | (unfold i32 at *; omega)) rfl (fun _ => ?_) (fun c => absurd c (by decide))
      refine w_iconst rfl (w_aload rfl rfl (w_getIV rfl (by first | rfl | assumption) (by first | exact Or.inl rfl | exact Or.inr rfl) (h4) (w_ishl rfl (e14) (w_iconst rfl (w_aload rfl rfl (w_getIV rfl (by first | rfl | assumption) (by first | exact Or.inl rfl | exact Or.inr rfl) (h5b) (w_ishl rfl (e20) ?_)))))))
      refine w_ior rfl (e21) (w_istore (ls2 := [_, _, _]) rfl rfl rfl (w_iload rfl rfl (w_iload rfl rfl (w_iand rfl (e25) ?_))))
      refine w_if_ne (tgt := 33) rfl (by first | assumption | exact i32_0 | (unfold i32 at *; omega)) rfl (fun c26 => ?_) (fun c26 => ?_)
      · skip
        exfalso; omega
      · skip
        refine w_iload rfl rfl (w_goto (tgt := 36) rfl rfl ?_)
        exact w_ireturn rfl ⟨by first | rfl | (congr 2; omega), by rfl⟩
    · rw [if_neg qz]
      refine w_aload rfl rfl ?_
      refine w_call (Or.inr rfl) (e_isBounded1 hc h o5b) (by omega) nof_91 rfl rfl rfl rfl (by first | rfl | (show cKB[_]? = _; assumption)) rfl ?_
      refine w_if_ne (tgt := 9) rfl (by first | assumption | exact i32_0 | (unfold i32 at *; omega)) rfl (fun _ => ?_) (fun c => absurd c (by decide))
      refine w_iconst rfl (w_aload rfl rfl (w_getIV rfl (by first | rfl | assumption) (by first | exact Or.inl rfl | exact Or.inr rfl) (h4) (w_ishl rfl (e14) (w_iconst rfl (w_aload rfl rfl (w_getIV rfl (by first | rfl | assumption) (by first | exact Or.inl rfl | exact Or.inr rfl) (h5b) (w_ishl rfl (e20) ?_)))))))
      refine w_ior rfl (e21) (w_istore (ls2 := [_, _, _]) rfl rfl rfl (w_iload rfl rfl (w_iload rfl rfl (w_iand rfl (e25) ?_))))
      refine w_if_ne (tgt := 33) rfl (by first | assumption | exact i32_0 | (unfold i32 at *; omega)) rfl (fun c26 => ?_) (fun c26 => ?_)
      · skip
        refine w_iload rfl rfl (w_iload rfl rfl (w_ior rfl (e35) ?_))
        exact w_ireturn rfl ⟨by first | rfl | (congr 2; omega), by rfl⟩
      · skip
        exfalso; omega
theorem e_hasLineOf {c d : Nat} {e f : Nat → Int} {M : mM} (hc : isEd c) (hd : isEd d) (h : EdR c e M) (g : EdR d f M) (ho : edOK e) (hp : edOK f) : E 2 146 [vR c, vR d] M (some (vI (if edSI e = edSI f ∧ edSJ e = edSJ f ∧ e 2 = f 2 then 1 else 0))) M := by
  have hc0 : cKB[c]? = some (0, 0) := hc
  have hd0 : cKB[d]? = some (0, 0) := hd
  obtain ⟨⟨o0, o1, o2, o3⟩, o4, -⟩ := ho
  obtain ⟨⟨p0, p1, p2, p3⟩, p4, -⟩ := hp
  have b1 := pi_le (p := (e 0).toNat) (by omega)
  have b2 := pi_le (p := (e 1).toNat) (by omega)
  have b3 := pj_le (e 0).toNat
  have b4 := pj_le (e 1).toNat
  have b5 := pi_le (p := (f 0).toNat) (by omega)
  have b6 := pi_le (p := (f 1).toNat) (by omega)
  have b7 := pj_le (f 0).toNat
  have b8 := pj_le (f 1).toNat
  have s1 : E 1 83 [vR c] M (some (vI (edSI e))) M := e_stepI hc (h 0 (by decide)) (h 1 (by decide)) ⟨o0, o1⟩ ⟨o2, o3⟩
  have s2 : E 1 84 [vR c] M (some (vI (edSJ e))) M := e_stepJ hc (h 0 (by decide)) (h 1 (by decide)) ⟨o0, o1⟩ ⟨o2, o3⟩
  have s3 : E 1 83 [vR d] M (some (vI (edSI f))) M := e_stepI hd (g 0 (by decide)) (g 1 (by decide)) ⟨p0, p1⟩ ⟨p2, p3⟩
  have s4 : E 1 84 [vR d] M (some (vI (edSJ f))) M := e_stepJ hd (g 0 (by decide)) (g 1 (by decide)) ⟨p0, p1⟩ ⟨p2, p3⟩
  have l1 : -4 ≤ edSI e ∧ edSI e ≤ 4 := by unfold edSI; omega
  have l2 : -4 ≤ edSJ e ∧ edSJ e ≤ 4 := by unfold edSJ; omega
  have l3 : -4 ≤ edSI f ∧ edSI f ≤ 4 := by unfold edSI; omega
  have l4 : -4 ≤ edSJ f ∧ edSJ f ≤ 4 := by unfold edSJ; omega
  have h2 := h 2 (by decide)
  have g2 := g 2 (by decide)
  refine e_in (ls := [vR c, vR d]) mq_146 (ml_146 rfl) rfl fun D hD => ?_
  by_cases q : edSI e = edSI f ∧ edSJ e = edSJ f ∧ e 2 = f 2
  · rw [if_pos q]
    refine w_aload rfl rfl ?_
    refine w_call (Or.inr rfl) ((s1)) (by omega) nof_83 rfl rfl rfl rfl (by first | rfl | (show cKB[_]? = _; assumption)) rfl ?_
    refine w_aload rfl rfl ?_
    refine w_call (Or.inr rfl) ((s3)) (by omega) nof_83 rfl rfl rfl rfl (by first | rfl | (show cKB[_]? = _; assumption)) rfl ?_
    refine w_icmp_ne (tgt := 37) rfl (by first | assumption | exact i32_0 | (unfold i32 at *; omega)) (by first | assumption | exact i32_0 | (unfold i32 at *; omega)) rfl (fun c8 => ?_) (fun c8 => ?_)
    · skip
      exfalso; omega
    · skip
      refine w_aload rfl rfl ?_
      refine w_call (Or.inr rfl) ((s2)) (by omega) nof_84 rfl rfl rfl rfl (by first | rfl | (show cKB[_]? = _; assumption)) rfl ?_
      refine w_aload rfl rfl ?_
      refine w_call (Or.inr rfl) ((s4)) (by omega) nof_84 rfl rfl rfl rfl (by first | rfl | (show cKB[_]? = _; assumption)) rfl ?_
      refine w_icmp_ne (tgt := 37) rfl (by first | assumption | exact i32_0 | (unfold i32 at *; omega)) (by first | assumption | exact i32_0 | (unfold i32 at *; omega)) rfl (fun c19 => ?_) (fun c19 => ?_)
      · skip
        exfalso; omega
      · skip
        refine w_aload rfl rfl (w_getIV rfl (by first | rfl | assumption) (by first | exact Or.inl rfl | exact Or.inr rfl) (h2) (w_aload rfl rfl (w_getIV rfl (by first | rfl | assumption) (by first | exact Or.inl rfl | exact Or.inr rfl) (g2) ?_)))
        refine w_icmp_ne (tgt := 37) rfl (by first | assumption | exact i32_0 | (unfold i32 at *; omega)) (by first | assumption | exact i32_0 | (unfold i32 at *; omega)) rfl (fun c30 => ?_) (fun c30 => ?_)
        · skip
          exfalso; omega
        · skip
          refine w_iconst rfl (w_goto (tgt := 38) rfl rfl ?_)
          exact w_zreturn rfl (by first | exact Or.inl rfl | exact Or.inr rfl | omega | assumption) ⟨by first | rfl | (congr 2; omega), by rfl⟩
  · rw [if_neg q]
    refine w_aload rfl rfl ?_
    refine w_call (Or.inr rfl) ((s1)) (by omega) nof_83 rfl rfl rfl rfl (by first | rfl | (show cKB[_]? = _; assumption)) rfl ?_
    refine w_aload rfl rfl ?_
    refine w_call (Or.inr rfl) ((s3)) (by omega) nof_83 rfl rfl rfl rfl (by first | rfl | (show cKB[_]? = _; assumption)) rfl ?_
    refine w_icmp_ne (tgt := 37) rfl (by first | assumption | exact i32_0 | (unfold i32 at *; omega)) (by first | assumption | exact i32_0 | (unfold i32 at *; omega)) rfl (fun c8 => ?_) (fun c8 => ?_)
    · skip
      refine w_iconst rfl ?_
      exact w_zreturn rfl (by first | exact Or.inl rfl | exact Or.inr rfl | omega | assumption) ⟨by first | rfl | (congr 2; omega), by rfl⟩
    · skip
      refine w_aload rfl rfl ?_
      refine w_call (Or.inr rfl) ((s2)) (by omega) nof_84 rfl rfl rfl rfl (by first | rfl | (show cKB[_]? = _; assumption)) rfl ?_
      refine w_aload rfl rfl ?_
      refine w_call (Or.inr rfl) ((s4)) (by omega) nof_84 rfl rfl rfl rfl (by first | rfl | (show cKB[_]? = _; assumption)) rfl ?_
      refine w_icmp_ne (tgt := 37) rfl (by first | assumption | exact i32_0 | (unfold i32 at *; omega)) (by first | assumption | exact i32_0 | (unfold i32 at *; omega)) rfl (fun c19 => ?_) (fun c19 => ?_)
      · skip
        refine w_iconst rfl ?_
        exact w_zreturn rfl (by first | exact Or.inl rfl | exact Or.inr rfl | omega | assumption) ⟨by first | rfl | (congr 2; omega), by rfl⟩
      · skip
        refine w_aload rfl rfl (w_getIV rfl (by first | rfl | assumption) (by first | exact Or.inl rfl | exact Or.inr rfl) (h2) (w_aload rfl rfl (w_getIV rfl (by first | rfl | assumption) (by first | exact Or.inl rfl | exact Or.inr rfl) (g2) ?_)))
        refine w_icmp_ne (tgt := 37) rfl (by first | assumption | exact i32_0 | (unfold i32 at *; omega)) (by first | assumption | exact i32_0 | (unfold i32 at *; omega)) rfl (fun c30 => ?_) (fun c30 => ?_)
        · skip
          refine w_iconst rfl ?_
          exact w_zreturn rfl (by first | exact Or.inl rfl | exact Or.inr rfl | omega | assumption) ⟨by first | rfl | (congr 2; omega), by rfl⟩
        · skip
          exfalso; omega
theorem e_told {c : Nat} {e : Nat → Int} {M : mM} {w : Int} (hc : isEd c) (h : EdR c e M) (h10 : e 10 = 0 ∨ e 10 = 1) (hw : 0 ≤ w ∧ w ≤ 9) : E 1 104 [vR c, vI w] M (some (vI (if w = 9 then e 10 else e (if w = 0 then 0 else if w = 1 then 1 else w.toNat + 1)))) M := by
  have hc0 : cKB[c]? = some (0, 0) := hc
  have h0 := h 0 (by decide)
  have h1 := h 1 (by decide)
  have h3 := h 3 (by decide)
  have h4 := h 4 (by decide)
  have h5 := h 5 (by decide)
  have h6 := h 6 (by decide)
  have h7 := h 7 (by decide)
  have h8 := h 8 (by decide)
  have h9 := h 9 (by decide)
  have h10b := h 10 (by decide)
  refine e_in (ls := [vR c, vI w]) mq_104 (ml_104 rfl) rfl fun D hD => ?_
  have : w = 0 ∨ w = 1 ∨ w = 2 ∨ w = 3 ∨ w = 4 ∨ w = 5 ∨ w = 6 ∨ w = 7 ∨ w = 8 ∨ w = 9 := by omega
  rcases this with rfl | rfl | rfl | rfl | rfl | rfl | rfl | rfl | rfl | rfl
  · skip
    refine w_iload rfl rfl ?_
    skip
    · skip
      refine w_tsw (tgt := 52) rfl (by first | assumption | exact i32_0 | (unfold i32 at *; omega)) (by rfl) ?_
      refine w_aload rfl rfl (w_getIV rfl (by first | rfl | assumption) (by first | exact Or.inl rfl | exact Or.inr rfl) (h0) ?_)
      exact w_ireturn rfl ⟨by first | rfl | (congr 2; omega), by rfl⟩
  · skip
    refine w_iload rfl rfl ?_
    skip
    · skip
      refine w_tsw (tgt := 57) rfl (by first | assumption | exact i32_0 | (unfold i32 at *; omega)) (by rfl) ?_
      refine w_aload rfl rfl (w_getIV rfl (by first | rfl | assumption) (by first | exact Or.inl rfl | exact Or.inr rfl) (h1) ?_)
      exact w_ireturn rfl ⟨by first | rfl | (congr 2; omega), by rfl⟩
  · skip
    refine w_iload rfl rfl ?_
    skip
    · skip
      refine w_tsw (tgt := 62) rfl (by first | assumption | exact i32_0 | (unfold i32 at *; omega)) (by rfl) ?_
      refine w_aload rfl rfl (w_getIV rfl (by first | rfl | assumption) (by first | exact Or.inl rfl | exact Or.inr rfl) (h3) ?_)
      exact w_ireturn rfl ⟨by first | rfl | (congr 2; omega), by rfl⟩
  · skip
    refine w_iload rfl rfl ?_
    skip
    · skip
      refine w_tsw (tgt := 67) rfl (by first | assumption | exact i32_0 | (unfold i32 at *; omega)) (by rfl) ?_
      refine w_aload rfl rfl (w_getIV rfl (by first | rfl | assumption) (by first | exact Or.inl rfl | exact Or.inr rfl) (h4) ?_)
      exact w_ireturn rfl ⟨by first | rfl | (congr 2; omega), by rfl⟩
  · skip
    refine w_iload rfl rfl ?_
    skip
    · skip
      refine w_tsw (tgt := 72) rfl (by first | assumption | exact i32_0 | (unfold i32 at *; omega)) (by rfl) ?_
      refine w_aload rfl rfl (w_getIV rfl (by first | rfl | assumption) (by first | exact Or.inl rfl | exact Or.inr rfl) (h5) ?_)
      exact w_ireturn rfl ⟨by first | rfl | (congr 2; omega), by rfl⟩
  · skip
    refine w_iload rfl rfl ?_
    skip
    · skip
      refine w_tsw (tgt := 77) rfl (by first | assumption | exact i32_0 | (unfold i32 at *; omega)) (by rfl) ?_
      refine w_aload rfl rfl (w_getIV rfl (by first | rfl | assumption) (by first | exact Or.inl rfl | exact Or.inr rfl) (h6) ?_)
      exact w_ireturn rfl ⟨by first | rfl | (congr 2; omega), by rfl⟩
  · skip
    refine w_iload rfl rfl ?_
    skip
    · skip
      refine w_tsw (tgt := 82) rfl (by first | assumption | exact i32_0 | (unfold i32 at *; omega)) (by rfl) ?_
      refine w_aload rfl rfl (w_getIV rfl (by first | rfl | assumption) (by first | exact Or.inl rfl | exact Or.inr rfl) (h7) ?_)
      exact w_ireturn rfl ⟨by first | rfl | (congr 2; omega), by rfl⟩
  · skip
    refine w_iload rfl rfl ?_
    skip
    · skip
      refine w_tsw (tgt := 87) rfl (by first | assumption | exact i32_0 | (unfold i32 at *; omega)) (by rfl) ?_
      refine w_aload rfl rfl (w_getIV rfl (by first | rfl | assumption) (by first | exact Or.inl rfl | exact Or.inr rfl) (h8) ?_)
      exact w_ireturn rfl ⟨by first | rfl | (congr 2; omega), by rfl⟩
  · skip
    refine w_iload rfl rfl ?_
    skip
    · skip
      refine w_tsw (tgt := 92) rfl (by first | assumption | exact i32_0 | (unfold i32 at *; omega)) (by rfl) ?_
      refine w_aload rfl rfl (w_getIV rfl (by first | rfl | assumption) (by first | exact Or.inl rfl | exact Or.inr rfl) (h9) ?_)
      exact w_ireturn rfl ⟨by first | rfl | (congr 2; omega), by rfl⟩
  · rcases h10 with h10 | h10
    · rw [h10] at h10b ⊢
      refine w_iload rfl rfl ?_
      skip
      · skip
        refine w_tsw (tgt := 97) rfl (by first | assumption | exact i32_0 | (unfold i32 at *; omega)) (by rfl) ?_
        refine w_aload rfl rfl (w_getIV rfl (by first | rfl | assumption) (by first | exact Or.inl rfl | exact Or.inr rfl) (h10b) ?_)
        refine w_if_eq (tgt := 108) rfl (by first | assumption | exact i32_0 | (unfold i32 at *; omega)) rfl (fun _ => ?_) (fun c => absurd c (by decide))
        refine w_iconst rfl ?_
        exact w_ireturn rfl ⟨by first | rfl | (congr 2; omega), by rfl⟩
    · rw [h10] at h10b ⊢
      refine w_iload rfl rfl ?_
      skip
      · skip
        refine w_tsw (tgt := 97) rfl (by first | assumption | exact i32_0 | (unfold i32 at *; omega)) (by rfl) ?_
        refine w_aload rfl rfl (w_getIV rfl (by first | rfl | assumption) (by first | exact Or.inl rfl | exact Or.inr rfl) (h10b) ?_)
        refine w_if_eq (tgt := 108) rfl (by first | assumption | exact i32_0 | (unfold i32 at *; omega)) rfl (fun c => absurd c (by decide)) (fun _ => ?_)
        refine w_iconst rfl (w_goto (tgt := 109) rfl rfl ?_)
        exact w_ireturn rfl ⟨by first | rfl | (congr 2; omega), by rfl⟩
