/-! ===== an edge's length ===== -/
theorem meas {n1 d1 n0 d0 s len X1 X0 g1 g0 : Int} (hg1 : 0 < g1) (hg0 : 0 < g0) (e1 : n1 * g1 = X1) (e2 : d1 * g1 = 720720) (e3 : n0 * g0 = X0) (e4 : d0 * g0 = 720720) (hs : s ≠ 0) (hl : 0 < len) (h : X1 - X0 = s * len) :
    d1 * d0 * s ≠ 0 ∧ ((n1 * d0 - n0 * d1).natAbs : Int).tdiv (gcd1 (n1 * d0 - n0 * d1) (d1 * d0 * s)) = numP len ∧ ((d1 * d0 * s).natAbs : Int).tdiv (gcd1 (n1 * d0 - n0 * d1) (d1 * d0 * s)) = denP len := by
  have hgg : 0 < g1 * g0 := Int.mul_pos hg1 hg0
  have d1n : d1 ≠ 0 := fun q => by rw [q] at e2; simp at e2
  have d0n : d0 ≠ 0 := fun q => by rw [q] at e4; simp at e4
  have hb : d1 * d0 * s ≠ 0 := Int.mul_ne_zero (Int.mul_ne_zero d1n d0n) hs
  have ht : (n1 * d0 - n0 * d1) * 720720 = d1 * d0 * s * len := by
    refine Int.eq_of_mul_eq_mul_left (a := g1 * g0) (by omega) ?_
    have a1 : g1 * g0 * ((n1 * d0 - n0 * d1) * 720720) = (n1 * g1) * (d0 * g0) * 720720 - (n0 * g0) * (d1 * g1) * 720720 := by
      rw [Int.sub_mul, Int.mul_sub]; simp only [Int.mul_assoc, Int.mul_comm, Int.mul_left_comm]
    have a2 : g1 * g0 * (d1 * d0 * s * len) = (d1 * g1) * (d0 * g0) * (s * len) := by
      simp only [Int.mul_assoc, Int.mul_comm, Int.mul_left_comm]
    rw [a1, a2, e1, e2, e3, e4, ← h]
    omega
  generalize n1 * d0 - n0 * d1 = top at *
  generalize d1 * d0 * s = bot at *
  refine ⟨hb, ?_⟩
  have hG : gcd1 top bot = Int.gcd top bot := by
    have : 0 < Int.gcd top bot := Int.gcd_pos_of_ne_zero_right top hb
    unfold gcd1
    show max (Int.gcd top bot) 1 = _
    omega
  have hGp : 0 < Int.gcd top bot := Int.gcd_pos_of_ne_zero_right top hb
  rw [hG]
  have k1 : Int.gcd (top * 720720) (bot * 720720) = Int.gcd top bot * 720720 := by
    rw [Int.gcd_mul_right]; rfl
  have k2 : Int.gcd (bot * len) (bot * 720720) = bot.natAbs * Int.gcd len 720720 := Int.gcd_mul_left ..
  rw [ht, k2] at k1
  have hH := gcdP_pos len
  have hd := denP_mul len
  have hn := numP_mul len
  have k1i : ((bot.natAbs : Nat) : Int) * (Int.gcd len 720720 : Int) = (Int.gcd top bot : Int) * 720720 := by
    rw [← Int.natCast_mul, k1, Int.natCast_mul]; rfl
  generalize (Int.gcd len 720720 : Int) = H at *
  have hGpi : (0 : Int) < (Int.gcd top bot : Int) := by omega
  generalize (Int.gcd top bot : Int) = G at *
  have b1 : ((bot.natAbs : Nat) : Int) = G * denP len := by
    refine Int.eq_of_mul_eq_mul_right (a := H) (by omega) ?_
    rw [k1i, Int.mul_assoc, hd]
  have b2 : ((top.natAbs : Nat) : Int) = G * numP len := by
    have z := congrArg Int.natAbs ht
    rw [Int.natAbs_mul, Int.natAbs_mul] at z
    have z2 : ((top.natAbs : Nat) : Int) * 720720 = ((bot.natAbs : Nat) : Int) * len := by
      have z3 : ((top.natAbs * Int.natAbs 720720 : Nat) : Int) = ((bot.natAbs * len.natAbs : Nat) : Int) := by rw [z]
      rw [Int.natCast_mul, Int.natCast_mul, Int.natAbs_of_nonneg (by omega : 0 ≤ len)] at z3
      exact z3
    refine Int.eq_of_mul_eq_mul_right (a := 720720) (by decide) ?_
    rw [z2, b1]
    generalize numP len = n at hn ⊢
    generalize denP len = e at hd ⊢
    rw [← hn, ← hd]
    simp only [Int.mul_assoc, Int.mul_comm, Int.mul_left_comm]
  rw [b1, b2]
  exact ⟨Int.mul_tdiv_cancel_left _ (by omega), Int.mul_tdiv_cancel_left _ (by omega)⟩
theorem e_measure0 {c p : Nat} {e : Nat → Int} {M : mM} (hc : isEd c) (h : EdR c e M) (h5 : e 5 = -1000000) : E 2 90 [vR c, vR p] M none M := by
  refine e_in (ls := [vR c, vR p, vN, vN, vN, vN, vN]) mq_90 (ml_90 rfl) rfl fun D hD => ?_
  refine w_aload rfl rfl ?_
  refine w_call (Or.inr rfl) (e_isBounded0 hc h h5) (by omega) nof_91 rfl rfl rfl rfl (by first | rfl | (show cKB[_]? = _; assumption)) rfl ?_
  refine w_if_ne (tgt := 8) rfl (by first | assumption | exact i32_0 | (unfold i32 at *; omega)) rfl (fun c => absurd c (by decide)) (fun _ => ?_)
  exact w_return rfl ⟨rfl, by rfl⟩
theorem e_measureX {c p a b : Nat} {e : Nat → Int} {L : List Pt} {M : mM} {P Q : Pt} {len : Int} (hc : isEd c) (h : EdR c e M) (hok : edOK e) (hp : isPts p) (hL : PtR p L M) (h4 : e 4 = (a : Int)) (h5 : e 5 = (b : Int)) (hP : L[a]? = some P) (hQ : L[b]? = some Q) (hu : e 6 ≠ 0) (hlen : 0 < len) (hx : Q.1 - P.1 = e 6 * len) :
    E 3 90 [vR c, vR p] M none (upI (upI M c 8 (numP len)) c 9 (denP len)) := by
  have hc0 : cKB[c]? = some (0, 0) := hc
  have hp0 : cKB[p]? = some (0, 5) := hp.1.1
  obtain ⟨-, -, -, o5, ⟨o6, o7, -⟩, -⟩ := hok
  have m4 := (h 4 (by decide)).trans h4
  have m5 := (h 5 (by decide)).trans h5
  have m6 := h 6 (by decide)
  have bP := (hL.2.2 a P hP).1.1
  have bQ := (hL.2.2 b Q hQ).1.1
  have c1 : E 1 92 [vR p, vI b, vI 0] M (some (vI (numP Q.1))) M := e_coord hp hL hQ 0 (by decide)
  have c2 : E 1 92 [vR p, vI a, vI (0 + 1)] M (some (vI (denP P.1))) M := e_coord hp hL hP 1 (by decide)
  have c3 : E 1 92 [vR p, vI a, vI 0] M (some (vI (numP P.1))) M := e_coord hp hL hP 0 (by decide)
  have c4 : E 1 92 [vR p, vI b, vI (0 + 1)] M (some (vI (denP Q.1))) M := e_coord hp hL hQ 1 (by decide)
  obtain ⟨r1, r2, r3⟩ := meas (gcdP_pos Q.1) (gcdP_pos P.1) (numP_mul Q.1) (denP_mul Q.1) (numP_mul P.1) (denP_mul P.1) hu hlen hx
  have x1 := mul_le (A := 100000) (B := 16) ⟨bQ.1, bQ.2.1⟩ (⟨by omega, bP.2.2.2⟩ : -16 ≤ denP P.1 ∧ denP P.1 ≤ 16)
  have x2 := mul_le (A := 100000) (B := 16) ⟨bP.1, bP.2.1⟩ (⟨by omega, bQ.2.2.2⟩ : -16 ≤ denP Q.1 ∧ denP Q.1 ≤ 16)
  have x3 := mul_le (A := 16) (B := 16) (⟨by omega, bQ.2.2.2⟩ : -16 ≤ denP Q.1 ∧ denP Q.1 ≤ 16) (⟨by omega, bP.2.2.2⟩ : -16 ≤ denP P.1 ∧ denP P.1 ≤ 16)
  have x4 := mul_le (A := 16 * 16) (B := 4) x3 ⟨o6, o7⟩
  generalize ht : numP Q.1 * denP P.1 - numP P.1 * denP Q.1 = top at *
  generalize hb : denP Q.1 * denP P.1 * e 6 = bot at *
  have dv := e_divisor top bot M (by omega) (by omega)
  have ab1 := e_abs top M (by unfold i32; omega)
  have hg : 1 ≤ gcd1 top bot := by unfold gcd1; omega
  have hg2 : (gcd1 top bot : Int) ≤ 2147483647 := by
    have : (Int.gcd top bot : Int) ≤ bot.natAbs := by
      have := Nat.le_of_dvd (by omega) (Int.gcd_dvd_natAbs_right top bot)
      omega
    have : gcd1 top bot = max (Int.gcd top bot) 1 := rfl
    omega
  have ab2 := e_abs bot (upI M c 8 (numP len)) (by unfold i32; omega)
  refine e_in (ls := [vR c, vR p, vN, vN, vN, vN, vN]) mq_90 (ml_90 rfl) rfl fun D hD => ?_
  refine w_aload rfl rfl ?_
  refine w_call (Or.inr rfl) (e_isBounded1 hc h (by omega)) (by omega) nof_91 rfl rfl rfl rfl (by first | rfl | (show cKB[_]? = _; assumption)) rfl ?_
  refine w_if_ne (tgt := 8) rfl (by first | assumption | exact i32_0 | (unfold i32 at *; omega)) rfl (fun _ => ?_) (fun c => absurd c (by decide))
  refine w_aload rfl rfl (w_getIV rfl (by first | rfl | assumption) (by first | exact Or.inl rfl | exact Or.inr rfl) (m6) ?_)
  refine w_if_eq (tgt := 19) rfl (by first | assumption | exact i32_0 | (unfold i32 at *; omega)) rfl (fun c12 => ?_) (fun c12 => ?_)
  · skip
    exfalso; omega
  · skip
    refine w_iconst rfl (w_goto (tgt := 20) rfl rfl (w_istore (ls2 := [_, _, _, _, _, _, _]) rfl rfl rfl (w_aload rfl rfl (w_getIV rfl (by first | rfl | assumption) (by first | exact Or.inl rfl | exact Or.inr rfl) (m6) ?_))))
    refine w_if_eq (tgt := 35) rfl (by first | assumption | exact i32_0 | (unfold i32 at *; omega)) rfl (fun c25 => ?_) (fun c25 => ?_)
    · skip
      exfalso; omega
    · skip
      refine w_aload rfl rfl (w_getIV rfl (by first | rfl | assumption) (by first | exact Or.inl rfl | exact Or.inr rfl) (m6) (w_goto (tgt := 39) rfl rfl (w_istore (ls2 := [_, _, _, _, _, _, _]) rfl rfl rfl (w_aload rfl rfl (w_aload rfl rfl (w_getIV rfl (by first | rfl | assumption) (by first | exact Or.inl rfl | exact Or.inr rfl) (m5) (w_iload rfl rfl ?_)))))))
      refine w_call (Or.inr rfl) (c1 ) (by omega) nof_92 rfl rfl rfl rfl (by first | rfl | (show cKB[_]? = _; assumption)) rfl ?_
      refine w_aload rfl rfl (w_aload rfl rfl (w_getIV rfl (by first | rfl | assumption) (by first | exact Or.inl rfl | exact Or.inr rfl) (m4) (w_iload rfl rfl (w_iconst rfl (w_iadd rfl ?_)))))
      refine w_call (Or.inr rfl) ((c2)) (by omega) nof_92 rfl rfl rfl rfl (by first | rfl | (show cKB[_]? = _; assumption)) rfl ?_
      refine w_imul rfl (w_aload rfl rfl (w_aload rfl rfl (w_getIV rfl (by first | rfl | assumption) (by first | exact Or.inl rfl | exact Or.inr rfl) (m4) (w_iload rfl rfl ?_))))
      refine w_call (Or.inr rfl) ((c3)) (by omega) nof_92 rfl rfl rfl rfl (by first | rfl | (show cKB[_]? = _; assumption)) rfl ?_
      refine w_aload rfl rfl (w_aload rfl rfl (w_getIV rfl (by first | rfl | assumption) (by first | exact Or.inl rfl | exact Or.inr rfl) (m5) (w_iload rfl rfl (w_iconst rfl (w_iadd rfl ?_)))))
      refine w_call (Or.inr rfl) ((c4)) (by omega) nof_92 rfl rfl rfl rfl (by first | rfl | (show cKB[_]? = _; assumption)) rfl ?_
      refine w_imul rfl (w_isub rfl ?_)
      rw [ht]
      refine w_istore (ls2 := [_, _, _, _, _, _, _]) rfl rfl rfl (w_aload rfl rfl (w_aload rfl rfl (w_getIV rfl (by first | rfl | assumption) (by first | exact Or.inl rfl | exact Or.inr rfl) (m5) (w_iload rfl rfl (w_iconst rfl (w_iadd rfl ?_))))))
      refine w_call (Or.inr rfl) ((c4)) (by omega) nof_92 rfl rfl rfl rfl (by first | rfl | (show cKB[_]? = _; assumption)) rfl ?_
      refine w_aload rfl rfl (w_aload rfl rfl (w_getIV rfl (by first | rfl | assumption) (by first | exact Or.inl rfl | exact Or.inr rfl) (m4) (w_iload rfl rfl (w_iconst rfl (w_iadd rfl ?_)))))
      refine w_call (Or.inr rfl) ((c2)) (by omega) nof_92 rfl rfl rfl rfl (by first | rfl | (show cKB[_]? = _; assumption)) rfl ?_
      refine w_imul rfl (w_iload rfl rfl (w_imul rfl ?_))
      rw [hb]
      refine w_istore (ls2 := [_, _, _, _, _, _, _]) rfl rfl rfl (w_iload rfl rfl (w_iload rfl rfl ?_))
      refine w_call (Or.inl rfl) (dv) (by omega) nof_78 rfl rfl rfl rfl trivial rfl ?_
      refine w_istore (ls2 := [_, _, _, _, _, _, _]) rfl rfl rfl (w_aload rfl rfl (w_iload rfl rfl ?_))
      refine w_call (Or.inl rfl) ((ab1)) (by omega) nof_79 rfl rfl rfl rfl trivial rfl ?_
      refine w_iload rfl rfl (w_idiv rfl (by first | assumption | exact i32_0 | (unfold i32 at *; omega)) (by first | assumption | exact i32_0 | (unfold i32 at *; omega)) (by first | decide | omega | assumption) ?_)
      rw [r2]
      refine w_putI rfl (by first | rfl | assumption) rfl (w_aload rfl rfl (w_iload rfl rfl ?_))
      refine w_call (Or.inl rfl) ((ab2)) (by omega) nof_79 rfl rfl rfl rfl trivial rfl ?_
      refine w_iload rfl rfl (w_idiv rfl (by first | assumption | exact i32_0 | (unfold i32 at *; omega)) (by first | assumption | exact i32_0 | (unfold i32 at *; omega)) (by first | decide | omega | assumption) ?_)
      rw [r3]
      refine w_putI rfl (by first | rfl | assumption) rfl ?_
      exact w_return rfl ⟨rfl, by rfl⟩
theorem e_measureY {c p a b : Nat} {e : Nat → Int} {L : List Pt} {M : mM} {P Q : Pt} {len : Int} (hc : isEd c) (h : EdR c e M) (hok : edOK e) (hp : isPts p) (hL : PtR p L M) (h4 : e 4 = (a : Int)) (h5 : e 5 = (b : Int)) (hP : L[a]? = some P) (hQ : L[b]? = some Q) (hu : e 6 = 0) (hv : e 7 ≠ 0) (hlen : 0 < len) (hx : Q.2.1 - P.2.1 = e 7 * len) :
    E 3 90 [vR c, vR p] M none (upI (upI M c 8 (numP len)) c 9 (denP len)) := by
  have hc0 : cKB[c]? = some (0, 0) := hc
  have hp0 : cKB[p]? = some (0, 5) := hp.1.1
  obtain ⟨-, -, -, o5, ⟨-, -, o6, o7⟩, -⟩ := hok
  have m4 := (h 4 (by decide)).trans h4
  have m5 := (h 5 (by decide)).trans h5
  have m6 := h 6 (by decide)
  have m7 := h 7 (by decide)
  have bP := (hL.2.2 a P hP).1.2.1
  have bQ := (hL.2.2 b Q hQ).1.2.1
  have c1 : E 1 92 [vR p, vI b, vI 2] M (some (vI (numP Q.2.1))) M := e_coord hp hL hQ 2 (by decide)
  have c2 : E 1 92 [vR p, vI a, vI (2 + 1)] M (some (vI (denP P.2.1))) M := e_coord hp hL hP 3 (by decide)
  have c3 : E 1 92 [vR p, vI a, vI 2] M (some (vI (numP P.2.1))) M := e_coord hp hL hP 2 (by decide)
  have c4 : E 1 92 [vR p, vI b, vI (2 + 1)] M (some (vI (denP Q.2.1))) M := e_coord hp hL hQ 3 (by decide)
  obtain ⟨r1, r2, r3⟩ := meas (gcdP_pos Q.2.1) (gcdP_pos P.2.1) (numP_mul Q.2.1) (denP_mul Q.2.1) (numP_mul P.2.1) (denP_mul P.2.1) hv hlen hx
  have x1 := mul_le (A := 100000) (B := 16) ⟨bQ.1, bQ.2.1⟩ (⟨by omega, bP.2.2.2⟩ : -16 ≤ denP P.2.1 ∧ denP P.2.1 ≤ 16)
  have x2 := mul_le (A := 100000) (B := 16) ⟨bP.1, bP.2.1⟩ (⟨by omega, bQ.2.2.2⟩ : -16 ≤ denP Q.2.1 ∧ denP Q.2.1 ≤ 16)
  have x3 := mul_le (A := 16) (B := 16) (⟨by omega, bQ.2.2.2⟩ : -16 ≤ denP Q.2.1 ∧ denP Q.2.1 ≤ 16) (⟨by omega, bP.2.2.2⟩ : -16 ≤ denP P.2.1 ∧ denP P.2.1 ≤ 16)
  have x4 := mul_le (A := 16 * 16) (B := 4) x3 ⟨o6, o7⟩
  generalize ht : numP Q.2.1 * denP P.2.1 - numP P.2.1 * denP Q.2.1 = top at *
  generalize hb : denP Q.2.1 * denP P.2.1 * e 7 = bot at *
  have dv := e_divisor top bot M (by omega) (by omega)
  have ab1 := e_abs top M (by unfold i32; omega)
  have hg : 1 ≤ gcd1 top bot := by unfold gcd1; omega
  have hg2 : (gcd1 top bot : Int) ≤ 2147483647 := by
    have : (Int.gcd top bot : Int) ≤ bot.natAbs := by
      have := Nat.le_of_dvd (by omega) (Int.gcd_dvd_natAbs_right top bot)
      omega
    have : gcd1 top bot = max (Int.gcd top bot) 1 := rfl
    omega
  have ab2 := e_abs bot (upI M c 8 (numP len)) (by unfold i32; omega)
  refine e_in (ls := [vR c, vR p, vN, vN, vN, vN, vN]) mq_90 (ml_90 rfl) rfl fun D hD => ?_
  refine w_aload rfl rfl ?_
  refine w_call (Or.inr rfl) (e_isBounded1 hc h (by omega)) (by omega) nof_91 rfl rfl rfl rfl (by first | rfl | (show cKB[_]? = _; assumption)) rfl ?_
  refine w_if_ne (tgt := 8) rfl (by first | assumption | exact i32_0 | (unfold i32 at *; omega)) rfl (fun _ => ?_) (fun c => absurd c (by decide))
  refine w_aload rfl rfl (w_getIV rfl (by first | rfl | assumption) (by first | exact Or.inl rfl | exact Or.inr rfl) (m6) ?_)
  refine w_if_eq (tgt := 19) rfl (by first | assumption | exact i32_0 | (unfold i32 at *; omega)) rfl (fun c12 => ?_) (fun c12 => ?_)
  · skip
    refine w_iconst rfl (w_istore (ls2 := [_, _, _, _, _, _, _]) rfl rfl rfl (w_aload rfl rfl (w_getIV rfl (by first | rfl | assumption) (by first | exact Or.inl rfl | exact Or.inr rfl) (m6) ?_)))
    refine w_if_eq (tgt := 35) rfl (by first | assumption | exact i32_0 | (unfold i32 at *; omega)) rfl (fun c25 => ?_) (fun c25 => ?_)
    · skip
      refine w_aload rfl rfl (w_getIV rfl (by first | rfl | assumption) (by first | exact Or.inl rfl | exact Or.inr rfl) (m7) (w_istore (ls2 := [_, _, _, _, _, _, _]) rfl rfl rfl (w_aload rfl rfl (w_aload rfl rfl (w_getIV rfl (by first | rfl | assumption) (by first | exact Or.inl rfl | exact Or.inr rfl) (m5) (w_iload rfl rfl ?_))))))
      refine w_call (Or.inr rfl) ((c1)) (by omega) nof_92 rfl rfl rfl rfl (by first | rfl | (show cKB[_]? = _; assumption)) rfl ?_
      refine w_aload rfl rfl (w_aload rfl rfl (w_getIV rfl (by first | rfl | assumption) (by first | exact Or.inl rfl | exact Or.inr rfl) (m4) (w_iload rfl rfl (w_iconst rfl (w_iadd rfl ?_)))))
      refine w_call (Or.inr rfl) ((c2)) (by omega) nof_92 rfl rfl rfl rfl (by first | rfl | (show cKB[_]? = _; assumption)) rfl ?_
      refine w_imul rfl (w_aload rfl rfl (w_aload rfl rfl (w_getIV rfl (by first | rfl | assumption) (by first | exact Or.inl rfl | exact Or.inr rfl) (m4) (w_iload rfl rfl ?_))))
      refine w_call (Or.inr rfl) ((c3)) (by omega) nof_92 rfl rfl rfl rfl (by first | rfl | (show cKB[_]? = _; assumption)) rfl ?_
      refine w_aload rfl rfl (w_aload rfl rfl (w_getIV rfl (by first | rfl | assumption) (by first | exact Or.inl rfl | exact Or.inr rfl) (m5) (w_iload rfl rfl (w_iconst rfl (w_iadd rfl ?_)))))
      refine w_call (Or.inr rfl) ((c4)) (by omega) nof_92 rfl rfl rfl rfl (by first | rfl | (show cKB[_]? = _; assumption)) rfl ?_
      refine w_imul rfl (w_isub rfl ?_)
      rw [ht]
      refine w_istore (ls2 := [_, _, _, _, _, _, _]) rfl rfl rfl (w_aload rfl rfl (w_aload rfl rfl (w_getIV rfl (by first | rfl | assumption) (by first | exact Or.inl rfl | exact Or.inr rfl) (m5) (w_iload rfl rfl (w_iconst rfl (w_iadd rfl ?_))))))
      refine w_call (Or.inr rfl) ((c4)) (by omega) nof_92 rfl rfl rfl rfl (by first | rfl | (show cKB[_]? = _; assumption)) rfl ?_
      refine w_aload rfl rfl (w_aload rfl rfl (w_getIV rfl (by first | rfl | assumption) (by first | exact Or.inl rfl | exact Or.inr rfl) (m4) (w_iload rfl rfl (w_iconst rfl (w_iadd rfl ?_)))))
      refine w_call (Or.inr rfl) ((c2)) (by omega) nof_92 rfl rfl rfl rfl (by first | rfl | (show cKB[_]? = _; assumption)) rfl ?_
      refine w_imul rfl (w_iload rfl rfl (w_imul rfl ?_))
      rw [hb]
      refine w_istore (ls2 := [_, _, _, _, _, _, _]) rfl rfl rfl (w_iload rfl rfl (w_iload rfl rfl ?_))
      refine w_call (Or.inl rfl) (dv) (by omega) nof_78 rfl rfl rfl rfl trivial rfl ?_
      refine w_istore (ls2 := [_, _, _, _, _, _, _]) rfl rfl rfl (w_aload rfl rfl (w_iload rfl rfl ?_))
      refine w_call (Or.inl rfl) ((ab1)) (by omega) nof_79 rfl rfl rfl rfl trivial rfl ?_
      refine w_iload rfl rfl (w_idiv rfl (by first | assumption | exact i32_0 | (unfold i32 at *; omega)) (by first | assumption | exact i32_0 | (unfold i32 at *; omega)) (by first | decide | omega | assumption) ?_)
      rw [r2]
      refine w_putI rfl (by first | rfl | assumption) rfl (w_aload rfl rfl (w_iload rfl rfl ?_))
      refine w_call (Or.inl rfl) ((ab2)) (by omega) nof_79 rfl rfl rfl rfl trivial rfl ?_
      refine w_iload rfl rfl (w_idiv rfl (by first | assumption | exact i32_0 | (unfold i32 at *; omega)) (by first | assumption | exact i32_0 | (unfold i32 at *; omega)) (by first | decide | omega | assumption) ?_)
      rw [r3]
      refine w_putI rfl (by first | rfl | assumption) rfl ?_
      exact w_return rfl ⟨rfl, by rfl⟩
    · skip
      exfalso; omega
  · skip
    exfalso; omega
