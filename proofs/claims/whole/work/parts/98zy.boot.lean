/-! ===== the law's start: both objects ===== -/
set_option maxRecDepth 100000 in
theorem cA13 : evc mXt 3000 13 0 [vR 0] (cNew ([], [], []) (0, 2)) = some (none, cSA) := cEq_ok (by decide +kernel)
set_option maxRecDepth 100000 in
theorem cB13 : evc mXt 3000 13 148 [vR 155] (cNew cSA (0, 10)) = some (none, cSB) := cEq_ok (by decide +kernel)
def mMB (L : Nat) (xs : Nat → Int32) : mM := fun a k => if a < 179 then cN cNB a k else mM0 L xs a k
theorem toS_0 (L : Nat) (xs : Nat → Int32) : toS (mM0 L xs) ([], [], []) = mS0 L xs := by
  unfold toS mS0
  refine Prod.ext rfl (Prod.ext ?_ ?_)
  · funext a k
    rfl
  · funext a k
    show (if a < 0 then cN [] a k else mM0 L xs a k) = mM0 L xs a k
    rw [if_neg (Nat.not_lt_zero a)]
set_option maxRecDepth 100000 in
theorem toS_B (L : Nat) (xs : Nat → Int32) : toS (mM0 L xs) cSB = (cKB, cRT, mMB L xs) := by
  have hl : cKB.length = 179 := by decide +kernel
  show (cKB, cR cRB, fun a k => if a < cKB.length then cN cNB a k else mM0 L xs a k) = _
  rw [hl]
  rfl
set_option maxRecDepth 100000 in
theorem law_boot {L : Nat} {xs : Nat → Int32} {Q : mP} (h : Wp mc_247 13 16 [vR mScr, vR 0, vR 155, vN] [] (mMB L xs) Q) : ∃ (r : Option mV) (M1 : mM), Q r M1 ∧ Rg (mNof mXt) (Ev mXt 13) mc_247 (r, (cKB, cRT, M1)) 0 [vR mScr, vN, vN, vN] [] (mS0 L xs) := by
  obtain ⟨r, M1, hQ, n0, hn⟩ := h
  have k0 : cOK ([], [], []) := ⟨rfl, rfl⟩
  have kn : ∀ (S : cS) (kd : Nat × Nat), cOK S → cOK (cNew S kd) := by
    intro S kd h
    unfold cOK cNew at *
    simp only [List.length_append, List.length_cons, List.length_nil]
    omega
  obtain ⟨kA, eA⟩ := evc_ok (M0 := mM0 L xs) 3000 13 0 [vR 0] _ _ _ (kn _ _ k0) cA13
  obtain ⟨kB, eB⟩ := evc_ok (M0 := mM0 L xs) 3000 13 148 [vR 155] _ _ _ (kn _ _ kA) cB13
  rw [toS_B] at eB
  have nA := toS_new (M0 := mM0 L xs) (kd := (0, 2)) k0
  have nB := toS_new (M0 := mM0 L xs) (kd := (0, 10)) kA
  rw [toS_0] at nA
  have lA : (toS (mM0 L xs) cSA).1.length = 155 := rfl
  rw [lA] at nB
  have l0 : (mS0 L xs).1.length = 0 := rfl
  rw [l0] at nA
  refine ⟨r, M1, hQ, n0 + 8, ?_⟩
  -- 0 new
  have a0 : mAt mc_247 0 = some (.new 2, 3) := rfl
  have a3 : mAt mc_247 3 = some (.dup, 4) := rfl
  have a4 : mAt mc_247 4 = some (.invokespecial 0, 7) := rfl
  have a7 : mAt mc_247 7 = some (.astore 1, 8) := rfl
  have a8 : mAt mc_247 8 = some (.new 10, 11) := rfl
  have a11 : mAt mc_247 11 = some (.dup, 12) := rfl
  have a12 : mAt mc_247 12 = some (.invokespecial 148, 15) := rfl
  have a15 : mAt mc_247 15 = some (.astore 2, 16) := rfl
  unfold Rs
  rw [a0]
  refine ⟨by decide, ?_⟩
  show Rs _ _ _ _ (n0 + 7) 3 [vR mScr, vN, vN, vN] (vR 0 :: []) ((mS0 L xs).1 ++ [(0, 2)], clR (mS0 L xs).2.1 0, clI (mS0 L xs).2.2 0)
  rw [← nA]
  unfold Rs
  rw [a3]
  refine ⟨rfl, ?_⟩
  show Rs _ _ _ _ (n0 + 6) 4 [vR mScr, vN, vN, vN] [vR 0, vR 0] _
  unfold Rs
  rw [a4]
  refine ⟨?_, ?_, ?_, none, toS (mM0 L xs) cSA, ?_, ?_⟩
  · rw [nof_0]; decide
  · rw [nof_0]; decide
  · rw [nof_0]; rfl
  · rw [nof_0]; exact eA
  rw [nof_0]
  show Rs _ _ _ _ (n0 + 5) 7 [vR mScr, vN, vN, vN] [vR 0] _
  unfold Rs
  rw [a7]
  refine ⟨by decide, ?_⟩
  show Rs _ _ _ _ (n0 + 4) 8 [vR mScr, vR 0, vN, vN] [] _
  unfold Rs
  rw [a8]
  refine ⟨by decide, ?_⟩
  show Rs _ _ _ _ (n0 + 3) 11 [vR mScr, vR 0, vN, vN] (vR 155 :: []) ((toS (mM0 L xs) cSA).1 ++ [(0, 10)], clR (toS (mM0 L xs) cSA).2.1 155, clI (toS (mM0 L xs) cSA).2.2 155)
  rw [← nB]
  unfold Rs
  rw [a11]
  refine ⟨rfl, ?_⟩
  show Rs _ _ _ _ (n0 + 2) 12 [vR mScr, vR 0, vN, vN] [vR 155, vR 155] _
  unfold Rs
  rw [a12]
  refine ⟨?_, ?_, ?_, none, (cKB, cRT, mMB L xs), ?_, ?_⟩
  · rw [nof_148]; decide
  · rw [nof_148]; decide
  · rw [nof_148]; rfl
  · rw [nof_148]; exact eB
  rw [nof_148]
  show Rs _ _ _ _ (n0 + 1) 15 [vR mScr, vR 0, vN, vN] [vR 155] _
  unfold Rs
  rw [a15]
  refine ⟨by decide, ?_⟩
  exact hn
