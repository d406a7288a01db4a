/-! ===== the law's loop: one call of both objects, the next, all of them ===== -/
theorem i32_s (x : Int32) : i32 x.toInt := ⟨by have h := Int32.minValue_le_toInt x; rw [i32_min] at h; exact h, by have h := Int32.toInt_le x; rw [i32_max] at h; exact h⟩
theorem w_scrV {cd : mQ} {D pc nx : Nat} {ls st : List mV} {M : mM} {Q : mP} {i v : Int} (h : mAt cd pc = some (.caload, nx)) (h0 : 0 ≤ i) (h1 : i < M mScr 0) (hv : M (mScr + 1) i.toNat = v) (k : Wp cd D nx ls (vI v :: st) M Q) : Wp cd D pc ls (vI i :: vR mScr :: st) M Q := w_scr h h0 h1 (by rw [hv]; exact k)
theorem CI_lt {n : Nat} {s : Sta} {M M1 : mM} (h : CI n s M) (e : ∀ a, a < 155 → M1 a = M a) : CI n s M1 := by
  obtain ⟨⟨c1, c2⟩, ⟨c3, c4, c5⟩, ⟨c6, c7⟩, c8, c9⟩ := h
  exact ⟨⟨TxR_fr c1 (by rw [e 1 (by omega)]) (fun k => by rw [e 2 (by omega)]), RdX_fr c2 (fun b _ _ k => by rw [e b (by omega)])⟩, ⟨cur2_fr c3 (fun b _ _ k => by rw [e b (by omega)]), c4, c5⟩, ⟨PastR_fr c6 (fun b _ _ k => by rw [e b (by omega)]), c7⟩, CSl_fr c8 (by rw [e 0 (by omega)]) (by rw [e 0 (by omega)]) (fun b _ _ k => by rw [e b (by omega)]), CCa_fr c9 (Nat.le_refl _) (by rw [e 10 (by omega)]) (by rw [e 12 (by omega)]) (fun b _ _ k => by rw [e b (by omega)])⟩
theorem MI_ge {s : Sta} {M M1 : mM} (h : MI s M) (e : ∀ a, 155 ≤ a → M1 a = M a) : MI s M1 := MI_fr h (fun k _ => by rw [e 155 (by omega)]) (fun a ha => e a (by omega))
theorem mMB_at {L : Nat} {xs : Nat → Int32} {a k : Nat} (h : a < 179) : mMB L xs a k = cN cNB a k := if_pos h
theorem mMB_ge {L : Nat} {xs : Nat → Int32} {a k : Nat} (h : ¬ a < 179) : mMB L xs a k = mM0 L xs a k := if_neg h
def LwI (L : Nat) (xs : Nat → Int32) (n : Nat) (M : mM) : Prop := (∃ s, CI (2 * n + 1) s M ∧ MI s M) ∧ M mScr 0 = (L : Int) ∧ ∀ k, M (mScr + 1) k = (xs k).toInt
def staB : Sta := ([], noneC, noneC, [], none, none)
theorem cok_none (B : Int) : Cok B noneC := fun p c h => by cases h
set_option maxRecDepth 100000 in
theorem b_cur : ∀ k, k < 21 → (cN cNB 6 k = -1000000 ∧ cN cNB 8 k = -1000000) ∧ (cN cNB 11 k = -1000000 ∧ cN cNB 13 k = -1000000) := by decide +kernel
set_option maxRecDepth 100000 in
theorem b_row : ∀ k, k < 50 → cN cNB 156 k = 5000 := by decide +kernel
set_option maxRecDepth 100000 in
theorem b_one : (cN cNB 1 1 = 0 ∧ cN cNB 3 6 = 0 ∧ cN cNB 10 1 = 1 ∧ cN cNB 12 1 = 1 ∧ cN cNB 16 1 = 0 ∧ cN cNB 16 2 = 0 ∧ cN cNB 0 10 = 0 ∧ cN cNB 0 11 = 0) ∧ (cN cNB 68 1 = -1 ∧ cN cNB 108 1 = -1 ∧ cN cNB 148 2 = -1 ∧ cN cNB 148 3 = -1) ∧ (cN cNB 155 4 = 0 ∧ cN cNB 155 1 = 0 ∧ cN cNB 157 0 = 0 ∧ cN cNB 157 1 = 0 ∧ cN cNB 155 21 = 0) := by decide +kernel
theorem cur_none {L : Nat} {xs : Nat → Int32} {t : Nat} (ht : t + 1 < 179) (h : ∀ k, k < 21 → cN cNB (t + 1) k = -1000000) : cur t noneC (mMB L xs) := fun k hk => by rw [mMB_at ht, h k hk]; rfl
theorem CI_first (L : Nat) (xs : Nat → Int32) : CI 1 staB (mMB L xs) := by
  obtain ⟨⟨v1, v2, v3, v4, v5, v6, v7, v8⟩, ⟨w1, w2, w3, w4⟩, -⟩ := b_one
  have k10 : mMB L xs 10 1 = 1 := (mMB_at (by omega)).trans v3
  have k12 : mMB L xs 12 1 = 1 := (mMB_at (by omega)).trans v4
  have k68 : mMB L xs 68 1 = -1 := (mMB_at (by omega)).trans w1
  have k108 : mMB L xs 108 1 = -1 := (mMB_at (by omega)).trans w2
  have k148 : mMB L xs 148 2 = -1 := (mMB_at (by omega)).trans w3
  have k149 : mMB L xs 148 3 = -1 := (mMB_at (by omega)).trans w4
  refine ⟨⟨⟨(mMB_at (by omega)).trans v1, Nat.zero_le _, fun k c h => ?_⟩, ⟨mMB L xs 3, noneC, noneC, ⟨rfl, cur_none (by omega) (fun k hk => (b_cur k hk).1.1), cur_none (by omega) (fun k hk => (b_cur k hk).1.2)⟩, Or.inl ((mMB_at (by omega)).trans v2), cok_none _, cok_none _⟩⟩, ⟨⟨cur_none (by omega) (fun k hk => (b_cur k hk).2.1), cur_none (by omega) (fun k hk => (b_cur k hk).2.2)⟩, cok_none _, cok_none _⟩, ⟨⟨0, by omega, (mMB_at (by omega)).trans v5, (mMB_at (by omega)).trans v6, Nat.zero_le _, fun j q h => ?_⟩, fun q h => ?_⟩, ⟨(mMB_at (by omega)).trans v7, (mMB_at (by omega)).trans v8, fun q h => ?_, fun q h => ?_⟩, ?_⟩
  · simp [staB] at h
  · simp [staB] at h
  · simp [staB] at h
  · simp [staB] at h
  · simp [staB] at h
  · unfold CCa
    rw [k10, k12, k68, k108, k148, k149]
    exact ⟨by omega, by omega, fun z => by omega, fun z => by omega, fun z => by omega⟩
theorem MI_first (L : Nat) (xs : Nat → Int32) : MI staB (mMB L xs) := by
  obtain ⟨-, -, v1, v2, v3, v4, v5⟩ := b_one
  have hr : mrow 0 noneC noneC (mMB L xs) := ⟨fun p hp => by rw [mMB_at (by omega), b_row _ (by omega)]; rfl, fun p hp => by rw [mMB_at (by omega), b_row _ (by omega)]; rfl⟩
  refine ⟨⟨(mMB_at (by omega)).trans v1, Nat.zero_le _, fun k c h => ?_⟩, ⟨hr, cok_none _, cok_none _⟩, ⟨⟨(mMB_at (by omega)).trans v2, Nat.zero_le _, fun j q h => ?_⟩, fun q h => ?_⟩, ⟨(mMB_at (by omega)).trans v3, (mMB_at (by omega)).trans v4, fun q h => ?_, fun q h => ?_⟩, Or.inl ((mMB_at (by omega)).trans v5), fun z => ?_⟩
  · simp [staB] at h
  · simp [staB] at h
  · simp [staB] at h
  · simp [staB] at h
  · simp [staB] at h
  · rw [(mMB_at (by omega)).trans v5] at z; omega
theorem lw_first (L : Nat) (xs : Nat → Int32) : LwI L xs 0 (mMB L xs) := by
  refine ⟨⟨staB, CI_first L xs, MI_first L xs⟩, ?_, fun k => ?_⟩
  · rw [mMB_ge (by unfold mScr; omega)]
    unfold mM0
    rw [if_pos rfl, if_pos rfl]
  · rw [mMB_ge (by unfold mScr; omega)]
    unfold mM0
    rw [if_neg (by unfold mScr; omega), if_pos rfl]
theorem bitI_and_31 (x : Int) : 0 ≤ bitI (· &&& ·) x 31 ∧ bitI (· &&& ·) x 31 < 32 := by
  have e : (bitI (· &&& ·) x 31) = ((Int32.ofInt x &&& 31).toBitVec.toInt) := rfl
  have h : ∀ b : BitVec 32, 0 ≤ (b &&& 31#32).toInt ∧ (b &&& 31#32).toInt < 32 := by
    intro b
    have h1 : (b &&& 31#32).toNat ≤ 31 := by rw [BitVec.toNat_and]; exact Nat.and_le_right
    rw [BitVec.toInt_eq_toNat_of_lt (by omega)]
    omega
  exact h _
set_option maxRecDepth 100000 in
theorem lw_write {L n D : Nat} {xs : Nat → Int32} {i : Int} {s : Sta} {M : mM} {Q : mP} (hn : n ≤ 600) (h0 : 0 ≤ i) (h6 : i + 6 ≤ L) (hD : 12 ≤ D) (c : CI (2 * n + 1) s M) (c2 : MI s M) (hL : M mScr 0 = (L : Int)) (hX : ∀ k, M (mScr + 1) k = (xs k).toInt) (k : ∀ M1, LwI L xs (n + 1) M1 → Wp mc_247 D 901 [vR mScr, vR 0, vR 155, vI i] [] M1 Q) : Wp mc_247 D 140 [vR mScr, vR 0, vR 155, vI i] [] M Q := by
  refine w_aload rfl rfl (w_aload rfl rfl (w_iload rfl rfl (w_iconst rfl (w_iadd rfl (w_scrV rfl (by omega) (by rw [hL]; omega) (hX _) ?_)))))
  refine w_callQ (Or.inr rfl) (c_write c (i32_s _)) (by omega) nof_12 rfl rfl rfl rfl rfl (fun r1 M1 hq1 => ?_)
  obtain ⟨rfl, d1, f1⟩ := hq1
  have hL1 : M1 mScr 0 = (L : Int) := by rw [f1 mScr (by unfold mScr; omega)]; exact hL
  have hX1 : ∀ k, M1 (mScr + 1) k = (xs k).toInt := fun k => by rw [f1 (mScr + 1) (by unfold mScr; omega)]; exact hX k
  have e1 := MI_ge c2 f1
  show Wp mc_247 D 149 [vR mScr, vR 0, vR 155, vI i] [vI _] M1 Q
  refine w_aload rfl rfl (w_aload rfl rfl (w_iload rfl rfl (w_iconst rfl (w_iadd rfl (w_scrV rfl (by omega) (by rw [hL1]; omega) (hX1 _) ?_)))))
  refine w_callQ (Or.inr rfl) (m_write e1 (i32_s _)) (by omega) nof_149 rfl rfl rfl rfl rfl (fun r2 M2 hq2 => ?_)
  obtain ⟨rfl, d2, f2⟩ := hq2
  show Wp mc_247 D 158 [vR mScr, vR 0, vR 155, vI i] [vI _, vI _] M2 Q
  exact w_icmp_self rfl rfl (k M2 ⟨⟨_, CI_lt (CI_up d1 (by omega)) (fun a ha => f2 a (Or.inl ha)), d2⟩, by rw [f2 mScr (by unfold mScr; omega)]; exact hL1, fun k => by rw [f2 (mScr + 1) (by unfold mScr; omega)]; exact hX1 k⟩)
set_option maxRecDepth 100000 in
theorem lw_erase {L n D : Nat} {xs : Nat → Int32} {i : Int} {s : Sta} {M : mM} {Q : mP} (hn : n ≤ 600) (h0 : 0 ≤ i) (h6 : i + 6 ≤ L) (hD : 12 ≤ D) (c : CI (2 * n + 1) s M) (c2 : MI s M) (hL : M mScr 0 = (L : Int)) (hX : ∀ k, M (mScr + 1) k = (xs k).toInt) (k : ∀ M1, LwI L xs (n + 1) M1 → Wp mc_247 D 901 [vR mScr, vR 0, vR 155, vI i] [] M1 Q) : Wp mc_247 D 163 [vR mScr, vR 0, vR 155, vI i] [] M Q := by
  refine w_aload rfl rfl ?_
  refine w_callQ (Or.inr rfl) (c_erase c) (by omega) nof_14 rfl rfl rfl rfl rfl (fun r1 M1 hq1 => ?_)
  obtain ⟨rfl, d1, f1⟩ := hq1
  have hL1 : M1 mScr 0 = (L : Int) := by rw [f1 mScr (by unfold mScr; omega)]; exact hL
  have hX1 : ∀ k, M1 (mScr + 1) k = (xs k).toInt := fun k => by rw [f1 (mScr + 1) (by unfold mScr; omega)]; exact hX k
  have e1 := MI_ge c2 f1
  show Wp mc_247 D 167 [vR mScr, vR 0, vR 155, vI i] [vI _] M1 Q
  refine w_aload rfl rfl ?_
  refine w_callQ (Or.inr rfl) (m_erase e1) (by omega) nof_151 rfl rfl rfl rfl rfl (fun r2 M2 hq2 => ?_)
  obtain ⟨rfl, d2, f2⟩ := hq2
  show Wp mc_247 D 171 [vR mScr, vR 0, vR 155, vI i] [vI _, vI _] M2 Q
  exact w_icmp_self rfl rfl (k M2 ⟨⟨_, CI_lt (CI_up d1 (by omega)) (fun a ha => f2 a (Or.inl ha)), d2⟩, by rw [f2 mScr (by unfold mScr; omega)]; exact hL1, fun k => by rw [f2 (mScr + 1) (by unfold mScr; omega)]; exact hX1 k⟩)
set_option maxRecDepth 100000 in
theorem lw_fault {L n D : Nat} {xs : Nat → Int32} {i : Int} {s : Sta} {M : mM} {Q : mP} (hn : n ≤ 600) (h0 : 0 ≤ i) (h6 : i + 6 ≤ L) (hD : 12 ≤ D) (c : CI (2 * n + 1) s M) (c2 : MI s M) (hL : M mScr 0 = (L : Int)) (hX : ∀ k, M (mScr + 1) k = (xs k).toInt) (k : ∀ M1, LwI L xs (n + 1) M1 → Wp mc_247 D 901 [vR mScr, vR 0, vR 155, vI i] [] M1 Q) : Wp mc_247 D 176 [vR mScr, vR 0, vR 155, vI i] [] M Q := by
  refine w_aload rfl rfl ?_
  refine w_callQ (Or.inr rfl) (c_fault c) (by omega) nof_15 rfl rfl rfl rfl rfl (fun r1 M1 hq1 => ?_)
  obtain ⟨rfl, d1, f1⟩ := hq1
  have hL1 : M1 mScr 0 = (L : Int) := by rw [f1 mScr (by unfold mScr; omega)]; exact hL
  have hX1 : ∀ k, M1 (mScr + 1) k = (xs k).toInt := fun k => by rw [f1 (mScr + 1) (by unfold mScr; omega)]; exact hX k
  have e1 := MI_ge c2 f1
  show Wp mc_247 D 180 [vR mScr, vR 0, vR 155, vI i] [vI _] M1 Q
  refine w_aload rfl rfl ?_
  refine w_callQ (Or.inr rfl) (mo_fault e1) (by omega) nof_152 rfl rfl rfl rfl rfl (fun r2 M2 hq2 => ?_)
  obtain ⟨rfl, d2, f2⟩ := hq2
  show Wp mc_247 D 184 [vR mScr, vR 0, vR 155, vI i] [vI _, vI _] M2 Q
  exact w_icmp_self rfl rfl (k M2 ⟨⟨_, CI_lt (CI_up d1 (by omega)) (fun a ha => f2 a (Or.inl ha)), d2⟩, by rw [f2 mScr (by unfold mScr; omega)]; exact hL1, fun k => by rw [f2 (mScr + 1) (by unfold mScr; omega)]; exact hX1 k⟩)
set_option maxRecDepth 100000 in
theorem lw_curves {L n D : Nat} {xs : Nat → Int32} {i : Int} {s : Sta} {M : mM} {Q : mP} (hn : n ≤ 600) (h0 : 0 ≤ i) (h6 : i + 6 ≤ L) (hD : 12 ≤ D) (c : CI (2 * n + 1) s M) (c2 : MI s M) (hL : M mScr 0 = (L : Int)) (hX : ∀ k, M (mScr + 1) k = (xs k).toInt) (k : ∀ M1, LwI L xs (n + 1) M1 → Wp mc_247 D 901 [vR mScr, vR 0, vR 155, vI i] [] M1 Q) : Wp mc_247 D 189 [vR mScr, vR 0, vR 155, vI i] [] M Q := by
  refine w_aload rfl rfl ?_
  refine w_callQ (Or.inr rfl) (c_curves c) (by omega) nof_33 rfl rfl rfl rfl rfl (fun r1 M1 hq1 => ?_)
  obtain ⟨rfl, d1, f1⟩ := hq1
  have hL1 : M1 mScr 0 = (L : Int) := by rw [f1 mScr (by unfold mScr; omega)]; exact hL
  have hX1 : ∀ k, M1 (mScr + 1) k = (xs k).toInt := fun k => by rw [f1 (mScr + 1) (by unfold mScr; omega)]; exact hX k
  have e1 := MI_ge c2 f1
  show Wp mc_247 D 193 [vR mScr, vR 0, vR 155, vI i] [vI _] M1 Q
  refine w_aload rfl rfl ?_
  refine w_callQ (Or.inr rfl) (mo_curves e1) (by omega) nof_163 rfl rfl rfl rfl rfl (fun r2 M2 hq2 => ?_)
  obtain ⟨rfl, d2, f2⟩ := hq2
  show Wp mc_247 D 197 [vR mScr, vR 0, vR 155, vI i] [vI _, vI _] M2 Q
  exact w_icmp_self rfl rfl (k M2 ⟨⟨_, CI_lt (CI_up d1 (by omega)) (fun a ha => f2 a (Or.inl ha)), d2⟩, by rw [f2 mScr (by unfold mScr; omega)]; exact hL1, fun k => by rw [f2 (mScr + 1) (by unfold mScr; omega)]; exact hX1 k⟩)
set_option maxRecDepth 100000 in
theorem lw_term {L n D : Nat} {xs : Nat → Int32} {i : Int} {s : Sta} {M : mM} {Q : mP} (hn : n ≤ 600) (h0 : 0 ≤ i) (h6 : i + 6 ≤ L) (hD : 12 ≤ D) (c : CI (2 * n + 1) s M) (c2 : MI s M) (hL : M mScr 0 = (L : Int)) (hX : ∀ k, M (mScr + 1) k = (xs k).toInt) (k : ∀ M1, LwI L xs (n + 1) M1 → Wp mc_247 D 901 [vR mScr, vR 0, vR 155, vI i] [] M1 Q) : Wp mc_247 D 202 [vR mScr, vR 0, vR 155, vI i] [] M Q := by
  refine w_aload rfl rfl (w_aload rfl rfl (w_iload rfl rfl (w_iconst rfl (w_iadd rfl (w_scrV rfl (by omega) (by rw [hL]; omega) (hX _) (w_aload rfl rfl (w_iload rfl rfl (w_iconst rfl (w_iadd rfl (w_scrV rfl (by omega) (by rw [hL]; omega) (hX _) (w_aload rfl rfl (w_iload rfl rfl (w_iconst rfl (w_iadd rfl (w_scrV rfl (by omega) (by rw [hL]; omega) (hX _) ?_)))))))))))))))
  refine w_callQ (Or.inr rfl) (c_term c (i32_s _) (i32_s _) (i32_s _)) (by omega) nof_36 rfl rfl rfl rfl rfl (fun r1 M1 hq1 => ?_)
  obtain ⟨rfl, d1, f1⟩ := hq1
  have hL1 : M1 mScr 0 = (L : Int) := by rw [f1 mScr (by unfold mScr; omega)]; exact hL
  have hX1 : ∀ k, M1 (mScr + 1) k = (xs k).toInt := fun k => by rw [f1 (mScr + 1) (by unfold mScr; omega)]; exact hX k
  have e1 := MI_ge c2 f1
  show Wp mc_247 D 221 [vR mScr, vR 0, vR 155, vI i] [vI _] M1 Q
  refine w_aload rfl rfl (w_aload rfl rfl (w_iload rfl rfl (w_iconst rfl (w_iadd rfl (w_scrV rfl (by omega) (by rw [hL1]; omega) (hX1 _) (w_aload rfl rfl (w_iload rfl rfl (w_iconst rfl (w_iadd rfl (w_scrV rfl (by omega) (by rw [hL1]; omega) (hX1 _) (w_aload rfl rfl (w_iload rfl rfl (w_iconst rfl (w_iadd rfl (w_scrV rfl (by omega) (by rw [hL1]; omega) (hX1 _) ?_)))))))))))))))
  refine w_callQ (Or.inr rfl) (m_term e1 (i32_s _) (i32_s _) (i32_s _)) (by omega) nof_164 rfl rfl rfl rfl rfl (fun r2 M2 hq2 => ?_)
  obtain ⟨rfl, d2, f2⟩ := hq2
  show Wp mc_247 D 240 [vR mScr, vR 0, vR 155, vI i] [vI _, vI _] M2 Q
  exact w_icmp_self rfl rfl (k M2 ⟨⟨_, CI_lt (CI_up d1 (by omega)) (fun a ha => f2 a (Or.inl ha)), d2⟩, by rw [f2 mScr (by unfold mScr; omega)]; exact hL1, fun k => by rw [f2 (mScr + 1) (by unfold mScr; omega)]; exact hX1 k⟩)
set_option maxRecDepth 100000 in
theorem lw_value {L n D : Nat} {xs : Nat → Int32} {i : Int} {s : Sta} {M : mM} {Q : mP} (hn : n ≤ 600) (h0 : 0 ≤ i) (h6 : i + 6 ≤ L) (hD : 12 ≤ D) (c : CI (2 * n + 1) s M) (c2 : MI s M) (hL : M mScr 0 = (L : Int)) (hX : ∀ k, M (mScr + 1) k = (xs k).toInt) (k : ∀ M1, LwI L xs (n + 1) M1 → Wp mc_247 D 901 [vR mScr, vR 0, vR 155, vI i] [] M1 Q) : Wp mc_247 D 245 [vR mScr, vR 0, vR 155, vI i] [] M Q := by
  refine w_aload rfl rfl (w_aload rfl rfl (w_iload rfl rfl (w_iconst rfl (w_iadd rfl (w_scrV rfl (by omega) (by rw [hL]; omega) (hX _) (w_aload rfl rfl (w_iload rfl rfl (w_iconst rfl (w_iadd rfl (w_scrV rfl (by omega) (by rw [hL]; omega) (hX _) (w_aload rfl rfl (w_iload rfl rfl (w_iconst rfl (w_iadd rfl (w_scrV rfl (by omega) (by rw [hL]; omega) (hX _) (w_aload rfl rfl (w_iload rfl rfl (w_iconst rfl (w_iadd rfl (w_scrV rfl (by omega) (by rw [hL]; omega) (hX _) (w_aload rfl rfl (w_iload rfl rfl (w_iconst rfl (w_iadd rfl (w_scrV rfl (by omega) (by rw [hL]; omega) (hX _) ?_)))))))))))))))))))))))))
  refine w_callQ (Or.inr rfl) (c_value c (i32_s _) (i32_s _) (i32_s _) (i32_s _) (i32_s _)) (by omega) nof_39 rfl rfl rfl rfl rfl (fun r1 M1 hq1 => ?_)
  obtain ⟨rfl, d1, f1⟩ := hq1
  have hL1 : M1 mScr 0 = (L : Int) := by rw [f1 mScr (by unfold mScr; omega)]; exact hL
  have hX1 : ∀ k, M1 (mScr + 1) k = (xs k).toInt := fun k => by rw [f1 (mScr + 1) (by unfold mScr; omega)]; exact hX k
  have e1 := MI_ge c2 f1
  show Wp mc_247 D 274 [vR mScr, vR 0, vR 155, vI i] [vI _] M1 Q
  refine w_aload rfl rfl (w_aload rfl rfl (w_iload rfl rfl (w_iconst rfl (w_iadd rfl (w_scrV rfl (by omega) (by rw [hL1]; omega) (hX1 _) (w_aload rfl rfl (w_iload rfl rfl (w_iconst rfl (w_iadd rfl (w_scrV rfl (by omega) (by rw [hL1]; omega) (hX1 _) (w_aload rfl rfl (w_iload rfl rfl (w_iconst rfl (w_iadd rfl (w_scrV rfl (by omega) (by rw [hL1]; omega) (hX1 _) (w_aload rfl rfl (w_iload rfl rfl (w_iconst rfl (w_iadd rfl (w_scrV rfl (by omega) (by rw [hL1]; omega) (hX1 _) (w_aload rfl rfl (w_iload rfl rfl (w_iconst rfl (w_iadd rfl (w_scrV rfl (by omega) (by rw [hL1]; omega) (hX1 _) ?_)))))))))))))))))))))))))
  refine w_callQ (Or.inr rfl) (m_value e1 (i32_s _) (i32_s _) (i32_s _) (i32_s _) (i32_s _)) (by omega) nof_168 rfl rfl rfl rfl rfl (fun r2 M2 hq2 => ?_)
  obtain ⟨rfl, d2, f2⟩ := hq2
  show Wp mc_247 D 303 [vR mScr, vR 0, vR 155, vI i] [vI _, vI _] M2 Q
  exact w_icmp_self rfl rfl (k M2 ⟨⟨_, CI_lt (CI_up d1 (by omega)) (fun a ha => f2 a (Or.inl ha)), d2⟩, by rw [f2 mScr (by unfold mScr; omega)]; exact hL1, fun k => by rw [f2 (mScr + 1) (by unfold mScr; omega)]; exact hX1 k⟩)
set_option maxRecDepth 100000 in
theorem lw_put {L n D : Nat} {xs : Nat → Int32} {i : Int} {s : Sta} {M : mM} {Q : mP} (hn : n ≤ 600) (h0 : 0 ≤ i) (h6 : i + 6 ≤ L) (hD : 12 ≤ D) (c : CI (2 * n + 1) s M) (c2 : MI s M) (hL : M mScr 0 = (L : Int)) (hX : ∀ k, M (mScr + 1) k = (xs k).toInt) (k : ∀ M1, LwI L xs (n + 1) M1 → Wp mc_247 D 901 [vR mScr, vR 0, vR 155, vI i] [] M1 Q) : Wp mc_247 D 308 [vR mScr, vR 0, vR 155, vI i] [] M Q := by
  refine w_aload rfl rfl (w_aload rfl rfl (w_iload rfl rfl (w_iconst rfl (w_iadd rfl (w_scrV rfl (by omega) (by rw [hL]; omega) (hX _) (w_aload rfl rfl (w_iload rfl rfl (w_iconst rfl (w_iadd rfl (w_scrV rfl (by omega) (by rw [hL]; omega) (hX _) (w_aload rfl rfl (w_iload rfl rfl (w_iconst rfl (w_iadd rfl (w_scrV rfl (by omega) (by rw [hL]; omega) (hX _) (w_aload rfl rfl (w_iload rfl rfl (w_iconst rfl (w_iadd rfl (w_scrV rfl (by omega) (by rw [hL]; omega) (hX _) ?_))))))))))))))))))))
  refine w_callQ (Or.inr rfl) (c_put c (i32_s _) (i32_s _) (i32_s _) (i32_s _)) (by omega) nof_48 rfl rfl rfl rfl rfl (fun r1 M1 hq1 => ?_)
  obtain ⟨rfl, d1, f1⟩ := hq1
  have hL1 : M1 mScr 0 = (L : Int) := by rw [f1 mScr (by unfold mScr; omega)]; exact hL
  have hX1 : ∀ k, M1 (mScr + 1) k = (xs k).toInt := fun k => by rw [f1 (mScr + 1) (by unfold mScr; omega)]; exact hX k
  have e1 := MI_ge c2 f1
  show Wp mc_247 D 332 [vR mScr, vR 0, vR 155, vI i] [vI _] M1 Q
  refine w_aload rfl rfl (w_aload rfl rfl (w_iload rfl rfl (w_iconst rfl (w_iadd rfl (w_scrV rfl (by omega) (by rw [hL1]; omega) (hX1 _) (w_aload rfl rfl (w_iload rfl rfl (w_iconst rfl (w_iadd rfl (w_scrV rfl (by omega) (by rw [hL1]; omega) (hX1 _) (w_aload rfl rfl (w_iload rfl rfl (w_iconst rfl (w_iadd rfl (w_scrV rfl (by omega) (by rw [hL1]; omega) (hX1 _) (w_aload rfl rfl (w_iload rfl rfl (w_iconst rfl (w_iadd rfl (w_scrV rfl (by omega) (by rw [hL1]; omega) (hX1 _) ?_))))))))))))))))))))
  refine w_callQ (Or.inr rfl) (mo_put e1 (i32_s _) (i32_s _) (i32_s _) (i32_s _)) (by omega) nof_173 rfl rfl rfl rfl rfl (fun r2 M2 hq2 => ?_)
  obtain ⟨rfl, d2, f2⟩ := hq2
  show Wp mc_247 D 356 [vR mScr, vR 0, vR 155, vI i] [vI _, vI _] M2 Q
  exact w_icmp_self rfl rfl (k M2 ⟨⟨_, CI_lt (CI_up d1 (by omega)) (fun a ha => f2 a (Or.inl ha)), d2⟩, by rw [f2 mScr (by unfold mScr; omega)]; exact hL1, fun k => by rw [f2 (mScr + 1) (by unfold mScr; omega)]; exact hX1 k⟩)
set_option maxRecDepth 100000 in
theorem lw_drop {L n D : Nat} {xs : Nat → Int32} {i : Int} {s : Sta} {M : mM} {Q : mP} (hn : n ≤ 600) (h0 : 0 ≤ i) (h6 : i + 6 ≤ L) (hD : 12 ≤ D) (c : CI (2 * n + 1) s M) (c2 : MI s M) (hL : M mScr 0 = (L : Int)) (hX : ∀ k, M (mScr + 1) k = (xs k).toInt) (k : ∀ M1, LwI L xs (n + 1) M1 → Wp mc_247 D 901 [vR mScr, vR 0, vR 155, vI i] [] M1 Q) : Wp mc_247 D 361 [vR mScr, vR 0, vR 155, vI i] [] M Q := by
  refine w_aload rfl rfl (w_aload rfl rfl (w_iload rfl rfl (w_iconst rfl (w_iadd rfl (w_scrV rfl (by omega) (by rw [hL]; omega) (hX _) (w_aload rfl rfl (w_iload rfl rfl (w_iconst rfl (w_iadd rfl (w_scrV rfl (by omega) (by rw [hL]; omega) (hX _) (w_aload rfl rfl (w_iload rfl rfl (w_iconst rfl (w_iadd rfl (w_scrV rfl (by omega) (by rw [hL]; omega) (hX _) ?_)))))))))))))))
  refine w_callQ (Or.inr rfl) (c_drop c (i32_s _) (i32_s _) (i32_s _)) (by omega) nof_51 rfl rfl rfl rfl rfl (fun r1 M1 hq1 => ?_)
  obtain ⟨rfl, d1, f1⟩ := hq1
  have hL1 : M1 mScr 0 = (L : Int) := by rw [f1 mScr (by unfold mScr; omega)]; exact hL
  have hX1 : ∀ k, M1 (mScr + 1) k = (xs k).toInt := fun k => by rw [f1 (mScr + 1) (by unfold mScr; omega)]; exact hX k
  have e1 := MI_ge c2 f1
  show Wp mc_247 D 380 [vR mScr, vR 0, vR 155, vI i] [vI _] M1 Q
  refine w_aload rfl rfl (w_aload rfl rfl (w_iload rfl rfl (w_iconst rfl (w_iadd rfl (w_scrV rfl (by omega) (by rw [hL1]; omega) (hX1 _) (w_aload rfl rfl (w_iload rfl rfl (w_iconst rfl (w_iadd rfl (w_scrV rfl (by omega) (by rw [hL1]; omega) (hX1 _) (w_aload rfl rfl (w_iload rfl rfl (w_iconst rfl (w_iadd rfl (w_scrV rfl (by omega) (by rw [hL1]; omega) (hX1 _) ?_)))))))))))))))
  refine w_callQ (Or.inr rfl) (mo_drop e1 (i32_s _) (i32_s _) (i32_s _)) (by omega) nof_177 rfl rfl rfl rfl rfl (fun r2 M2 hq2 => ?_)
  obtain ⟨rfl, d2, f2⟩ := hq2
  show Wp mc_247 D 399 [vR mScr, vR 0, vR 155, vI i] [vI _, vI _] M2 Q
  exact w_icmp_self rfl rfl (k M2 ⟨⟨_, CI_lt (CI_up d1 (by omega)) (fun a ha => f2 a (Or.inl ha)), d2⟩, by rw [f2 mScr (by unfold mScr; omega)]; exact hL1, fun k => by rw [f2 (mScr + 1) (by unfold mScr; omega)]; exact hX1 k⟩)
set_option maxRecDepth 100000 in
theorem lw_move {L n D : Nat} {xs : Nat → Int32} {i : Int} {s : Sta} {M : mM} {Q : mP} (hn : n ≤ 600) (h0 : 0 ≤ i) (h6 : i + 6 ≤ L) (hD : 12 ≤ D) (c : CI (2 * n + 1) s M) (c2 : MI s M) (hL : M mScr 0 = (L : Int)) (hX : ∀ k, M (mScr + 1) k = (xs k).toInt) (k : ∀ M1, LwI L xs (n + 1) M1 → Wp mc_247 D 901 [vR mScr, vR 0, vR 155, vI i] [] M1 Q) : Wp mc_247 D 404 [vR mScr, vR 0, vR 155, vI i] [] M Q := by
  refine w_aload rfl rfl (w_aload rfl rfl (w_iload rfl rfl (w_iconst rfl (w_iadd rfl (w_scrV rfl (by omega) (by rw [hL]; omega) (hX _) (w_aload rfl rfl (w_iload rfl rfl (w_iconst rfl (w_iadd rfl (w_scrV rfl (by omega) (by rw [hL]; omega) (hX _) (w_aload rfl rfl (w_iload rfl rfl (w_iconst rfl (w_iadd rfl (w_scrV rfl (by omega) (by rw [hL]; omega) (hX _) ?_)))))))))))))))
  refine w_callQ (Or.inr rfl) (c_move c (i32_s _) (i32_s _) (i32_s _)) (by omega) nof_52 rfl rfl rfl rfl rfl (fun r1 M1 hq1 => ?_)
  obtain ⟨rfl, d1, f1⟩ := hq1
  have hL1 : M1 mScr 0 = (L : Int) := by rw [f1 mScr (by unfold mScr; omega)]; exact hL
  have hX1 : ∀ k, M1 (mScr + 1) k = (xs k).toInt := fun k => by rw [f1 (mScr + 1) (by unfold mScr; omega)]; exact hX k
  have e1 := MI_ge c2 f1
  show Wp mc_247 D 423 [vR mScr, vR 0, vR 155, vI i] [vI _] M1 Q
  refine w_aload rfl rfl (w_aload rfl rfl (w_iload rfl rfl (w_iconst rfl (w_iadd rfl (w_scrV rfl (by omega) (by rw [hL1]; omega) (hX1 _) (w_aload rfl rfl (w_iload rfl rfl (w_iconst rfl (w_iadd rfl (w_scrV rfl (by omega) (by rw [hL1]; omega) (hX1 _) (w_aload rfl rfl (w_iload rfl rfl (w_iconst rfl (w_iadd rfl (w_scrV rfl (by omega) (by rw [hL1]; omega) (hX1 _) ?_)))))))))))))))
  refine w_callQ (Or.inr rfl) (mo_move e1 (i32_s _) (i32_s _) (i32_s _)) (by omega) nof_178 rfl rfl rfl rfl rfl (fun r2 M2 hq2 => ?_)
  obtain ⟨rfl, d2, f2⟩ := hq2
  show Wp mc_247 D 442 [vR mScr, vR 0, vR 155, vI i] [vI _, vI _] M2 Q
  exact w_icmp_self rfl rfl (k M2 ⟨⟨_, CI_lt (CI_up d1 (by omega)) (fun a ha => f2 a (Or.inl ha)), d2⟩, by rw [f2 mScr (by unfold mScr; omega)]; exact hL1, fun k => by rw [f2 (mScr + 1) (by unfold mScr; omega)]; exact hX1 k⟩)
set_option maxRecDepth 100000 in
theorem lw_mirror {L n D : Nat} {xs : Nat → Int32} {i : Int} {s : Sta} {M : mM} {Q : mP} (hn : n ≤ 600) (h0 : 0 ≤ i) (h6 : i + 6 ≤ L) (hD : 12 ≤ D) (c : CI (2 * n + 1) s M) (c2 : MI s M) (hL : M mScr 0 = (L : Int)) (hX : ∀ k, M (mScr + 1) k = (xs k).toInt) (k : ∀ M1, LwI L xs (n + 1) M1 → Wp mc_247 D 901 [vR mScr, vR 0, vR 155, vI i] [] M1 Q) : Wp mc_247 D 447 [vR mScr, vR 0, vR 155, vI i] [] M Q := by
  refine w_aload rfl rfl (w_aload rfl rfl (w_iload rfl rfl (w_iconst rfl (w_iadd rfl (w_scrV rfl (by omega) (by rw [hL]; omega) (hX _) ?_)))))
  refine w_callQ (Or.inr rfl) (c_mirror c (i32_s _)) (by omega) nof_55 rfl rfl rfl rfl rfl (fun r1 M1 hq1 => ?_)
  obtain ⟨rfl, d1, f1⟩ := hq1
  have hL1 : M1 mScr 0 = (L : Int) := by rw [f1 mScr (by unfold mScr; omega)]; exact hL
  have hX1 : ∀ k, M1 (mScr + 1) k = (xs k).toInt := fun k => by rw [f1 (mScr + 1) (by unfold mScr; omega)]; exact hX k
  have e1 := MI_ge c2 f1
  show Wp mc_247 D 456 [vR mScr, vR 0, vR 155, vI i] [vI _] M1 Q
  refine w_aload rfl rfl (w_aload rfl rfl (w_iload rfl rfl (w_iconst rfl (w_iadd rfl (w_scrV rfl (by omega) (by rw [hL1]; omega) (hX1 _) ?_)))))
  refine w_callQ (Or.inr rfl) (mo_mirror e1 (i32_s _)) (by omega) nof_179 rfl rfl rfl rfl rfl (fun r2 M2 hq2 => ?_)
  obtain ⟨rfl, d2, f2⟩ := hq2
  show Wp mc_247 D 465 [vR mScr, vR 0, vR 155, vI i] [vI _, vI _] M2 Q
  exact w_icmp_self rfl rfl (k M2 ⟨⟨_, CI_lt (CI_up d1 (by omega)) (fun a ha => f2 a (Or.inl ha)), d2⟩, by rw [f2 mScr (by unfold mScr; omega)]; exact hL1, fun k => by rw [f2 (mScr + 1) (by unfold mScr; omega)]; exact hX1 k⟩)
set_option maxRecDepth 100000 in
theorem lw_join {L n D : Nat} {xs : Nat → Int32} {i : Int} {s : Sta} {M : mM} {Q : mP} (hn : n ≤ 600) (h0 : 0 ≤ i) (h6 : i + 6 ≤ L) (hD : 12 ≤ D) (c : CI (2 * n + 1) s M) (c2 : MI s M) (hL : M mScr 0 = (L : Int)) (hX : ∀ k, M (mScr + 1) k = (xs k).toInt) (k : ∀ M1, LwI L xs (n + 1) M1 → Wp mc_247 D 901 [vR mScr, vR 0, vR 155, vI i] [] M1 Q) : Wp mc_247 D 470 [vR mScr, vR 0, vR 155, vI i] [] M Q := by
  refine w_aload rfl rfl (w_aload rfl rfl (w_iload rfl rfl (w_iconst rfl (w_iadd rfl (w_scrV rfl (by omega) (by rw [hL]; omega) (hX _) ?_)))))
  refine w_callQ (Or.inr rfl) (c_join c (i32_s _)) (by omega) nof_57 rfl rfl rfl rfl rfl (fun r1 M1 hq1 => ?_)
  obtain ⟨rfl, d1, f1⟩ := hq1
  have hL1 : M1 mScr 0 = (L : Int) := by rw [f1 mScr (by unfold mScr; omega)]; exact hL
  have hX1 : ∀ k, M1 (mScr + 1) k = (xs k).toInt := fun k => by rw [f1 (mScr + 1) (by unfold mScr; omega)]; exact hX k
  have e1 := MI_ge c2 f1
  show Wp mc_247 D 479 [vR mScr, vR 0, vR 155, vI i] [vI _] M1 Q
  refine w_aload rfl rfl (w_aload rfl rfl (w_iload rfl rfl (w_iconst rfl (w_iadd rfl (w_scrV rfl (by omega) (by rw [hL1]; omega) (hX1 _) ?_)))))
  refine w_callQ (Or.inr rfl) (mo_join e1 (i32_s _)) (by omega) nof_181 rfl rfl rfl rfl rfl (fun r2 M2 hq2 => ?_)
  obtain ⟨rfl, d2, f2⟩ := hq2
  show Wp mc_247 D 488 [vR mScr, vR 0, vR 155, vI i] [vI _, vI _] M2 Q
  exact w_icmp_self rfl rfl (k M2 ⟨⟨_, CI_lt (CI_up d1 (by omega)) (fun a ha => f2 a (Or.inl ha)), d2⟩, by rw [f2 mScr (by unfold mScr; omega)]; exact hL1, fun k => by rw [f2 (mScr + 1) (by unfold mScr; omega)]; exact hX1 k⟩)
set_option maxRecDepth 100000 in
theorem lw_times {L n D : Nat} {xs : Nat → Int32} {i : Int} {s : Sta} {M : mM} {Q : mP} (hn : n ≤ 600) (h0 : 0 ≤ i) (h6 : i + 6 ≤ L) (hD : 12 ≤ D) (c : CI (2 * n + 1) s M) (c2 : MI s M) (hL : M mScr 0 = (L : Int)) (hX : ∀ k, M (mScr + 1) k = (xs k).toInt) (k : ∀ M1, LwI L xs (n + 1) M1 → Wp mc_247 D 901 [vR mScr, vR 0, vR 155, vI i] [] M1 Q) : Wp mc_247 D 493 [vR mScr, vR 0, vR 155, vI i] [] M Q := by
  refine w_aload rfl rfl (w_aload rfl rfl (w_iload rfl rfl (w_iconst rfl (w_iadd rfl (w_scrV rfl (by omega) (by rw [hL]; omega) (hX _) ?_)))))
  refine w_callQ (Or.inr rfl) (c_times c (i32_s _)) (by omega) nof_59 rfl rfl rfl rfl rfl (fun r1 M1 hq1 => ?_)
  obtain ⟨rfl, d1, f1⟩ := hq1
  have hL1 : M1 mScr 0 = (L : Int) := by rw [f1 mScr (by unfold mScr; omega)]; exact hL
  have hX1 : ∀ k, M1 (mScr + 1) k = (xs k).toInt := fun k => by rw [f1 (mScr + 1) (by unfold mScr; omega)]; exact hX k
  have e1 := MI_ge c2 f1
  show Wp mc_247 D 502 [vR mScr, vR 0, vR 155, vI i] [vI _] M1 Q
  refine w_aload rfl rfl (w_aload rfl rfl (w_iload rfl rfl (w_iconst rfl (w_iadd rfl (w_scrV rfl (by omega) (by rw [hL1]; omega) (hX1 _) ?_)))))
  refine w_callQ (Or.inr rfl) (mo_times e1 (i32_s _)) (by omega) nof_182 rfl rfl rfl rfl rfl (fun r2 M2 hq2 => ?_)
  obtain ⟨rfl, d2, f2⟩ := hq2
  show Wp mc_247 D 511 [vR mScr, vR 0, vR 155, vI i] [vI _, vI _] M2 Q
  exact w_icmp_self rfl rfl (k M2 ⟨⟨_, CI_lt (CI_up d1 (by omega)) (fun a ha => f2 a (Or.inl ha)), d2⟩, by rw [f2 mScr (by unfold mScr; omega)]; exact hL1, fun k => by rw [f2 (mScr + 1) (by unfold mScr; omega)]; exact hX1 k⟩)
set_option maxRecDepth 100000 in
theorem lw_undo {L n D : Nat} {xs : Nat → Int32} {i : Int} {s : Sta} {M : mM} {Q : mP} (hn : n ≤ 600) (h0 : 0 ≤ i) (h6 : i + 6 ≤ L) (hD : 12 ≤ D) (c : CI (2 * n + 1) s M) (c2 : MI s M) (hL : M mScr 0 = (L : Int)) (hX : ∀ k, M (mScr + 1) k = (xs k).toInt) (k : ∀ M1, LwI L xs (n + 1) M1 → Wp mc_247 D 901 [vR mScr, vR 0, vR 155, vI i] [] M1 Q) : Wp mc_247 D 516 [vR mScr, vR 0, vR 155, vI i] [] M Q := by
  refine w_aload rfl rfl ?_
  refine w_callQ (Or.inr rfl) (c_undo c) (by omega) nof_61 rfl rfl rfl rfl rfl (fun r1 M1 hq1 => ?_)
  obtain ⟨rfl, d1, f1⟩ := hq1
  have hL1 : M1 mScr 0 = (L : Int) := by rw [f1 mScr (by unfold mScr; omega)]; exact hL
  have hX1 : ∀ k, M1 (mScr + 1) k = (xs k).toInt := fun k => by rw [f1 (mScr + 1) (by unfold mScr; omega)]; exact hX k
  have e1 := MI_ge c2 f1
  show Wp mc_247 D 520 [vR mScr, vR 0, vR 155, vI i] [vI _] M1 Q
  refine w_aload rfl rfl ?_
  refine w_callQ (Or.inr rfl) (mo_undo e1) (by omega) nof_183 rfl rfl rfl rfl rfl (fun r2 M2 hq2 => ?_)
  obtain ⟨rfl, d2, f2⟩ := hq2
  show Wp mc_247 D 524 [vR mScr, vR 0, vR 155, vI i] [vI _, vI _] M2 Q
  exact w_icmp_self rfl rfl (k M2 ⟨⟨_, CI_lt (CI_up d1 (by omega)) (fun a ha => f2 a (Or.inl ha)), d2⟩, by rw [f2 mScr (by unfold mScr; omega)]; exact hL1, fun k => by rw [f2 (mScr + 1) (by unfold mScr; omega)]; exact hX1 k⟩)
set_option maxRecDepth 100000 in
theorem lw_keep {L n D : Nat} {xs : Nat → Int32} {i : Int} {s : Sta} {M : mM} {Q : mP} (hn : n ≤ 600) (h0 : 0 ≤ i) (h6 : i + 6 ≤ L) (hD : 12 ≤ D) (c : CI (2 * n + 1) s M) (c2 : MI s M) (hL : M mScr 0 = (L : Int)) (hX : ∀ k, M (mScr + 1) k = (xs k).toInt) (k : ∀ M1, LwI L xs (n + 1) M1 → Wp mc_247 D 901 [vR mScr, vR 0, vR 155, vI i] [] M1 Q) : Wp mc_247 D 529 [vR mScr, vR 0, vR 155, vI i] [] M Q := by
  refine w_aload rfl rfl (w_aload rfl rfl (w_iload rfl rfl (w_iconst rfl (w_iadd rfl (w_scrV rfl (by omega) (by rw [hL]; omega) (hX _) ?_)))))
  refine w_callQ (Or.inr rfl) (c_keep c (i32_s _)) (by omega) nof_63 rfl rfl rfl rfl rfl (fun r1 M1 hq1 => ?_)
  obtain ⟨rfl, d1, f1⟩ := hq1
  have hL1 : M1 mScr 0 = (L : Int) := by rw [f1 mScr (by unfold mScr; omega)]; exact hL
  have hX1 : ∀ k, M1 (mScr + 1) k = (xs k).toInt := fun k => by rw [f1 (mScr + 1) (by unfold mScr; omega)]; exact hX k
  have e1 := MI_ge c2 f1
  show Wp mc_247 D 538 [vR mScr, vR 0, vR 155, vI i] [vI _] M1 Q
  refine w_aload rfl rfl (w_aload rfl rfl (w_iload rfl rfl (w_iconst rfl (w_iadd rfl (w_scrV rfl (by omega) (by rw [hL1]; omega) (hX1 _) ?_)))))
  refine w_callQ (Or.inr rfl) (mo_keep e1 (i32_s _)) (by omega) nof_184 rfl rfl rfl rfl rfl (fun r2 M2 hq2 => ?_)
  obtain ⟨rfl, d2, f2⟩ := hq2
  show Wp mc_247 D 547 [vR mScr, vR 0, vR 155, vI i] [vI _, vI _] M2 Q
  exact w_icmp_self rfl rfl (k M2 ⟨⟨_, CI_lt (CI_up d1 (by omega)) (fun a ha => f2 a (Or.inl ha)), d2⟩, by rw [f2 mScr (by unfold mScr; omega)]; exact hL1, fun k => by rw [f2 (mScr + 1) (by unfold mScr; omega)]; exact hX1 k⟩)
set_option maxRecDepth 100000 in
theorem lw_back {L n D : Nat} {xs : Nat → Int32} {i : Int} {s : Sta} {M : mM} {Q : mP} (hn : n ≤ 600) (h0 : 0 ≤ i) (h6 : i + 6 ≤ L) (hD : 12 ≤ D) (c : CI (2 * n + 1) s M) (c2 : MI s M) (hL : M mScr 0 = (L : Int)) (hX : ∀ k, M (mScr + 1) k = (xs k).toInt) (k : ∀ M1, LwI L xs (n + 1) M1 → Wp mc_247 D 901 [vR mScr, vR 0, vR 155, vI i] [] M1 Q) : Wp mc_247 D 552 [vR mScr, vR 0, vR 155, vI i] [] M Q := by
  refine w_aload rfl rfl (w_aload rfl rfl (w_iload rfl rfl (w_iconst rfl (w_iadd rfl (w_scrV rfl (by omega) (by rw [hL]; omega) (hX _) ?_)))))
  refine w_callQ (Or.inr rfl) (c_back c (i32_s _)) (by omega) nof_65 rfl rfl rfl rfl rfl (fun r1 M1 hq1 => ?_)
  obtain ⟨rfl, d1, f1⟩ := hq1
  have hL1 : M1 mScr 0 = (L : Int) := by rw [f1 mScr (by unfold mScr; omega)]; exact hL
  have hX1 : ∀ k, M1 (mScr + 1) k = (xs k).toInt := fun k => by rw [f1 (mScr + 1) (by unfold mScr; omega)]; exact hX k
  have e1 := MI_ge c2 f1
  show Wp mc_247 D 561 [vR mScr, vR 0, vR 155, vI i] [vI _] M1 Q
  refine w_aload rfl rfl (w_aload rfl rfl (w_iload rfl rfl (w_iconst rfl (w_iadd rfl (w_scrV rfl (by omega) (by rw [hL1]; omega) (hX1 _) ?_)))))
  refine w_callQ (Or.inr rfl) (mo_back e1 (i32_s _)) (by omega) nof_185 rfl rfl rfl rfl rfl (fun r2 M2 hq2 => ?_)
  obtain ⟨rfl, d2, f2⟩ := hq2
  show Wp mc_247 D 570 [vR mScr, vR 0, vR 155, vI i] [vI _, vI _] M2 Q
  exact w_icmp_self rfl rfl (k M2 ⟨⟨_, CI_lt (CI_up d1 (by omega)) (fun a ha => f2 a (Or.inl ha)), d2⟩, by rw [f2 mScr (by unfold mScr; omega)]; exact hL1, fun k => by rw [f2 (mScr + 1) (by unfold mScr; omega)]; exact hX1 k⟩)
set_option maxRecDepth 100000 in
theorem lw_corner {L n D : Nat} {xs : Nat → Int32} {i : Int} {s : Sta} {M : mM} {Q : mP} (hn : n ≤ 600) (h0 : 0 ≤ i) (h6 : i + 6 ≤ L) (hD : 12 ≤ D) (c : CI (2 * n + 1) s M) (c2 : MI s M) (hL : M mScr 0 = (L : Int)) (hX : ∀ k, M (mScr + 1) k = (xs k).toInt) (k : ∀ M1, LwI L xs (n + 1) M1 → Wp mc_247 D 901 [vR mScr, vR 0, vR 155, vI i] [] M1 Q) : Wp mc_247 D 575 [vR mScr, vR 0, vR 155, vI i] [] M Q := by
  refine w_aload rfl rfl (w_aload rfl rfl (w_iload rfl rfl (w_iconst rfl (w_iadd rfl (w_scrV rfl (by omega) (by rw [hL]; omega) (hX _) (w_aload rfl rfl (w_iload rfl rfl (w_iconst rfl (w_iadd rfl (w_scrV rfl (by omega) (by rw [hL]; omega) (hX _) (w_aload rfl rfl (w_iload rfl rfl (w_iconst rfl (w_iadd rfl (w_scrV rfl (by omega) (by rw [hL]; omega) (hX _) ?_)))))))))))))))
  refine w_callQ (Or.inr rfl) (c_corner geo c (by omega) (i32_s _) (i32_s _) (i32_s _)) (by omega) nof_66 rfl rfl rfl rfl rfl (fun r1 M1 hq1 => ?_)
  obtain ⟨rfl, d1, f1⟩ := hq1
  have hL1 : M1 mScr 0 = (L : Int) := by rw [f1 mScr (by unfold mScr; omega)]; exact hL
  have hX1 : ∀ k, M1 (mScr + 1) k = (xs k).toInt := fun k => by rw [f1 (mScr + 1) (by unfold mScr; omega)]; exact hX k
  have e1 := MI_ge c2 f1
  show Wp mc_247 D 594 [vR mScr, vR 0, vR 155, vI i] [vI _] M1 Q
  refine w_aload rfl rfl (w_aload rfl rfl (w_iload rfl rfl (w_iconst rfl (w_iadd rfl (w_scrV rfl (by omega) (by rw [hL1]; omega) (hX1 _) (w_aload rfl rfl (w_iload rfl rfl (w_iconst rfl (w_iadd rfl (w_scrV rfl (by omega) (by rw [hL1]; omega) (hX1 _) (w_aload rfl rfl (w_iload rfl rfl (w_iconst rfl (w_iadd rfl (w_scrV rfl (by omega) (by rw [hL1]; omega) (hX1 _) ?_)))))))))))))))
  refine w_callQ (Or.inr rfl) (mo_corner geo geoe geom arq e1 (i32_s _) (i32_s _) (i32_s _)) (by omega) nof_186 rfl rfl rfl rfl rfl (fun r2 M2 hq2 => ?_)
  obtain ⟨rfl, d2, f2⟩ := hq2
  show Wp mc_247 D 613 [vR mScr, vR 0, vR 155, vI i] [vI _, vI _] M2 Q
  exact w_icmp_self rfl rfl (k M2 ⟨⟨_, CI_lt (CI_up d1 (by omega)) (fun a ha => f2 a (Or.inl ha)), d2⟩, by rw [f2 mScr (by unfold mScr; omega)]; exact hL1, fun k => by rw [f2 (mScr + 1) (by unfold mScr; omega)]; exact hX1 k⟩)
set_option maxRecDepth 100000 in
theorem lw_edge {L n D : Nat} {xs : Nat → Int32} {i : Int} {s : Sta} {M : mM} {Q : mP} (hn : n ≤ 600) (h0 : 0 ≤ i) (h6 : i + 6 ≤ L) (hD : 12 ≤ D) (c : CI (2 * n + 1) s M) (c2 : MI s M) (hL : M mScr 0 = (L : Int)) (hX : ∀ k, M (mScr + 1) k = (xs k).toInt) (k : ∀ M1, LwI L xs (n + 1) M1 → Wp mc_247 D 901 [vR mScr, vR 0, vR 155, vI i] [] M1 Q) : Wp mc_247 D 618 [vR mScr, vR 0, vR 155, vI i] [] M Q := by
  refine w_aload rfl rfl (w_aload rfl rfl (w_iload rfl rfl (w_iconst rfl (w_iadd rfl (w_scrV rfl (by omega) (by rw [hL]; omega) (hX _) (w_aload rfl rfl (w_iload rfl rfl (w_iconst rfl (w_iadd rfl (w_scrV rfl (by omega) (by rw [hL]; omega) (hX _) (w_aload rfl rfl (w_iload rfl rfl (w_iconst rfl (w_iadd rfl (w_scrV rfl (by omega) (by rw [hL]; omega) (hX _) ?_)))))))))))))))
  refine w_callQ (Or.inr rfl) (c_edge geo c (by omega) (i32_s _) (i32_s _) (i32_s _)) (by omega) nof_103 rfl rfl rfl rfl rfl (fun r1 M1 hq1 => ?_)
  obtain ⟨rfl, d1, f1⟩ := hq1
  have hL1 : M1 mScr 0 = (L : Int) := by rw [f1 mScr (by unfold mScr; omega)]; exact hL
  have hX1 : ∀ k, M1 (mScr + 1) k = (xs k).toInt := fun k => by rw [f1 (mScr + 1) (by unfold mScr; omega)]; exact hX k
  have e1 := MI_ge c2 f1
  show Wp mc_247 D 637 [vR mScr, vR 0, vR 155, vI i] [vI _] M1 Q
  refine w_aload rfl rfl (w_aload rfl rfl (w_iload rfl rfl (w_iconst rfl (w_iadd rfl (w_scrV rfl (by omega) (by rw [hL1]; omega) (hX1 _) (w_aload rfl rfl (w_iload rfl rfl (w_iconst rfl (w_iadd rfl (w_scrV rfl (by omega) (by rw [hL1]; omega) (hX1 _) (w_aload rfl rfl (w_iload rfl rfl (w_iconst rfl (w_iadd rfl (w_scrV rfl (by omega) (by rw [hL1]; omega) (hX1 _) ?_)))))))))))))))
  refine w_callQ (Or.inr rfl) (mo_edge geo geoe geom brq e1 (i32_s _) (i32_s _) (i32_s _)) (by omega) nof_213 rfl rfl rfl rfl rfl (fun r2 M2 hq2 => ?_)
  obtain ⟨rfl, d2, f2⟩ := hq2
  show Wp mc_247 D 656 [vR mScr, vR 0, vR 155, vI i] [vI _, vI _] M2 Q
  exact w_icmp_self rfl rfl (k M2 ⟨⟨_, CI_lt (CI_up d1 (by omega)) (fun a ha => f2 a (Or.inl ha)), d2⟩, by rw [f2 mScr (by unfold mScr; omega)]; exact hL1, fun k => by rw [f2 (mScr + 1) (by unfold mScr; omega)]; exact hX1 k⟩)
set_option maxRecDepth 100000 in
theorem lw_region {L n D : Nat} {xs : Nat → Int32} {i : Int} {s : Sta} {M : mM} {Q : mP} (hn : n ≤ 600) (h0 : 0 ≤ i) (h6 : i + 6 ≤ L) (hD : 12 ≤ D) (c : CI (2 * n + 1) s M) (c2 : MI s M) (hL : M mScr 0 = (L : Int)) (hX : ∀ k, M (mScr + 1) k = (xs k).toInt) (k : ∀ M1, LwI L xs (n + 1) M1 → Wp mc_247 D 901 [vR mScr, vR 0, vR 155, vI i] [] M1 Q) : Wp mc_247 D 661 [vR mScr, vR 0, vR 155, vI i] [] M Q := by
  refine w_aload rfl rfl (w_aload rfl rfl (w_iload rfl rfl (w_iconst rfl (w_iadd rfl (w_scrV rfl (by omega) (by rw [hL]; omega) (hX _) (w_aload rfl rfl (w_iload rfl rfl (w_iconst rfl (w_iadd rfl (w_scrV rfl (by omega) (by rw [hL]; omega) (hX _) (w_aload rfl rfl (w_iload rfl rfl (w_iconst rfl (w_iadd rfl (w_scrV rfl (by omega) (by rw [hL]; omega) (hX _) (w_aload rfl rfl (w_iload rfl rfl (w_iconst rfl (w_iadd rfl (w_scrV rfl (by omega) (by rw [hL]; omega) (hX _) ?_))))))))))))))))))))
  refine w_callQ (Or.inr rfl) (c_region geo c (by omega) (i32_s _) (i32_s _) (i32_s _) (i32_s _)) (by omega) nof_105 rfl rfl rfl rfl rfl (fun r1 M1 hq1 => ?_)
  obtain ⟨rfl, d1, f1⟩ := hq1
  have hL1 : M1 mScr 0 = (L : Int) := by rw [f1 mScr (by unfold mScr; omega)]; exact hL
  have hX1 : ∀ k, M1 (mScr + 1) k = (xs k).toInt := fun k => by rw [f1 (mScr + 1) (by unfold mScr; omega)]; exact hX k
  have e1 := MI_ge c2 f1
  show Wp mc_247 D 685 [vR mScr, vR 0, vR 155, vI i] [vL _] M1 Q
  refine w_aload rfl rfl (w_aload rfl rfl (w_iload rfl rfl (w_iconst rfl (w_iadd rfl (w_scrV rfl (by omega) (by rw [hL1]; omega) (hX1 _) (w_aload rfl rfl (w_iload rfl rfl (w_iconst rfl (w_iadd rfl (w_scrV rfl (by omega) (by rw [hL1]; omega) (hX1 _) (w_aload rfl rfl (w_iload rfl rfl (w_iconst rfl (w_iadd rfl (w_scrV rfl (by omega) (by rw [hL1]; omega) (hX1 _) (w_aload rfl rfl (w_iload rfl rfl (w_iconst rfl (w_iadd rfl (w_scrV rfl (by omega) (by rw [hL1]; omega) (hX1 _) ?_))))))))))))))))))))
  refine w_callQ (Or.inr rfl) (mo_region geo geoe geom e1 (i32_s _) (i32_s _) (i32_s _) (i32_s _)) (by omega) nof_218 rfl rfl rfl rfl rfl (fun r2 M2 hq2 => ?_)
  obtain ⟨rfl, d2, f2⟩ := hq2
  show Wp mc_247 D 709 [vR mScr, vR 0, vR 155, vI i] [vL _, vL _] M2 Q
  exact w_lcmp_self rfl (w_if_eq (tgt := 901) rfl i32_0 rfl (fun _ => (k M2 ⟨⟨_, CI_lt (CI_up d1 (by omega)) (fun a ha => f2 a (Or.inl ha)), d2⟩, by rw [f2 mScr (by unfold mScr; omega)]; exact hL1, fun k => by rw [f2 (mScr + 1) (by unfold mScr; omega)]; exact hX1 k⟩)) (fun z => absurd rfl z))
set_option maxRecDepth 100000 in
theorem lw_lift {L n D : Nat} {xs : Nat → Int32} {i : Int} {s : Sta} {M : mM} {Q : mP} (hn : n ≤ 600) (h0 : 0 ≤ i) (h6 : i + 6 ≤ L) (hD : 12 ≤ D) (c : CI (2 * n + 1) s M) (c2 : MI s M) (hL : M mScr 0 = (L : Int)) (hX : ∀ k, M (mScr + 1) k = (xs k).toInt) (k : ∀ M1, LwI L xs (n + 1) M1 → Wp mc_247 D 901 [vR mScr, vR 0, vR 155, vI i] [] M1 Q) : Wp mc_247 D 715 [vR mScr, vR 0, vR 155, vI i] [] M Q := by
  refine w_aload rfl rfl (w_aload rfl rfl (w_iload rfl rfl (w_iconst rfl (w_iadd rfl (w_scrV rfl (by omega) (by rw [hL]; omega) (hX _) (w_aload rfl rfl (w_iload rfl rfl (w_iconst rfl (w_iadd rfl (w_scrV rfl (by omega) (by rw [hL]; omega) (hX _) (w_aload rfl rfl (w_iload rfl rfl (w_iconst rfl (w_iadd rfl (w_scrV rfl (by omega) (by rw [hL]; omega) (hX _) ?_)))))))))))))))
  refine w_callQ (Or.inr rfl) (c_lift c (i32_s _) (i32_s _) (i32_s _)) (by omega) nof_113 rfl rfl rfl rfl rfl (fun r1 M1 hq1 => ?_)
  obtain ⟨rfl, d1, f1⟩ := hq1
  have hL1 : M1 mScr 0 = (L : Int) := by rw [f1 mScr (by unfold mScr; omega)]; exact hL
  have hX1 : ∀ k, M1 (mScr + 1) k = (xs k).toInt := fun k => by rw [f1 (mScr + 1) (by unfold mScr; omega)]; exact hX k
  have e1 := MI_ge c2 f1
  show Wp mc_247 D 734 [vR mScr, vR 0, vR 155, vI i] [vI _] M1 Q
  refine w_aload rfl rfl (w_aload rfl rfl (w_iload rfl rfl (w_iconst rfl (w_iadd rfl (w_scrV rfl (by omega) (by rw [hL1]; omega) (hX1 _) (w_aload rfl rfl (w_iload rfl rfl (w_iconst rfl (w_iadd rfl (w_scrV rfl (by omega) (by rw [hL1]; omega) (hX1 _) (w_aload rfl rfl (w_iload rfl rfl (w_iconst rfl (w_iadd rfl (w_scrV rfl (by omega) (by rw [hL1]; omega) (hX1 _) ?_)))))))))))))))
  refine w_callQ (Or.inr rfl) (mo_lift e1 (i32_s _) (i32_s _) (i32_s _)) (by omega) nof_224 rfl rfl rfl rfl rfl (fun r2 M2 hq2 => ?_)
  obtain ⟨rfl, d2, f2⟩ := hq2
  show Wp mc_247 D 753 [vR mScr, vR 0, vR 155, vI i] [vI _, vI _] M2 Q
  exact w_icmp_self rfl rfl (k M2 ⟨⟨_, CI_lt (CI_up d1 (by omega)) (fun a ha => f2 a (Or.inl ha)), d2⟩, by rw [f2 mScr (by unfold mScr; omega)]; exact hL1, fun k => by rw [f2 (mScr + 1) (by unfold mScr; omega)]; exact hX1 k⟩)
set_option maxRecDepth 100000 in
theorem lw_way {L n D : Nat} {xs : Nat → Int32} {i : Int} {s : Sta} {M : mM} {Q : mP} (hn : n ≤ 600) (h0 : 0 ≤ i) (h6 : i + 6 ≤ L) (hD : 12 ≤ D) (c : CI (2 * n + 1) s M) (c2 : MI s M) (hL : M mScr 0 = (L : Int)) (hX : ∀ k, M (mScr + 1) k = (xs k).toInt) (k : ∀ M1, LwI L xs (n + 1) M1 → Wp mc_247 D 901 [vR mScr, vR 0, vR 155, vI i] [] M1 Q) : Wp mc_247 D 758 [vR mScr, vR 0, vR 155, vI i] [] M Q := by
  refine w_aload rfl rfl (w_aload rfl rfl (w_iload rfl rfl (w_iconst rfl (w_iadd rfl (w_scrV rfl (by omega) (by rw [hL]; omega) (hX _) (w_aload rfl rfl (w_iload rfl rfl (w_iconst rfl (w_iadd rfl (w_scrV rfl (by omega) (by rw [hL]; omega) (hX _) (w_aload rfl rfl (w_iload rfl rfl (w_iconst rfl (w_iadd rfl (w_scrV rfl (by omega) (by rw [hL]; omega) (hX _) (w_aload rfl rfl (w_iload rfl rfl (w_iconst rfl (w_iadd rfl (w_scrV rfl (by omega) (by rw [hL]; omega) (hX _) ?_))))))))))))))))))))
  refine w_callQ (Or.inr rfl) (c_way geo c (by omega) (i32_s _) (i32_s _) (i32_s _) (i32_s _)) (by omega) nof_119 rfl rfl rfl rfl rfl (fun r1 M1 hq1 => ?_)
  obtain ⟨rfl, d1, f1⟩ := hq1
  have hL1 : M1 mScr 0 = (L : Int) := by rw [f1 mScr (by unfold mScr; omega)]; exact hL
  have hX1 : ∀ k, M1 (mScr + 1) k = (xs k).toInt := fun k => by rw [f1 (mScr + 1) (by unfold mScr; omega)]; exact hX k
  have e1 := MI_ge c2 f1
  show Wp mc_247 D 782 [vR mScr, vR 0, vR 155, vI i] [vL _] M1 Q
  refine w_aload rfl rfl (w_aload rfl rfl (w_iload rfl rfl (w_iconst rfl (w_iadd rfl (w_scrV rfl (by omega) (by rw [hL1]; omega) (hX1 _) (w_aload rfl rfl (w_iload rfl rfl (w_iconst rfl (w_iadd rfl (w_scrV rfl (by omega) (by rw [hL1]; omega) (hX1 _) (w_aload rfl rfl (w_iload rfl rfl (w_iconst rfl (w_iadd rfl (w_scrV rfl (by omega) (by rw [hL1]; omega) (hX1 _) (w_aload rfl rfl (w_iload rfl rfl (w_iconst rfl (w_iadd rfl (w_scrV rfl (by omega) (by rw [hL1]; omega) (hX1 _) ?_))))))))))))))))))))
  refine w_callQ (Or.inr rfl) (mo_way geo geoe geom wyq e1 (i32_s _) (i32_s _) (i32_s _) (i32_s _)) (by omega) nof_227 rfl rfl rfl rfl rfl (fun r2 M2 hq2 => ?_)
  obtain ⟨rfl, d2, f2⟩ := hq2
  show Wp mc_247 D 806 [vR mScr, vR 0, vR 155, vI i] [vL _, vL _] M2 Q
  exact w_lcmp_self rfl (w_if_eq (tgt := 901) rfl i32_0 rfl (fun _ => (k M2 ⟨⟨_, CI_lt (CI_up d1 (by omega)) (fun a ha => f2 a (Or.inl ha)), d2⟩, by rw [f2 mScr (by unfold mScr; omega)]; exact hL1, fun k => by rw [f2 (mScr + 1) (by unfold mScr; omega)]; exact hX1 k⟩)) (fun z => absurd rfl z))
set_option maxRecDepth 100000 in
theorem lw_meeting {L n D : Nat} {xs : Nat → Int32} {i : Int} {s : Sta} {M : mM} {Q : mP} (hn : n ≤ 600) (h0 : 0 ≤ i) (h6 : i + 6 ≤ L) (hD : 12 ≤ D) (c : CI (2 * n + 1) s M) (c2 : MI s M) (hL : M mScr 0 = (L : Int)) (hX : ∀ k, M (mScr + 1) k = (xs k).toInt) (k : ∀ M1, LwI L xs (n + 1) M1 → Wp mc_247 D 901 [vR mScr, vR 0, vR 155, vI i] [] M1 Q) : Wp mc_247 D 812 [vR mScr, vR 0, vR 155, vI i] [] M Q := by
  refine w_aload rfl rfl (w_aload rfl rfl (w_iload rfl rfl (w_iconst rfl (w_iadd rfl (w_scrV rfl (by omega) (by rw [hL]; omega) (hX _) (w_aload rfl rfl (w_iload rfl rfl (w_iconst rfl (w_iadd rfl (w_scrV rfl (by omega) (by rw [hL]; omega) (hX _) ?_))))))))))
  refine w_callQ (Or.inr rfl) (c_meeting geo c (by omega) (i32_s _) (i32_s _)) (by omega) nof_124 rfl rfl rfl rfl rfl (fun r1 M1 hq1 => ?_)
  obtain ⟨rfl, d1, f1⟩ := hq1
  have hL1 : M1 mScr 0 = (L : Int) := by rw [f1 mScr (by unfold mScr; omega)]; exact hL
  have hX1 : ∀ k, M1 (mScr + 1) k = (xs k).toInt := fun k => by rw [f1 (mScr + 1) (by unfold mScr; omega)]; exact hX k
  have e1 := MI_ge c2 f1
  show Wp mc_247 D 826 [vR mScr, vR 0, vR 155, vI i] [vI _] M1 Q
  refine w_aload rfl rfl (w_aload rfl rfl (w_iload rfl rfl (w_iconst rfl (w_iadd rfl (w_scrV rfl (by omega) (by rw [hL1]; omega) (hX1 _) (w_aload rfl rfl (w_iload rfl rfl (w_iconst rfl (w_iadd rfl (w_scrV rfl (by omega) (by rw [hL1]; omega) (hX1 _) ?_))))))))))
  refine w_callQ (Or.inr rfl) (mo_meeting geoe geom mxq plq e1 (i32_s _) (i32_s _)) (by omega) nof_230 rfl rfl rfl rfl rfl (fun r2 M2 hq2 => ?_)
  obtain ⟨rfl, d2, f2⟩ := hq2
  show Wp mc_247 D 840 [vR mScr, vR 0, vR 155, vI i] [vI _, vI _] M2 Q
  exact w_icmp_self rfl rfl (k M2 ⟨⟨_, CI_lt (CI_up d1 (by omega)) (fun a ha => f2 a (Or.inl ha)), d2⟩, by rw [f2 mScr (by unfold mScr; omega)]; exact hL1, fun k => by rw [f2 (mScr + 1) (by unfold mScr; omega)]; exact hX1 k⟩)
set_option maxRecDepth 100000 in
theorem lw_count {L n D : Nat} {xs : Nat → Int32} {i : Int} {s : Sta} {M : mM} {Q : mP} (hn : n ≤ 600) (h0 : 0 ≤ i) (h6 : i + 6 ≤ L) (hD : 12 ≤ D) (c : CI (2 * n + 1) s M) (c2 : MI s M) (hL : M mScr 0 = (L : Int)) (hX : ∀ k, M (mScr + 1) k = (xs k).toInt) (k : ∀ M1, LwI L xs (n + 1) M1 → Wp mc_247 D 901 [vR mScr, vR 0, vR 155, vI i] [] M1 Q) : Wp mc_247 D 845 [vR mScr, vR 0, vR 155, vI i] [] M Q := by
  refine w_aload rfl rfl (w_aload rfl rfl (w_iload rfl rfl (w_iconst rfl (w_iadd rfl (w_scrV rfl (by omega) (by rw [hL]; omega) (hX _) (w_aload rfl rfl (w_iload rfl rfl (w_iconst rfl (w_iadd rfl (w_scrV rfl (by omega) (by rw [hL]; omega) (hX _) ?_))))))))))
  refine w_callQ (Or.inr rfl) (c_count geo c (by omega) (i32_s _) (i32_s _)) (by omega) nof_131 rfl rfl rfl rfl rfl (fun r1 M1 hq1 => ?_)
  obtain ⟨rfl, d1, f1⟩ := hq1
  have hL1 : M1 mScr 0 = (L : Int) := by rw [f1 mScr (by unfold mScr; omega)]; exact hL
  have hX1 : ∀ k, M1 (mScr + 1) k = (xs k).toInt := fun k => by rw [f1 (mScr + 1) (by unfold mScr; omega)]; exact hX k
  have e1 := MI_ge c2 f1
  show Wp mc_247 D 859 [vR mScr, vR 0, vR 155, vI i] [vI _] M1 Q
  refine w_aload rfl rfl (w_aload rfl rfl (w_iload rfl rfl (w_iconst rfl (w_iadd rfl (w_scrV rfl (by omega) (by rw [hL1]; omega) (hX1 _) (w_aload rfl rfl (w_iload rfl rfl (w_iconst rfl (w_iadd rfl (w_scrV rfl (by omega) (by rw [hL1]; omega) (hX1 _) ?_))))))))))
  refine w_callQ (Or.inr rfl) (mo_count geo geoe geom arq brq e1 (i32_s _) (i32_s _)) (by omega) nof_233 rfl rfl rfl rfl rfl (fun r2 M2 hq2 => ?_)
  obtain ⟨rfl, d2, f2⟩ := hq2
  show Wp mc_247 D 873 [vR mScr, vR 0, vR 155, vI i] [vI _, vI _] M2 Q
  exact w_icmp_self rfl rfl (k M2 ⟨⟨_, CI_lt (CI_up d1 (by omega)) (fun a ha => f2 a (Or.inl ha)), d2⟩, by rw [f2 mScr (by unfold mScr; omega)]; exact hL1, fun k => by rw [f2 (mScr + 1) (by unfold mScr; omega)]; exact hX1 k⟩)
set_option maxRecDepth 100000 in
theorem lw_tally {L n D : Nat} {xs : Nat → Int32} {i : Int} {s : Sta} {M : mM} {Q : mP} (hn : n ≤ 600) (h0 : 0 ≤ i) (h6 : i + 6 ≤ L) (hD : 12 ≤ D) (c : CI (2 * n + 1) s M) (c2 : MI s M) (hL : M mScr 0 = (L : Int)) (hX : ∀ k, M (mScr + 1) k = (xs k).toInt) (k : ∀ M1, LwI L xs (n + 1) M1 → Wp mc_247 D 901 [vR mScr, vR 0, vR 155, vI i] [] M1 Q) : Wp mc_247 D 878 [vR mScr, vR 0, vR 155, vI i] [] M Q := by
  refine w_aload rfl rfl (w_aload rfl rfl (w_iload rfl rfl (w_iconst rfl (w_iadd rfl (w_scrV rfl (by omega) (by rw [hL]; omega) (hX _) ?_)))))
  refine w_callQ (Or.inr rfl) (c_tally geo c (by omega) (i32_s _)) (by omega) nof_141 rfl rfl rfl rfl rfl (fun r1 M1 hq1 => ?_)
  obtain ⟨rfl, d1, f1⟩ := hq1
  have hL1 : M1 mScr 0 = (L : Int) := by rw [f1 mScr (by unfold mScr; omega)]; exact hL
  have hX1 : ∀ k, M1 (mScr + 1) k = (xs k).toInt := fun k => by rw [f1 (mScr + 1) (by unfold mScr; omega)]; exact hX k
  have e1 := MI_ge c2 f1
  show Wp mc_247 D 887 [vR mScr, vR 0, vR 155, vI i] [vI _] M1 Q
  refine w_aload rfl rfl (w_aload rfl rfl (w_iload rfl rfl (w_iconst rfl (w_iadd rfl (w_scrV rfl (by omega) (by rw [hL1]; omega) (hX1 _) ?_)))))
  refine w_callQ (Or.inr rfl) (mo_tally geo geoe geom mxq plq e1 (i32_s _)) (by omega) nof_241 rfl rfl rfl rfl rfl (fun r2 M2 hq2 => ?_)
  obtain ⟨rfl, d2, f2⟩ := hq2
  show Wp mc_247 D 896 [vR mScr, vR 0, vR 155, vI i] [vI _, vI _] M2 Q
  exact w_icmp_self rfl rfl (k M2 ⟨⟨_, CI_lt (CI_up d1 (by omega)) (fun a ha => f2 a (Or.inl ha)), d2⟩, by rw [f2 mScr (by unfold mScr; omega)]; exact hL1, fun k => by rw [f2 (mScr + 1) (by unfold mScr; omega)]; exact hX1 k⟩)
set_option maxRecDepth 100000 in
theorem lw_round {L n D : Nat} {xs : Nat → Int32} {i : Int} {M : mM} {Q : mP} (hn : n ≤ 600) (h0 : 0 ≤ i) (h6 : i + 6 ≤ L) (hD : 12 ≤ D) (h : LwI L xs n M) (k : ∀ M1, LwI L xs (n + 1) M1 → Wp mc_247 D 901 [vR mScr, vR 0, vR 155, vI i] [] M1 Q) : Wp mc_247 D 27 [vR mScr, vR 0, vR 155, vI i] [] M Q := by
  obtain ⟨⟨s, c, c2⟩, hL, hX⟩ := h
  refine w_aload rfl rfl (w_iload rfl rfl (w_scrV rfl (by omega) (by rw [hL]; omega) (hX _) (w_iconst rfl (w_iand rfl rfl ?_))))
  have hb0 := bitI_and_31 (xs i.toNat).toInt
  generalize hb : bitI (· &&& ·) (xs i.toNat).toInt 31 = b at hb0 ⊢
  clear hb
  by_cases h23 : 22 < b
  · exact w_tsw (tgt := 901) rfl (by unfold i32; omega) (by rw [show decide (b < 0 ∨ 22 < b) = true from decide_eq_true (Or.inr h23)]; rfl) (k M ⟨⟨s, CI_up c (by omega), c2⟩, hL, hX⟩)
  · have hbs : b = 0 ∨ b = 1 ∨ b = 2 ∨ b = 3 ∨ b = 4 ∨ b = 5 ∨ b = 6 ∨ b = 7 ∨ b = 8 ∨ b = 9 ∨ b = 10 ∨ b = 11 ∨ b = 12 ∨ b = 13 ∨ b = 14 ∨ b = 15 ∨ b = 16 ∨ b = 17 ∨ b = 18 ∨ b = 19 ∨ b = 20 ∨ b = 21 ∨ b = 22 := by omega
    rcases hbs with hb | hb | hb | hb | hb | hb | hb | hb | hb | hb | hb | hb | hb | hb | hb | hb | hb | hb | hb | hb | hb | hb | hb
    · exact w_tsw (tgt := 140) rfl (by unfold i32; omega) (by subst hb; rfl) (lw_write hn h0 h6 hD c c2 hL hX k)
    · exact w_tsw (tgt := 163) rfl (by unfold i32; omega) (by subst hb; rfl) (lw_erase hn h0 h6 hD c c2 hL hX k)
    · exact w_tsw (tgt := 176) rfl (by unfold i32; omega) (by subst hb; rfl) (lw_fault hn h0 h6 hD c c2 hL hX k)
    · exact w_tsw (tgt := 189) rfl (by unfold i32; omega) (by subst hb; rfl) (lw_curves hn h0 h6 hD c c2 hL hX k)
    · exact w_tsw (tgt := 202) rfl (by unfold i32; omega) (by subst hb; rfl) (lw_term hn h0 h6 hD c c2 hL hX k)
    · exact w_tsw (tgt := 245) rfl (by unfold i32; omega) (by subst hb; rfl) (lw_value hn h0 h6 hD c c2 hL hX k)
    · exact w_tsw (tgt := 308) rfl (by unfold i32; omega) (by subst hb; rfl) (lw_put hn h0 h6 hD c c2 hL hX k)
    · exact w_tsw (tgt := 361) rfl (by unfold i32; omega) (by subst hb; rfl) (lw_drop hn h0 h6 hD c c2 hL hX k)
    · exact w_tsw (tgt := 404) rfl (by unfold i32; omega) (by subst hb; rfl) (lw_move hn h0 h6 hD c c2 hL hX k)
    · exact w_tsw (tgt := 447) rfl (by unfold i32; omega) (by subst hb; rfl) (lw_mirror hn h0 h6 hD c c2 hL hX k)
    · exact w_tsw (tgt := 470) rfl (by unfold i32; omega) (by subst hb; rfl) (lw_join hn h0 h6 hD c c2 hL hX k)
    · exact w_tsw (tgt := 493) rfl (by unfold i32; omega) (by subst hb; rfl) (lw_times hn h0 h6 hD c c2 hL hX k)
    · exact w_tsw (tgt := 516) rfl (by unfold i32; omega) (by subst hb; rfl) (lw_undo hn h0 h6 hD c c2 hL hX k)
    · exact w_tsw (tgt := 529) rfl (by unfold i32; omega) (by subst hb; rfl) (lw_keep hn h0 h6 hD c c2 hL hX k)
    · exact w_tsw (tgt := 552) rfl (by unfold i32; omega) (by subst hb; rfl) (lw_back hn h0 h6 hD c c2 hL hX k)
    · exact w_tsw (tgt := 575) rfl (by unfold i32; omega) (by subst hb; rfl) (lw_corner hn h0 h6 hD c c2 hL hX k)
    · exact w_tsw (tgt := 618) rfl (by unfold i32; omega) (by subst hb; rfl) (lw_edge hn h0 h6 hD c c2 hL hX k)
    · exact w_tsw (tgt := 661) rfl (by unfold i32; omega) (by subst hb; rfl) (lw_region hn h0 h6 hD c c2 hL hX k)
    · exact w_tsw (tgt := 715) rfl (by unfold i32; omega) (by subst hb; rfl) (lw_lift hn h0 h6 hD c c2 hL hX k)
    · exact w_tsw (tgt := 758) rfl (by unfold i32; omega) (by subst hb; rfl) (lw_way hn h0 h6 hD c c2 hL hX k)
    · exact w_tsw (tgt := 812) rfl (by unfold i32; omega) (by subst hb; rfl) (lw_meeting hn h0 h6 hD c c2 hL hX k)
    · exact w_tsw (tgt := 845) rfl (by unfold i32; omega) (by subst hb; rfl) (lw_count hn h0 h6 hD c c2 hL hX k)
    · exact w_tsw (tgt := 878) rfl (by unfold i32; omega) (by subst hb; rfl) (lw_tally hn h0 h6 hD c c2 hL hX k)
set_option maxRecDepth 100000 in
theorem lw_loop {L D : Nat} {xs : Nat → Int32} {Q : mP} (hL0 : L ≤ 3072) (hD : 12 ≤ D) (hQ : ∀ M1, Q (some (vI 1)) M1) : ∀ (m n : Nat), n + m = 514 → ∀ (i : Int) (M : mM), i = 6 * (n : Int) → LwI L xs n M → Wp mc_247 D 18 [vR mScr, vR 0, vR 155, vI i] [] M Q := by
  intro m
  induction m with
  | zero =>
    intro n hnm i M hi h
    obtain ⟨hs, hL, hX⟩ := h
    refine w_iload rfl rfl (w_aload rfl rfl (w_scl rfl ?_))
    rw [hL]
    refine w_iconst rfl (w_isub rfl (w_icmp_gt (tgt := 907) rfl (by unfold i32; omega) (by unfold i32; omega) rfl (fun z => ?_) (fun z => ?_)))
    · exact w_iconst rfl (w_dreturn rfl (hQ _))
    · exfalso; omega
  | succ m ih =>
    intro n hnm i M hi h
    have h' := h
    obtain ⟨hs, hL, hX⟩ := h
    refine w_iload rfl rfl (w_aload rfl rfl (w_scl rfl ?_))
    rw [hL]
    refine w_iconst rfl (w_isub rfl (w_icmp_gt (tgt := 907) rfl (by unfold i32; omega) (by unfold i32; omega) rfl (fun z => ?_) (fun z => ?_)))
    · exact w_iconst rfl (w_dreturn rfl (hQ _))
    · refine lw_round (n := n) (by omega) (by omega) (by omega) hD h' (fun M1 h1 => ?_)
      refine w_iinc (ls2 := [vR mScr, vR 0, vR 155, vI (i + 6)]) rfl rfl rfl (w_goto (tgt := 18) rfl rfl ?_)
      exact ih (n + 1) (by omega) (i + 6) M1 (by omega) h1
set_option maxRecDepth 100000 in
theorem lw_end {L : Nat} {xs : Nat → Int32} (hL0 : L ≤ 3072) : Wp mc_247 13 16 [vR mScr, vR 0, vR 155, vN] [] (mMB L xs) (fun r _ => r = some (vI 1)) :=
  w_iconst rfl (w_istore (ls2 := [vR mScr, vR 0, vR 155, vI 0]) rfl rfl rfl (lw_loop hL0 (by omega) (fun _ => rfl) 514 0 rfl 0 (mMB L xs) rfl (lw_first L xs)))
set_option maxRecDepth 100000 in
theorem mLaw : mLawOK := by
  intro L xs hL0
  obtain ⟨r, M1, hr, hg⟩ := law_boot (L := L) (xs := xs) (Q := fun r _ => r = some (vI 1)) (lw_end (xs := xs) hL0)
  have hr2 : r = some (vI 1) := hr
  subst hr2
  refine ⟨(cKB, cRT, M1), ?_, ?_, hg⟩
  · show cKB.length ≤ 600000
    rw [show cKB.length = 179 by decide +kernel]
    omega
  · show mSl cKB ≤ 7302250
    decide +kernel
