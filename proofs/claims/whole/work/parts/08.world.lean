/-! ===== the small machine's memory in the machine's heap ===== -/
def mTb : List Jvm.Cond := lw_tbl.filter goodWord
theorem mTb_of {w : Jvm.Cond} (h : w ∈ lw_tbl) (hg : goodWord w = true) : w ∈ mTb := List.mem_filter.mpr ⟨h, hg⟩
theorem mTb_in {w : Jvm.Cond} (h : w ∈ mTb) : w ∈ lw_tbl := (List.mem_filter.mp h).1
theorem mTb_good {w : Jvm.Cond} (h : w ∈ mTb) : goodWord w = true := (List.mem_filter.mp h).2
def mAd (b base a : Nat) : Nat := if a = mScr then b else base + a
theorem mAd_lt {b base a : Nat} (h : a < mScr) : mAd b base a = base + a := if_neg (Nat.ne_of_lt h)
def mVal (b base : Nat) : mV → Value
  | .inl x => .int (Int32.ofInt x)
  | .inr (.inl x) => .long (Int64.ofInt x)
  | .inr (.inr r) => va_rf (r.map (mAd b base))
theorem mVal_R {b base a : Nat} (h : a < mScr) : mVal b base (vR a) = .ref (base + a) := by
  show va_rf (some (mAd b base a)) = _
  rw [mAd_lt h]; rfl
theorem mVal_cat (b base : Nat) (v : mV) : (mVal b base v).category = mcat v := by
  match v with
  | .inl x => rfl
  | .inr (.inl x) => rfl
  | .inr (.inr none) => rfl
  | .inr (.inr (some a)) => rfl
def mFld (b base : Nat) (S : mS) (a k : Nat) : Nat → Value
  | 1 => .long (Int64.ofInt (S.2.2 a k))
  | 2 => va_rf ((S.2.1 a k).map (mAd b base))
  | _ => .int (Int32.ofInt (S.2.2 a k))
theorem mFld_eq (b base : Nat) (S : mS) (a k t : Nat) : mVal b base (mfv S a k t) = mFld b base S a k t := by
  match t with
  | 0 => rfl
  | 1 => rfl
  | 2 => rfl
  | n + 3 => rfl
def mFs (b base : Nat) (S : mS) (a c : Nat) : List Value := (mFT.getD c []).mapIdx fun k t => mFld b base S a k t
def mCell (b base : Nat) (dA : Nat → ClassId) (S : mS) (a : Nat) : Nat × Nat → va_E
  | (0, c) => .inr (c, mFs b base S a c)
  | (1, n) => .inl (dA 0, n, .inl fun j => Int32.ofInt (S.2.2 a j))
  | (2, n) => .inl (dA 1, n, .inr (.inl fun j => Int64.ofInt (S.2.2 a j)))
  | (3, n) => .inl (dA 2, n, .inl fun j => Int32.ofInt (S.2.2 a j))
  | (4, n) => .inl (dA 3, n, .inr (.inr (.inr (.inr fun j => (S.2.1 a j).map (mAd b base)))))
  | (_, n) => .inl (dA 4, n, .inr (.inr (.inr (.inr fun j => (S.2.1 a j).map (mAd b base)))))
def mWs (b base : Nat) (dA : Nat → ClassId) (S : mS) : va_W := S.1.mapIdx fun a kd => (base + a, mCell b base dA S a kd)
theorem mWs_at {b base : Nat} {dA : Nat → ClassId} {S : mS} {a : Nat} {kd : Nat × Nat} (h : S.1[a]? = some kd) : (mWs b base dA S)[a]? = some (base + a, mCell b base dA S a kd) := by
  unfold mWs
  rw [List.getElem?_mapIdx, h]
  rfl
theorem mWs_D {b base : Nat} {dA : Nat → ClassId} {S : mS} : va_D (fun q => base ≤ q) (mWs b base dA S) := by
  refine ⟨fun i j p q hi hj he => ?_, fun k q hk => ?_⟩
  · unfold mWs at hi hj
    rw [List.getElem?_mapIdx] at hi hj
    cases h1 : S.1[i]? with
    | none => rw [h1] at hi; cases hi
    | some x =>
      cases h2 : S.1[j]? with
      | none => rw [h2] at hj; cases hj
      | some y =>
        rw [h1] at hi; rw [h2] at hj
        cases hi; cases hj
        exact Nat.add_left_cancel he
  · unfold mWs at hk
    rw [List.getElem?_mapIdx] at hk
    cases h1 : S.1[k]? with
    | none => rw [h1] at hk; cases hk
    | some x => rw [h1] at hk; cases hk; exact Nat.le_add_right _ _
/-- a memory that differs in one cell alone -/
theorem mWs_set {b base : Nat} {dA : Nat → ClassId} {S S1 : mS} {a : Nat} {kd : Nat × Nat} {e : va_E} (h : S.1[a]? = some kd) (h1 : S1.1 = S.1) (hc : ∀ x kd, x ≠ a → mCell b base dA S1 x kd = mCell b base dA S x kd) (he : e = mCell b base dA S1 a kd) : (mWs b base dA S).set a (base + a, e) = mWs b base dA S1 := by
  subst he
  apply List.ext_getElem?
  intro i
  unfold mWs
  rw [List.getElem?_set, List.length_mapIdx]
  by_cases hi : a = i
  · subst hi
    rw [if_pos rfl, if_pos (List.getElem?_eq_some_iff.mp h).1, List.getElem?_mapIdx, h1, h]
    rfl
  · rw [if_neg hi, List.getElem?_mapIdx, List.getElem?_mapIdx, h1]
    cases S.1[i]? with
    | none => rfl
    | some x => simp only [Option.map_some]; rw [hc i x (fun q => hi q.symm)]
theorem mCell_I {b base : Nat} {dA : Nat → ClassId} {S : mS} {a f : Nat} {v : Int} (x : Nat) (kd : Nat × Nat) (h : x ≠ a) : mCell b base dA (S.1, S.2.1, upI S.2.2 a f v) x kd = mCell b base dA S x kd := by
  have e : ∀ j, upI S.2.2 a f v x j = S.2.2 x j := fun j => if_neg (fun q => h q.1)
  unfold mCell mFs mFld
  simp only [e]
theorem mCell_R {b base : Nat} {dA : Nat → ClassId} {S : mS} {a f : Nat} {v : Option Nat} (x : Nat) (kd : Nat × Nat) (h : x ≠ a) : mCell b base dA (S.1, upR S.2.1 a f v, S.2.2) x kd = mCell b base dA S x kd := by
  have e : ∀ j, upR S.2.1 a f v x j = S.2.1 x j := fun j => if_neg (fun q => h q.1)
  unfold mCell mFs mFld
  simp only [e]
/-- one cell more -/
theorem mWs_push {b base : Nat} {dA : Nat → ClassId} {S : mS} {kd : Nat × Nat} {e : va_E} (he : e = mCell b base dA (S.1 ++ [kd], clR S.2.1 S.1.length, clI S.2.2 S.1.length) S.1.length kd) : mWs b base dA S ++ [(base + S.1.length, e)] = mWs b base dA (S.1 ++ [kd], clR S.2.1 S.1.length, clI S.2.2 S.1.length) := by
  subst he
  apply List.ext_getElem?
  intro i
  unfold mWs
  rw [List.mapIdx_append, List.getElem?_append, List.getElem?_append, List.length_mapIdx, List.length_mapIdx]
  by_cases hi : i < S.1.length
  · rw [if_pos hi, if_pos hi, List.getElem?_mapIdx, List.getElem?_mapIdx]
    cases S.1[i]? with
    | none => rfl
    | some x =>
      simp only [Option.map_some]
      have e : ∀ j, clI S.2.2 S.1.length i j = S.2.2 i j := fun j => if_neg (Nat.ne_of_lt hi)
      have e2 : ∀ j, clR S.2.1 S.1.length i j = S.2.1 i j := fun j => if_neg (Nat.ne_of_lt hi)
      unfold mCell mFs mFld
      simp only [e, e2]
  · rw [if_neg hi, if_neg hi]
    simp
def mTys (dA : Nat → ClassId) : List (ClassId × FieldType) := [(dA 0, .int), (dA 1, .long), (dA 2, .boolean), (dA 3, .object "LeastCurves$Pair"), (dA 4, .object "LeastCurves$Edge")]
/-- what the tables say, wherever a method stands -/
def mKF (dA : Nat → ClassId) (D : va_G) (U : State) : Prop := va_K D mCl (mTys dA) U ∧ (∀ e ∈ mNL, va_Nw (.methodLinkNest (mCNat e.1) e.2.1 (mXt e.2.2).1 "LeastCurves") U) ∧ va_AO "LeastCurves$Pair" U ∧ va_AO "LeastCurves$Edge" U
theorem mKF.moved {dA : Nat → ClassId} {D : va_G} {s U : State} (hW : s.WarmedH U.vm) (h : mKF dA D s) : mKF dA D U := ⟨va_K.moved hW.alike h.1, fun e he => va_Nw.warmM hW (h.2.1 e he), va_AO.moved hW.alike h.2.2.1, va_AO.moved hW.alike h.2.2.2⟩
/-- the memory stands in the heap -/
def mRel (b base : Nat) (dA : Nat → ClassId) (D : va_G) (H0 : Heap) (S : mS) (H : Heap) (locs : List Loc) : Prop := (∀ q ∈ S.1, q.2 < 10000) ∧ H.size = base + S.1.length ∧ va_P D mCl (mWs b base dA S) H ∧ va_S (fun q => base ≤ q) H0 H locs
/-- the locals stand in the frame -/
def mLs (b base nL : Nat) (ls : List mV) (lr : Array Slot) : Prop := ls.length = nL ∧ lr.size = nL ∧ lv_wf lr ∧ ∀ (i : Nat) (v : mV), ls[i]? = some v → v ≠ vN → lr[i]? = some (.val (mVal b base v))
def mSz (k : Nat × Nat) : Nat := match k.1 with
  | 0 => (mFT.getD k.2 []).length
  | _ => k.2
def mSl (K : List (Nat × Nat)) : Nat := (K.map mSz).sum
/-- a later memory: cells come to it; what lies beyond stays -/
def Mo (S S1 : mS) : Prop := (∃ e, S1.1 = S.1 ++ e ∧ ∀ q ∈ e, q.2 < 10000) ∧ ∀ a, S1.1.length ≤ a → ∀ k, S1.2.2 a k = S.2.2 a k
theorem Mo.rf {S : mS} : Mo S S := ⟨⟨[], by simp, fun _ h => absurd h List.not_mem_nil⟩, fun _ _ _ => rfl⟩
theorem Mo.len {S S1 : mS} (h : Mo S S1) : S.1.length ≤ S1.1.length := by
  obtain ⟨⟨e, h, -⟩, -⟩ := h
  rw [h, List.length_append]; exact Nat.le_add_right _ _
theorem Mo.sl {S S1 : mS} (h : Mo S S1) : mSl S.1 ≤ mSl S1.1 := by
  obtain ⟨⟨e, h, -⟩, -⟩ := h
  unfold mSl
  rw [h, List.map_append, List.sum_append]; exact Nat.le_add_right _ _
theorem Mo.tr {S S1 S2 : mS} (h : Mo S S1) (g : Mo S1 S2) : Mo S S2 := by
  have hl := g.len
  obtain ⟨⟨e, h1, h3⟩, h2⟩ := h
  obtain ⟨⟨e2, g1, g3⟩, g2⟩ := g
  exact ⟨⟨e ++ e2, by rw [g1, h1, List.append_assoc], fun q hq => (List.mem_append.mp hq).elim (h3 q) (g3 q)⟩, fun a ha k => (g2 a ha k).trans (h2 a (Nat.le_trans hl ha) k)⟩
theorem Mo.up {S : mS} {a f : Nat} {v : Int} {kd : Nat × Nat} (h : S.1[a]? = some kd) : Mo S (S.1, S.2.1, upI S.2.2 a f v) :=
  ⟨⟨[], by simp, fun _ h => absurd h List.not_mem_nil⟩, fun x hx k => if_neg (fun q => by
    have := (List.getElem?_eq_some_iff.mp h).1
    have hx : S.1.length ≤ x := hx
    omega)⟩
theorem Mo.upR {S : mS} {r : Nat → Nat → Option Nat} : Mo S (S.1, r, S.2.2) := ⟨⟨[], by simp, fun _ h => absurd h List.not_mem_nil⟩, fun _ _ _ => rfl⟩
theorem Mo.new {S : mS} {kd : Nat × Nat} (hk : kd.2 < 10000) : Mo S (S.1 ++ [kd], clR S.2.1 S.1.length, clI S.2.2 S.1.length) :=
  ⟨⟨[kd], rfl, fun q hq => by rw [List.mem_singleton.mp hq]; exact hk⟩, fun x hx k => if_neg (fun q => by
    have hx : (S.1 ++ [kd]).length ≤ x := hx
    rw [List.length_append] at hx
    have h1 : [kd].length = 1 := rfl
    omega)⟩
theorem mNb {a b : Nat} : Nat.beq a b = true ↔ a = b := ⟨Nat.eq_of_beq_eq_true, fun h => by rw [h]; exact Nat.beq_refl b⟩
/-- of a class: all that the rows ask -/
def mCOK (c : Nat) : Prop := ∃ (C : String) (T : u_T) (N : Nat) (ty : Nat → FieldType), mCl[c]? = some (C, T, N) ∧ mClat c = (C, T, N) ∧ mCNat c = C ∧ (∀ w ∈ u_ws C T N, w ∈ mTb) ∧ (∀ k, k < N → parseFieldDescriptor (T k).2.2.1 = some (ty k)) ∧ (∀ a, a < N → ∀ b, b < N → a ≠ b → (T a).2.1 ≠ (T b).2.1) ∧ Cond.instantiable C N ∈ mTb ∧ Cond.initialized C ∈ mTb ∧ N = (mFT.getD c []).length ∧ (∀ k, k < N → (T k).1 = C) ∧ ∀ k, k < N → (match ty k with
  | .int => mfk c k = 0
  | .long => mfk c k = 1
  | .boolean => mfk c k = 3
  | .object _ => mfk c k = 2
  | .array _ => mfk c k = 2
  | _ => False)
theorem mLay {C : String} {T : u_T} {N : Nat} (h : ∀ w ∈ u_ws C T N, w ∈ lw_tbl) : ∀ w ∈ u_ws C T N, w ∈ mTb := by
  intro w hw
  refine mTb_of (h w hw) ?_
  obtain ⟨k, -, rfl⟩ := List.mem_map.mp hw
  unfold u_lay
  split <;> rfl
theorem mC_0 : mCOK 0 := ⟨mR_0, mT_0, 11, mY_0, rfl, rfl, rfl, mLay mL_0, mY_0_ok, mN_0_ok, mTb_of mI_0.1 rfl, mTb_of mI_0.2 rfl, rfl, by decide +kernel, by intro k hk; match k, hk with | 0, _ => rfl | 1, _ => rfl | 2, _ => rfl | 3, _ => rfl | 4, _ => rfl | 5, _ => rfl | 6, _ => rfl | 7, _ => rfl | 8, _ => rfl | 9, _ => rfl | 10, _ => rfl⟩
theorem mC_1 : mCOK 1 := ⟨mR_1, mT_1, 5, mY_1, rfl, rfl, rfl, mLay mL_1, mY_1_ok, mN_1_ok, mTb_of mI_1.1 rfl, mTb_of mI_1.2 rfl, rfl, by decide +kernel, by intro k hk; match k, hk with | 0, _ => rfl | 1, _ => rfl | 2, _ => rfl | 3, _ => rfl | 4, _ => rfl⟩
theorem mC_2 : mCOK 2 := ⟨mR_2, mT_2, 12, mY_2, rfl, rfl, rfl, mLay mL_2, mY_2_ok, mN_2_ok, mTb_of mI_2.1 rfl, mTb_of mI_2.2 rfl, rfl, by decide +kernel, by intro k hk; match k, hk with | 0, _ => rfl | 1, _ => rfl | 2, _ => rfl | 3, _ => rfl | 4, _ => rfl | 5, _ => rfl | 6, _ => rfl | 7, _ => rfl | 8, _ => rfl | 9, _ => rfl | 10, _ => rfl | 11, _ => rfl⟩
theorem mC_3 : mCOK 3 := ⟨mR_3, mT_3, 2, mY_3, rfl, rfl, rfl, mLay mL_3, mY_3_ok, mN_3_ok, mTb_of mI_3.1 rfl, mTb_of mI_3.2 rfl, rfl, by decide +kernel, by intro k hk; match k, hk with | 0, _ => rfl | 1, _ => rfl⟩
theorem mC_4 : mCOK 4 := ⟨mR_4, mT_4, 3, mY_4, rfl, rfl, rfl, mLay mL_4, mY_4_ok, mN_4_ok, mTb_of mI_4.1 rfl, mTb_of mI_4.2 rfl, rfl, by decide +kernel, by intro k hk; match k, hk with | 0, _ => rfl | 1, _ => rfl | 2, _ => rfl⟩
theorem mC_5 : mCOK 5 := ⟨mR_5, mT_5, 6, mY_5, rfl, rfl, rfl, mLay mL_5, mY_5_ok, mN_5_ok, mTb_of mI_5.1 rfl, mTb_of mI_5.2 rfl, rfl, by decide +kernel, by intro k hk; match k, hk with | 0, _ => rfl | 1, _ => rfl | 2, _ => rfl | 3, _ => rfl | 4, _ => rfl | 5, _ => rfl⟩
theorem mC_6 : mCOK 6 := ⟨mR_6, mT_6, 15, mY_6, rfl, rfl, rfl, mLay mL_6, mY_6_ok, mN_6_ok, mTb_of mI_6.1 rfl, mTb_of mI_6.2 rfl, rfl, by decide +kernel, by intro k hk; match k, hk with | 0, _ => rfl | 1, _ => rfl | 2, _ => rfl | 3, _ => rfl | 4, _ => rfl | 5, _ => rfl | 6, _ => rfl | 7, _ => rfl | 8, _ => rfl | 9, _ => rfl | 10, _ => rfl | 11, _ => rfl | 12, _ => rfl | 13, _ => rfl | 14, _ => rfl⟩
theorem mC_7 : mCOK 7 := ⟨mR_7, mT_7, 8, mY_7, rfl, rfl, rfl, mLay mL_7, mY_7_ok, mN_7_ok, mTb_of mI_7.1 rfl, mTb_of mI_7.2 rfl, rfl, by decide +kernel, by intro k hk; match k, hk with | 0, _ => rfl | 1, _ => rfl | 2, _ => rfl | 3, _ => rfl | 4, _ => rfl | 5, _ => rfl | 6, _ => rfl | 7, _ => rfl⟩
theorem mC_8 : mCOK 8 := ⟨mR_8, mT_8, 2, mY_8, rfl, rfl, rfl, mLay mL_8, mY_8_ok, mN_8_ok, mTb_of mI_8.1 rfl, mTb_of mI_8.2 rfl, rfl, by decide +kernel, by intro k hk; match k, hk with | 0, _ => rfl | 1, _ => rfl⟩
theorem mC_9 : mCOK 9 := ⟨mR_9, mT_9, 7, mY_9, rfl, rfl, rfl, mLay mL_9, mY_9_ok, mN_9_ok, mTb_of mI_9.1 rfl, mTb_of mI_9.2 rfl, rfl, by decide +kernel, by intro k hk; match k, hk with | 0, _ => rfl | 1, _ => rfl | 2, _ => rfl | 3, _ => rfl | 4, _ => rfl | 5, _ => rfl | 6, _ => rfl⟩
theorem mC_10 : mCOK 10 := ⟨mR_10, mT_10, 42, mY_10, rfl, rfl, rfl, mLay mL_10, mY_10_ok, mN_10_ok, mTb_of mI_10.1 rfl, mTb_of mI_10.2 rfl, rfl, by decide +kernel, by intro k hk; match k, hk with | 0, _ => rfl | 1, _ => rfl | 2, _ => rfl | 3, _ => rfl | 4, _ => rfl | 5, _ => rfl | 6, _ => rfl | 7, _ => rfl | 8, _ => rfl | 9, _ => rfl | 10, _ => rfl | 11, _ => rfl | 12, _ => rfl | 13, _ => rfl | 14, _ => rfl | 15, _ => rfl | 16, _ => rfl | 17, _ => rfl | 18, _ => rfl | 19, _ => rfl | 20, _ => rfl | 21, _ => rfl | 22, _ => rfl | 23, _ => rfl | 24, _ => rfl | 25, _ => rfl | 26, _ => rfl | 27, _ => rfl | 28, _ => rfl | 29, _ => rfl | 30, _ => rfl | 31, _ => rfl | 32, _ => rfl | 33, _ => rfl | 34, _ => rfl | 35, _ => rfl | 36, _ => rfl | 37, _ => rfl | 38, _ => rfl | 39, _ => rfl | 40, _ => rfl | 41, _ => rfl | n + 42, h => exact absurd h (by omega)⟩
theorem mC_ok (c : Nat) (h : c < 11) : mCOK c := by
  match c, h with
  | 0, _ => exact mC_0
  | 1, _ => exact mC_1
  | 2, _ => exact mC_2
  | 3, _ => exact mC_3
  | 4, _ => exact mC_4
  | 5, _ => exact mC_5
  | 6, _ => exact mC_6
  | 7, _ => exact mC_7
  | 8, _ => exact mC_8
  | 9, _ => exact mC_9
  | 10, _ => exact mC_10
