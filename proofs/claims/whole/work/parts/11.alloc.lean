section MA
variable {p : Program} {l : Launch} {e : Env} {R : Room} {s : State} {m : MethodId} {args : Array Value} {below : List Frame} {meth : Method} {c : Code} {H : Heap} {locs : List Loc} {cells slots : Nat} {Q : State → Prop}
variable {cc : ByteArray} {pc : Nat} {ls : Array Slot} {rest : List Value} {b base : Nat} {dA : Nat → ClassId} {D : va_G} {H0 : Heap} {S : mS}
theorem mRel_push {H1 : Heap} {kd : Nat × Nat} (hb0 : base ≤ H0.size) (hr : mRel b base dA D H0 S H locs) (hkd : kd.2 < 10000) (z : H1.size = H.size + 1) (o1 : ∀ q : Nat, q < H.size → H1[q]? = H[q]?)
    (hv : va_at D mCl (base + S.1.length, mCell b base dA (S.1 ++ [kd], clR S.2.1 S.1.length, clI S.2.2 S.1.length) S.1.length kd) H1) : mRel b base dA D H0 (S.1 ++ [kd], clR S.2.1 S.1.length, clI S.2.2 S.1.length) H1 locs := by
  obtain ⟨h0, hz, hP, hS⟩ := hr
  refine ⟨fun q hq => (List.mem_append.mp hq).elim (h0 q) (fun h => by rw [List.mem_singleton.mp h]; exact hkd), ?_, ?_, ⟨Nat.le_trans hS.1 (by omega), fun x h1 h2 => (o1 x (Nat.lt_of_lt_of_le h1 hS.1)).trans (hS.2.1 x h1 h2), hS.2.2⟩⟩
  · rw [z, hz]
    show base + S.1.length + 1 = base + (S.1 ++ [kd]).length
    rw [List.length_append]; rfl
  · rw [← mWs_push rfl]
    refine (hP.kept fun k x hx => o1 x.1 ((hP k x hx).lt)).app (fun k x hx => ?_)
    have hz1 : k < 1 := (List.getElem?_eq_some_iff.mp hx).1
    rw [show k = 0 by omega] at hx
    cases hx
    exact hv
theorem m_new (hexec : p.tables.exec = Jvm.exec) (hb : c.code = cc) {own : String} {ci index : Nat} (hb0 : base ≤ H0.size) (hts : ∀ w ∈ mTb, w.before args s = true) (hci : ci < 11) (hown : s.vm.findClass own = some m.cls) (hK : va_K D mCl (mTys dA) s) (hr : mRel b base dA D H0 S H locs)
    (hcl : Cond.classLink own index (mCNat ci) ∈ mTb) (hcells : cells + 1 ≤ R.cells) (hslots : slots + mSz (0, ci) ≤ R.slots) (hdg : decode cc pc = .ok (.new index, 3))
    (kk : ∀ (H1 : Heap), mRel b base dA D H0 (S.1 ++ [(0, ci)], clR S.2.1 S.1.length, clI S.2.2 S.1.length) H1 locs → W p l e R s m args below meth c H1 locs (cells + 1) (slots + mSz (0, ci)) Q (F0 m (pc + 3) ls (.ref (base + S.1.length) :: rest))) : W p l e R s m args below meth c H locs cells slots Q (F0 m pc ls rest) := by
  obtain ⟨C, T, N, ty, q1, q2, q3, hin, hty, hnm, hinst, hini, hN, hC, htc⟩ := mC_ok ci hci
  rw [q3] at hcl
  have hKn := hK.1 ci _ q1
  have hsz : mSz (0, ci) = N := hN.symm
  rw [hsz] at hslots kk
  refine W.newcK hexec hb hown (hts _ hcl) (hts _ hinst) (hts _ hini) rfl hdg hcells hslots hKn.2.1 hr.2.1 fun H1 kC hkC e1 z1 o1 => ?_
  refine kk H1 (mRel_push hb0 hr (Nat.lt_trans hci (Nat.le_of_ble_eq_true rfl)) (by rw [z1, hr.2.1]) (fun q hq => o1 q (by rw [← hr.2.1]; exact hq)) ?_)
  refine ⟨(C, T, N), q1, (u_born ty hts hin hKn hkC e1 hty).to fun j hj => ?_⟩
  have hl : j < (mFT.getD ci []).length := by rw [← hN]; exact hj
  show defaultValue (ty j) = vp_V (mFs b base _ S.1.length ci) j
  unfold vp_V mFs
  rw [List.getD_eq_getElem?_getD, List.getElem?_mapIdx, mfk_at hl]
  have h2 := htc j hj
  have e0 : clI S.2.2 S.1.length S.1.length j = 0 := if_pos rfl
  have e2 : clR S.2.1 S.1.length S.1.length j = none := if_pos rfl
  show defaultValue (ty j) = mFld b base _ S.1.length j (mfk ci j)
  cases hy : ty j <;> rw [hy] at h2 <;> first
    | exact h2.elim
    | (rw [h2]; unfold mFld; simp only [e0, e2]; rfl)
theorem m_newa (hexec : p.tables.exec = Jvm.exec) (hb : c.code = cc) {at0 : ArrayType} {t : Nat} {ty : FieldType} (hb0 : base ≤ H0.size) (hts : ∀ w ∈ mTb, w.before args s = true) (hK : va_K D mCl (mTys dA) s) (hr : mRel b base dA D H0 S H locs)
    (hty : newarray.typeOf at0 = ty) (harr : Cond.arrayClass ty ∈ mTb) (ht : (mTys dA)[t]? = some (dA t, ty)) (hobj : ∀ C, ty ≠ .object C) {x : Int} (h0 : 0 ≤ x) (h1 : x < 10000) (hcb : componentBytes ty ≤ 8)
    (hcell : mCell b base dA (S.1 ++ [(t + 1, x.toNat)], clR S.2.1 S.1.length, clI S.2.2 S.1.length) S.1.length (t + 1, x.toNat) = .inl (dA t, x.toNat, .inl fun _ => 0) ∨ mCell b base dA (S.1 ++ [(t + 1, x.toNat)], clR S.2.1 S.1.length, clI S.2.2 S.1.length) S.1.length (t + 1, x.toNat) = .inl (dA t, x.toNat, .inr (.inl fun _ => 0)))
    (hdef : ∀ v, mCell b base dA (S.1 ++ [(t + 1, x.toNat)], clR S.2.1 S.1.length, clI S.2.2 S.1.length) S.1.length (t + 1, x.toNat) = .inl (dA t, v) → vp_cell (dA t) v = arrV (dA t) x.toNat (fun _ => defaultValue ty))
    (hcells : cells + 1 ≤ R.cells) (hslots : slots + x.toNat ≤ R.slots) (hdg : decode cc pc = .ok (.newarray at0, 2))
    (kk : ∀ (H1 : Heap), mRel b base dA D H0 (S.1 ++ [(t + 1, x.toNat)], clR S.2.1 S.1.length, clI S.2.2 S.1.length) H1 locs → W p l e R s m args below meth c H1 locs (cells + 1) (slots + x.toNat) Q (F0 m (pc + 2) ls (.ref (base + S.1.length) :: rest))) : W p l e R s m args below meth c H locs cells slots Q (F0 m pc ls (.int (Int32.ofInt x) :: rest)) := by
  subst hty
  have hx : i32 x := ⟨by omega, by omega⟩
  have hn : (Int32.ofInt x).toNatClampNeg = x.toNat := by rw [← Int32.toNat_toInt, i32_to hx]
  refine va_newaK hexec hb (hts _ harr) rfl hdg rfl (fun q => ?_) hn ?_ hcells hslots hr.2.1 fun H1 cA e1 z1 o1 hAr hNm => ?_
  · have := (i32_lt hx i32_0).mp q
    omega
  · have h3 : x.toNat < 10000 := by omega
    calc x.toNat * componentBytes (newarray.typeOf at0) ≤ 10000 * 8 := Nat.mul_le_mul (by omega) hcb
      _ ≤ 536870912 := by decide
  · have hcA : cA = dA t := by
      have h4 := (hK.2 t _ ht).2
      have h5 : s.vm.findClass ("[" ++ (newarray.typeOf at0).toString) = some (dA t) := by
        cases at0 <;> exact h4
      exact Option.some.inj (hNm.symm.trans h5)
    subst hcA
    refine kk H1 (mRel_push hb0 hr (show x.toNat < 10000 by omega) (by rw [z1, hr.2.1]) (fun q hq => o1 q (by rw [← hr.2.1]; exact hq)) ?_)
    rcases hcell with h | h
    · rw [h]
      show H1[base + S.1.length]? = some (vp_cell _ _)
      rw [hdef _ h]; exact e1
    · rw [h]
      show H1[base + S.1.length]? = some (vp_cell _ _)
      rw [hdef _ h]; exact e1
theorem m_anew (hexec : p.tables.exec = Jvm.exec) (hb : c.code = cc) {own C : String} {t index : Nat} (hb0 : base ≤ H0.size) (hts : ∀ w ∈ mTb, w.before args s = true) (hown : s.vm.findClass own = some m.cls) (hK : va_K D mCl (mTys dA) s) (hr : mRel b base dA D H0 S H locs)
    (hcl : Cond.classLink own index C ∈ mTb) (hover : va_AO C s) (ht : (mTys dA)[t]? = some (dA t, .object C)) {x : Int} (h0 : 0 ≤ x) (h1 : x < 10000)
    (hcell : mCell b base dA (S.1 ++ [(t + 1, x.toNat)], clR S.2.1 S.1.length, clI S.2.2 S.1.length) S.1.length (t + 1, x.toNat) = .inl (dA t, x.toNat, .inr (.inr (.inr (.inr fun _ => none)))))
    (hcells : cells + 1 ≤ R.cells) (hslots : slots + x.toNat ≤ R.slots) (hdg : decode cc pc = .ok (.anewarray index, 3))
    (kk : ∀ (H1 : Heap), mRel b base dA D H0 (S.1 ++ [(t + 1, x.toNat)], clR S.2.1 S.1.length, clI S.2.2 S.1.length) H1 locs → W p l e R s m args below meth c H1 locs (cells + 1) (slots + x.toNat) Q (F0 m (pc + 3) ls (.ref (base + S.1.length) :: rest))) : W p l e R s m args below meth c H locs cells slots Q (F0 m pc ls (.int (Int32.ofInt x) :: rest)) := by
  have hx : i32 x := ⟨by omega, by omega⟩
  have hn : (Int32.ofInt x).toNatClampNeg = x.toNat := by rw [← Int32.toNat_toInt, i32_to hx]
  have h3 : x.toNat < 10000 := by omega
  refine W.anew hexec hb hown (hts _ hcl) (va_AO.use hover) rfl hdg rfl (fun q => ?_) (by rw [hn]; omega) hcells (by rw [hn]; exact hslots) fun cA kA comp f1 f2 f3 f4 => ?_
  · have := (i32_lt hx i32_0).mp q
    omega
  rw [hn, hr.2.1]
  generalize hH1 : H.push ({ cls := cA, slots := Array.replicate x.toNat .null, vm := .none } : Cell) = H1
  have z1 : H1.size = H.size + 1 := by rw [← hH1, Array.size_push]
  have e1 : H1[H.size]? = some (arrV cA x.toNat (fun _ => .null)) := by rw [← hH1, Array.getElem?_push_size, ← arrV_new]
  have o1 : ∀ q : Nat, q < H.size → H1[q]? = H[q]? := fun q hq => by rw [← hH1, Array.getElem?_push, if_neg (Nat.ne_of_lt hq)]
  have hcA : cA = dA t := by
    obtain ⟨-, kA', comp', g1, g2, g3, g4⟩ := hK.2 t _ ht
    exact Option.some.inj (f1.symm.trans g4)
  subst hcA
  refine kk H1 (mRel_push hb0 hr (show x.toNat < 10000 by omega) z1 o1 ?_)
  rw [hcell]
  show H1[base + S.1.length]? = some (vp_cell _ _)
  rw [vp_cell_q, ← hr.2.1]
  exact e1
/-- behind a call -/
def mQc (b base : Nat) (dA : Nat → ClassId) (D : va_G) (r : Option mV) (S1 : mS) : Array Value → State → Outcome → State → Prop := fun _ st oc t => oc = .returned (r.map (mVal b base)) ∧ t.heap.size = base + S1.1.length ∧ va_P D mCl (mWs b base dA S1) t.heap ∧ va_F (fun q => base ≤ q) st t
theorem m_call {r : Option mV} {S1 : mS} {st0 : List Value} {a : Array Value} {mc ms : Nat} (hr : va_Run p l e R s m args below meth c H locs cells slots mc ms (F0 m pc ls st0) rest (mQc b base dA D r S1 a) (fun q => base ≤ q)) (hrel : mRel b base dA D H0 S H locs) (hb2 : ∀ q ∈ S1.1, q.2 < 10000)
    (kk : ∀ (H1 : Heap) (locs1 : List Loc), mRel b base dA D H0 S1 H1 locs1 → W p l e R s m args below meth c H1 locs1 (cells + mc) (slots + ms) Q (F0 m (pc + 3) ls ((r.map (mVal b base)).toList ++ rest))) : W p l e R s m args below meth c H locs cells slots Q (F0 m pc ls st0) := by
  intro T hT X
  obtain ⟨v, st₀, t, T', L, h0, X', hL, e1, e2, ⟨hv, hz, hP, hF1, hF2⟩, st⟩ := hr T hT X
  cases hv
  rw [h0] at hF1 hF2
  have hS := hrel.2.2.2
  obtain ⟨t2, a1, b1⟩ := kk T'.heap (locs ++ L) ⟨hb2, by rw [e1]; exact hz, by rw [e1]; exact hP, Nat.le_trans hS.1 (by rw [e1]; exact hF1), fun q h1 h2 => by rw [e1, hF2 q (Nat.lt_of_lt_of_le h1 hS.1) h2]; exact hS.2.1 q h1 h2, fun q hq => by
      rcases List.mem_append.mp hq with h | h
      · exact hS.2.2 q h
      · exact hL q h⟩ T' rfl X'
  exact ⟨t2, st t2 a1, b1⟩
end MA
/-! ===== the locals ===== -/
def mLm (b base : Nat) (ls : List mV) : List (Nat × Value) := ls.zipIdx.filterMap fun q => if q.1 = vN then none else some (q.2, mVal b base q.1)
theorem mLm_mem {b base : Nat} {ls : List mV} {j : Nat} {w : Value} : (j, w) ∈ mLm b base ls ↔ ∃ v, ls[j]? = some v ∧ v ≠ vN ∧ w = mVal b base v := by
  unfold mLm
  rw [List.mem_filterMap]
  constructor
  · rintro ⟨⟨v, i⟩, hm, h⟩
    have hv := List.mem_zipIdx_iff_getElem?.mp hm
    dsimp only at hv h
    by_cases hn : v = vN
    · rw [if_pos hn] at h; cases h
    · rw [if_neg hn] at h
      cases h
      exact ⟨v, hv, hn, rfl⟩
  · rintro ⟨v, hv, hn, rfl⟩
    exact ⟨(v, j), List.mem_zipIdx_iff_getElem?.mpr hv, by dsimp only; rw [if_neg hn]⟩
theorem mLs_has {b base nL : Nat} {ls : List mV} {lr : Array Slot} (h : mLs b base nL ls lr) : lv_has lr nL (mLm b base ls) := by
  refine ⟨h.2.1, h.2.2.1, fun q hq => ?_⟩
  obtain ⟨j, w⟩ := q
  obtain ⟨v, h1, h2, rfl⟩ := mLm_mem.mp hq
  exact h.2.2.2 j v h1 h2
theorem setP_len (ls : List mV) (i : Nat) : (setP ls i).length = ls.length := by
  cases i with
  | zero => rfl
  | succ j =>
    show (cond (isL ls[j]?) (ls.set j vN) ls).length = ls.length
    generalize isL ls[j]? = q
    cases q <;> simp
theorem setL_len (ls : List mV) (i : Nat) (v : mV) : (setL ls i v).length = ls.length := by
  unfold setL
  cases isL (some v) <;> simp [setP_len]
theorem isL_cat {v : mV} : isL (some v) = true ↔ mcat v = 2 := by
  match v with
  | .inl x => simp [isL, mcat]
  | .inr (.inl x) => simp [isL, mcat]
  | .inr (.inr x) => simp [isL, mcat]
theorem setP_at {ls : List mV} {i j : Nat} {v : mV} (h : (setP ls i)[j]? = some v) (hv : v ≠ vN) : ls[j]? = some v ∧ ¬ (j + 1 = i ∧ mcat v = 2) := by
  cases i with
  | zero => exact ⟨h, fun q => by omega⟩
  | succ i =>
    replace h : (cond (isL ls[i]?) (ls.set i vN) ls)[j]? = some v := h
    cases hi : isL ls[i]? with
    | true =>
      rw [hi] at h
      simp only [cond_true] at h
      by_cases hj : i = j
      · subst hj
        rw [List.getElem?_set] at h
        split at h
        · split at h
          · cases h; exact absurd rfl hv
          · cases h
        · next q => exact absurd rfl q
      · rw [List.getElem?_set_ne hj] at h
        exact ⟨h, fun q => hj (by omega)⟩
    | false =>
      rw [hi] at h
      simp only [cond_false] at h
      refine ⟨h, fun q => ?_⟩
      obtain rfl : j = i := by omega
      rw [h, isL_cat.mpr q.2] at hi
      cases hi
theorem mLs_set1 {b base nL : Nat} {ls : List mV} {lr : Array Slot} {i : Nat} {v : mV} {w : Value} (hw : mVal b base v = w) (hL : ls.length = nL) (hc : mcat v ≠ 2) (h : lv_has lr nL ((i, w) :: (mLm b base ls).filter (fun q => !(q.1 == i) && !(q.1 + 1 == i && q.2.category == 2)))) : mLs b base nL (setL ls i v) lr := by
  refine ⟨by rw [setL_len, hL], h.1, h.2.1, fun j u hj hu => ?_⟩
  have hcf : isL (some v) = false := by
    cases hq : isL (some v) with
    | false => rfl
    | true => exact absurd (isL_cat.mp hq) hc
  unfold setL at hj
  rw [hcf, cond_false] at hj
  by_cases hji : i = j
  · subst hji
    rw [List.getElem?_set] at hj
    split at hj
    · split at hj
      · cases hj
        rw [hw]
        exact h.2.2 (i, w) List.mem_cons_self
      · cases hj
    · next q => exact absurd rfl q
  · rw [List.getElem?_set_ne hji] at hj
    obtain ⟨h1, h2⟩ := setP_at hj hu
    refine h.2.2 (j, mVal b base u) (List.mem_cons_of_mem _ (List.mem_filter.mpr ⟨mLm_mem.mpr ⟨u, h1, hu, rfl⟩, ?_⟩))
    simp only [mVal_cat, Bool.and_eq_true, Bool.not_eq_true', beq_eq_false_iff_ne, ne_eq, Bool.and_eq_false_iff]
    refine ⟨fun q => hji q.symm, ?_⟩
    by_cases h3 : j + 1 = i
    · exact Or.inr fun q => h2 ⟨h3, q⟩
    · exact Or.inl h3
theorem mLs_set2 {b base nL : Nat} {ls : List mV} {lr : Array Slot} {i : Nat} {v : mV} {w : Value} (hw : mVal b base v = w) (hL : ls.length = nL) (hc : mcat v = 2) (h : lv_has lr nL ((i, w) :: (mLm b base ls).filter (fun q => !(q.1 == i) && (!(q.1 == i + 1) && !(q.1 + 1 == i && q.2.category == 2))))) : mLs b base nL (setL ls i v) lr := by
  refine ⟨by rw [setL_len, hL], h.1, h.2.1, fun j u hj hu => ?_⟩
  unfold setL at hj
  rw [isL_cat.mpr hc, cond_true] at hj
  by_cases hj1 : i + 1 = j
  · subst hj1
    rw [List.getElem?_set] at hj
    split at hj
    · split at hj
      · cases hj; exact absurd rfl hu
      · cases hj
    · next q => exact absurd rfl q
  rw [List.getElem?_set_ne hj1] at hj
  by_cases hji : i = j
  · subst hji
    rw [List.getElem?_set] at hj
    split at hj
    · split at hj
      · cases hj
        rw [hw]
        exact h.2.2 (i, w) List.mem_cons_self
      · cases hj
    · next q => exact absurd rfl q
  · rw [List.getElem?_set_ne hji] at hj
    obtain ⟨h1, h2⟩ := setP_at hj hu
    refine h.2.2 (j, mVal b base u) (List.mem_cons_of_mem _ (List.mem_filter.mpr ⟨mLm_mem.mpr ⟨u, h1, hu, rfl⟩, ?_⟩))
    simp only [mVal_cat, Bool.and_eq_true, Bool.not_eq_true', beq_eq_false_iff_ne, ne_eq, Bool.and_eq_false_iff]
    refine ⟨fun q => hji q.symm, fun q => hj1 q.symm, ?_⟩
    by_cases h3 : j + 1 = i
    · exact Or.inr fun q => h2 ⟨h3, q⟩
    · exact Or.inl h3
theorem mEnt_sl (b base : Nat) : ∀ as : List mV, (lg_sl (as.map (mVal b base))).length = (mEnt as).length
  | [] => rfl
  | .inl x :: vs => by
    have := mEnt_sl b base vs
    simp only [lg_sl, List.map_cons, List.flatMap_cons, mEnt, List.length_append, List.length_cons] at this ⊢
    rw [this]
    show (if (1 : Nat) = 2 then _ else _ : List Slot).length + _ = _
    simp; omega
  | .inr (.inl x) :: vs => by
    have := mEnt_sl b base vs
    simp only [lg_sl, List.map_cons, List.flatMap_cons, mEnt, List.length_append, List.length_cons] at this ⊢
    rw [this]
    show (if (2 : Nat) = 2 then _ else _ : List Slot).length + _ = _
    simp; omega
  | .inr (.inr x) :: vs => by
    have := mEnt_sl b base vs
    have hc : (mVal b base (.inr (.inr x))).category = 1 := by rw [mVal_cat]; rfl
    simp only [lg_sl, List.map_cons, List.flatMap_cons, mEnt, List.length_append, List.length_cons, hc] at this ⊢
    rw [this]
    simp; omega
theorem mEnt_at (b base : Nat) : ∀ (as : List mV) (o j : Nat) (v : mV), (mEnt as)[j]? = some v → v ≠ vN → (o + j, mVal b base v) ∈ lv_args o (as.map (mVal b base))
  | [], _, _, _, h, _ => by simp [mEnt] at h
  | .inl x :: vs, o, j, v, h, hv => by
    have hc : (mVal b base (.inl x)).category = 1 := rfl
    simp only [List.map_cons, lv_args, hc]
    cases j with
    | zero => cases h; exact List.mem_cons_self
    | succ j =>
      have := mEnt_at b base vs (o + 1) j v h hv
      exact List.mem_cons_of_mem _ (by rw [show o + (j + 1) = o + 1 + j by omega]; exact this)
  | .inr (.inr x) :: vs, o, j, v, h, hv => by
    have hc : (mVal b base (.inr (.inr x))).category = 1 := by rw [mVal_cat]; rfl
    simp only [List.map_cons, lv_args, hc]
    cases j with
    | zero => cases h; exact List.mem_cons_self
    | succ j =>
      have := mEnt_at b base vs (o + 1) j v h hv
      exact List.mem_cons_of_mem _ (by rw [show o + (j + 1) = o + 1 + j by omega]; exact this)
  | .inr (.inl x) :: vs, o, j, v, h, hv => by
    have hc : (mVal b base (.inr (.inl x))).category = 2 := rfl
    simp only [List.map_cons, lv_args, hc]
    match j with
    | 0 => cases h; exact List.mem_cons_self
    | 1 => cases h; exact absurd rfl hv
    | j + 2 =>
      have := mEnt_at b base vs (o + 2) j v h hv
      exact List.mem_cons_of_mem _ (by rw [show o + (j + 2) = o + 2 + j by omega]; exact this)
