/-! ===== the small machine is the machine ===== -/
def mPc (b base : Nat) (dA : Nat → ClassId) (D : va_G) (S : mS) : State → Prop := fun U => U.heap.size = base + S.1.length ∧ va_P D mCl (mWs b base dA S) U.heap ∧ mKF dA D U
def mRm (d mc ms : Nat) : Room := { frames := d, cells := mc, slots := ms, locals := 42 * d }
def mWd (y : Nat) : List Jvm.Cond := Cond.code (mXt y).1 (mXt y).2.1 (mXt y).2.2.1 (mXt y).2.2.2.1 :: mTb
/-- a method's contract: what the small machine says of it, the machine does -/
def mSnd (l : Launch) (b base : Nat) (dA : Nat → ClassId) (D : va_G) (d : Nat) : Prop := ∀ (y : Nat) (as : List mV) (S : mS) (r : Option mV) (S1 : mS), Ev mXt d y as S r S1 → (∀ q ∈ S.1, q.2 < 10000) → S1.1.length ≤ mScr →
  Met l (mXt y).1 (mWd y) (mRm d (S1.1.length - S.1.length) (mSl S1.1 - mSl S.1)) (va_Pc (as.map (mVal b base)) (mPc b base dA D S)) (mQc b base dA D r S1) (S1.1.length - S.1.length) (mSl S1.1 - mSl S.1) (fun q => base ≤ q)
theorem mWd_good (y : Nat) : GoodIn mTb (mWd y) := by
  intro w hw
  rcases List.mem_cons.mp hw with rfl | hw
  · exact ⟨mTb_of (mXt_ok y).2.1 rfl, Or.inl rfl⟩
  · exact ⟨hw, good_of_word (mTb_good hw)⟩
theorem mXt_maxL (y : Nat) : (mXt y).2.2.1 ≤ 21 := by
  unfold mXt
  rw [List.getD_eq_getElem?_getD]
  have h : ∀ x ∈ mXL, x.2.2.1 ≤ 21 := by decide +kernel
  cases hx : mXL[y]? with
  | none => exact (by decide +kernel : mx_0.2.2.1 ≤ 21)
  | some x => exact h x (List.mem_of_getElem? hx)
theorem mPc_blind {b base : Nat} {dA : Nat → ClassId} {D : va_G} {S : mS} {av : List Value} : FrameBlind (va_Pc av (mPc b base dA D S)) := fun a U g mk q => ⟨q.1, q.2.1, q.2.2.1, va_K.moved (u := U) (U := U.calling g mk a) (Vm.Alike.refl U.vm) q.2.2.2.1, q.2.2.2.2⟩
section ML
variable {p : Program} {l : Launch} {e : Env} {R : Room} {s : State} {m : MethodId} {args : Array Value} {below : List Frame} {meth : Method} {c : Code} {H : Heap} {locs : List Loc} {cells slots : Nat} {Q : State → Prop}
variable {cc : ByteArray} {pc : Nat} {lr : Array Slot} {b base : Nat} {dA : Nat → ClassId} {D : va_G} {H0 : Heap} {S : mS}
theorem m_desc {y n : Nat} (h : (parseMethodDescriptor (mXt y).1.desc).map (fun d => d.parameters.length) = some n) (h2 : (mXt y).1.cls ≠ "java/lang/invoke/MethodHandle" ∧ (mXt y).1.cls ≠ "java/lang/invoke/VarHandle") : (mXt y).1.cls ≠ "java/lang/invoke/MethodHandle" ∧ (mXt y).1.cls ≠ "java/lang/invoke/VarHandle" ∧ (parseMethodDescriptor (mXt y).1.desc).map (fun d => d.parameters.length) = some n := ⟨h2.1, h2.2, h⟩
theorem mRecv_at {y a : Nat} {as : List mV} (hr : mRel b base dA D H0 S H locs) (hK : va_K D mCl (mTys dA) s) (ha : S.1[a]? = some (0, (mXt y).2.2.2.2.1)) : ∃ cell : Cell, H[base + a]? = some cell ∧ cell.vm.isStatics = false ∧ s.vm.findClass (mXt y).1.cls = some cell.cls := by
  have hat := hr.2.2.1 a _ (mWs_at ha)
  obtain ⟨q, hq, -⟩ := hat
  have hlt : (mXt y).2.2.2.2.1 < 11 := (List.getElem?_eq_some_iff.mp hq).1
  obtain ⟨C, T, N, ty, q1, q2, q3, -⟩ := mC_ok _ hlt
  have h := va_recv hK hr.2.2.1 q1 (mWs_at (b := b) (base := base) (dA := dA) ha)
  have hC : (mXt y).1.cls = C := by rw [← q3]; exact (mXt_ok y).2.2.2.2.2.1.symm
  rw [hC]
  exact h
theorem m_invoke {own nL d y j len : Nat} {as st rst : List mV} {r : Option mV} {S1 : mS} {mi : Instr} {i : Instr} {ini : Bool} {ret : Option FieldType} (hIH : mSnd l b base dA D d) (hexec : p.tables.exec = Jvm.exec) (hb : c.code = cc) (hml : c.maxLocals = nL) (hown : s.vm.findClass (mCNat own) = some m.cls) (hts : ∀ w ∈ mTb, w.before args s = true) (hKF : mKF dA D s)
    (hr : mRel b base dA D H0 S H locs) (hlr : lr.size = nL) (hRf : d + 1 ≤ R.frames) (hRl : 40 + 42 * d ≤ R.locals) (hev : Ev mXt d y as S r S1) (hS1 : S1.1.length ≤ mScr) (hst : st = as.reverse ++ rst) (hn : as.length = (mNof mXt y).1) (hw : (rst.map mcat).sum ≤ 8) (hrec : mRecv S (mNof mXt y).2 as)
    (hf : cells + (S1.1.length - S.1.length) ≤ R.cells ∧ slots + (mSl S1.1 - mSl S.1) ≤ R.slots) (htr : trb own ini ret pc i len mi = true) (hdg : decode cc pc = .ok (i, len)) (hi : (mi = .invokestatic y ∨ mi = .invokevirtual y ∨ mi = .invokespecial y))
    (kk : ∀ (H1 : Heap) (locs1 : List Loc), mRel b base dA D H0 S1 H1 locs1 → W p l e R s m args below meth c H1 locs1 (cells + (S1.1.length - S.1.length)) (slots + (mSl S1.1 - mSl S.1)) Q (F0 m (pc + 3) lr ((r.toList ++ rst).map (mVal b base)))) : W p l e R s m args below meth c H locs cells slots Q (F0 m pc lr (st.map (mVal b base))) := by
  have hmo := Ev_mo d y as S r S1 hev
  have hb2 : ∀ q ∈ S1.1, q.2 < 10000 := by
    obtain ⟨⟨e2, h1, h2⟩, -⟩ := hmo
    intro q hq
    rw [h1] at hq
    exact (List.mem_append.mp hq).elim (hr.1 q) (h2 q)
  have hM := hIH y as S r S1 hev hr.1 hS1
  have hSl : S.1.length ≤ mScr := Nat.le_trans hmo.len hS1
  obtain ⟨o1, o2, o3, o4, o5, o6, o7, o8⟩ := mXt_ok y
  have hR : (mRm d (S1.1.length - S.1.length) (mSl S1.1 - mSl S.1)).frames + 1 ≤ R.frames ∧ 8 + ((mXt y).2.2.1 + 11) + (mRm d (S1.1.length - S.1.length) (mSl S1.1 - mSl S.1)).locals ≤ R.locals := by
    have := mXt_maxL y
    exact ⟨hRf, by show 8 + ((mXt y).2.2.1 + 11) + 42 * d ≤ R.locals; omega⟩
  have hroom : 2 * (F0 m pc lr (st.map (mVal b base))).monitorRoom + ((rst.map (mVal b base)).map fun v => v.category).sum ≤ 8 := by
    refine lv_room ?_
    rw [List.map_map]
    rw [show ((fun v : Value => v.category) ∘ mVal b base) = mcat from funext (mVal_cat b base)]
    exact hw
  have hPU : ∀ U : State, U.heap = H → s.WarmedH U.vm → mPc b base dA D S U := fun U hU hW => ⟨by rw [hU]; exact hr.2.1, by rw [hU]; exact hr.2.2.1, hKF.moved hW⟩
  have hrl : (r.map (mVal b base)).toList ++ rst.map (mVal b base) = (r.toList ++ rst).map (mVal b base) := by
    rw [List.map_append]
    cases r <;> rfl
  have hstm : st.map (mVal b base) = (as.map (mVal b base)).reverse ++ rst.map (mVal b base) := by
    rw [hst, List.map_append, List.map_reverse]
  have hkk : ∀ (H1 : Heap) (locs1 : List Loc), mRel b base dA D H0 S1 H1 locs1 → W p l e R s m args below meth c H1 locs1 (cells + (S1.1.length - S.1.length)) (slots + (mSl S1.1 - mSl S.1)) Q (F0 m (pc + 3) lr ((r.map (mVal b base)).toList ++ rst.map (mVal b base))) := fun H1 locs1 h => by
    rw [hrl]; exact kk H1 locs1 h
  have hcb : ∀ (idx : Nat) (n : Nat), Cond.methodLink (mCNat own) idx (mXt y).1 ∈ mTb → (parseMethodDescriptor (mXt y).1.desc).map (fun d => d.parameters.length) = some n → CallB R s args (mCNat own) idx (mXt y).1 (mXt y).2.1 (mXt y).2.2.1 (mXt y).2.2.2.1 (mWd y) (mRm d (S1.1.length - S.1.length) (mSl S1.1 - mSl S.1)) (S1.1.length - S.1.length) (mSl S1.1 - mSl S.1) n := fun idx n hl hd =>
    callB_of n hts (mWd_good y) rfl rfl rfl (hts _ (mTb_of o5 rfl)) (hts _ hl) (m_desc hd o3) hR
  have hrecv : ∀ cls, (mNof mXt y).2 = some cls → ∃ (a : Nat) (ps : List mV), as = vR a :: ps ∧ S.1[a]? = some (0, cls) ∧ mVal b base (vR a) = .ref (base + a) := by
    intro cls hcls
    rw [hcls] at hrec
    unfold mRecv at hrec
    dsimp only at hrec
    split at hrec
    · next a ps =>
      have hlt : a < S.1.length := (List.getElem?_eq_some_iff.mp hrec).1
      exact ⟨a, ps, rfl, hrec, mVal_R (by omega)⟩
    · exact hrec.elim
  cases i <;> first
    | (rcases hi with rfl | rfl | rfl <;> exact absurd htr Bool.false_ne_true)
    | (exfalso; rcases hi with rfl | rfl | rfl <;> (simp [trb] at htr; done))
    | skip
  case arraylength =>
    exfalso
    simp only [trb, Bool.and_eq_true, decide_eq_true_eq] at htr
    obtain ⟨-, h⟩ := htr
    split at h <;> rcases hi with rfl | rfl | rfl <;> cases h
  case iaload =>
    exfalso
    simp only [trb, Bool.and_eq_true, decide_eq_true_eq] at htr
    obtain ⟨-, h⟩ := htr
    split at h <;> rcases hi with rfl | rfl | rfl <;> cases h
  case if_acmp cnd off =>
    exfalso
    cases cnd <;> rcases hi with rfl | rfl | rfl <;> exact absurd htr Bool.false_ne_true
  case invokestatic idx =>
    rcases hi with rfl | rfl | rfl <;> first
      | exact absurd htr Bool.false_ne_true
      | skip
    simp only [trb, Bool.and_eq_true, decide_eq_true_eq, mNb] at htr
    obtain ⟨⟨rfl, hl⟩, hk⟩ := htr
    have hk := mKd_at hk
    rw [hk] at o4 o7
    have hl2 := mTb_of (mML_ok _ hl) rfl
    have hnn : (mNof mXt y).1 = (mXt y).2.2.2.2.2.1 := rfl
    rw [hstm]
    refine m_call (va_runS (Ts := mTb) (As := as.map (mVal b base)) (rest := rst.map (mVal b base)) ⟨hexec, hb, hml, hown, hts⟩ hM ⟨hcb idx _ hl2 o4, hts _ (mTb_of o7 rfl)⟩ ⟨mPc_blind, fun U hU hW => ⟨rfl, hPU U hU hW⟩⟩ rfl (by rw [List.length_map, hn, hnn]; rfl) hlr rfl ?_ hdg hf) hr hb2 hkk
    rw [← hstm]; exact hroom
  case invokevirtual idx =>
    rcases hi with rfl | rfl | rfl <;> first
      | exact absurd htr Bool.false_ne_true
      | skip
    simp only [trb, Bool.and_eq_true, decide_eq_true_eq, mNb] at htr
    obtain ⟨⟨rfl, hl⟩, hk⟩ := htr
    have hk := mKd_at hk
    rw [hk] at o4 o7
    have hl2 := mTb_of (mML_ok _ hl) rfl
    have hnn : (mNof mXt y).1 = (mXt y).2.2.2.2.2.1 := rfl
    obtain ⟨a, ps, rfl, ha, hva⟩ := hrecv (mXt y).2.2.2.2.1 (by unfold mNof; rw [hk]; rfl)
    have hM2 : Met l (mXt y).1 (mWd y) (mRm d (S1.1.length - S.1.length) (mSl S1.1 - mSl S.1)) (va_Pc (.ref (base + a) :: ps.map (mVal b base)) (mPc b base dA D S)) (mQc b base dA D r S1) (S1.1.length - S.1.length) (mSl S1.1 - mSl S.1) (fun q => base ≤ q) := by
      rw [← hva]; exact hM
    have hst2 : st.map (mVal b base) = (ps.map (mVal b base)).reverse ++ .ref (base + a) :: rst.map (mVal b base) := by
      rw [hstm, List.map_cons, List.reverse_cons, hva, List.append_assoc]; rfl
    rw [hst2]
    refine m_call (va_runV (Ts := mTb) (C := (mXt y).1.cls) (As := ps.map (mVal b base)) (rest := rst.map (mVal b base)) ⟨hexec, hb, hml, hown, hts⟩ hM2 ⟨hcb idx _ hl2 o4, hts _ (mTb_of o7.2.1 rfl), hts _ (mTb_of o7.2.2 rfl)⟩ ⟨mPc_blind, mRecv_at (as := ps) hr hKF.1 ha, fun U hU hW => ⟨rfl, hPU U hU hW⟩⟩ rfl ?_ hlr rfl ?_ hdg hf) hr hb2 hkk
    · rw [List.length_map]
      have : ps.length + 1 = (mXt y).2.2.2.2.2.1 := by rw [← hnn, ← hn]; rfl
      show ps.length = (mXt y).2.2.2.2.2.1 - 1
      omega
    · rw [← hst2]; exact hroom
  case invokespecial idx =>
    rcases hi with rfl | rfl | rfl <;> first
      | exact absurd htr Bool.false_ne_true
      | skip
    simp only [trb, Bool.and_eq_true, Bool.or_eq_true, decide_eq_true_eq, mNb] at htr
    obtain ⟨⟨rfl, hl⟩, hk⟩ := htr
    have hk := mKd_at hk
    rw [hk] at o4 o7
    obtain ⟨n1, n2, n3, n4⟩ := o7
    have hnn : (mNof mXt y).1 = (mXt y).2.2.2.2.2.1 := rfl
    obtain ⟨a, ps, rfl, ha, hva⟩ := hrecv (mXt y).2.2.2.2.1 (by unfold mNof; rw [hk]; rfl)
    have hM2 : Met l (mXt y).1 (mWd y) (mRm d (S1.1.length - S.1.length) (mSl S1.1 - mSl S.1)) (va_Pc (.ref (base + a) :: ps.map (mVal b base)) (mPc b base dA D S)) (mQc b base dA D r S1) (S1.1.length - S.1.length) (mSl S1.1 - mSl S.1) (fun q => base ≤ q) := by
      rw [← hva]; exact hM
    have hst2 : st.map (mVal b base) = (ps.map (mVal b base)).reverse ++ .ref (base + a) :: rst.map (mVal b base) := by
      rw [hstm, List.map_cons, List.reverse_cons, hva, List.append_assoc]; rfl
    rw [hst2]
    have hlen : (ps.map (mVal b base)).length = (mXt y).2.2.2.2.2.1 - 1 := by
      rw [List.length_map]
      have : ps.length + 1 = (mXt y).2.2.2.2.2.1 := by rw [← hnn, ← hn]; rfl
      omega
    rcases hl with hl | hl
    · have hl2 := mTb_of (mML_ok _ hl) rfl
      have hcb2 := hcb idx _ hl2 o4
      rw [n4] at hcb2
      refine m_call (va_runI (Ts := mTb) (As := ps.map (mVal b base)) (rest := rst.map (mVal b base)) ⟨hexec, hb, hml, hown, hts⟩ hM2 ⟨hcb2, n3, hts _ (mTb_of n2 rfl)⟩ ⟨mPc_blind, fun U hU hW => ⟨rfl, hPU U hU hW⟩⟩ rfl hlen hlr rfl ?_ hdg hf) hr hb2 hkk
      rw [← hst2]; exact hroom
    · have hcn := va_cnB (args := args) (maxL := (mXt y).2.2.1) (ret := (mXt y).2.2.2.1) (rm := mRm d (S1.1.length - S.1.length) (mSl S1.1 - mSl S.1)) (R := R) (mc := S1.1.length - S.1.length) (ms := mSl S1.1 - mSl S.1) ((mXt y).2.2.2.2.2.1 - 1) hts (mWd_good y) rfl rfl rfl (hKF.2.1 _ hl) (hts _ (mTb_of o5 rfl)) (m_desc o4 o3) hR
      rw [n4] at hcn
      refine m_call (va_runIN (Ts := mTb) (As := ps.map (mVal b base)) (rest := rst.map (mVal b base)) ⟨hexec, hb, hml, hown, hts⟩ hM2 ⟨hcn, n3, hts _ (mTb_of n2 rfl)⟩ ⟨mPc_blind, fun U hU hW => ⟨rfl, hPU U hU hW⟩⟩ rfl hlen hlr rfl ?_ hdg hf) hr hb2 hkk
      rw [← hst2]; exact hroom
end ML
