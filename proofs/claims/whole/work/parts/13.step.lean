theorem i32_modr {x y : Int} (hx : i32 x) (hy : i32 y) : Int32.ofInt (x.tmod y) = Int32.ofInt x - Int32.ofInt x / Int32.ofInt y * Int32.ofInt y := by
  rw [Int.tmod_def, Int32.ofInt_sub, Int32.ofInt_mul, i32_div hx hy, Int32.mul_comm]
theorem i64_modr {x y : Int} (hx : i64 x) (hy : i64 y) : Int64.ofInt (x.tmod y) = Int64.ofInt x - Int64.ofInt x / Int64.ofInt y * Int64.ofInt y := by
  rw [Int.tmod_def, Int64.ofInt_sub, Int64.ofInt_mul, i64_div hx hy, Int64.mul_comm]
theorem bit_and (x y : Int) : Int32.ofInt (bitI (· &&& ·) x y) = Int32.ofInt x &&& Int32.ofInt y := Int32.ofInt_toInt _
theorem bit_or (x y : Int) : Int32.ofInt (bitI (· ||| ·) x y) = Int32.ofInt x ||| Int32.ofInt y := Int32.ofInt_toInt _
theorem bit_xor (x y : Int) : Int32.ofInt (bitI (· ^^^ ·) x y) = Int32.ofInt x ^^^ Int32.ofInt y := Int32.ofInt_toInt _
theorem bit_shl (x y : Int) : Int32.ofInt (bitI (fun x y => x <<< (y &&& 31)) x y) = Int32.ofInt x <<< (Int32.ofInt y &&& 31) := Int32.ofInt_toInt _
theorem bit_shr (x y : Int) : Int32.ofInt (bitI (fun x y => x >>> (y &&& 31)) x y) = Int32.ofInt x >>> (Int32.ofInt y &&& 31) := Int32.ofInt_toInt _
theorem bit_ushr (x y : Int) : Int32.ofInt (bitI (fun x y => (x.toUInt32 >>> (y.toUInt32 &&& Int32.toUInt32 31)).toInt32) x y) = ((Int32.ofInt x).toUInt32 >>> ((Int32.ofInt y).toUInt32 &&& Int32.toUInt32 31)).toInt32 := Int32.ofInt_toInt _
def mScp (b base : Nat) (s : State) (H0 : Heap) (S : mS) : Prop := ∃ (L : Nat) (xs : Nat → Int32), va_X b L xs s H0 ∧ b < H0.size ∧ b < base ∧ L ≤ 3072 ∧ S.2.2 mScr 0 = L ∧ ∀ j, j < L → S.2.2 (mScr + 1) j = (xs j).toInt
def mRtO (i mi : Instr) (r : Option mV) : Prop := match i with
  | .ireturn => match mi with
    | .ireturn => ∃ x, r = some (vI x)
    | .freturn => ∃ x, r = some (vI x) ∧ (x = 0 ∨ x = 1)
    | .dreturn => r = some (vI 1)
    | _ => False
  | .lreturn => ∃ x, r = some (vL x)
  | .areturn => ∃ x, r = some (vR x)
  | .return_ => r = none
  | _ => False
theorem mSl_push (K : List (Nat × Nat)) (kd : Nat × Nat) : mSl (K ++ [kd]) = mSl K + mSz kd := by
  unfold mSl
  rw [List.map_append, List.sum_append]
  simp
theorem mFL_at {own idx c f : Nat} (h : (own, idx, c, f) ∈ mFL) : c < 11 ∧ f < (mClat c).2.2 ∧ Cond.fieldLink (mCNat own) idx (mClat c).1 ((mClat c).2.1 f).2.1 ((mClat c).2.1 f).2.2.1 ∈ mTb := ⟨(mFL_lt _ h).1, (mFL_lt _ h).2, mTb_of (mFL_ok _ h) rfl⟩
theorem mObj : Cond.instanceMethod Lib.objectInit ∈ mTb ∧ Cond.code Lib.objectInit ⟨#[0xb1]⟩ 1 none ∈ mTb := ⟨mTb_of (List.mem_of_getElem? (i := 116) (by decide +kernel)) rfl, mTb_of (List.mem_of_getElem? (i := 117) (by decide +kernel)) rfl⟩
theorem mArr : Cond.arrayClass .int ∈ mTb ∧ Cond.arrayClass .long ∈ mTb ∧ Cond.arrayClass .boolean ∈ mTb := ⟨mTb_of (List.mem_of_getElem? (i := 152) (by decide +kernel)) rfl, mTb_of (List.mem_of_getElem? (i := 360) (by decide +kernel)) rfl, mTb_of (List.mem_of_getElem? (i := 1180) (by decide +kernel)) rfl⟩
section MS
variable {p : Program} {l : Launch} {e : Env} {R : Room} {s : State} {m : MethodId} {args : Array Value} {below : List Frame} {meth : Method} {c : Code} {H : Heap} {locs : List Loc} {Q : State → Prop}
variable {cc : ByteArray} {pc : Nat} {lr : Array Slot} {b base : Nat} {dA : Nat → ClassId} {D : va_G} {H0 : Heap} {S : mS}
set_option maxHeartbeats 8000000 in
theorem snd_stp {own nL d n0 s0 len nx : Nat} {ls st : List mV} {out : Option mV × mS} {k : Nat → List mV → List mV → mS → Prop} {mi i : Instr} {ini : Bool} {ret : Option FieldType}
    (hIH : mSnd l b base dA D d) (hexec : p.tables.exec = Jvm.exec) (hb : c.code = cc) (hml : c.maxLocals = nL) (hown : s.vm.findClass (mCNat own) = some m.cls) (hts : ∀ w ∈ mTb, w.before args s = true) (hKF : mKF dA D s) (hini : ini = true → meth.name = "<init>")
    (hb0 : base ≤ H0.size) (hRf : d + 1 ≤ R.frames) (hRl : 40 + 42 * d ≤ R.locals) (hout : out.2.1.length ≤ mScr) (hRc : out.2.1.length - n0 ≤ R.cells) (hRs : mSl out.2.1 - s0 ≤ R.slots) (hn0 : n0 ≤ S.1.length) (hs0 : s0 ≤ mSl S.1) (hX : own = 12 → mScp b base s H0 S)
    (hkm : ∀ nx ls st S2, k nx ls st S2 → Mo S2 out.2)
    (h : stp (mNof mXt) (Ev mXt d) out k mi nx ls st S) (htr : trb own ini ret pc i len mi = true) (hdg : decode cc pc = .ok (i, len)) (hnx : nx = pc + len)
    (hr : mRel b base dA D H0 S H locs) (hl : mLs b base nL ls lr)
    (hret : ∀ (i : Instr) (mi : Instr) (pc len : Nat) (lr2 : Array Slot) (H2 : Heap) (locs2 : List Loc), decode cc pc = .ok (i, len) → trb own ini ret pc i len mi = true → mRtO i mi out.1 → mRel b base dA D H0 out.2 H2 locs2 → W p l e R s m args below meth c H2 locs2 (out.2.1.length - n0) (mSl out.2.1 - s0) Q (F0 m pc lr2 (out.1.toList.map (mVal b base))))
    (hk : ∀ (pc2 : Nat) (ls2 st2 : List mV) (S2 : mS) (H2 : Heap) (locs2 : List Loc) (lr2 : Array Slot), k pc2 ls2 st2 S2 → Mo S S2 → mRel b base dA D H0 S2 H2 locs2 → mLs b base nL ls2 lr2 → W p l e R s m args below meth c H2 locs2 (S2.1.length - n0) (mSl S2.1 - s0) Q (F0 m pc2 lr2 (st2.map (mVal b base)))) :
    W p l e R s m args below meth c H locs (S.1.length - n0) (mSl S.1 - s0) Q (F0 m pc lr (st.map (mVal b base))) := by
  subst hnx
  have hmo : Mo S out.2 := stp_mo (Ev_mo d) hkm h
  have hlen : S.1.length ≤ mScr := Nat.le_trans hmo.len hout
  have hK := hKF.1
  have hsm : ∀ {a : Nat} {kd : Nat × Nat}, S.1[a]? = some kd → a < mScr := fun ha => Nat.lt_of_lt_of_le (List.getElem?_eq_some_iff.mp ha).1 hlen
  have hcl : ∀ (y : Nat), (mi = .invokestatic y ∨ mi = .invokevirtual y ∨ mi = .invokespecial y) → ((mNof mXt y).1 ≤ st.length ∧ ((st.drop (mNof mXt y).1).map mcat).sum ≤ 8 ∧ mRecv S (mNof mXt y).2 (st.take (mNof mXt y).1).reverse ∧ ∃ (r : Option mV) (S1 : mS), Ev mXt d y (st.take (mNof mXt y).1).reverse S r S1 ∧ k (pc + len) ls (r.toList ++ st.drop (mNof mXt y).1) S1) → len = 3 → W p l e R s m args below meth c H locs (S.1.length - n0) (mSl S.1 - s0) Q (F0 m pc lr (st.map (mVal b base))) := by
    intro y hy ⟨g1, g2, g3, r, S1, g4, g5⟩ hlen3
    subst hlen3
    have hm1 := Ev_mo d _ _ _ _ _ g4
    have hm2 := hkm _ _ _ _ g5
    have l1 := hm1.len
    have l2 := hm2.len
    have l3 := hm1.sl
    have l4 := hm2.sl
    have e1 : S.1.length - n0 + (S1.1.length - S.1.length) = S1.1.length - n0 := by omega
    have e2 : mSl S.1 - s0 + (mSl S1.1 - mSl S.1) = mSl S1.1 - s0 := by omega
    refine m_invoke (y := y) (as := (st.take (mNof mXt y).1).reverse) (rst := st.drop (mNof mXt y).1) (j := 0) hIH hexec hb hml hown hts hKF hr hl.2.1 hRf hRl g4 (Nat.le_trans l2 hout) ?_ ?_ g2 g3 ?_ htr hdg hy fun H1 locs1 hr1 => ?_
    · rw [List.reverse_reverse, List.take_append_drop]
    · rw [List.length_reverse, List.length_take]; omega
    · rw [e1, e2]; omega
    · rw [e1, e2]
      exact hk _ _ _ _ _ _ _ g5 hm1 hr1 hl
  cases i <;> first
    | exact absurd htr Bool.false_ne_true
    | skip
  case iconst n =>
    simp only [trb, Bool.and_eq_true, decide_eq_true_eq, mNb] at htr
    obtain ⟨rfl, rfl⟩ := htr
    exact lv_iconst hexec hb hdg rfl (hk _ _ _ _ _ _ _ h Mo.rf hr hl)
  case bipush n =>
    cases mi <;> first
      | exact absurd htr Bool.false_ne_true
      | skip
    simp only [trb, Bool.and_eq_true, decide_eq_true_eq, mNb] at htr
    obtain ⟨rfl, hv⟩ := htr
    exact lv_bipush hexec hb hdg hv (hk _ _ _ _ _ _ _ h Mo.rf hr hl)
  case sipush n =>
    cases mi <;> first
      | exact absurd htr Bool.false_ne_true
      | skip
    simp only [trb, Bool.and_eq_true, decide_eq_true_eq, mNb] at htr
    obtain ⟨rfl, hv⟩ := htr
    exact lv_sipush hexec hb hdg hv (hk _ _ _ _ _ _ _ h Mo.rf hr hl)
  case ldc j =>
    cases mi <;> first
      | exact absurd htr Bool.false_ne_true
      | skip
    simp only [trb, Bool.and_eq_true, decide_eq_true_eq, mNb] at htr
    obtain ⟨rfl, hv⟩ := htr
    exact lv_ldc hexec hb hown (hts _ (mTb_of (mKI_ok _ hv) rfl)) hdg (hk _ _ _ _ _ _ _ h Mo.rf hr hl)
  case ldc_w j =>
    cases mi <;> first
      | exact absurd htr Bool.false_ne_true
      | skip
    simp only [trb, Bool.and_eq_true, decide_eq_true_eq, mNb] at htr
    obtain ⟨rfl, hv⟩ := htr
    exact lv_ldcw hexec hb hown (hts _ (mTb_of (mKI_ok _ hv) rfl)) hdg (hk _ _ _ _ _ _ _ h Mo.rf hr hl)
  case lconst n =>
    cases mi <;> first
      | exact absurd htr Bool.false_ne_true
      | skip
    simp only [trb, Bool.and_eq_true, decide_eq_true_eq, mNb] at htr
    obtain ⟨rfl, rfl⟩ := htr
    refine lv_lconst hexec hb hdg ?_ (hk _ _ _ _ _ _ _ h Mo.rf hr hl)
    match n with
    | 0 => rfl
    | 1 => rfl
  case ldc2_w j =>
    cases mi <;> first
      | exact absurd htr Bool.false_ne_true
      | skip
    simp only [trb, Bool.and_eq_true, decide_eq_true_eq, mNb] at htr
    obtain ⟨rfl, hv⟩ := htr
    exact lv_ldc2 hexec hb hown (hts _ (mTb_of (mKL_ok _ hv) rfl)) hdg (hk _ _ _ _ _ _ _ h Mo.rf hr hl)
  case iload_n j =>
    simp only [trb, Bool.and_eq_true, decide_eq_true_eq, mNb] at htr
    obtain ⟨rfl, rfl⟩ := htr
    obtain ⟨x, hx, h5⟩ := gI_inv h
    exact lv_iload_n hexec hb hdg rfl (hl.2.2.2 _ _ hx (fun q => by cases q)) (hk _ _ _ _ _ _ _ h5 Mo.rf hr hl)
  case istore_n j =>
    simp only [trb, Bool.and_eq_true, decide_eq_true_eq, mNb] at htr
    obtain ⟨rfl, rfl⟩ := htr
    obtain ⟨x, r, rfl, hj, h5⟩ := pI_inv h
    exact lv_istore_n hexec hb hdg rfl (mLs_has hl) (by rw [← hl.1]; exact hj) rfl (fun lr2 h2 => hk _ _ _ _ _ _ _ h5 Mo.rf hr (mLs_set1 rfl hl.1 (show (1 : Nat) ≠ 2 by decide) h2))
  case iload j =>
    simp only [trb, Bool.and_eq_true, decide_eq_true_eq, mNb] at htr
    obtain ⟨rfl, rfl⟩ := htr
    obtain ⟨x, hx, h5⟩ := gI_inv h
    exact lv_iload hexec hb hdg (hl.2.2.2 _ _ hx (fun q => by cases q)) (hk _ _ _ _ _ _ _ h5 Mo.rf hr hl)
  case istore j =>
    simp only [trb, Bool.and_eq_true, decide_eq_true_eq, mNb] at htr
    obtain ⟨rfl, rfl⟩ := htr
    obtain ⟨x, r, rfl, hj, h5⟩ := pI_inv h
    exact lv_istore hexec hb hdg (mLs_has hl) (by rw [← hl.1]; exact hj) rfl (fun lr2 h2 => hk _ _ _ _ _ _ _ h5 Mo.rf hr (mLs_set1 rfl hl.1 (show (1 : Nat) ≠ 2 by decide) h2))
  case lload_n j =>
    simp only [trb, Bool.and_eq_true, decide_eq_true_eq, mNb] at htr
    obtain ⟨rfl, rfl⟩ := htr
    obtain ⟨x, hx, h5⟩ := gL_inv h
    exact lv_lload_n hexec hb hdg rfl (hl.2.2.2 _ _ hx (fun q => by cases q)) (hk _ _ _ _ _ _ _ h5 Mo.rf hr hl)
  case lstore_n j =>
    simp only [trb, Bool.and_eq_true, decide_eq_true_eq, mNb] at htr
    obtain ⟨rfl, rfl⟩ := htr
    obtain ⟨x, r, rfl, hj, h5⟩ := pL_inv h
    exact lv_lstore_n hexec hb hdg rfl (mLs_has hl) (by rw [← hl.1]; exact hj) rfl (fun lr2 h2 => hk _ _ _ _ _ _ _ h5 Mo.rf hr (mLs_set2 rfl hl.1 rfl h2))
  case lload j =>
    simp only [trb, Bool.and_eq_true, decide_eq_true_eq, mNb] at htr
    obtain ⟨rfl, rfl⟩ := htr
    obtain ⟨x, hx, h5⟩ := gL_inv h
    exact lv_lload hexec hb hdg (hl.2.2.2 _ _ hx (fun q => by cases q)) (hk _ _ _ _ _ _ _ h5 Mo.rf hr hl)
  case lstore j =>
    simp only [trb, Bool.and_eq_true, decide_eq_true_eq, mNb] at htr
    obtain ⟨rfl, rfl⟩ := htr
    obtain ⟨x, r, rfl, hj, h5⟩ := pL_inv h
    exact lv_lstore hexec hb hdg (mLs_has hl) (by rw [← hl.1]; exact hj) rfl (fun lr2 h2 => hk _ _ _ _ _ _ _ h5 Mo.rf hr (mLs_set2 rfl hl.1 rfl h2))
  case aload_n j =>
    simp only [trb, Bool.and_eq_true, decide_eq_true_eq, mNb] at htr
    obtain ⟨rfl, rfl⟩ := htr
    obtain ⟨x, hx, h5⟩ := gR_inv h
    exact lv_aload_n hexec hb hdg rfl (hl.2.2.2 _ _ hx (fun q => by cases q)) (hk _ _ _ _ _ _ _ h5 Mo.rf hr hl)
  case astore_n j =>
    simp only [trb, Bool.and_eq_true, decide_eq_true_eq, mNb] at htr
    obtain ⟨rfl, rfl⟩ := htr
    obtain ⟨x, r, rfl, hj, h5⟩ := pR_inv h
    exact lv_astore_n hexec hb hdg rfl (mLs_has hl) (by rw [← hl.1]; exact hj) rfl (fun lr2 h2 => hk _ _ _ _ _ _ _ h5 Mo.rf hr (mLs_set1 rfl hl.1 (show (1 : Nat) ≠ 2 by decide) h2))
  case aload j =>
    simp only [trb, Bool.and_eq_true, decide_eq_true_eq, mNb] at htr
    obtain ⟨rfl, rfl⟩ := htr
    obtain ⟨x, hx, h5⟩ := gR_inv h
    exact lv_aload hexec hb hdg (hl.2.2.2 _ _ hx (fun q => by cases q)) (hk _ _ _ _ _ _ _ h5 Mo.rf hr hl)
  case astore j =>
    simp only [trb, Bool.and_eq_true, decide_eq_true_eq, mNb] at htr
    obtain ⟨rfl, rfl⟩ := htr
    obtain ⟨x, r, rfl, hj, h5⟩ := pR_inv h
    exact lv_astore hexec hb hdg (mLs_has hl) (by rw [← hl.1]; exact hj) rfl (fun lr2 h2 => hk _ _ _ _ _ _ _ h5 Mo.rf hr (mLs_set1 rfl hl.1 (show (1 : Nat) ≠ 2 by decide) h2))
  case iinc j n =>
    simp only [trb, Bool.and_eq_true, decide_eq_true_eq, mNb] at htr
    obtain ⟨rfl, rfl⟩ := htr
    obtain ⟨x, hx, h5⟩ := gI_inv h
    obtain ⟨k5, hk5⟩ := List.getElem?_of_mem (mLm_mem.mpr ⟨vI x, hx, (fun q => by cases q), rfl⟩)
    exact lv_iinc hexec hb hdg (mLs_has hl) hk5 (Int32.ofInt_add x n).symm (by rw [← hl.1]; exact (List.getElem?_eq_some_iff.mp hx).1) rfl (fun lr2 h2 => hk _ _ _ _ _ _ _ h5 Mo.rf hr (mLs_set1 rfl hl.1 (show (1 : Nat) ≠ 2 by decide) h2))
  case iadd =>
    simp only [trb, Bool.and_eq_true, decide_eq_true_eq, mNb] at htr
    obtain ⟨rfl, rfl⟩ := htr
    obtain ⟨y, r, rfl, h5⟩ := pI_inv h
    obtain ⟨x, r, rfl, h6⟩ := pI_inv h5
    refine lv_iadd hexec hb hdg ?_
    rw [← Int32.ofInt_add]
    exact hk _ _ _ _ _ _ _ h6 Mo.rf hr hl
  case isub =>
    simp only [trb, Bool.and_eq_true, decide_eq_true_eq, mNb] at htr
    obtain ⟨rfl, rfl⟩ := htr
    obtain ⟨y, r, rfl, h5⟩ := pI_inv h
    obtain ⟨x, r, rfl, h6⟩ := pI_inv h5
    refine lv_isub hexec hb hdg ?_
    rw [← Int32.ofInt_sub]
    exact hk _ _ _ _ _ _ _ h6 Mo.rf hr hl
  case imul =>
    simp only [trb, Bool.and_eq_true, decide_eq_true_eq, mNb] at htr
    obtain ⟨rfl, rfl⟩ := htr
    obtain ⟨y, r, rfl, h5⟩ := pI_inv h
    obtain ⟨x, r, rfl, h6⟩ := pI_inv h5
    refine lv_imul hexec hb hdg ?_
    rw [← Int32.ofInt_mul]
    exact hk _ _ _ _ _ _ _ h6 Mo.rf hr hl
  case ladd =>
    simp only [trb, Bool.and_eq_true, decide_eq_true_eq, mNb] at htr
    obtain ⟨rfl, rfl⟩ := htr
    obtain ⟨y, r, rfl, h5⟩ := pL_inv h
    obtain ⟨x, r, rfl, h6⟩ := pL_inv h5
    refine lv_ladd hexec hb hdg ?_
    rw [← Int64.ofInt_add]
    exact hk _ _ _ _ _ _ _ h6 Mo.rf hr hl
  case lsub =>
    simp only [trb, Bool.and_eq_true, decide_eq_true_eq, mNb] at htr
    obtain ⟨rfl, rfl⟩ := htr
    obtain ⟨y, r, rfl, h5⟩ := pL_inv h
    obtain ⟨x, r, rfl, h6⟩ := pL_inv h5
    refine lv_lsub hexec hb hdg ?_
    rw [← Int64.ofInt_sub]
    exact hk _ _ _ _ _ _ _ h6 Mo.rf hr hl
  case lmul =>
    simp only [trb, Bool.and_eq_true, decide_eq_true_eq, mNb] at htr
    obtain ⟨rfl, rfl⟩ := htr
    obtain ⟨y, r, rfl, h5⟩ := pL_inv h
    obtain ⟨x, r, rfl, h6⟩ := pL_inv h5
    refine lv_lmul hexec hb hdg ?_
    rw [← Int64.ofInt_mul]
    exact hk _ _ _ _ _ _ _ h6 Mo.rf hr hl
  case iand =>
    simp only [trb, Bool.and_eq_true, decide_eq_true_eq, mNb] at htr
    obtain ⟨rfl, rfl⟩ := htr
    obtain ⟨y, r, rfl, h5⟩ := pI_inv h
    obtain ⟨x, r, rfl, h6⟩ := pI_inv h5
    refine lv_iand hexec hb hdg ?_
    rw [← bit_and]
    exact hk _ _ _ _ _ _ _ h6 Mo.rf hr hl
  case ior =>
    simp only [trb, Bool.and_eq_true, decide_eq_true_eq, mNb] at htr
    obtain ⟨rfl, rfl⟩ := htr
    obtain ⟨y, r, rfl, h5⟩ := pI_inv h
    obtain ⟨x, r, rfl, h6⟩ := pI_inv h5
    refine lv_ior hexec hb hdg ?_
    rw [← bit_or]
    exact hk _ _ _ _ _ _ _ h6 Mo.rf hr hl
  case ixor =>
    simp only [trb, Bool.and_eq_true, decide_eq_true_eq, mNb] at htr
    obtain ⟨rfl, rfl⟩ := htr
    obtain ⟨y, r, rfl, h5⟩ := pI_inv h
    obtain ⟨x, r, rfl, h6⟩ := pI_inv h5
    refine lv_ixor hexec hb hdg ?_
    rw [← bit_xor]
    exact hk _ _ _ _ _ _ _ h6 Mo.rf hr hl
  case ishl =>
    simp only [trb, Bool.and_eq_true, decide_eq_true_eq, mNb] at htr
    obtain ⟨rfl, rfl⟩ := htr
    obtain ⟨y, r, rfl, h5⟩ := pI_inv h
    obtain ⟨x, r, rfl, h6⟩ := pI_inv h5
    refine lv_ishl hexec hb hdg ?_
    rw [← bit_shl]
    exact hk _ _ _ _ _ _ _ h6 Mo.rf hr hl
  case ishr =>
    simp only [trb, Bool.and_eq_true, decide_eq_true_eq, mNb] at htr
    obtain ⟨rfl, rfl⟩ := htr
    obtain ⟨y, r, rfl, h5⟩ := pI_inv h
    obtain ⟨x, r, rfl, h6⟩ := pI_inv h5
    refine lv_ishr hexec hb hdg ?_
    rw [← bit_shr]
    exact hk _ _ _ _ _ _ _ h6 Mo.rf hr hl
  case iushr =>
    simp only [trb, Bool.and_eq_true, decide_eq_true_eq, mNb] at htr
    obtain ⟨rfl, rfl⟩ := htr
    obtain ⟨y, r, rfl, h5⟩ := pI_inv h
    obtain ⟨x, r, rfl, h6⟩ := pI_inv h5
    exact lv_iushr hexec hb hdg (bit_ushr x y).symm (hk _ _ _ _ _ _ _ h6 Mo.rf hr hl)
  case idiv =>
    simp only [trb, Bool.and_eq_true, decide_eq_true_eq, mNb] at htr
    obtain ⟨rfl, rfl⟩ := htr
    obtain ⟨y, r, rfl, h5⟩ := pI_inv h
    obtain ⟨x, r, rfl, hx, hy, hne, h6⟩ := pI_inv h5
    refine lv_idiv hexec hb hdg (i32_ne0 hy hne) ?_
    rw [← i32_div hx hy]
    exact hk _ _ _ _ _ _ _ h6 Mo.rf hr hl
  case irem =>
    simp only [trb, Bool.and_eq_true, decide_eq_true_eq, mNb] at htr
    obtain ⟨rfl, rfl⟩ := htr
    obtain ⟨y, r, rfl, h5⟩ := pI_inv h
    obtain ⟨x, r, rfl, hx, hy, hne, h6⟩ := pI_inv h5
    refine lv_irem hexec hb hdg (i32_ne0 hy hne) ?_
    rw [← i32_modr hx hy]
    exact hk _ _ _ _ _ _ _ h6 Mo.rf hr hl
  case ldiv =>
    simp only [trb, Bool.and_eq_true, decide_eq_true_eq, mNb] at htr
    obtain ⟨rfl, rfl⟩ := htr
    obtain ⟨y, r, rfl, h5⟩ := pL_inv h
    obtain ⟨x, r, rfl, hx, hy, hne, h6⟩ := pL_inv h5
    refine lv_ldiv hexec hb hdg (i64_ne0 hy hne) ?_
    rw [← i64_div hx hy]
    exact hk _ _ _ _ _ _ _ h6 Mo.rf hr hl
  case lrem =>
    simp only [trb, Bool.and_eq_true, decide_eq_true_eq, mNb] at htr
    obtain ⟨rfl, rfl⟩ := htr
    obtain ⟨y, r, rfl, h5⟩ := pL_inv h
    obtain ⟨x, r, rfl, hx, hy, hne, h6⟩ := pL_inv h5
    refine lv_lrem hexec hb hdg (i64_ne0 hy hne) ?_
    rw [← i64_modr hx hy]
    exact hk _ _ _ _ _ _ _ h6 Mo.rf hr hl
  case ineg =>
    simp only [trb, Bool.and_eq_true, decide_eq_true_eq, mNb] at htr
    obtain ⟨rfl, rfl⟩ := htr
    obtain ⟨y, r, rfl, h5⟩ := pI_inv h
    refine lv_ineg hexec hb hdg ?_
    rw [← Int32.ofInt_neg]
    exact hk _ _ _ _ _ _ _ h5 Mo.rf hr hl
  case lneg =>
    simp only [trb, Bool.and_eq_true, decide_eq_true_eq, mNb] at htr
    obtain ⟨rfl, rfl⟩ := htr
    obtain ⟨y, r, rfl, h5⟩ := pL_inv h
    refine lv_lneg hexec hb hdg ?_
    rw [← Int64.ofInt_neg]
    exact hk _ _ _ _ _ _ _ h5 Mo.rf hr hl
  case i2l =>
    simp only [trb, Bool.and_eq_true, decide_eq_true_eq, mNb] at htr
    obtain ⟨rfl, rfl⟩ := htr
    obtain ⟨y, r, rfl, hy, h5⟩ := pI_inv h
    exact lv_i2l hexec hb hdg (i32_i64 hy) (hk _ _ _ _ _ _ _ h5 Mo.rf hr hl)
  case l2i =>
    simp only [trb, Bool.and_eq_true, decide_eq_true_eq, mNb] at htr
    obtain ⟨rfl, rfl⟩ := htr
    obtain ⟨y, r, rfl, h5⟩ := pL_inv h
    exact lv_l2i hexec hb hdg Int64.toInt32_ofInt (hk _ _ _ _ _ _ _ h5 Mo.rf hr hl)
  case lcmp =>
    simp only [trb, Bool.and_eq_true, decide_eq_true_eq, mNb] at htr
    obtain ⟨rfl, rfl⟩ := htr
    obtain ⟨y, r, rfl, h5⟩ := pL_inv h
    obtain ⟨x, r, rfl, hxy, h6⟩ := pL_inv h5
    refine W.lcmp hexec hb hdg ?_
    rw [i64_cmpX hxy]
    exact hk _ _ _ _ _ _ _ h6 Mo.rf hr hl
  case if_icmp k2 off =>
    cases mi <;> first
      | exact absurd htr Bool.false_ne_true
      | skip
    simp only [trb, Bool.and_eq_true, decide_eq_true_eq, mNb] at htr
    obtain ⟨⟨⟨rfl, rfl⟩, ht0⟩, ht⟩ := htr
    obtain ⟨y, r, rfl, h5⟩ := pI_inv h
    obtain ⟨x, r, rfl, hxy, h6⟩ := pI_inv h5
    exact m_icmpX hexec hb hxy hdg (ht.trans (Int.toNat_of_nonneg ht0).symm) (hk _ _ _ _ _ _ _ h6 Mo.rf hr hl)
  case ifCond k2 off =>
    cases mi <;> first
      | exact absurd htr Bool.false_ne_true
      | skip
    simp only [trb, Bool.and_eq_true, decide_eq_true_eq, mNb] at htr
    obtain ⟨⟨⟨rfl, rfl⟩, ht0⟩, ht⟩ := htr
    obtain ⟨x, r, rfl, hx, h6⟩ := pI_inv h
    exact m_if hexec hb hx hdg (ht.trans (Int.toNat_of_nonneg ht0).symm) (hk _ _ _ _ _ _ _ h6 Mo.rf hr hl)
  case if_acmp k2 off =>
    cases k2 <;> first
      | exact absurd htr Bool.false_ne_true
      | skip
    cases mi <;> first
      | exact absurd htr Bool.false_ne_true
      | skip
    simp only [trb, Bool.and_eq_true, decide_eq_true_eq, mNb] at htr
    obtain ⟨⟨rfl, ht0⟩, ht⟩ := htr
    obtain ⟨y, r, rfl, h5⟩ := pR_inv h
    obtain ⟨x, r, rfl, hx, hy, h6⟩ := pR_inv h5
    have ex : mAd b base x = base + x := mAd_lt (by omega)
    have ey : mAd b base y = base + y := mAd_lt (by omega)
    refine lv_acmp_ne (rx := some (mAd b base x)) (ry := some (mAd b base y)) hexec hb hdg (ht.trans (Int.toNat_of_nonneg ht0).symm) (fun q => ?_) (fun q => ?_)
    · have hne : ¬ x = y := fun z => q (by rw [z])
      rw [show decide (x = y) = false from decide_eq_false hne] at h6
      exact hk _ _ _ _ _ _ _ h6 Mo.rf hr hl
    · have he : x = y := by
        have := Option.some.inj q
        rw [ex, ey] at this
        omega
      rw [show decide (x = y) = true from decide_eq_true he] at h6
      exact hk _ _ _ _ _ _ _ h6 Mo.rf hr hl
  case goto off =>
    cases mi <;> first
      | exact absurd htr Bool.false_ne_true
      | skip
    simp only [trb, Bool.and_eq_true, decide_eq_true_eq, mNb] at htr
    obtain ⟨⟨rfl, ht0⟩, ht⟩ := htr
    exact lv_goto hexec hb hdg (ht.trans (Int.toNat_of_nonneg ht0).symm) (hk _ _ _ _ _ _ _ h Mo.rf hr hl)
  case dup =>
    simp only [trb, Bool.and_eq_true, decide_eq_true_eq, mNb] at htr
    obtain ⟨rfl, rfl⟩ := htr
    obtain ⟨v, r, rfl, hv, h5⟩ := pV_inv h
    exact lv_dup hexec hb hdg (by rw [mVal_cat]; exact hv) (hk _ _ _ _ _ _ _ h5 Mo.rf hr hl)
  case dup2 =>
    simp only [trb, Bool.and_eq_true, decide_eq_true_eq, mNb] at htr
    obtain ⟨rfl, rfl⟩ := htr
    obtain ⟨v, r, rfl, h5⟩ := pV_inv h
    obtain ⟨w, r, rfl, hv, hw, h6⟩ := pV_inv h5
    exact lv_dup2_11 hexec hb hdg (by rw [mVal_cat]; exact hv) (by rw [mVal_cat]; exact hw) (hk _ _ _ _ _ _ _ h6 Mo.rf hr hl)
  case pop =>
    simp only [trb, Bool.and_eq_true, decide_eq_true_eq, mNb] at htr
    obtain ⟨rfl, rfl⟩ := htr
    obtain ⟨v, r, rfl, hv, h5⟩ := pV_inv h
    exact lv_pop hexec hb hdg (by rw [mVal_cat]; exact hv) (hk _ _ _ _ _ _ _ h5 Mo.rf hr hl)
  case getfield j =>
    cases mi <;> first
      | exact absurd htr Bool.false_ne_true
      | skip
    simp only [trb, Bool.and_eq_true, decide_eq_true_eq, mNb] at htr
    obtain ⟨rfl, hf⟩ := htr
    obtain ⟨f1, f2, f3⟩ := mFL_at hf
    obtain ⟨a, r, rfl, ha, h5⟩ := pR_inv h
    rw [List.map_cons, mVal_R (hsm ha)]
    exact m_get hexec hb hts f1 hown hK hr ha f2 f3 hdg (hk _ _ _ _ _ _ _ h5 Mo.rf hr hl)
  case putfield j =>
    cases mi <;> first
      | exact absurd htr Bool.false_ne_true
      | skip
    simp only [trb, Bool.and_eq_true, decide_eq_true_eq, mNb] at htr
    obtain ⟨⟨rfl, hf⟩, hfin⟩ := htr
    next ci f =>
    obtain ⟨f1, f2, f3⟩ := mFL_at hf
    have hfin2 : ((mClat ci).2.1 f).2.2.2 = false ∨ (meth.name = "<init>" ∧ (mClat ci).1 = mCNat own) := by
      obtain ⟨C, T, N, ty, q1, q2, q3, -⟩ := mC_ok ci f1
      rw [q1] at hfin
      simp only [Bool.or_eq_true, Bool.not_eq_true', Bool.and_eq_true, mNb] at hfin
      rw [q2]
      rcases hfin with hfin | ⟨g1, g2⟩
      · exact Or.inl hfin
      · exact Or.inr ⟨hini g1, by rw [g2, q3]⟩
    have hkt : ∀ t, mfk ci f = t → mFld b base = mFld b base := fun _ _ => rfl
    unfold stp at h
    dsimp only at h
    split at h
    · next ht =>
      obtain ⟨x, r, rfl, h5⟩ := pI_inv h
      obtain ⟨a, r, rfl, ha, h6⟩ := pR_inv h5
      rw [List.map_cons, List.map_cons, mVal_R (hsm ha)]
      refine m_put (S1 := (S.1, S.2.1, upI S.2.2 a f x)) hexec hb hts f1 hown hK hr ha f2 f3 hfin2 ht ?_ ?_ rfl mCell_I ⟨Int32.ofInt x, rfl⟩ hdg fun H1 locs1 hr1 => (by have h9 := hk _ _ _ _ _ _ _ h6 (Mo.up ha) hr1 hl; exact h9)
      · show Value.int (Int32.ofInt (upI S.2.2 a f x a f)) = _
        rw [upI_same]; rfl
      · intro j t hj
        have e1 : upI S.2.2 a f x a j = S.2.2 a j := if_neg (fun q => hj q.2)
        unfold mFld; simp only [e1]
    · next ht =>
      obtain ⟨x, r, rfl, h5⟩ := pI_inv h
      obtain ⟨a, r, rfl, ha, hx, h6⟩ := pR_inv h5
      rw [List.map_cons, List.map_cons, mVal_R (hsm ha)]
      refine m_put (S1 := (S.1, S.2.1, upI S.2.2 a f x)) hexec hb hts f1 hown hK hr ha f2 f3 hfin2 ht ?_ ?_ rfl mCell_I ?_ hdg fun H1 locs1 hr1 => (by have h9 := hk _ _ _ _ _ _ _ h6 (Mo.up ha) hr1 hl; exact h9)
      · show Value.int (Int32.ofInt (upI S.2.2 a f x a f)) = _
        rw [upI_same]; rfl
      · intro j t hj
        have e1 : upI S.2.2 a f x a j = S.2.2 a j := if_neg (fun q => hj q.2)
        unfold mFld; simp only [e1]
      · rcases hx with rfl | rfl
        · exact Or.inl rfl
        · exact Or.inr rfl
    · next ht =>
      obtain ⟨x, r, rfl, h5⟩ := pL_inv h
      obtain ⟨a, r, rfl, ha, h6⟩ := pR_inv h5
      rw [List.map_cons, List.map_cons, mVal_R (hsm ha)]
      refine m_put (S1 := (S.1, S.2.1, upI S.2.2 a f x)) hexec hb hts f1 hown hK hr ha f2 f3 hfin2 ht ?_ ?_ rfl mCell_I ⟨Int64.ofInt x, rfl⟩ hdg fun H1 locs1 hr1 => (by have h9 := hk _ _ _ _ _ _ _ h6 (Mo.up ha) hr1 hl; exact h9)
      · show Value.long (Int64.ofInt (upI S.2.2 a f x a f)) = _
        rw [upI_same]; rfl
      · intro j t hj
        have e1 : upI S.2.2 a f x a j = S.2.2 a j := if_neg (fun q => hj q.2)
        unfold mFld; simp only [e1]
    · next ht =>
      obtain ⟨x, r, rfl, h5⟩ := pR_inv h
      obtain ⟨a, r, rfl, ha, hx, h6⟩ := pR_inv h5
      rw [List.map_cons, List.map_cons, mVal_R (hsm ha)]
      refine m_put (S1 := (S.1, upR S.2.1 a f (some x), S.2.2)) hexec hb hts f1 hown hK hr ha f2 f3 hfin2 ht ?_ ?_ rfl mCell_R ⟨mAd b base x, rfl⟩ hdg fun H1 locs1 hr1 => (by have h9 := hk _ _ _ _ _ _ _ h6 Mo.upR hr1 hl; exact h9)
      · show va_rf ((upR S.2.1 a f (some x) a f).map (mAd b base)) = _
        rw [show upR S.2.1 a f (some x) a f = some x by simp [upR]]; rfl
      · intro j t hj
        have e1 : upR S.2.1 a f (some x) a j = S.2.1 a j := if_neg (fun q => hj q.2)
        unfold mFld; simp only [e1]
    · exact h.elim
  case iaload =>
    simp only [trb, Bool.and_eq_true, decide_eq_true_eq, mNb] at htr
    obtain ⟨rfl, hmi⟩ := htr
    by_cases ho : own = 12
    · rw [if_pos ho] at hmi
      subst hmi
      obtain ⟨j, r, rfl, h5⟩ := pI_inv h
      obtain ⟨a, r, rfl, rfl, h0, h1, h6⟩ := pR_inv h5
      obtain ⟨L, xs, x1, x2, x3, x4, x5, x6⟩ := hX ho
      rw [x5] at h1
      obtain ⟨hin, hx⟩ := i32_ix h0 h1 (by omega)
      have ha : mVal b base (vR mScr) = .ref b := by
        show va_rf (some (if mScr = mScr then b else base + mScr)) = _
        rw [if_pos rfl]; rfl
      rw [List.map_cons, List.map_cons, ha]
      refine va_sld hexec hb x1 x2 (Nat.not_le.mpr x3) hr.2.2.2 hin hdg ?_
      rw [hx]
      have e1 : xs j.toNat = Int32.ofInt (S.2.2 (mScr + 1) j.toNat) := by
        rw [x6 _ (by omega), Int32.ofInt_toInt]
      rw [e1]
      exact hk _ _ _ _ _ _ _ h6 Mo.rf hr hl
    · rw [if_neg ho] at hmi
      subst hmi
      obtain ⟨j, r, rfl, h5⟩ := pI_inv h
      obtain ⟨a, r, rfl, n, ha, h0, h1, h6⟩ := pR_inv h5
      obtain ⟨hin, hx⟩ := i32_ix h0 h1 (hr.1 _ (List.mem_of_getElem? ha))
      rw [List.map_cons, List.map_cons, mVal_R (hsm ha)]
      refine va_iald hexec hb hK hr.2.2.1 a 0 (mWs_at ha) rfl hin hdg ?_
      rw [hx]
      exact hk _ _ _ _ _ _ _ h6 Mo.rf hr hl
  case arraylength =>
    simp only [trb, Bool.and_eq_true, decide_eq_true_eq, mNb] at htr
    obtain ⟨rfl, hmi⟩ := htr
    by_cases ho : own = 12
    · rw [if_pos ho] at hmi
      subst hmi
      obtain ⟨a, r, rfl, rfl, h6⟩ := pR_inv h
      obtain ⟨L, xs, x1, x2, x3, x4, x5, x6⟩ := hX ho
      have ha : mVal b base (vR mScr) = .ref b := by
        show va_rf (some (if mScr = mScr then b else base + mScr)) = _
        rw [if_pos rfl]; rfl
      rw [List.map_cons, ha]
      refine va_slen hexec hb x1 x2 (Nat.not_le.mpr x3) hr.2.2.2 hdg ?_
      rw [x5] at h6
      exact hk _ _ _ _ _ _ _ h6 Mo.rf hr hl
    · rw [if_neg ho] at hmi
      subst hmi
      obtain ⟨a, r, rfl, n, t, ha, ht1, ht5, h6⟩ := pR_inv h
      rw [List.map_cons, mVal_R (hsm ha)]
      match t, ht1, ht5 with
      | 1, _, _ => exact va_alen hexec hb hK hr.2.2.1 a 0 (mWs_at ha) rfl rfl hdg (hk _ _ _ _ _ _ _ h6 Mo.rf hr hl)
      | 2, _, _ => exact va_alen hexec hb hK hr.2.2.1 a 1 (mWs_at ha) rfl rfl hdg (hk _ _ _ _ _ _ _ h6 Mo.rf hr hl)
      | 3, _, _ => exact va_alen hexec hb hK hr.2.2.1 a 2 (mWs_at ha) rfl rfl hdg (hk _ _ _ _ _ _ _ h6 Mo.rf hr hl)
      | 4, _, _ => exact va_alen hexec hb hK hr.2.2.1 a 3 (mWs_at ha) rfl rfl hdg (hk _ _ _ _ _ _ _ h6 Mo.rf hr hl)
      | 5, _, _ => exact va_alen hexec hb hK hr.2.2.1 a 4 (mWs_at ha) rfl rfl hdg (hk _ _ _ _ _ _ _ h6 Mo.rf hr hl)
  case laload =>
    simp only [trb, Bool.and_eq_true, decide_eq_true_eq, mNb] at htr
    obtain ⟨rfl, rfl⟩ := htr
    obtain ⟨j, r, rfl, h5⟩ := pI_inv h
    obtain ⟨a, r, rfl, n, ha, h0, h1, h6⟩ := pR_inv h5
    obtain ⟨hin, hx⟩ := i32_ix h0 h1 (hr.1 _ (List.mem_of_getElem? ha))
    rw [List.map_cons, List.map_cons, mVal_R (hsm ha)]
    refine va_lald hexec hb hK hr.2.2.1 a 1 (mWs_at ha) rfl hin hdg ?_
    rw [hx]
    exact hk _ _ _ _ _ _ _ h6 Mo.rf hr hl
  case baload =>
    simp only [trb, Bool.and_eq_true, decide_eq_true_eq, mNb] at htr
    obtain ⟨rfl, rfl⟩ := htr
    obtain ⟨j, r, rfl, h5⟩ := pI_inv h
    obtain ⟨a, r, rfl, n, ha, h0, h1, h6⟩ := pR_inv h5
    obtain ⟨hin, hx⟩ := i32_ix h0 h1 (hr.1 _ (List.mem_of_getElem? ha))
    rw [List.map_cons, List.map_cons, mVal_R (hsm ha)]
    refine va_zald hexec hb hK hr.2.2.1 a 2 (mWs_at ha) rfl hin hdg ?_
    rw [hx]
    exact hk _ _ _ _ _ _ _ h6 Mo.rf hr hl
  case aaload =>
    simp only [trb, Bool.and_eq_true, decide_eq_true_eq, mNb] at htr
    obtain ⟨rfl, rfl⟩ := htr
    obtain ⟨j, r, rfl, h5⟩ := pI_inv h
    obtain ⟨a, r, rfl, n, t, ha, ht, h0, h1, h6⟩ := pR_inv h5
    obtain ⟨hin, hx⟩ := i32_ix h0 h1 (hr.1 _ (List.mem_of_getElem? ha))
    rw [List.map_cons, List.map_cons, mVal_R (hsm ha)]
    rcases ht with rfl | rfl
    · refine va_aldq hexec hb hK hr.2.2.1 a 3 (mWs_at ha) rfl hin hdg ?_
      rw [hx]
      exact hk _ _ _ _ _ _ _ h6 Mo.rf hr hl
    · refine va_aldq hexec hb hK hr.2.2.1 a 4 (mWs_at ha) rfl hin hdg ?_
      rw [hx]
      exact hk _ _ _ _ _ _ _ h6 Mo.rf hr hl
  case iastore =>
    simp only [trb, Bool.and_eq_true, decide_eq_true_eq, mNb] at htr
    obtain ⟨rfl, rfl⟩ := htr
    obtain ⟨x, r, rfl, h4⟩ := pI_inv h
    obtain ⟨j, r, rfl, h5⟩ := pI_inv h4
    obtain ⟨a, r, rfl, n, ha, h0, h1, h6⟩ := pR_inv h5
    rw [List.map_cons, List.map_cons, List.map_cons, mVal_R (hsm ha)]
    exact m_iast hexec hb hK hr ha h0 h1 hdg fun H1 locs1 hr1 => (by have h9 := hk _ _ _ _ _ _ _ h6 (Mo.up ha) hr1 hl; exact h9)
  case lastore =>
    simp only [trb, Bool.and_eq_true, decide_eq_true_eq, mNb] at htr
    obtain ⟨rfl, rfl⟩ := htr
    obtain ⟨x, r, rfl, h4⟩ := pL_inv h
    obtain ⟨j, r, rfl, h5⟩ := pI_inv h4
    obtain ⟨a, r, rfl, n, ha, h0, h1, h6⟩ := pR_inv h5
    rw [List.map_cons, List.map_cons, List.map_cons, mVal_R (hsm ha)]
    exact m_last hexec hb hK hr ha h0 h1 hdg fun H1 locs1 hr1 => (by have h9 := hk _ _ _ _ _ _ _ h6 (Mo.up ha) hr1 hl; exact h9)
  case bastore =>
    simp only [trb, Bool.and_eq_true, decide_eq_true_eq, mNb] at htr
    obtain ⟨rfl, rfl⟩ := htr
    obtain ⟨x, r, rfl, h4⟩ := pI_inv h
    obtain ⟨j, r, rfl, h5⟩ := pI_inv h4
    obtain ⟨a, r, rfl, n, ha, h0, h1, h2, h6⟩ := pR_inv h5
    rw [List.map_cons, List.map_cons, List.map_cons, mVal_R (hsm ha)]
    exact m_zast hexec hb hK hr ha h0 h1 h2 hdg fun H1 locs1 hr1 => (by have h9 := hk _ _ _ _ _ _ _ h6 (Mo.up ha) hr1 hl; exact h9)
  case aastore =>
    simp only [trb, Bool.and_eq_true, decide_eq_true_eq, mNb] at htr
    obtain ⟨rfl, rfl⟩ := htr
    obtain ⟨x, r, rfl, h4⟩ := pR_inv h
    obtain ⟨j, r, rfl, h5⟩ := pI_inv h4
    obtain ⟨a, r, rfl, n, t, ha, ht, h0, h1, h6⟩ := pR_inv h5
    rcases ht with ⟨rfl, hx⟩ | ⟨rfl, hx⟩
    · rw [List.map_cons, List.map_cons, List.map_cons, mVal_R (hsm ha), mVal_R (hsm hx)]
      exact m_aast (t0 := 3) (cA := dA 3) hexec hb hK hr ha rfl rfl rfl hx (hsm hx) (r := (mR_3, mT_3, 2)) rfl rfl h0 h1 hdg fun H1 locs1 hr1 => (by have h9 := hk _ _ _ _ _ _ _ h6 Mo.upR hr1 hl; exact h9)
    · rw [List.map_cons, List.map_cons, List.map_cons, mVal_R (hsm ha), mVal_R (hsm hx)]
      exact m_aast (t0 := 4) (cA := dA 4) hexec hb hK hr ha rfl rfl rfl hx (hsm hx) (r := (mR_0, mT_0, 11)) rfl rfl h0 h1 hdg fun H1 locs1 hr1 => (by have h9 := hk _ _ _ _ _ _ _ h6 Mo.upR hr1 hl; exact h9)
  case new j =>
    cases mi <;> first
      | exact absurd htr Bool.false_ne_true
      | skip
    simp only [trb, Bool.and_eq_true, decide_eq_true_eq, mNb] at htr
    obtain ⟨⟨rfl, hcl1⟩, hlt⟩ := htr
    next ci =>
    obtain ⟨-, h6⟩ := h
    have hm2 := hkm _ _ _ _ h6
    have l2 := hm2.len
    have l4 := hm2.sl
    have e0 : (S.1 ++ [(0, ci)]).length = S.1.length + 1 := by simp
    have e3 := mSl_push S.1 (0, ci)
    have l2 : (S.1 ++ [(0, ci)]).length ≤ out.2.1.length := l2
    have l4 : mSl (S.1 ++ [(0, ci)]) ≤ mSl out.2.1 := l4
    have e1 : S.1.length - n0 + 1 = (S.1 ++ [(0, ci)]).length - n0 := by omega
    have e2 : mSl S.1 - s0 + mSz (0, ci) = mSl (S.1 ++ [(0, ci)]) - s0 := by omega
    refine m_new hexec hb hb0 hts hlt hown hK hr (mTb_of (mCK_ok _ hcl1) rfl) (by omega) (by omega) hdg fun H1 hr1 => ?_
    rw [e1, e2, ← mVal_R (b := b) (base := base) (a := S.1.length) (by omega)]
    exact hk _ _ _ _ _ _ _ h6 (Mo.new (Nat.lt_trans hlt (Nat.le_of_ble_eq_true rfl))) hr1 hl
  case newarray t =>
    simp only [trb, Bool.and_eq_true, decide_eq_true_eq, mNb] at htr
    obtain ⟨⟨rfl, rfl⟩, ht⟩ := htr
    obtain ⟨x, r, rfl, h0, h1, h6⟩ := pI_inv h
    have hm2 := hkm _ _ _ _ h6
    have hfin : ∀ (t1 : Nat), (∀ H1 : Heap, mRel b base dA D H0 (S.1 ++ [(t1 + 1, x.toNat)], clR S.2.1 S.1.length, clI S.2.2 S.1.length) H1 locs → k (pc + 2) ls (vR S.1.length :: r) (S.1 ++ [(t1 + 1, x.toNat)], clR S.2.1 S.1.length, clI S.2.2 S.1.length) → W p l e R s m args below meth c H1 locs (S.1.length - n0 + 1) (mSl S.1 - s0 + x.toNat) Q (F0 m (pc + 2) lr (.ref (base + S.1.length) :: r.map (mVal b base)))) ∧ (k (pc + 2) ls (vR S.1.length :: r) (S.1 ++ [(t1 + 1, x.toNat)], clR S.2.1 S.1.length, clI S.2.2 S.1.length) → S.1.length - n0 + 1 ≤ R.cells ∧ mSl S.1 - s0 + x.toNat ≤ R.slots) := by
      intro t1
      have e0 : (S.1 ++ [(t1 + 1, x.toNat)]).length = S.1.length + 1 := by simp
      have e3 : mSl (S.1 ++ [(t1 + 1, x.toNat)]) = mSl S.1 + x.toNat := mSl_push S.1 (t1 + 1, x.toNat)
      have e1 : S.1.length - n0 + 1 = (S.1 ++ [(t1 + 1, x.toNat)]).length - n0 := by omega
      have e2 : mSl S.1 - s0 + x.toNat = mSl (S.1 ++ [(t1 + 1, x.toNat)]) - s0 := by omega
      refine ⟨fun H1 hr1 h7 => ?_, fun h7 => ?_⟩
      · have l2 : (S.1 ++ [(t1 + 1, x.toNat)]).length ≤ out.2.1.length := (hkm _ _ _ _ h7).len
        rw [e1, e2, ← mVal_R (b := b) (base := base) (a := S.1.length) (by omega)]
        exact hk _ _ _ _ _ _ _ h7 (Mo.new (show x.toNat < 10000 by omega)) hr1 hl
      · have l2 : (S.1 ++ [(t1 + 1, x.toNat)]).length ≤ out.2.1.length := (hkm _ _ _ _ h7).len
        have l4 : mSl (S.1 ++ [(t1 + 1, x.toNat)]) ≤ mSl out.2.1 := (hkm _ _ _ _ h7).sl
        omega
    rcases ht with rfl | rfl | rfl
    · have h7 := (hfin 0).2 h6
      exact m_newa (t := 0) (at0 := .int) (ty := .int) hexec hb hb0 hts hK hr rfl mArr.1 rfl (fun C q => by cases q) h0 h1 (by decide) (Or.inl (by unfold mCell; dsimp only; simp [clI])) (fun v hv => by unfold mCell at hv; dsimp only at hv; cases hv; simp only [clI, if_true, vp_cell]; rfl) h7.1 h7.2 hdg fun H1 hr1 => (hfin 0).1 H1 hr1 h6
    · have h7 := (hfin 1).2 h6
      exact m_newa (t := 1) (at0 := .long) (ty := .long) hexec hb hb0 hts hK hr rfl mArr.2.1 rfl (fun C q => by cases q) h0 h1 (by decide) (Or.inr (by unfold mCell; dsimp only; simp [clI])) (fun v hv => by unfold mCell at hv; dsimp only at hv; cases hv; simp only [clI, if_true, vp_cell]; rfl) h7.1 h7.2 hdg fun H1 hr1 => (hfin 1).1 H1 hr1 h6
    · have h7 := (hfin 2).2 h6
      exact m_newa (t := 2) (at0 := .boolean) (ty := .boolean) hexec hb hb0 hts hK hr rfl mArr.2.2 rfl (fun C q => by cases q) h0 h1 (by decide) (Or.inl (by unfold mCell; dsimp only; simp [clI])) (fun v hv => by unfold mCell at hv; dsimp only at hv; cases hv; simp only [clI, if_true, vp_cell]; rfl) h7.1 h7.2 hdg fun H1 hr1 => (hfin 2).1 H1 hr1 h6
  case anewarray j =>
    cases mi <;> first
      | exact absurd htr Bool.false_ne_true
      | skip
    simp only [trb, Bool.and_eq_true, Bool.or_eq_true, decide_eq_true_eq, mNb] at htr
    obtain ⟨rfl, ht⟩ := htr
    obtain ⟨x, r, rfl, h0, h1, h6⟩ := pI_inv h
    have hfin : ∀ (t1 : Nat), (∀ H1 : Heap, mRel b base dA D H0 (S.1 ++ [(t1 + 1, x.toNat)], clR S.2.1 S.1.length, clI S.2.2 S.1.length) H1 locs → k (pc + 3) ls (vR S.1.length :: r) (S.1 ++ [(t1 + 1, x.toNat)], clR S.2.1 S.1.length, clI S.2.2 S.1.length) → W p l e R s m args below meth c H1 locs (S.1.length - n0 + 1) (mSl S.1 - s0 + x.toNat) Q (F0 m (pc + 3) lr (.ref (base + S.1.length) :: r.map (mVal b base)))) ∧ (k (pc + 3) ls (vR S.1.length :: r) (S.1 ++ [(t1 + 1, x.toNat)], clR S.2.1 S.1.length, clI S.2.2 S.1.length) → S.1.length - n0 + 1 ≤ R.cells ∧ mSl S.1 - s0 + x.toNat ≤ R.slots) := by
      intro t1
      have e0 : (S.1 ++ [(t1 + 1, x.toNat)]).length = S.1.length + 1 := by simp
      have e3 : mSl (S.1 ++ [(t1 + 1, x.toNat)]) = mSl S.1 + x.toNat := mSl_push S.1 (t1 + 1, x.toNat)
      have e1 : S.1.length - n0 + 1 = (S.1 ++ [(t1 + 1, x.toNat)]).length - n0 := by omega
      have e2 : mSl S.1 - s0 + x.toNat = mSl (S.1 ++ [(t1 + 1, x.toNat)]) - s0 := by omega
      refine ⟨fun H1 hr1 h7 => ?_, fun h7 => ?_⟩
      · have l2 : (S.1 ++ [(t1 + 1, x.toNat)]).length ≤ out.2.1.length := (hkm _ _ _ _ h7).len
        rw [e1, e2, ← mVal_R (b := b) (base := base) (a := S.1.length) (by omega)]
        exact hk _ _ _ _ _ _ _ h7 (Mo.new (show x.toNat < 10000 by omega)) hr1 hl
      · have l2 : (S.1 ++ [(t1 + 1, x.toNat)]).length ≤ out.2.1.length := (hkm _ _ _ _ h7).len
        have l4 : mSl (S.1 ++ [(t1 + 1, x.toNat)]) ≤ mSl out.2.1 := (hkm _ _ _ _ h7).sl
        omega
    rcases ht with ⟨rfl, hcl1⟩ | ⟨rfl, hcl1⟩
    · have h7 := (hfin 3).2 h6
      exact m_anew (t := 3) (C := "LeastCurves$Pair") hexec hb hb0 hts hown hK hr (mTb_of (mCK_ok _ hcl1) rfl) hKF.2.2.1 rfl h0 h1 (by unfold mCell; dsimp only; simp [clR]) h7.1 h7.2 hdg fun H1 hr1 => (hfin 3).1 H1 hr1 h6
    · have h7 := (hfin 4).2 h6
      exact m_anew (t := 4) (C := "LeastCurves$Edge") hexec hb hb0 hts hown hK hr (mTb_of (mCK_ok _ hcl1) rfl) hKF.2.2.2 rfl h0 h1 (by unfold mCell; dsimp only; simp [clR]) h7.1 h7.2 hdg fun H1 hr1 => (hfin 4).1 H1 hr1 h6
  case invokestatic j =>
    cases mi <;> first
      | exact absurd htr Bool.false_ne_true
      | skip
    have htr2 := htr
    simp only [trb, Bool.and_eq_true, decide_eq_true_eq, mNb] at htr2
    exact hcl _ (Or.inl rfl) h htr2.1.1
  case invokevirtual j =>
    cases mi <;> first
      | exact absurd htr Bool.false_ne_true
      | skip
    have htr2 := htr
    simp only [trb, Bool.and_eq_true, decide_eq_true_eq, mNb] at htr2
    exact hcl _ (Or.inr (Or.inl rfl)) h htr2.1.1
  case invokespecial j =>
    cases mi <;> first
      | exact absurd htr Bool.false_ne_true
      | skip
    · have htr2 := htr
      simp only [trb, Bool.and_eq_true, decide_eq_true_eq, mNb] at htr2
      exact hcl _ (Or.inr (Or.inr rfl)) h htr2.1.1
    · simp only [trb, Bool.and_eq_true, decide_eq_true_eq, mNb] at htr
      obtain ⟨rfl, ho⟩ := htr
      obtain ⟨a, r, rfl, h7, h6⟩ := pR_inv h
      refine W.objInit hexec hb hown (hts _ (mTb_of (mOL_ok _ ho) rfl)) (hts _ mObj.1) (hts _ mObj.2) rfl (hl.2.1.trans hml.symm) (a := mAd b base a) (rest := r.map (mVal b base)) rfl hdg (by omega) ?_ (hk _ _ _ _ _ _ _ h6 Mo.rf hr hl)
      have h8 : 2 * (F0 m pc lr ((vR a :: r).map (mVal b base))).monitorRoom + ((r.map (mVal b base)).map fun v => v.category).sum ≤ 8 := by
        refine lv_room ?_
        rw [List.map_map]
        rw [show ((fun v : Value => v.category) ∘ mVal b base) = mcat from funext (mVal_cat b base)]
        exact h7
      omega
  case tableswitch d0 lo hi os =>
    cases mi <;> first
      | exact absurd htr Bool.false_ne_true
      | skip
    simp only [trb, Bool.and_eq_true, decide_eq_true_eq] at htr
    next d2 lo2 hi2 os2 =>
    obtain ⟨⟨⟨⟨⟨⟨rfl, rfl⟩, hd2⟩, hd0⟩, rfl⟩, hos⟩, hsz⟩ := htr
    obtain ⟨x, r, rfl, hx, h6⟩ := pI_inv h
    by_cases hq : x < lo ∨ hi < x
    · rw [show decide (x < lo ∨ hi < x) = true from decide_eq_true hq, cond_true] at h6
      exact lv_tableOut hexec hb hdg (by rw [i32_to hx]; exact hq) (hd2.trans (Int.toNat_of_nonneg hd0).symm) (hk _ _ _ _ _ _ _ h6 Mo.rf hr hl)
    · rw [show decide (x < lo ∨ hi < x) = false from decide_eq_false hq, cond_false] at h6
      have hlt : (x - lo).toNat < os.size := by omega
      have hget : os[(x - lo).toNat]? = some os[(x - lo).toNat] := Array.getElem?_eq_getElem hlt
      rw [Array.getElem?_map, hget] at h6
      have hnn : 0 ≤ (pc : Int) + os[(x - lo).toNat] := by
        have h9 := Array.all_eq_true.mp hos (x - lo).toNat (by rw [Array.size_map]; exact hlt)
        rw [Array.getElem_map] at h9
        exact of_decide_eq_true h9
      refine lv_tableIn hexec hb hdg (by rw [i32_to hx]; omega) (by rw [i32_to hx]; omega) (by rw [i32_to hx]; exact hget) (Int.toNat_of_nonneg hnn).symm (hk _ _ _ _ _ _ _ h6 Mo.rf hr hl)
  case ireturn =>
    cases mi <;> first
      | (exfalso; simp [trb] at htr; done)
      | skip
    · obtain ⟨x, r, rfl, rfl, h7, h5⟩ := pI_inv h
      have h5 : out = (some (vI x), S) := h5
      subst h5; subst h7
      exact hret .ireturn .dreturn pc len lr H locs hdg htr rfl hr
    · obtain ⟨x, r, rfl, rfl, h7, h5⟩ := pI_inv h
      have h5 : out = (some (vI x), S) := h5
      subst h5
      exact hret .ireturn .freturn pc len lr H locs hdg htr ⟨x, rfl, h7⟩ hr
    · obtain ⟨x, r, rfl, rfl, h5⟩ := pI_inv h
      have h5 : out = (some (vI x), S) := h5
      subst h5
      exact hret .ireturn .ireturn pc len lr H locs hdg htr ⟨x, rfl⟩ hr
  case lreturn =>
    have hm : mi = .lreturn := by
      simp only [trb, Bool.and_eq_true, decide_eq_true_eq] at htr
      exact htr.1.2
    subst hm
    obtain ⟨x, r, rfl, rfl, h5⟩ := pL_inv h
    have h5 : out = (some (vL x), S) := h5
    subst h5
    exact hret .lreturn .lreturn pc len lr H locs hdg htr ⟨x, rfl⟩ hr
  case areturn =>
    have hm : mi = .areturn := by
      simp only [trb, Bool.and_eq_true, decide_eq_true_eq] at htr
      exact htr.1.2
    subst hm
    obtain ⟨x, r, rfl, rfl, h5⟩ := pR_inv h
    have h5 : out = (some (vR x), S) := h5
    subst h5
    exact hret .areturn .areturn pc len lr H locs hdg htr ⟨x, rfl⟩ hr
  case return_ =>
    have hm : mi = .return_ := by
      simp only [trb, Bool.and_eq_true, decide_eq_true_eq] at htr
      exact htr.1.2
    subst hm
    obtain ⟨rfl, h5⟩ := h
    have h5 : out = (none, S) := h5
    subst h5
    exact hret .return_ .return_ pc len lr H locs hdg htr rfl hr
end MS
