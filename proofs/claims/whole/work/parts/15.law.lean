/-! THE CLAIM OUT OF ONE WALK OF THE LAW'S BODY. Your part is whole_start (and what it stands on); all else here is the same for every law, but numbers. -/
def R_law : String := "LeastCurvesLaw"
def lw_P (b : Addr) (xs : List Int32) (args : Array Value) (s : State) : Prop := args = #[.ref b] ∧ s.IntsAt b xs ∧ xs.length ≤ 3072 ∧ (Jvm.Cond.and given_1 narrow_1).before args s = true
def lw_Q (_ : Array Value) (s : State) (o : Outcome) (t : State) : Prop := o = .returned (some (.int 1)) ∧ Framed s o t [] 600000 7302250
def lw_Z (below : List Frame) (a : Array Value) (s : State) : State → Prop := fun t => ∃ o, t.status = .running ∧ Ended t below o ∧ lw_Q a s o t
/-- the law's own end, with 1 on the stack, nothing written that was there before, its room as the claim has it -/
theorem lw_ret {p : Program} {l : Launch} {e : Env} {s : State} {m : MethodId} {below : List Frame} {meth : Method} {c : Code} {b : Nat} (hx : p.tables.exec = Jvm.exec) (hb : c.code = code) (hr : meth.sig.returnType = ret) (hlocks : meth.locks = false) {pc : Nat} {H : Heap} {ls : Array Slot} (hdg : decode code pc = .ok (.ireturn, 1)) : W p l e room_1 s m #[Value.ref b] below meth c H [] 600000 7302250 (lw_Z below #[Value.ref b] s) (F0 m pc ls [.int 1]) := by
  intro T hT X
  obtain ⟨fs, hret, hrun, hended, hW, hframe⟩ := X.leave (v := some (.int 1)) (hlocks := hlocks) (fun h => by rw [hr] at h; cases h)
  have hmeth' : T.vm.method? m = some meth := X.method'
  refine ⟨T.setFrames fs, ?_, .returned (some (.int 1)), hrun, hended, rfl, ⟨_, rfl⟩, hW, hframe⟩
  jvm_step X.here [X.here.top, hx, hb, hdg, hmeth', hr, ret, narrow_b1]
  (try refine ⟨rfl, ?_⟩); (try refine ⟨rfl, ?_⟩)
  first | (intro acts; rw [hret _ acts rfl rfl rfl]) | rw [hret _ _ rfl rfl rfl]
  exact Steps.refl _
/-- what holds at the law's entry: the machine, the code, the tables' words (any of lw_tbl by 'hts w (by decide +kernel)'), the script of L ints xs at the cell b, what the Statement gives of the start (any of its parts by flat_of_before) -/
def lw_At (p : Program) (s : State) (m : MethodId) (meth : Method) (c : Code) (b L : Nat) (xs : Nat → Int32) : Prop :=
  p.tables.exec = Jvm.exec ∧ c.code = code ∧ meth.sig.returnType = ret ∧ c.maxLocals = 4 ∧ s.vm.findClass R_law = some m.cls ∧ (∀ w ∈ lw_tbl, w.before #[Value.ref b] s = true) ∧ va_X b L xs s s.heap ∧ b < s.heap.size ∧ meth.locks = false ∧ (Jvm.Cond.and given_1 narrow_1).before #[Value.ref b] s = true
theorem mKF_of {args : Array Value} {s : State} (hts : ∀ w ∈ lw_tbl, w.before args s = true) : ∃ (dA : Nat → ClassId) (D : va_G), mKF dA D s := by
  have h1 : ∀ c : Nat, ∃ (cC : ClassId) (iS : Nat → Nat), ∀ q : vw_C, mCl[c]? = some q → u_Kn s q.1 q.2.1 q.2.2 cC iS := by
    intro c
    cases hq : mCl[c]? with
    | none => exact ⟨0, fun _ => 0, fun q h => by cases h⟩
    | some q =>
      have hc : c < 11 := (List.getElem?_eq_some_iff.mp hq).1
      obtain ⟨C, T, N, ty, q1, q2, q3, hin, hty, hnm, hinst, hini, hN, hC, htc⟩ := mC_ok c hc
      obtain ⟨cC, iS, hKn⟩ := u_known (C := C) (T := T) (N := N) (n := N) hts (fun w hw => mTb_in (hin w hw)) (hts _ (mTb_in hinst))
      refine ⟨cC, iS, fun q' h => ?_⟩
      cases h
      rw [hq] at q1
      cases q1
      exact hKn
  have h2 : ∀ t : FieldType, (∀ C, t ≠ .object C) → Cond.arrayClass t ∈ lw_tbl → (t = .int ∨ t = .long ∨ t = .boolean) → ∃ cA : ClassId, ArrOfT s cA t ∧ va_RA s cA t := by
    intro t _ hw ht
    obtain ⟨cA, k, comp, g1, g2, g3⟩ := Cond.arrayClass_spec (hts _ hw)
    refine ⟨cA, fun n z => ⟨fun k h => (by cases h), k, g2, comp, g3⟩, ?_⟩
    rcases ht with rfl | rfl | rfl <;> exact g1
  have h3 : ∀ C : String, va_AO C s → ∃ cA : ClassId, ArrOfT s cA (.object C) ∧ va_RA s cA (.object C) := by
    intro C hw
    obtain ⟨comp, cA, k, g1, g2, g3, g4, g5⟩ := Cond.arrayOver_spec hw
    exact ⟨cA, fun n z => ⟨fun k h => (by cases h), k, g3, comp, g4⟩, k, comp, g3, g4, g1, g5⟩
  have o1 : va_AO "LeastCurves$Pair" s := va_AO.of (hts _ (List.mem_of_getElem? (i := 255) (by decide +kernel)))
  have o2 : va_AO "LeastCurves$Edge" s := va_AO.of (hts _ (List.mem_of_getElem? (i := 306) (by decide +kernel)))
  obtain ⟨a0, e0⟩ := h2 .int (fun C h => by cases h) (mTb_in mArr.1) (Or.inl rfl)
  obtain ⟨a1, e1⟩ := h2 .long (fun C h => by cases h) (mTb_in mArr.2.1) (Or.inr (Or.inl rfl))
  obtain ⟨a2, e2⟩ := h2 .boolean (fun C h => by cases h) (mTb_in mArr.2.2) (Or.inr (Or.inr rfl))
  obtain ⟨a3, e3⟩ := h3 _ o1
  obtain ⟨a4, e4⟩ := h3 _ o2
  refine ⟨fun k => match k with
    | 0 => a0
    | 1 => a1
    | 2 => a2
    | 3 => a3
    | _ => a4, (fun c => Classical.choose (h1 c), fun c => Classical.choose (Classical.choose_spec (h1 c))), ⟨fun c q hq => Classical.choose_spec (Classical.choose_spec (h1 c)) q hq, fun k q hq => ?_⟩, fun e he => va_Nw.of rfl (hts _ (mNL_ok e he)), o1, o2⟩
  match k, hq with
  | 0, hq => cases hq; exact e0
  | 1, hq => cases hq; exact e1
  | 2, hq => cases hq; exact e2
  | 3, hq => cases hq; exact e3
  | 4, hq => cases hq; exact e4
  | k + 5, hq => simp [mTys] at hq
def mM0 (L : Nat) (xs : Nat → Int32) : mM := fun a k => if a = mScr then (if k = 0 then (L : Int) else 0) else if a = mScr + 1 then (xs k).toInt else 0
def mS0 (L : Nat) (xs : Nat → Int32) : mS := ([], fun _ _ => none, mM0 L xs)
/-- what is left: the law, in the small machine -/
def mLawOK : Prop := ∀ (L : Nat) (xs : Nat → Int32), L ≤ 3072 → ∃ S1 : mS, S1.1.length ≤ 600000 ∧ mSl S1.1 ≤ 7302250 ∧ Rg (mNof mXt) (Ev mXt 13) mc_247 (some (vI 1), S1) 0 [vR mScr, vN, vN, vN] [] (mS0 L xs)
theorem whole_of (hlaw : mLawOK) {p : Program} {e : Env} {s : State} {m : MethodId} {below : List Frame} {meth : Method} {c : Code} (l : Launch) {b L : Nat} {xs : Nat → Int32} (hL : L ≤ 3072) (C0 : lw_At p s m meth c b L xs) : W p l e room_1 s m #[Value.ref b] below meth c s.heap [] 0 0 (lw_Z below #[Value.ref b] s) (entryFrame m ([Value.ref b] : List Value).toArray 4) := by
  obtain ⟨hx, hb, hr, hml, hown, hts, hX, hbl, hlocks, hgv⟩ := id C0
  obtain ⟨S1, hs1, hs2, n, hrs⟩ := hlaw L xs hL
  obtain ⟨dA, D, hKF⟩ := mKF_of hts
  have hl := lv_entry ([.ref b]) (n := 4) (Nat.le_of_ble_eq_true rfl)
  rw [lg_entry_eq]
  generalize (lg_sl ([.ref b]) ++ List.replicate (4 - (lg_sl ([.ref b])).length) Slot.unset).toArray = lr at hl ⊢
  have hls : mLs b s.heap.size 4 [vR mScr, vN, vN, vN] lr := by
    refine ⟨rfl, hl.1, hl.2.1, fun i v hi hv => ?_⟩
    match i, hi with
    | 0, hi =>
      cases hi
      have h5 := hl.2.2 (0, .ref b) List.mem_cons_self
      have ha : mVal b s.heap.size (vR mScr) = .ref b := by
        show va_rf (some (if mScr = mScr then b else s.heap.size + mScr)) = _
        rw [if_pos rfl]; rfl
      rw [ha]; exact h5
    | 1, hi => cases hi; exact absurd rfl hv
    | 2, hi => cases hi; exact absurd rfl hv
    | 3, hi => cases hi; exact absurd rfl hv
    | i + 4, hi => simp at hi
  have hrel : mRel b s.heap.size dA D s.heap (mS0 L xs) s.heap [] := ⟨fun q h => absurd h List.not_mem_nil, rfl, fun k q h => by simp [mWs, mS0] at h, va_S.rf⟩
  have hsc : mScp b s.heap.size s s.heap (mS0 L xs) := ⟨L, xs, hX, hbl, hbl, hL, by show mM0 L xs mScr 0 = L; simp [mM0], fun j _ => by
    show mM0 L xs (mScr + 1) j = _
    unfold mM0
    rw [if_neg (by omega), if_pos rfl]⟩
  have K := Rs_snd (l := l) (R := room_1) (Q := lw_Z below #[Value.ref b] s) (own := 12) (n0 := 0) (s0 := 0) (out := (some (vI 1), S1)) (below := below) (meth := meth) (H0 := s.heap) (e := e) (ini := false) (ret := some .boolean) (p := p) (m := m) (args := #[Value.ref b])
    (mSnd_all l b s.heap.size dA D 13) hx hb hml hown (fun w hw => hts w (mTb_in hw)) hKF (fun h => by cases h) (Nat.le_refl _) (Nat.le_of_ble_eq_true rfl) (Nat.le_of_ble_eq_true rfl) (Nat.le_trans hs1 (Nat.le_of_ble_eq_true rfl)) hs1 hs2 mk_247 (fun i mi pc len lr2 H2 locs2 hdg htr hro hr2 => ?_) n 0 _ [] (mS0 L xs) s.heap [] lr hrs (Nat.le_refl _) (Nat.le_refl _) (fun _ => hsc) hrel hls
  · exact K
  · have hf : ∀ q ∈ locs2, s.heap.size ≤ q.base := hr2.2.2.2.2.2
    have hlen : len = 1 ∧ i = .ireturn := by
      cases i <;> first
        | exact hro.elim
        | (obtain ⟨x, hx⟩ := hro; cases hx; done)
        | (cases hro; done)
        | skip
      cases mi <;> first
        | exact hro.elim
        | (simp only [trb, Bool.and_eq_true, mNb] at htr; exact ⟨htr.1, rfl⟩)
    obtain ⟨rfl, rfl⟩ := hlen
    refine va_forget hf ?_
    refine W.widen (k := 600000) (n := 7302250) hs1 hs2 ?_
    exact lw_ret hx hb hr hlocks hdg
