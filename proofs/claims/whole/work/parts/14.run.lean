theorem mScp.mo {b base : Nat} {s : State} {H0 : Heap} {S S1 : mS} (h : mScp b base s H0 S) (hm : Mo S S1) (hl : S1.1.length ≤ mScr) : mScp b base s H0 S1 := by
  obtain ⟨L, xs, x1, x2, x3, x4, x5, x6⟩ := h
  exact ⟨L, xs, x1, x2, x3, x4, by rw [hm.2 _ hl]; exact x5, fun j hj => by rw [hm.2 _ (Nat.le_succ_of_le hl)]; exact x6 j hj⟩
section MT
variable {p : Program} {l : Launch} {e : Env} {R : Room} {s : State} {m : MethodId} {args : Array Value} {below : List Frame} {meth : Method} {c : Code} {H : Heap} {locs : List Loc} {Q : State → Prop}
variable {cc : ByteArray} {pc : Nat} {lr : Array Slot} {b base : Nat} {dA : Nat → ClassId} {D : va_G} {H0 : Heap} {S : mS}
theorem Rs_snd {own nL d n0 s0 : Nat} {out : Option mV × mS} {q : mQ} {ini : Bool} {ret : Option FieldType}
    (hIH : mSnd l b base dA D d) (hexec : p.tables.exec = Jvm.exec) (hb : c.code = cc) (hml : c.maxLocals = nL) (hown : s.vm.findClass (mCNat own) = some m.cls) (hts : ∀ w ∈ mTb, w.before args s = true) (hKF : mKF dA D s) (hini : ini = true → meth.name = "<init>")
    (hb0 : base ≤ H0.size) (hRf : d + 1 ≤ R.frames) (hRl : 40 + 42 * d ≤ R.locals) (hout : out.2.1.length ≤ mScr) (hRc : out.2.1.length - n0 ≤ R.cells) (hRs : mSl out.2.1 - s0 ≤ R.slots) (hchk : mchk own ini ret cc q = true)
    (hret : ∀ (i : Instr) (mi : Instr) (pc len : Nat) (lr2 : Array Slot) (H2 : Heap) (locs2 : List Loc), decode cc pc = .ok (i, len) → trb own ini ret pc i len mi = true → mRtO i mi out.1 → mRel b base dA D H0 out.2 H2 locs2 → W p l e R s m args below meth c H2 locs2 (out.2.1.length - n0) (mSl out.2.1 - s0) Q (F0 m pc lr2 (out.1.toList.map (mVal b base)))) :
    ∀ (n pc : Nat) (ls st : List mV) (S : mS) (H : Heap) (locs : List Loc) (lr : Array Slot), Rs (mNof mXt) (Ev mXt d) q out n pc ls st S → n0 ≤ S.1.length → s0 ≤ mSl S.1 → (own = 12 → mScp b base s H0 S) → mRel b base dA D H0 S H locs → mLs b base nL ls lr →
      W p l e R s m args below meth c H locs (S.1.length - n0) (mSl S.1 - s0) Q (F0 m pc lr (st.map (mVal b base)))
  | 0, _, _, _, _, _, _, _, h, _, _, _, _, _ => False.elim h
  | n + 1, pc, ls, st, S, H, locs, lr, h, hn0, hs0, hX, hr, hl => by
    unfold Rs at h
    split at h
    · exact h.elim
    · next mi nx hat =>
      have he := List.all_eq_true.mp hchk _ (mAt_mem hat)
      dsimp only at he
      split at he
      · next i len hdg =>
        simp only [Bool.and_eq_true, mNb] at he
        have hkm : ∀ nx ls st S2, Rs (mNof mXt) (Ev mXt d) q out n nx ls st S2 → Mo S2 out.2 := fun nx ls st S2 h2 => Rs_mo (Ev_mo d) n nx ls st S2 h2
        refine snd_stp (k := Rs (mNof mXt) (Ev mXt d) q out n) hIH hexec hb hml hown hts hKF hini hb0 hRf hRl hout hRc hRs hn0 hs0 hX hkm h he.1 hdg he.2 hr hl hret fun pc2 ls2 st2 S2 H2 locs2 lr2 h2 hmo hr2 hl2 => ?_
        exact Rs_snd hIH hexec hb hml hown hts hKF hini hb0 hRf hRl hout hRc hRs hchk hret n pc2 ls2 st2 S2 H2 locs2 lr2 h2 (Nat.le_trans hn0 hmo.len) (Nat.le_trans hs0 hmo.sl) (fun ho => (hX ho).mo hmo (Nat.le_trans (hkm _ _ _ _ h2).len hout)) hr2 hl2
      · cases he
end MT
theorem Met.ofWF {l : Launch} {y : MethodName} {ws ws' : List Jvm.Cond} {rm : Room} {Pc : Array Value → State → Prop} {Qc : Array Value → State → Outcome → State → Prop} {mc ms : Nat} {free : Addr → Prop} {cc : ByteArray} {maxL : Nat} {ret : Option FieldType}
    (hy : plainFor y = true) (hw : ws = Cond.code y cc maxL ret :: ws')
    (body : ∀ p e s m args below meth c s₁, BodyLoose p l y (headSpec ws rm) cc maxL ret e s m args below meth c s₁ → c.maxLocals = maxL → Pc args s →
      W p l e (headSpec ws rm).room s m args below meth c s.heap [] 0 0 (MQ below Qc args s mc ms free) (entryFrame m args maxL)) : Met l y ws rm Pc Qc mc ms free := by
  refine MetFree.of_bodySF (code := cc) (maxLocals := maxL) (ret := ret) hy ?_ ?_
  · intro args s m h hn
    obtain ⟨meth, c, h1, h2, h3, h4, h5, h6, -, -⟩ := Cond.code_spec hn (atoms_spec (ws := ws) h _ (by rw [hw]; exact List.mem_cons_self))
    exact ⟨meth, c, h1, h2, h3, h4, h5, h6⟩
  · intro p e s m args below meth c s₁ B hml hP _
    have hh0 : s₁.heap = s.heap := by rw [B.state]; rfl
    obtain ⟨t, a1, o, b1, b2, b3⟩ := body p e s m args below meth c s₁ B hml hP s₁ hh0 (Stand.of_body B)
    exact ⟨t, o, a1, b1, b2, ⟨b3.1, b3.2⟩⟩
theorem mXt_own (y : Nat) : (mXt y).2.2.2.2.1 ≠ 12 := by
  unfold mXt
  rw [List.getD_eq_getElem?_getD]
  have h : ∀ x ∈ mXL, x.2.2.2.2.1 ≠ 12 := by decide +kernel
  cases hx : mXL[y]? with
  | none => exact (by decide +kernel : mx_0.2.2.2.2.1 ≠ 12)
  | some x => exact h x (List.mem_of_getElem? hx)
theorem mXt_ini (y : Nat) : Nat.beq (mXt y).2.2.2.2.2.2.1 2 = true → (mXt y).1.name = "<init>" := by
  intro h
  have h := mNb.mp h
  have o7 := (mXt_ok y).2.2.2.2.2.2.1
  rw [h] at o7
  exact o7.2.2.1
theorem mSnd_all (l : Launch) (b base : Nat) (dA : Nat → ClassId) (D : va_G) : ∀ d, mSnd l b base dA D d
  | 0 => fun _ _ _ _ _ h _ _ => False.elim h
  | d + 1 => by
    intro y as S r S1 h hS hS1
    obtain ⟨hen, n, hrs⟩ := h
    obtain ⟨o1, o2, o3, o4, o5, o6, o7, o8⟩ := mXt_ok y
    have hmo : Mo S S1 := Rs_mo (Ev_mo d) n _ _ _ _ hrs
    refine Met.ofWF (cc := (mXt y).2.1) (maxL := (mXt y).2.2.1) (ret := (mXt y).2.2.2.1) (ws' := mTb) o1 rfl ?_
    intro p e s m args below meth c s₁ B hml hv
    obtain ⟨rfl, hsz, hP, hKF⟩ := hv
    have hx := B.exec
    have hb := B.bytes
    have hr := B.returns
    have hts : ∀ w ∈ mTb, w.before (as.map (mVal b base)).toArray s = true := fun w hw => atoms_spec (ws := mWd y) B.pre w (List.mem_cons_of_mem _ hw)
    have hown : s.vm.findClass (mCNat (mXt y).2.2.2.2.1) = some m.cls := by
      rw [o6]; exact findClass_of_methodNamed B.named
    have hlocks := B.notSynchronized
    have hin : meth.name = (mXt y).1.name := (name_of_methodNamed B.named B.method).1
    have hle : (lg_sl (as.map (mVal b base))).length ≤ (mXt y).2.2.1 := by rw [mEnt_sl]; exact hen
    have hl := lv_entry (as.map (mVal b base)) (n := (mXt y).2.2.1) hle
    rw [lg_entry_eq]
    generalize (lg_sl (as.map (mVal b base)) ++ List.replicate ((mXt y).2.2.1 - (lg_sl (as.map (mVal b base))).length) Slot.unset).toArray = lr at hl ⊢
    have hls : mLs b base (mXt y).2.2.1 (mEnt as ++ List.replicate ((mXt y).2.2.1 - (mEnt as).length) vN) lr := by
      refine ⟨by rw [List.length_append, List.length_replicate]; omega, hl.1, hl.2.1, fun i v hi hv => ?_⟩
      by_cases hlt : i < (mEnt as).length
      · rw [List.getElem?_append_left hlt] at hi
        have := mEnt_at b base as 0 i v hi hv
        rw [Nat.zero_add] at this
        exact hl.2.2 _ this
      · rw [List.getElem?_append_right (by omega)] at hi
        exact absurd (List.eq_of_mem_replicate (List.mem_of_getElem? hi)) hv
    have hrel : mRel b base dA D s.heap S s.heap [] := ⟨hS, hsz, hP, va_S.rf⟩
    have hq : ∀ (H2 : Heap) (locs2 : List Loc), mRel b base dA D s.heap S1 H2 locs2 → ∀ t : State, t.heap = H2 → s.WarmedH t.vm → mQc b base dA D r S1 (as.map (mVal b base)).toArray s (.returned (r.map (mVal b base))) t := fun H2 locs2 h2 t ht _ => ⟨rfl, by rw [ht]; exact h2.2.1, by rw [ht]; exact h2.2.2.1, h2.2.2.2.F ht⟩
    have K := Rs_snd (l := l) (R := mRm (d + 1) (S1.1.length - S.1.length) (mSl S1.1 - mSl S.1)) (Q := MQ below (mQc b base dA D r S1) (as.map (mVal b base)).toArray s (S1.1.length - S.1.length) (mSl S1.1 - mSl S.1) (fun q => base ≤ q)) (own := (mXt y).2.2.2.2.1) (n0 := S.1.length) (s0 := mSl S.1) (out := (r, S1)) (below := below) (meth := meth) (H0 := s.heap) (e := e) (ret := (mXt y).2.2.2.1)
      (mSnd_all l b base dA D d) hx hb hml hown hts hKF (fun h => hin.trans (mXt_ini y h)) (by omega) (Nat.le_refl (d + 1)) (by show 40 + 42 * d ≤ 42 * (d + 1); omega) hS1 (Nat.le_refl _) (Nat.le_refl _) o8 (fun i mi pc len lr2 H2 locs2 hdg htr hro hr2 => ?_) n 0 _ [] S s.heap [] lr hrs (Nat.le_refl _) (Nat.le_refl _) (fun ho => absurd ho (mXt_own y)) hrel hls
    · rw [Nat.sub_self, Nat.sub_self] at K
      exact K
    · have hq2 := hq H2 locs2 hr2
      have hf : ∀ q ∈ locs2, base ≤ q.base := hr2.2.2.2.2.2
      dsimp only at hro hq2 ⊢
      cases i <;> first
        | exact hro.elim
        | skip
      case ireturn =>
        cases mi <;> first
          | exact hro.elim
          | skip
        · simp only [trb, Bool.and_eq_true, mNb] at htr
          exact absurd htr.2 (mXt_own y)
        · obtain ⟨x, rfl, hx01⟩ := hro
          simp only [trb, Bool.and_eq_true, decide_eq_true_eq, mNb] at htr
          obtain ⟨rfl, hrt⟩ := htr
          rw [hrt] at hr
          refine W.zret (ty := .boolean) hx hb hr ?_ hq2 hf hdg
          rcases hx01 with rfl | rfl <;> rfl
        · obtain ⟨x, rfl⟩ := hro
          simp only [trb, Bool.and_eq_true, decide_eq_true_eq, mNb] at htr
          obtain ⟨rfl, hrt⟩ := htr
          rw [hrt] at hr
          exact W.iret hx hb hr hq2 hf hdg
      case lreturn =>
        obtain ⟨x, rfl⟩ := hro
        simp only [trb, Bool.and_eq_true, decide_eq_true_eq, mNb] at htr
        obtain ⟨⟨rfl, -⟩, hrt⟩ := htr
        rw [hrt] at hr
        exact W.lret hx hb hr hq2 hf hdg
      case areturn =>
        obtain ⟨x, rfl⟩ := hro
        simp only [trb, Bool.and_eq_true, decide_eq_true_eq, mNb] at htr
        obtain ⟨⟨rfl, -⟩, hrt⟩ := htr
        split at hrt
        · next C hC =>
          rw [hC] at hr
          exact W.aret (v := .ref (mAd b base x)) hx hb hr (Or.inl ⟨_, rfl⟩) (Or.inr ⟨_, rfl⟩) hq2 hf hdg
        · cases hrt
      case return_ =>
        subst hro
        simp only [trb, Bool.and_eq_true, decide_eq_true_eq, mNb] at htr
        obtain ⟨⟨rfl, -⟩, hrt⟩ := htr
        rw [hrt] at hr
        exact W.vret hx hb hr hq2 hf hdg
