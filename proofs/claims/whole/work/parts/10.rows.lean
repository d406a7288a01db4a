/-! ===== the machine's rows, in the small machine's words ===== -/
theorem i32_to {a : Int} (h : i32 a) : (Int32.ofInt a).toInt = a := Int32.toInt_ofInt_of_le (by have := h.1; omega) (by have := h.2; omega)
theorem i64_to {a : Int} (h : i64 a) : (Int64.ofInt a).toInt = a := Int64.toInt_ofInt_of_le (by have := h.1; omega) (by have := h.2; omega)
theorem i32_lt {a b : Int} (ha : i32 a) (hb : i32 b) : (Int32.ofInt a < Int32.ofInt b) ↔ a < b := by rw [Int32.lt_iff_toInt_lt, i32_to ha, i32_to hb]
theorem i32_le {a b : Int} (ha : i32 a) (hb : i32 b) : (Int32.ofInt a ≤ Int32.ofInt b) ↔ a ≤ b := by rw [Int32.le_iff_toInt_le, i32_to ha, i32_to hb]
theorem i32_eq {a b : Int} (ha : i32 a) (hb : i32 b) : (Int32.ofInt a = Int32.ofInt b) ↔ a = b := by rw [← Int32.toInt_inj, i32_to ha, i32_to hb]
theorem i64_lt {a b : Int} (ha : i64 a) (hb : i64 b) : (Int64.ofInt a < Int64.ofInt b) ↔ a < b := by rw [Int64.lt_iff_toInt_lt, i64_to ha, i64_to hb]
theorem i64_eq {a b : Int} (ha : i64 a) (hb : i64 b) : (Int64.ofInt a = Int64.ofInt b) ↔ a = b := by rw [← Int64.toInt_inj, i64_to ha, i64_to hb]
theorem i32_0 : i32 0 := ⟨by decide, by decide⟩
theorem i64_0 : i64 0 := ⟨by decide, by decide⟩
theorem i32_min : Int32.minValue.toInt = -2147483648 := by decide +kernel
theorem i32_max : Int32.maxValue.toInt = 2147483647 := by decide +kernel
theorem i64_min : Int64.minValue.toInt = -9223372036854775808 := by decide +kernel
theorem i64_max : Int64.maxValue.toInt = 9223372036854775807 := by decide +kernel
theorem i32_div {a b : Int} (ha : i32 a) (hb : i32 b) : Int32.ofInt (a.tdiv b) = Int32.ofInt a / Int32.ofInt b := Int32.ofInt_tdiv (by rw [i32_min]; exact ha.1) (by rw [i32_max]; exact ha.2) (by rw [i32_min]; exact hb.1) (by rw [i32_max]; exact hb.2)
theorem i32_mod {a b : Int} (ha : i32 a) (hb : i32 b) : Int32.ofInt (a.tmod b) = Int32.ofInt a % Int32.ofInt b := Int32.ofInt_tmod (by rw [i32_min]; exact ha.1) (by rw [i32_max]; exact ha.2) (by rw [i32_min]; exact hb.1) (by rw [i32_max]; exact hb.2)
theorem i64_div {a b : Int} (ha : i64 a) (hb : i64 b) : Int64.ofInt (a.tdiv b) = Int64.ofInt a / Int64.ofInt b := Int64.ofInt_tdiv (by rw [i64_min]; exact ha.1) (by rw [i64_max]; exact ha.2) (by rw [i64_min]; exact hb.1) (by rw [i64_max]; exact hb.2)
theorem i64_mod {a b : Int} (ha : i64 a) (hb : i64 b) : Int64.ofInt (a.tmod b) = Int64.ofInt a % Int64.ofInt b := Int64.ofInt_tmod (by rw [i64_min]; exact ha.1) (by rw [i64_max]; exact ha.2) (by rw [i64_min]; exact hb.1) (by rw [i64_max]; exact hb.2)
theorem i32_ne0 {b : Int} (hb : i32 b) (h : b ≠ 0) : ¬ Int32.ofInt b = 0 := fun q => h ((i32_eq hb i32_0).mp q)
theorem i64_ne0 {b : Int} (hb : i64 b) (h : b ≠ 0) : ¬ Int64.ofInt b = 0 := fun q => h ((i64_eq hb i64_0).mp q)
theorem i32_i64 {a : Int} (ha : i32 a) : (Int32.ofInt a).toInt64 = Int64.ofInt a := Int32.toInt64_ofInt (by rw [i32_min]; exact ha.1) (by rw [i32_max]; exact ha.2)
theorem i32_ix {i : Int} {n : Nat} (h0 : 0 ≤ i) (h1 : i < n) (hn : n < 10000) : vp_in (Int32.ofInt i) n ∧ (Int32.ofInt i).toNatClampNeg = i.toNat := by
  have hi : i32 i := ⟨by omega, by omega⟩
  have ht : (Int32.ofInt i).toNatClampNeg = i.toNat := by
    rw [← Int32.toNat_toInt, i32_to hi]
  refine ⟨fun q => ?_, ht⟩
  rcases q with q | q
  · have := (i32_lt hi i32_0).mp q
    omega
  · rw [ht] at q
    omega
theorem i64_cmp {a b : Int} (ha : i64 a) (hb : i64 b) : lg_cmp (Int64.ofInt a) (Int64.ofInt b) = Int32.ofInt (if a < b then -1 else if b < a then 1 else 0) := by
  unfold lg_cmp
  by_cases h1 : a < b
  · rw [if_pos h1, if_neg (fun q => by have := (i64_lt hb ha).mp q; omega), if_neg (fun q => by have := (i64_eq ha hb).mp q; omega)]
    rfl
  · rw [if_neg h1]
    by_cases h2 : b < a
    · rw [if_pos h2, if_pos ((i64_lt hb ha).mpr h2)]
      rfl
    · rw [if_neg h2, if_neg (fun q => h2 ((i64_lt hb ha).mp q)), if_pos ((i64_eq ha hb).mpr (by omega))]
      rfl
theorem i32_of (a : Int) : i32 (Int32.ofInt a).toInt := ⟨by have h := Int32.minValue_le_toInt (Int32.ofInt a); rw [i32_min] at h; exact h, by have h := Int32.toInt_le (Int32.ofInt a); rw [i32_max] at h; exact h⟩
theorem i64_cmpX {a b : Int} (h : a = b ∨ (i64 a ∧ i64 b)) : lg_cmp (Int64.ofInt a) (Int64.ofInt b) = Int32.ofInt (if a < b then -1 else if b < a then 1 else 0) := by
  rcases h with rfl | ⟨ha, hb⟩
  · unfold lg_cmp
    rw [if_neg (Int.lt_irrefl a), if_neg (Int.lt_irrefl a), if_neg (fun q => by rw [gt_iff_lt, Int64.lt_iff_toInt_lt] at q; omega), if_pos rfl]
    rfl
  · exact i64_cmp ha hb
theorem cmpI_self (k : Jvm.ClassFile.Cond) (x y : Int) : cmpI k x x = cmpI k y y := by cases k <;> simp [cmpI]
theorem mfk_at {c k : Nat} (h : k < (mFT.getD c []).length) : (mFT.getD c [])[k]? = some (mfk c k) := by
  unfold mfk
  generalize mFT.getD c [] = l at h ⊢
  rw [List.getD_eq_getElem?_getD, List.getElem?_eq_getElem h]
  rfl
section MR
variable {p : Program} {l : Launch} {e : Env} {R : Room} {s : State} {m : MethodId} {args : Array Value} {below : List Frame} {meth : Method} {c : Code} {H : Heap} {locs : List Loc} {cells slots : Nat} {Q : State → Prop}
variable {cc : ByteArray} {pc : Nat} {ls : Array Slot} {rest : List Value} {b base : Nat} {dA : Nat → ClassId} {D : va_G} {H0 : Heap} {S : mS}
theorem m_icmp (hexec : p.tables.exec = Jvm.exec) (hb : c.code = cc) {k : Jvm.ClassFile.Cond} {x y : Int} {off : Int} {tgt : Nat} (hx : i32 x) (hy : i32 y) (hdg : decode cc pc = .ok (.if_icmp k off, 3)) (ht : (pc : Int) + off = (tgt : Int))
    (kk : W p l e R s m args below meth c H locs cells slots Q (F0 m (cond (cmpI k x y) tgt (pc + 3)) ls rest)) : W p l e R s m args below meth c H locs cells slots Q (F0 m pc ls (.int (Int32.ofInt y) :: .int (Int32.ofInt x) :: rest)) := by
  cases k
  · refine lv_icmp_eq hexec hb hdg ht (fun h => ?_) (fun h => ?_)
    · have h := (i32_eq hx hy).mp h
      rw [show cmpI .eq x y = true from decide_eq_true h] at kk; exact kk
    · have h : ¬ (x = y) := fun q => h ((i32_eq hx hy).mpr q)
      rw [show cmpI .eq x y = false from decide_eq_false h] at kk; exact kk
  · refine lv_icmp_ne hexec hb hdg ht (fun h => ?_) (fun h => ?_)
    · have h : ¬ (x = y) := fun q => h ((i32_eq hx hy).mpr q)
      rw [show cmpI .ne x y = true by simp [cmpI, h]] at kk; exact kk
    · have h := (i32_eq hx hy).mp h
      rw [show cmpI .ne x y = false by simp [cmpI, h]] at kk; exact kk
  · refine lv_icmp_lt hexec hb hdg ht (fun h => ?_) (fun h => ?_)
    · have h := (i32_lt hx hy).mp h
      rw [show cmpI .lt x y = true from decide_eq_true h] at kk; exact kk
    · have h : ¬ (x < y) := fun q => h ((i32_lt hx hy).mpr q)
      rw [show cmpI .lt x y = false from decide_eq_false h] at kk; exact kk
  · refine lv_icmp_ge hexec hb hdg ht (fun h => ?_) (fun h => ?_)
    · have h := (i32_le hy hx).mp h
      rw [show cmpI .ge x y = true by simp only [cmpI, Bool.not_eq_true', decide_eq_false_iff_not]; omega] at kk; exact kk
    · have h : ¬ (y ≤ x) := fun q => h ((i32_le hy hx).mpr q)
      rw [show cmpI .ge x y = false by simp only [cmpI, Bool.not_eq_false', decide_eq_true_eq]; omega] at kk; exact kk
  · refine lv_icmp_gt hexec hb hdg ht (fun h => ?_) (fun h => ?_)
    · have h := (i32_lt hy hx).mp h
      rw [show cmpI .gt x y = true from decide_eq_true h] at kk; exact kk
    · have h : ¬ (y < x) := fun q => h ((i32_lt hy hx).mpr q)
      rw [show cmpI .gt x y = false from decide_eq_false h] at kk; exact kk
  · refine lv_icmp_le hexec hb hdg ht (fun h => ?_) (fun h => ?_)
    · have h := (i32_le hx hy).mp h
      rw [show cmpI .le x y = true by simp only [cmpI, Bool.not_eq_true', decide_eq_false_iff_not]; omega] at kk; exact kk
    · have h : ¬ (x ≤ y) := fun q => h ((i32_le hx hy).mpr q)
      rw [show cmpI .le x y = false by simp only [cmpI, Bool.not_eq_false', decide_eq_true_eq]; omega] at kk; exact kk
theorem m_icmpX (hexec : p.tables.exec = Jvm.exec) (hb : c.code = cc) {k : Jvm.ClassFile.Cond} {x y : Int} {off : Int} {tgt : Nat} (hxy : x = y ∨ (i32 x ∧ i32 y)) (hdg : decode cc pc = .ok (.if_icmp k off, 3)) (ht : (pc : Int) + off = (tgt : Int))
    (kk : W p l e R s m args below meth c H locs cells slots Q (F0 m (cond (cmpI k x y) tgt (pc + 3)) ls rest)) : W p l e R s m args below meth c H locs cells slots Q (F0 m pc ls (.int (Int32.ofInt y) :: .int (Int32.ofInt x) :: rest)) := by
  rcases hxy with rfl | ⟨hx, hy⟩
  · have e0' : Int32.ofInt (Int32.ofInt x).toInt = Int32.ofInt x := Int32.ofInt_toInt _
    have q := m_icmp (p := p) (l := l) (e := e) (R := R) (s := s) (m := m) (args := args) (below := below) (meth := meth) (c := c) (H := H) (locs := locs) (cells := cells) (slots := slots) (Q := Q) (ls := ls) (rest := rest) (pc := pc) hexec hb (i32_of x) (i32_of x) hdg ht (by rw [cmpI_self k _ x]; exact kk)
    rw [e0'] at q
    exact q
  · exact m_icmp hexec hb hx hy hdg ht kk
theorem m_if (hexec : p.tables.exec = Jvm.exec) (hb : c.code = cc) {k : Jvm.ClassFile.Cond} {x : Int} {off : Int} {tgt : Nat} (hx : i32 x) (hdg : decode cc pc = .ok (.ifCond k off, 3)) (ht : (pc : Int) + off = (tgt : Int))
    (kk : W p l e R s m args below meth c H locs cells slots Q (F0 m (cond (cmpI k x 0) tgt (pc + 3)) ls rest)) : W p l e R s m args below meth c H locs cells slots Q (F0 m pc ls (.int (Int32.ofInt x) :: rest)) := by
  have e0 : (0 : Int32) = Int32.ofInt 0 := rfl
  cases k
  · refine lv_if_eq hexec hb hdg ht (fun h => ?_) (fun h => ?_)
    · have h := (i32_eq hx i32_0).mp h
      rw [show cmpI .eq x 0 = true from decide_eq_true h] at kk; exact kk
    · have h : ¬ (x = 0) := fun q => h ((i32_eq hx i32_0).mpr q)
      rw [show cmpI .eq x 0 = false from decide_eq_false h] at kk; exact kk
  · refine lv_if_ne hexec hb hdg ht (fun h => ?_) (fun h => ?_)
    · have h : ¬ (x = 0) := fun q => h ((i32_eq hx i32_0).mpr q)
      rw [show cmpI .ne x 0 = true by simp [cmpI, h]] at kk; exact kk
    · have h := (i32_eq hx i32_0).mp h
      rw [show cmpI .ne x 0 = false by simp [cmpI, h]] at kk; exact kk
  · refine lv_if_lt hexec hb hdg ht (fun h => ?_) (fun h => ?_)
    · have h := (i32_lt hx i32_0).mp h
      rw [show cmpI .lt x 0 = true from decide_eq_true h] at kk; exact kk
    · have h : ¬ (x < 0) := fun q => h ((i32_lt hx i32_0).mpr q)
      rw [show cmpI .lt x 0 = false from decide_eq_false h] at kk; exact kk
  · refine lv_if_ge hexec hb hdg ht (fun h => ?_) (fun h => ?_)
    · have h := (i32_le i32_0 hx).mp h
      rw [show cmpI .ge x 0 = true by simp only [cmpI, Bool.not_eq_true', decide_eq_false_iff_not]; omega] at kk; exact kk
    · have h : ¬ (0 ≤ x) := fun q => h ((i32_le i32_0 hx).mpr q)
      rw [show cmpI .ge x 0 = false by simp only [cmpI, Bool.not_eq_false', decide_eq_true_eq]; omega] at kk; exact kk
  · refine lv_if_gt hexec hb hdg ht (fun h => ?_) (fun h => ?_)
    · have h := (i32_lt i32_0 hx).mp h
      rw [show cmpI .gt x 0 = true from decide_eq_true h] at kk; exact kk
    · have h : ¬ (0 < x) := fun q => h ((i32_lt i32_0 hx).mpr q)
      rw [show cmpI .gt x 0 = false from decide_eq_false h] at kk; exact kk
  · refine lv_if_le hexec hb hdg ht (fun h => ?_) (fun h => ?_)
    · have h := (i32_le hx i32_0).mp h
      rw [show cmpI .le x 0 = true by simp only [cmpI, Bool.not_eq_true', decide_eq_false_iff_not]; omega] at kk; exact kk
    · have h : ¬ (x ≤ 0) := fun q => h ((i32_le hx i32_0).mpr q)
      rw [show cmpI .le x 0 = false by simp only [cmpI, Bool.not_eq_false', decide_eq_true_eq]; omega] at kk; exact kk
theorem mRel_set {S1 : mS} {H1 : Heap} {a k : Nat} {kd : Nat × Nat} {el : va_E} (hr : mRel b base dA D H0 S H locs) (ha : S.1[a]? = some kd) (h1 : S1.1 = S.1) (hc : ∀ x kd, x ≠ a → mCell b base dA S1 x kd = mCell b base dA S x kd) (he : el = mCell b base dA S1 a kd)
    (hv : va_at D mCl (base + a, el) H1) (z : H1.size = H.size) (oq : ∀ q : Nat, q ≠ base + a → H1[q]? = H[q]?) : mRel b base dA D H0 S1 H1 (locs ++ [⟨base + a, k⟩]) := by
  obtain ⟨h0, hz, hP, hS⟩ := hr
  refine ⟨by rw [h1]; exact h0, by rw [z, hz, h1], ?_, hS.put z oq (Nat.le_add_right _ _)⟩
  rw [← mWs_set ha h1 hc he]
  exact hP.set (mWs_D (b := b) (dA := dA)) (mWs_at ha) hv oq
theorem m_iast (hexec : p.tables.exec = Jvm.exec) (hb : c.code = cc) (hK : va_K D mCl (mTys dA) s) (hr : mRel b base dA D H0 S H locs) {a n : Nat} {i x : Int} (ha : S.1[a]? = some (1, n)) (h0 : 0 ≤ i) (h1 : i < n) (hdg : decode cc pc = .ok (.iastore, 1))
    (kk : ∀ (H1 : Heap) (locs1 : List Loc), mRel b base dA D H0 (S.1, S.2.1, upI S.2.2 a i.toNat x) H1 locs1 → W p l e R s m args below meth c H1 locs1 cells slots Q (F0 m (pc + 1) ls rest)) : W p l e R s m args below meth c H locs cells slots Q (F0 m pc ls (.int (Int32.ofInt x) :: .int (Int32.ofInt i) :: .ref (base + a) :: rest)) := by
  obtain ⟨hin, hx⟩ := i32_ix h0 h1 (hr.1 _ (List.mem_of_getElem? ha))
  have ht : (mTys dA)[0]? = some (dA 0, .int) := rfl
  refine W.iast hexec hb (hr.2.2.1 a _ (mWs_at ha)) ((hK.2 0 _ ht).1 n (fun j => .int (Int32.ofInt (S.2.2 a j)))) (fun q => by cases q) (by show ¬ (_ ∨ (arrV _ _ _).slots.size ≤ _); rw [arrV_size]; exact hin) rfl rfl hdg fun H1 e1 z oq => ?_
  refine kk H1 _ (mRel_set hr ha rfl mCell_I rfl ?_ z oq)
  show H1[base + a]? = some (vp_cell _ _)
  rw [e1]
  rw [vp_cell_i, vp_cell_i, arrV_store]
  congr 2
  funext q
  rw [hx]
  by_cases hq : q = i.toNat
  · subst hq
    simp [updV, upI]
  · simp [updV, upI, hq]
theorem m_last (hexec : p.tables.exec = Jvm.exec) (hb : c.code = cc) (hK : va_K D mCl (mTys dA) s) (hr : mRel b base dA D H0 S H locs) {a n : Nat} {i x : Int} (ha : S.1[a]? = some (2, n)) (h0 : 0 ≤ i) (h1 : i < n) (hdg : decode cc pc = .ok (.lastore, 1))
    (kk : ∀ (H1 : Heap) (locs1 : List Loc), mRel b base dA D H0 (S.1, S.2.1, upI S.2.2 a i.toNat x) H1 locs1 → W p l e R s m args below meth c H1 locs1 cells slots Q (F0 m (pc + 1) ls rest)) : W p l e R s m args below meth c H locs cells slots Q (F0 m pc ls (.long (Int64.ofInt x) :: .int (Int32.ofInt i) :: .ref (base + a) :: rest)) := by
  obtain ⟨hin, hx⟩ := i32_ix h0 h1 (hr.1 _ (List.mem_of_getElem? ha))
  have ht : (mTys dA)[1]? = some (dA 1, .long) := rfl
  refine W.last hexec hb (hr.2.2.1 a _ (mWs_at ha)) ((hK.2 1 _ ht).1 n (fun j => .long (Int64.ofInt (S.2.2 a j)))) (fun q => by cases q) (by show ¬ (_ ∨ (arrV _ _ _).slots.size ≤ _); rw [arrV_size]; exact hin) rfl rfl hdg fun H1 e1 z oq => ?_
  refine kk H1 _ (mRel_set hr ha rfl mCell_I rfl ?_ z oq)
  show H1[base + a]? = some (vp_cell _ _)
  rw [e1]
  rw [vp_cell_l, vp_cell_l, arrV_store]
  congr 2
  funext q
  rw [hx]
  by_cases hq : q = i.toNat
  · subst hq
    simp [updV, upI]
  · simp [updV, upI, hq]
theorem m_zast (hexec : p.tables.exec = Jvm.exec) (hb : c.code = cc) (hK : va_K D mCl (mTys dA) s) (hr : mRel b base dA D H0 S H locs) {a n : Nat} {i x : Int} (ha : S.1[a]? = some (3, n)) (h0 : 0 ≤ i) (h1 : i < n) (h2 : x = 0 ∨ x = 1) (hdg : decode cc pc = .ok (.bastore, 1))
    (kk : ∀ (H1 : Heap) (locs1 : List Loc), mRel b base dA D H0 (S.1, S.2.1, upI S.2.2 a i.toNat x) H1 locs1 → W p l e R s m args below meth c H1 locs1 cells slots Q (F0 m (pc + 1) ls rest)) : W p l e R s m args below meth c H locs cells slots Q (F0 m pc ls (.int (Int32.ofInt x) :: .int (Int32.ofInt i) :: .ref (base + a) :: rest)) := by
  obtain ⟨hin, hx⟩ := i32_ix h0 h1 (hr.1 _ (List.mem_of_getElem? ha))
  have ht : (mTys dA)[2]? = some (dA 2, .boolean) := rfl
  refine W.zast hexec hb (hr.2.2.1 a _ (mWs_at ha)) ((hK.2 2 _ ht).1 n (fun j => .int (Int32.ofInt (S.2.2 a j)))) (fun q => by cases q) (by show ¬ (_ ∨ (arrV _ _ _).slots.size ≤ _); rw [arrV_size]; exact hin) rfl rfl hdg fun H1 e1 z oq => ?_
  refine kk H1 _ (mRel_set hr ha rfl mCell_I rfl ?_ z oq)
  have hnw : narrow .boolean (.int (Int32.ofInt x)) = .int (Int32.ofInt x) := by
    rcases h2 with rfl | rfl <;> rfl
  rw [hnw] at e1
  show H1[base + a]? = some (vp_cell _ _)
  rw [e1]
  rw [vp_cell_i, vp_cell_i, arrV_store]
  congr 2
  funext q
  rw [hx]
  by_cases hq : q = i.toNat
  · subst hq
    simp [updV, upI]
  · simp [updV, upI, hq]
theorem m_aast (hexec : p.tables.exec = Jvm.exec) (hb : c.code = cc) (hK : va_K D mCl (mTys dA) s) (hr : mRel b base dA D H0 S H locs) {a n x t0 ci : Nat} {cA : ClassId} {r : vw_C} {i : Int} {kd : Nat × Nat} (ha : S.1[a]? = some kd) (hn : kd.2 = n) (hcell : mCell b base dA S a kd = .inl (cA, n, .inr (.inr (.inr (.inr fun j => (S.2.1 a j).map (mAd b base))))))
    (hcell2 : mCell b base dA (S.1, upR S.2.1 a i.toNat (some x), S.2.2) a kd = .inl (cA, n, .inr (.inr (.inr (.inr fun j => (upR S.2.1 a i.toNat (some x) a j).map (mAd b base))))))
    (hx : S.1[x]? = some (0, ci)) (hxs : x < mScr) (hc : mCl[ci]? = some r) (ht : (mTys dA)[t0]? = some (cA, .object r.1)) (h0 : 0 ≤ i) (h1 : i < n) (hdg : decode cc pc = .ok (.aastore, 1))
    (kk : ∀ (H1 : Heap) (locs1 : List Loc), mRel b base dA D H0 (S.1, upR S.2.1 a i.toNat (some x), S.2.2) H1 locs1 → W p l e R s m args below meth c H1 locs1 cells slots Q (F0 m (pc + 1) ls rest)) : W p l e R s m args below meth c H locs cells slots Q (F0 m pc ls (.ref (base + x) :: .int (Int32.ofInt i) :: .ref (base + a) :: rest)) := by
  obtain ⟨hin, hix⟩ := i32_ix h0 h1 (by rw [← hn]; exact hr.1 _ (List.mem_of_getElem? ha))
  obtain ⟨r', hr', cellV, g1, g2, g3, -⟩ := hr.2.2.1 x _ (mWs_at hx)
  obtain rfl : r' = r := Option.some.inj (hr'.symm.trans hc)
  have hcls := (hK.1 ci r' hc).2
  obtain ⟨kA, comp, k1, k2, k3, -⟩ := (hK.2 t0 _ ht).2
  have hcomp : comp = D.1 ci := Option.some.inj (k3.symm.trans hcls.1)
  subst hcomp
  obtain ⟨kC, hkC, -⟩ := hcls.2
  have hat := hr.2.2.1 a _ (mWs_at ha)
  rw [hcell] at hat
  have hlt : (Int32.ofInt i).toNatClampNeg < n := Nat.not_le.mp fun q => hin (Or.inr q)
  have hneg : ¬ Int32.ofInt i < 0 := fun q => hin (Or.inl q)
  refine W.aast hexec hb hat (fun q h => by cases h) (fun h => by cases h) k1 k2 rfl hkC ⟨hneg, by show _ < (arrV _ _ _).slots.size; rw [arrV_size]; exact hlt⟩ g1 (fun q h => by rw [g3] at h; cases h) (by rw [g2]; exact hkC) (by rw [g2]; exact va_assign hcls) rfl rfl hdg fun H1 e1 z oq => ?_
  refine kk H1 _ (mRel_set hr ha rfl mCell_R hcell2.symm ?_ z oq)
  show H1[base + a]? = some (vp_cell _ _)
  rw [e1]
  rw [vp_cell_q, vp_cell_q, arrV_store]
  congr 2
  funext q
  rw [hix]
  by_cases hq : q = i.toNat
  · subst hq
    simp [updV, upR, va_rf, mAd_lt hxs]
  · simp [updV, upR, hq]
theorem mFs_set {a k c : Nat} {S1 : mS} {t : Nat} {v : Value} (hk : (mFT.getD c [])[k]? = some t) (hv : mFld b base S1 a k t = v) (ho : ∀ j t, j ≠ k → mFld b base S1 a j t = mFld b base S a j t) : (mFs b base S a c).set k v = mFs b base S1 a c := by
  subst hv
  apply List.ext_getElem?
  intro i
  unfold mFs
  rw [List.getElem?_set, List.length_mapIdx]
  by_cases hi : k = i
  · subst hi
    rw [if_pos rfl, if_pos (List.getElem?_eq_some_iff.mp hk).1, List.getElem?_mapIdx, hk]
    rfl
  · rw [if_neg hi, List.getElem?_mapIdx, List.getElem?_mapIdx]
    cases (mFT.getD c [])[i]? with
    | none => rfl
    | some x => simp only [Option.map_some]; rw [ho i x (fun q => hi q.symm)]
theorem m_put (hexec : p.tables.exec = Jvm.exec) (hb : c.code = cc) {own : String} {ci k index : Nat} (hts : ∀ w ∈ mTb, w.before args s = true) (hci : ci < 11) (hown : s.vm.findClass own = some m.cls) (hK : va_K D mCl (mTys dA) s) (hr : mRel b base dA D H0 S H locs)
    {a t : Nat} {v : Value} {S1 : mS} (ha : S.1[a]? = some (0, ci)) (hk : k < (mClat ci).2.2) (hlink : Cond.fieldLink own index (mClat ci).1 ((mClat ci).2.1 k).2.1 ((mClat ci).2.1 k).2.2.1 ∈ mTb)
    (hfin : ((mClat ci).2.1 k).2.2.2 = false ∨ (meth.name = "<init>" ∧ (mClat ci).1 = own)) (ht : mfk ci k = t) (hv : mFld b base S1 a k t = v) (ho : ∀ j t, j ≠ k → mFld b base S1 a j t = mFld b base S a j t) (h1 : S1.1 = S.1) (hc1 : ∀ x kd, x ≠ a → mCell b base dA S1 x kd = mCell b base dA S x kd)
    (hfit : match t with
      | 0 => ∃ x, v = .int x
      | 1 => ∃ x, v = .long x
      | 2 => ∃ x, v = .ref x
      | 3 => v = .int 0 ∨ v = .int 1
      | _ => False)
    (hdg : decode cc pc = .ok (.putfield index, 3))
    (kk : ∀ (H1 : Heap) (locs1 : List Loc), mRel b base dA D H0 S1 H1 locs1 → W p l e R s m args below meth c H1 locs1 cells slots Q (F0 m (pc + 3) ls rest)) : W p l e R s m args below meth c H locs cells slots Q (F0 m pc ls (v :: .ref (base + a) :: rest)) := by
  obtain ⟨C, T, N, ty, q1, q2, q3, hin, hty, hnm, -, -, hN, hC, htc⟩ := mC_ok ci hci
  rw [q2] at hk hlink hfin
  have hk : k < N := hk
  have hlink : Cond.fieldLink own index C (T k).2.1 (T k).2.2.1 ∈ mTb := hlink
  have hap := va_apart (own := own) hts hin ty hty hnm hK q1
  have hat := hr.2.2.1 a _ (mWs_at ha)
  obtain ⟨r, e1, cell, c1, c2, c3, c4⟩ := id hat
  have hrr : r = (C, T, N) := Option.some.inj (e1.symm.trans q1)
  subst hrr
  obtain ⟨hSl, hfc, kC, hkC, hkind⟩ := hK.1 ci _ q1
  obtain ⟨cf, kf, fi, f, hi, hsl⟩ := hSl k hk
  have hlay := hts _ (hin _ (u_in_lay hk))
  have hst := (u_facts hfc hkC (u_lays hts hin hk) hi).1
  have hd : parseFieldDescriptor (T k).2.2.1 = some (ty k) := hty k hk
  have hnf : narrow (ty k) v = v ∧ fits (ty k) v = true := by
    have h2 := htc k hk
    rw [ht] at h2
    subst hN
    cases hy : ty k <;> rw [hy] at h2 <;> first
      | exact h2.elim
      | (subst h2; first
          | (rcases hfit with rfl | rfl <;> exact ⟨rfl, rfl⟩)
          | (obtain ⟨x, rfl⟩ := hfit; exact ⟨rfl, rfl⟩))
  have hkt : (mFT.getD ci [])[k]? = some t := by
    have hl : k < (mFT.getD ci []).length := by rw [← hN]; exact hk
    rw [← ht]; exact mfk_at hl
  have hlen : k < (mFs b base S a ci).length := by
    unfold mFs
    rw [List.length_mapIdx, ← hN]; exact hk
  have hlk := hts _ hlink
  have hTC := hC k hk
  have hend : ∀ H' : Heap, H'[base + a]? = some (cell.setSlot f.slot v) → va_at D mCl (base + a, mCell b base dA S1 a (0, ci)) H' := fun H' e1 => by
    rw [hsl] at e1
    refine ⟨(C, T, N), q1, t_OB.to (V := updV (vp_V (mFs b base S a ci)) k v) ⟨_, e1, c2, c3, t_set c4 hap hk v⟩ (fun j _ => ?_)⟩
    rw [vp_updV_set hlen, mFs_set hkt hv ho]
  unfold u_lay at hlay
  cases hff : (T k).2.2.2 with
  | false =>
    rw [if_neg (by rw [hff]; decide)] at hlay
    have h6 := u_store hfc hkC hkind hlay hi hd hnf.1 hnf.2
    rw [hTC] at hi
    refine W.putK hexec hb (f := f) ⟨hown, hlk, ⟨_, _, _, hi⟩, hst⟩ (by rw [c2]; exact h6) c1 c3 (by rw [hsl]; exact k2_hasslot (c4 k hk)) rfl rfl hdg fun H' e1 e2 e3 => ?_
    exact kk H' _ (mRel_set hr ha h1 hc1 rfl (hend H' e1) e2 e3)
  | true =>
    rw [if_pos hff] at hlay
    have hfin2 : meth.name = "<init>" ∧ C = own := by
      rcases hfin with h | h
      · rw [show (T k).2.2.2 = false from h] at hff; cases hff
      · exact h
    have hcf : m.cls = cf := by
      obtain ⟨_, _, c', _, _, _, -, -, hf', -, -, -, hown2, -⟩ := Cond.laysFinal_spec hlay
      have e1 : c' = cf := by have := hi.symm.trans hf'; simp at this; exact this.1.symm
      rw [hTC, hfin2.2] at hown2
      rw [← e1]; exact Option.some.inj (hown.symm.trans hown2)
    have h6 := u_fits hfc hkC hkind (Or.inr hlay) hi hd hnf.1 hnf.2
    rw [hTC] at hi
    refine W.putFinK hexec hb hown hlk hi hst hcf hfin2.1 (by rw [c2]; exact h6) c1 c3 (by rw [hsl]; exact k2_hasslot (c4 k hk)) rfl rfl hdg fun H' e1 e2 e3 => ?_
    exact kk H' _ (mRel_set hr ha h1 hc1 rfl (hend H' e1) e2 e3)
theorem m_get (hexec : p.tables.exec = Jvm.exec) (hb : c.code = cc) {own : String} {ci k index : Nat} (hts : ∀ w ∈ mTb, w.before args s = true) (hci : ci < 11) (hown : s.vm.findClass own = some m.cls) (hK : va_K D mCl (mTys dA) s) (hr : mRel b base dA D H0 S H locs)
    {a : Nat} (ha : S.1[a]? = some (0, ci)) (hk : k < (mClat ci).2.2) (hlink : Cond.fieldLink own index (mClat ci).1 ((mClat ci).2.1 k).2.1 ((mClat ci).2.1 k).2.2.1 ∈ mTb)
    (hdg : decode cc pc = .ok (.getfield index, 3))
    (kk : W p l e R s m args below meth c H locs cells slots Q (F0 m (pc + 3) ls (mVal b base (mfv S a k (mfk ci k)) :: rest))) : W p l e R s m args below meth c H locs cells slots Q (F0 m pc ls (.ref (base + a) :: rest)) := by
  obtain ⟨C, T, N, ty, q1, q2, q3, hin, hty, hnm, -, -, hN, hC, htc⟩ := mC_ok ci hci
  rw [q2] at hk hlink
  have hk : k < N := hk
  have hlink : Cond.fieldLink own index C (T k).2.1 (T k).2.2.1 ∈ mTb := hlink
  have hl : k < (mFT.getD ci []).length := by rw [← hN]; exact hk
  have hv : (mFs b base S a ci)[k]? = some (mVal b base (mfv S a k (mfk ci k))) := by
    unfold mFs
    rw [List.getElem?_mapIdx, mfk_at hl, mFld_eq]
    rfl
  exact va_get hexec hb hts hin hown hK hr.2.2.1 a (mWs_at ha) q1 k hk (hts _ hlink) (fun x h => by rw [hC k hk] at h; exact h) hv hdg kk
end MR
