/-! ===== the model's edge query ===== -/
/-- bridges: still to be shown -/
def BRQ : Prop := ∀ f, Cok 999 f → ∀ (k : Nat) (e : Nat → Int), (rowsF f)[k]? = some e → e 10 = if mBrK ((rowsF f).map endK) k = true then 1 else 0
theorem ptAt_ptB {f : Cv} (hf : Cok 999 f) (k : Int) : ptB (ptAt (cornF f) k) := by
  unfold ptAt
  cases e : (cornF f)[k.toNat]? with
  | none => exact ⟨⟨by decide, by decide⟩, by decide, by decide⟩
  | some P => exact corn_ptB hf P (List.mem_of_getElem? e)
theorem lenE_le {f : Cv} (hf : Cok 999 f) (e : Nat → Int) : -10000000000000 ≤ lenE (cornF f) e ∧ lenE (cornF f) e ≤ 10000000000000 := by
  have b1 := ptAt_ptB hf (e 5)
  have b2 := ptAt_ptB hf (e 4)
  unfold ptB at b1 b2
  unfold lenE
  split
  · have h1 : (((ptAt (cornF f) (e 5)).1 - (ptAt (cornF f) (e 4)).1).tdiv (e 6)).natAbs ≤ ((ptAt (cornF f) (e 5)).1 - (ptAt (cornF f) (e 4)).1).natAbs := by
      rw [Int.natAbs_tdiv]; exact Nat.div_le_self _ _
    omega
  · have h1 : (((ptAt (cornF f) (e 5)).2.1 - (ptAt (cornF f) (e 4)).2.1).tdiv (e 7)).natAbs ≤ ((ptAt (cornF f) (e 5)).2.1 - (ptAt (cornF f) (e 4)).2.1).natAbs := by
      rw [Int.natAbs_tdiv]; exact Nat.div_le_self _ _
    omega
theorem mo_edge {s : Sta} {M : mM} {a k w : Int} (hG : GEO) (hE : GEOE) (hM : GEOM) (hBr : BRQ) (c : MI s M) (ha : i32 a) (hk : i32 k) (hw : i32 w) : EQ 12 213 [vR 155, vI a, vI k, vI w] M (MoQ M (dEdge a k w s) s) := by
  refine q_in (ls := [vR 155, vI a, vI k, vI w, vN]) mq_213 (ml_213 rfl) rfl fun D hD => ?_
  unfold dEdge
  by_cases q : isCu a = true
  · rw [if_pos q]
    have q := isCu_iff.mp q
    obtain ⟨A, rfl⟩ : ∃ z : Nat, a = (z : Int) := ⟨a.toNat, by omega⟩
    have hA : A < 2 := by omega
    have hkn := m_knows hE hM c
    have hf : Cok 999 (selF A s.2.1 s.2.2.1) := Cok_sel (a := A) c.2.1.2.1 c.2.1.2.2
    have hsel := fun N (z : MV s.2.1 s.2.2.1 N) => MV_sel hA z
    generalize hh : selF A s.2.1 s.2.2.1 = h at *
    have hlen : ∀ N, MV s.2.1 s.2.2.1 N → N 172 ((A : Int)).toNat = ((rowsF h).length : Int) ∧ (rowsF h).length ≤ 30 := fun N z => ⟨(hsel N z).2.1, (hsel N z).2.2.1⟩
    by_cases qk : 0 ≤ k ∧ k < (rowsF h).length
    · obtain ⟨k, rfl⟩ : ∃ z : Nat, k = (z : Int) := ⟨k.toNat, by omega⟩
      have hkl : k < (rowsF h).length := by omega
      have hr : (rowsF h)[k]? = some ((rowsF h)[k]'hkl) := List.getElem?_eq_getElem hkl
      rw [if_pos (by omega), Int.toNat_natCast, hr]
      generalize hPost : MoQ M (if rngB w 10 = true then toldR ((rowsF h)[k]'hkl) w else -1000002) s = Post
      have hi : (40 : Int) * (A : Int) + (k : Int) = ((40 * A + k : Nat) : Int) := by omega
      have pre : (∀ N, MI s N → mFr M N → mvC A h N → mvE A h N → Wp mc_213 D 43 [vR 155, vI A, vI k, vI w, vI ((40 * A + k : Nat) : Int)] [] N Post) → Wp mc_213 D 0 [vR 155, vI A, vI k, vI w, vN] [] M Post := by
        intro hgo
        have hgo2 : ∀ N, MI s N → mFr M N → MV s.2.1 s.2.2.1 N → Wp mc_213 D 43 [vR 155, vI A, vI k, vI w, vI ((40 * A + k : Nat) : Int)] [] N Post := fun N z1 z2 z3 => hgo N z1 z2 (hsel N z3).1 (hsel N z3).2
        clear hgo hPost hr
        generalize (rowsF h).length = m at *
        refine w_iload rfl rfl ?_
        refine w_call (Or.inl rfl) (m_isCurve1 M q) (by omega) nof_165 rfl rfl rfl rfl trivial rfl ?_
        refine w_if_ne (tgt := 10) rfl (by first | assumption | exact i32_0 | (unfold i32 at *; omega)) rfl (fun _ => ?_) (fun c => absurd c (by decide))
        refine w_aload rfl rfl ?_
        refine w_callQ (Or.inr rfl) (hkn) (by omega) nof_187 rfl rfl rfl rfl (by first | rfl | (show cKB[_]? = _; assumption)) (fun r11 M11 hq11 => ?_)
        obtain ⟨rfl, w1, w2, w3, w4⟩ := hq11
        have h172 := (hlen M11 w3).1
        have h30 := (hlen M11 w3).2
        refine w_iload rfl rfl (w_i2l rfl (by first | assumption | exact i32_0 | (unfold i32 at *; omega)) (w_lconst rfl (w_aload rfl rfl (w_getR rfl (by first | rfl | assumption) rfl (by first | rfl | assumption) (w_iload rfl rfl (w_ialoadV rfl (by first | rfl | assumption) (by omega) (by omega) (h172) (w_iconst rfl ?_)))))))
        refine w_isub rfl (w_i2l rfl (by first | assumption | exact i32_0 | (unfold i32 at *; omega)) ?_)
        refine w_call (Or.inl rfl) (m_in1 (v := k) (l := 0) (m := (m : Int) - 1) M11 (by unfold i64; omega) (by unfold i64; omega) (by unfold i64; omega) (by omega)) (by omega) nof_150 rfl rfl rfl rfl trivial rfl ?_
        refine w_if_ne (tgt := 35) rfl (by first | assumption | exact i32_0 | (unfold i32 at *; omega)) rfl (fun _ => ?_) (fun c => absurd c (by decide))
        refine w_iconst rfl (w_iload rfl rfl (w_imul rfl (w_iload rfl rfl (w_iadd rfl ?_))))
        rw [hi]
        refine w_istore (ls2 := [_, _, _, _, _]) rfl rfl rfl ?_
        exact hgo2 _ w1 w2 w3
      refine pre fun N n1 n2 n3 n4 => ?_
      clear pre hkn hsel hlen
      have hl16 := n3.2.1
      have hl30 := n4.2.1
      have hok := rowsF_ok hf hl16 (hG h hf)
      have hLQ := rowsF_lenQ hf hl16 (hG h hf)
      have hx := mv_at n4 hok hkl
      have hq := hLQ _ (List.getElem_mem hkl)
      have hro := hok _ (List.getElem_mem hkl)
      obtain ⟨p, r, pr, r21, -, -, e0, e1, e3⟩ := rowsF_wt hf hl16 _ (List.getElem_mem hkl)
      have hten := hBr h hf k _ hr
      have hib := m_isBridge hA n4 hok hl16 hkl
      have hlo := m_longOf (M := N) hA hf n3 n4 hok rfl hLQ hkl
      have hll := lenE_le hf ((rowsF h)[k]'hkl)
      have hms : ∀ N2, BrF N N2 → MI s N2 ∧ mFr N N2 := fun N2 z => ⟨MI_fr n1 (fun j hj => by rw [z 155 (by decide)]) (fun b hb => z b (by omega)), fun b hb => z b (by omega)⟩
      have hfin : ∀ r N2, MI s N2 → mFr N N2 → r = (if rngB w 10 = true then toldR ((rowsF h)[k]'hkl) w else -1000002) → Post (some (vI r)) N2 := by
        intro r N2 z1 z2 z3
        rw [← hPost, z3]
        exact ⟨rfl, z1, mFr_tr n2 z2⟩
      clear hPost hLQ hok hr hro
      generalize ((rowsF h)[k]'hkl) = e at *
      obtain ⟨⟨x0, x1⟩, ⟨x4, x5⟩, ⟨x6, x7⟩, hed⟩ := hx
      have hbd := m_isBounded (j := 40 * A + k) (M := N) (by omega) x5 hed.2.2.2.1
      have hwt := m_weight (j := 40 * A + k) (p := p) (q := r) (M := N) (by omega) (by omega) (by omega) (x0.trans e0) (x1.trans e1)
      have hj80 : 40 * A + k < 80 := by omega
      have hab := m_above (lenE (cornF h) e) N hll
      have hbl := m_below (lenE (cornF h) e) N hll
      clear hll hed hkl
      generalize 40 * A + k = j at *
      generalize mBrK ((rowsF h).map endK) k = br at *
      unfold lenQ at hq
      generalize lenE (cornF h) e = len at *
      by_cases c0 : w = 0
      · subst c0
        have hgo := hfin (e 0) N n1 (mFr_rfl N) rfl
        refine w_iload rfl rfl ?_
        skip
        · skip
          refine w_tsw (tgt := 100) rfl (by first | assumption | exact i32_0 | (unfold i32 at *; omega)) (by rfl) ?_
          refine w_aload rfl rfl (w_getR rfl (by first | rfl | assumption) rfl (by first | rfl | assumption) (w_iload rfl rfl (w_ialoadV rfl (by first | rfl | assumption) (by omega) (by omega) (x0) ?_)))
          exact w_ireturn rfl hgo
      · by_cases c1 : w = 1
        · subst c1
          have hgo := hfin (e 1) N n1 (mFr_rfl N) rfl
          refine w_iload rfl rfl ?_
          skip
          · skip
            refine w_tsw (tgt := 108) rfl (by first | assumption | exact i32_0 | (unfold i32 at *; omega)) (by rfl) ?_
            refine w_aload rfl rfl (w_getR rfl (by first | rfl | assumption) rfl (by first | rfl | assumption) (w_iload rfl rfl (w_ialoadV rfl (by first | rfl | assumption) (by omega) (by omega) (x1) ?_)))
            exact w_ireturn rfl hgo
        · by_cases c2 : w = 2
          · subst c2
            have hgo := hfin (lnG p r : Int) N n1 (mFr_rfl N) e3.symm
            refine w_iload rfl rfl ?_
            skip
            · skip
              refine w_tsw (tgt := 116) rfl (by first | assumption | exact i32_0 | (unfold i32 at *; omega)) (by rfl) ?_
              refine w_aload rfl rfl (w_iload rfl rfl ?_)
              refine w_call (Or.inr rfl) ((hwt)) (by omega) nof_214 rfl rfl rfl rfl (by first | rfl | (show cKB[_]? = _; assumption)) rfl ?_
              exact w_ireturn rfl hgo
          · by_cases c3 : w = 3
            · subst c3
              have hgo := hfin (e 4) N n1 (mFr_rfl N) rfl
              refine w_iload rfl rfl ?_
              skip
              · skip
                refine w_tsw (tgt := 123) rfl (by first | assumption | exact i32_0 | (unfold i32 at *; omega)) (by rfl) ?_
                refine w_aload rfl rfl (w_getR rfl (by first | rfl | assumption) rfl (by first | rfl | assumption) (w_iload rfl rfl (w_ialoadV rfl (by first | rfl | assumption) (by omega) (by omega) (x4) ?_)))
                exact w_ireturn rfl hgo
            · by_cases c4 : w = 4
              · subst c4
                have hgo := hfin (e 5) N n1 (mFr_rfl N) rfl
                refine w_iload rfl rfl ?_
                skip
                · skip
                  refine w_tsw (tgt := 131) rfl (by first | assumption | exact i32_0 | (unfold i32 at *; omega)) (by rfl) ?_
                  refine w_aload rfl rfl (w_getR rfl (by first | rfl | assumption) rfl (by first | rfl | assumption) (w_iload rfl rfl (w_ialoadV rfl (by first | rfl | assumption) (by omega) (by omega) (x5) ?_)))
                  exact w_ireturn rfl hgo
              · by_cases c5 : w = 5
                · subst c5
                  have hgo := hfin (e 6) N n1 (mFr_rfl N) rfl
                  refine w_iload rfl rfl ?_
                  skip
                  · skip
                    refine w_tsw (tgt := 139) rfl (by first | assumption | exact i32_0 | (unfold i32 at *; omega)) (by rfl) ?_
                    refine w_aload rfl rfl (w_getR rfl (by first | rfl | assumption) rfl (by first | rfl | assumption) (w_iload rfl rfl (w_ialoadV rfl (by first | rfl | assumption) (by omega) (by omega) (x6) ?_)))
                    exact w_ireturn rfl hgo
                · by_cases c6 : w = 6
                  · subst c6
                    have hgo := hfin (e 7) N n1 (mFr_rfl N) rfl
                    refine w_iload rfl rfl ?_
                    skip
                    · skip
                      refine w_tsw (tgt := 147) rfl (by first | assumption | exact i32_0 | (unfold i32 at *; omega)) (by rfl) ?_
                      refine w_aload rfl rfl (w_getR rfl (by first | rfl | assumption) rfl (by first | rfl | assumption) (w_iload rfl rfl (w_ialoadV rfl (by first | rfl | assumption) (by omega) (by omega) (x7) ?_)))
                      exact w_ireturn rfl hgo
                  · by_cases c7 : w = 7
                    · subst c7
                      by_cases z5 : e 5 = -1000000
                      · rw [if_pos z5] at hbd
                        have hgo := hfin (-1000000) N n1 (mFr_rfl N) (hq.1 z5).1.symm
                        refine w_iload rfl rfl ?_
                        skip
                        · skip
                          refine w_tsw (tgt := 155) rfl (by first | assumption | exact i32_0 | (unfold i32 at *; omega)) (by rfl) ?_
                          refine w_aload rfl rfl (w_iload rfl rfl ?_)
                          refine w_call (Or.inr rfl) ((hbd)) (by omega) nof_215 rfl rfl rfl rfl (by first | rfl | (show cKB[_]? = _; assumption)) rfl ?_
                          refine w_if_eq (tgt := 178) rfl (by first | assumption | exact i32_0 | (unfold i32 at *; omega)) rfl (fun _ => ?_) (fun c => absurd c (by decide))
                          refine w_iconst rfl ?_
                          exact w_ireturn rfl hgo
                      · rw [if_neg z5] at hbd
                        have hgo := hfin (numP len) N n1 (mFr_rfl N) (hq.2 z5).2.2.2.1.symm
                        have hlo := hlo z5
                        refine w_iload rfl rfl ?_
                        skip
                        · skip
                          refine w_tsw (tgt := 155) rfl (by first | assumption | exact i32_0 | (unfold i32 at *; omega)) (by rfl) ?_
                          refine w_aload rfl rfl (w_iload rfl rfl ?_)
                          refine w_call (Or.inr rfl) ((hbd)) (by omega) nof_215 rfl rfl rfl rfl (by first | rfl | (show cKB[_]? = _; assumption)) rfl ?_
                          refine w_if_eq (tgt := 178) rfl (by first | assumption | exact i32_0 | (unfold i32 at *; omega)) rfl (fun c => absurd c (by decide)) (fun _ => ?_)
                          refine w_aload rfl rfl (w_iload rfl rfl (w_iload rfl rfl ?_))
                          refine w_call (Or.inr rfl) ((hlo)) (by omega) nof_216 rfl rfl rfl rfl (by first | rfl | (show cKB[_]? = _; assumption)) rfl ?_
                          refine w_call (Or.inl rfl) ((hab)) (by omega) nof_209 rfl rfl rfl rfl trivial rfl ?_
                          refine w_l2i rfl (w_goto (tgt := 180) rfl rfl ?_)
                          exact w_ireturn rfl hgo
                    · by_cases c8 : w = 8
                      · subst c8
                        by_cases z5 : e 5 = -1000000
                        · rw [if_pos z5] at hbd
                          have hgo := hfin (-1000000) N n1 (mFr_rfl N) (hq.1 z5).2.symm
                          refine w_iload rfl rfl ?_
                          skip
                          · skip
                            refine w_tsw (tgt := 181) rfl (by first | assumption | exact i32_0 | (unfold i32 at *; omega)) (by rfl) ?_
                            refine w_aload rfl rfl (w_iload rfl rfl ?_)
                            refine w_call (Or.inr rfl) ((hbd)) (by omega) nof_215 rfl rfl rfl rfl (by first | rfl | (show cKB[_]? = _; assumption)) rfl ?_
                            refine w_if_eq (tgt := 204) rfl (by first | assumption | exact i32_0 | (unfold i32 at *; omega)) rfl (fun _ => ?_) (fun c => absurd c (by decide))
                            refine w_iconst rfl ?_
                            exact w_ireturn rfl hgo
                        · rw [if_neg z5] at hbd
                          have hgo := hfin (denP len) N n1 (mFr_rfl N) (hq.2 z5).2.2.2.2.symm
                          have hlo := hlo z5
                          refine w_iload rfl rfl ?_
                          skip
                          · skip
                            refine w_tsw (tgt := 181) rfl (by first | assumption | exact i32_0 | (unfold i32 at *; omega)) (by rfl) ?_
                            refine w_aload rfl rfl (w_iload rfl rfl ?_)
                            refine w_call (Or.inr rfl) ((hbd)) (by omega) nof_215 rfl rfl rfl rfl (by first | rfl | (show cKB[_]? = _; assumption)) rfl ?_
                            refine w_if_eq (tgt := 204) rfl (by first | assumption | exact i32_0 | (unfold i32 at *; omega)) rfl (fun c => absurd c (by decide)) (fun _ => ?_)
                            refine w_aload rfl rfl (w_iload rfl rfl (w_iload rfl rfl ?_))
                            refine w_call (Or.inr rfl) ((hlo)) (by omega) nof_216 rfl rfl rfl rfl (by first | rfl | (show cKB[_]? = _; assumption)) rfl ?_
                            refine w_call (Or.inl rfl) ((hbl)) (by omega) nof_211 rfl rfl rfl rfl trivial rfl ?_
                            refine w_l2i rfl (w_goto (tgt := 206) rfl rfl ?_)
                            exact w_ireturn rfl hgo
                      · by_cases c9 : w = 9
                        · subst c9
                          cases br with
                          | true =>
                            have hgo := fun N2 z => hfin 1 N2 (hms N2 z).1 (hms N2 z).2 hten.symm
                            refine w_iload rfl rfl ?_
                            skip
                            · skip
                              refine w_tsw (tgt := 207) rfl (by first | assumption | exact i32_0 | (unfold i32 at *; omega)) (by rfl) ?_
                              refine w_aload rfl rfl (w_iload rfl rfl (w_iload rfl rfl ?_))
                              refine w_callQ (Or.inr rfl) (hib) (by omega) nof_217 rfl rfl rfl rfl (by first | rfl | (show cKB[_]? = _; assumption)) (fun r211 M211 hq211 => ?_)
                              obtain ⟨rfl, w1⟩ := hq211
                              refine w_if_eq (tgt := 221) rfl (by first | assumption | exact i32_0 | (unfold i32 at *; omega)) rfl (fun c => absurd c (by decide)) (fun _ => ?_)
                              refine w_iconst rfl (w_goto (tgt := 222) rfl rfl ?_)
                              exact w_ireturn rfl (hgo _ w1)
                          | false =>
                            have hgo := fun N2 z => hfin 0 N2 (hms N2 z).1 (hms N2 z).2 hten.symm
                            refine w_iload rfl rfl ?_
                            skip
                            · skip
                              refine w_tsw (tgt := 207) rfl (by first | assumption | exact i32_0 | (unfold i32 at *; omega)) (by rfl) ?_
                              refine w_aload rfl rfl (w_iload rfl rfl (w_iload rfl rfl ?_))
                              refine w_callQ (Or.inr rfl) (hib) (by omega) nof_217 rfl rfl rfl rfl (by first | rfl | (show cKB[_]? = _; assumption)) (fun r211 M211 hq211 => ?_)
                              obtain ⟨rfl, w1⟩ := hq211
                              refine w_if_eq (tgt := 221) rfl (by first | assumption | exact i32_0 | (unfold i32 at *; omega)) rfl (fun _ => ?_) (fun c => absurd c (by decide))
                              refine w_iconst rfl ?_
                              exact w_ireturn rfl (hgo _ w1)
                        · have hr : rngB w 10 = false := decide_eq_false (by omega)
                          have hgo := hfin (-1000002) N n1 (mFr_rfl N) (by rw [hr]; rfl)
                          refine w_iload rfl rfl ?_
                          skip
                          · skip
                            refine w_tsw (tgt := 223) rfl (by first | assumption | exact i32_0 | (unfold i32 at *; omega)) (by rw [show decide (w < 0 ∨ 9 < w) = true from decide_eq_true (by omega)]; rfl) ?_
                            refine w_iconst rfl ?_
                            exact w_ireturn rfl hgo
    · have hno : (if 0 ≤ k then (rowsF h)[k.toNat]? else none) = none := by
        by_cases z : 0 ≤ k
        · rw [if_pos z]
          exact List.getElem?_eq_none_iff.mpr (by omega)
        · rw [if_neg z]
      rw [hno]
      unfold i32 at hk
      clear hno
      generalize (rowsF h).length = m at *
      refine w_iload rfl rfl ?_
      refine w_call (Or.inl rfl) (m_isCurve1 M q) (by omega) nof_165 rfl rfl rfl rfl trivial rfl ?_
      refine w_if_ne (tgt := 10) rfl (by first | assumption | exact i32_0 | (unfold i32 at *; omega)) rfl (fun _ => ?_) (fun c => absurd c (by decide))
      refine w_aload rfl rfl ?_
      refine w_callQ (Or.inr rfl) (hkn) (by omega) nof_187 rfl rfl rfl rfl (by first | rfl | (show cKB[_]? = _; assumption)) (fun r11 M11 hq11 => ?_)
      obtain ⟨rfl, w1, w2, w3, w4⟩ := hq11
      have h172 := (hlen M11 w3).1
      have h30 := (hlen M11 w3).2
      refine w_iload rfl rfl (w_i2l rfl (by first | assumption | exact i32_0 | (unfold i32 at *; omega)) (w_lconst rfl (w_aload rfl rfl (w_getR rfl (by first | rfl | assumption) rfl (by first | rfl | assumption) (w_iload rfl rfl (w_ialoadV rfl (by first | rfl | assumption) (by omega) (by omega) (h172) (w_iconst rfl ?_)))))))
      refine w_isub rfl (w_i2l rfl (by first | assumption | exact i32_0 | (unfold i32 at *; omega)) ?_)
      refine w_call (Or.inl rfl) (m_in0 (v := k) (l := 0) (m := (m : Int) - 1) M11 (by unfold i64; omega) (by unfold i64; omega) (by unfold i64; omega) (by omega)) (by omega) nof_150 rfl rfl rfl rfl trivial rfl ?_
      refine w_if_ne (tgt := 35) rfl (by first | assumption | exact i32_0 | (unfold i32 at *; omega)) rfl (fun c => absurd c (by decide)) (fun _ => ?_)
      refine w_iconst rfl ?_
      exact w_ireturn rfl ⟨by first | rfl | (congr 2; omega), by exact ⟨w1, w2⟩⟩
  · rw [if_neg q]
    have q : ¬ (a = 0 ∨ a = 1) := fun z => q (isCu_iff.mpr z)
    refine w_iload rfl rfl ?_
    refine w_call (Or.inl rfl) (m_isCurve0 M ha q) (by omega) nof_165 rfl rfl rfl rfl trivial rfl ?_
    refine w_if_ne (tgt := 10) rfl (by first | assumption | exact i32_0 | (unfold i32 at *; omega)) rfl (fun c => absurd c (by decide)) (fun _ => ?_)
    refine w_iconst rfl ?_
    exact w_ireturn rfl ⟨by first | rfl | (congr 2; omega), by exact MI_same c⟩
