/-! ===== the model's corner ===== -/
/-- areas: still to be shown -/
def ARQ : Prop := ∀ s, plS s → arS s = mixed s s
theorem MV_sel {f g : Cv} {N : mM} {A : Nat} (hA : A < 2) (h : MV f g N) : mvC A (selF A f g) N ∧ mvE A (selF A f g) N := by
  have hc : A = 0 ∨ A = 1 := by omega
  rcases hc with rfl | rfl
  · exact ⟨h.1.1, h.2.1.1⟩
  · exact ⟨h.1.2, h.2.1.2⟩
theorem corn_ptB {f : Cv} (hf : Cok 999 f) : ∀ P ∈ cornF f, ptB P := by
  refine cornA_all (F := ptB) ?_ 21
  intro a b d h
  unfold isCorn at h
  simp only [Bool.and_eq_true, Bool.not_eq_true', decide_eq_false_iff_not] at h
  obtain ⟨ha, hb, hd, h0, -⟩ := h
  have fa := hf a _ (hasF_some ha)
  have fb := hf b _ (hasF_some hb)
  have fd := hf d _ (hasF_some hd)
  exact crXY_le hf (by omega) (by omega) (by omega) (turn_16 a fa.1 fa.2.1 b fb.1 fb.2.1 d fd.1 fd.2.1) h0
theorem corn_plS {f : Cv} (hf : Cok 999 f) : ∀ P ∈ cornF f, ∃ n : Nat, plS n ∧ n < 2 ^ 21 ∧ P.2.2 = (n : Int) :=
  cornA_all (F := fun P => ∃ n : Nat, plS n ∧ n < 2 ^ 21 ∧ P.2.2 = (n : Int)) (fun _ _ _ _ => ⟨_, lead_plS hf _ _ _, leadF_lt f _ _ _, rfl⟩) 21
theorem mo_corner {s : Sta} {M : mM} {a k w : Int} (hG : GEO) (hE : GEOE) (hM : GEOM) (hR : ARQ) (c : MI s M) (ha : i32 a) (hk : i32 k) (hw : i32 w) : EQ 12 186 [vR 155, vI a, vI k, vI w] M (MoQ M (dCorner a k w s) s) := by
  refine q_in (ls := [vR 155, vI a, vI k, vI w, vN]) mq_186 (ml_186 rfl) rfl fun D hD => ?_
  unfold dCorner
  by_cases q : isCu a = true
  · rw [if_pos q]
    have q := isCu_iff.mp q
    obtain ⟨A, rfl⟩ : ∃ z : Nat, a = (z : Int) := ⟨a.toNat, by omega⟩
    have hA : A < 2 := by omega
    have hkn := m_knows hE hM c
    have hf : Cok 999 (selF A s.2.1 s.2.2.1) := Cok_sel (a := A) c.2.1.2.1 c.2.1.2.2
    have hsel := fun N (z : MV s.2.1 s.2.2.1 N) => MV_sel hA z
    generalize hh : selF A s.2.1 s.2.2.1 = h at *
    have hpb := corn_ptB hf
    have hpl := corn_plS hf
    by_cases qk : rngB k (cornF h).length = true
    · rw [if_pos qk]
      have qk := of_decide_eq_true qk
      obtain ⟨k, rfl⟩ : ∃ z : Nat, k = (z : Int) := ⟨k.toNat, by omega⟩
      rw [Int.toNat_natCast]
      have hP := ptAt_eq (C := cornF h) (k := (k : Int)) (by omega) (by omega)
      rw [Int.toNat_natCast] at hP
      have hkl : k < (cornF h).length := by omega
      generalize hPost : MoQ M (if rngB w 7 = true then cornW h k w else -1000002) s = Post
      have hi : (16 : Int) * (A : Int) + (k : Int) = ((16 * A + k : Nat) : Int) := by omega
      have pre : (∀ N, MI s N → mFr M N → mvC A h N → mvE A h N → Wp mc_186 D 43 [vR 155, vI A, vI k, vI w, vI ((16 * A + k : Nat) : Int)] [] N Post) → Wp mc_186 D 0 [vR 155, vI A, vI k, vI w, vN] [] M Post := by
        intro hgo
        have hgo2 : ∀ N, MI s N → mFr M N → MV s.2.1 s.2.2.1 N → Wp mc_186 D 43 [vR 155, vI A, vI k, vI w, vI ((16 * A + k : Nat) : Int)] [] N Post := fun N z1 z2 z3 => hgo N z1 z2 (hsel N z3).1 (hsel N z3).2
        have hlen : ∀ N, MV s.2.1 s.2.2.1 N → N 165 ((A : Int)).toNat = ((cornF h).length : Int) ∧ (cornF h).length ≤ 16 := fun N z => ⟨(hsel N z).1.1, (hsel N z).1.2.1⟩
        clear hgo hPost
        generalize (cornF h).length = m at *
        refine w_iload rfl rfl ?_
        refine w_call (Or.inl rfl) (m_isCurve1 M q) (by omega) nof_165 rfl rfl rfl rfl trivial rfl ?_
        refine w_if_ne (tgt := 10) rfl (by first | assumption | exact i32_0 | (unfold i32 at *; omega)) rfl (fun _ => ?_) (fun c => absurd c (by decide))
        refine w_aload rfl rfl ?_
        refine w_callQ (Or.inr rfl) (hkn) (by omega) nof_187 rfl rfl rfl rfl (by first | rfl | (show cKB[_]? = _; assumption)) (fun r11 M11 hq11 => ?_)
        obtain ⟨rfl, w1, w2, w3, w4⟩ := hq11
        have h165 := (hlen M11 w3).1
        have h16 := (hlen M11 w3).2
        refine w_iload rfl rfl (w_i2l rfl (by first | assumption | exact i32_0 | (unfold i32 at *; omega)) (w_lconst rfl (w_aload rfl rfl (w_getR rfl (by first | rfl | assumption) rfl (by first | rfl | assumption) (w_iload rfl rfl (w_ialoadV rfl (by first | rfl | assumption) (by omega) (by omega) (h165) (w_iconst rfl ?_)))))))
        refine w_isub rfl (w_i2l rfl (by first | assumption | exact i32_0 | (unfold i32 at *; omega)) ?_)
        refine w_call (Or.inl rfl) (m_in1 (v := k) (l := 0) (m := (m : Int) - 1) M11 (by unfold i64; omega) (by unfold i64; omega) (by unfold i64; omega) (by omega)) (by omega) nof_150 rfl rfl rfl rfl trivial rfl ?_
        refine w_if_ne (tgt := 35) rfl (by first | assumption | exact i32_0 | (unfold i32 at *; omega)) rfl (fun _ => ?_) (fun c => absurd c (by decide))
        refine w_iconst rfl (w_iload rfl rfl (w_imul rfl (w_iload rfl rfl (w_iadd rfl ?_))))
        rw [hi]
        refine w_istore (ls2 := [_, _, _, _, _]) rfl rfl rfl ?_
        exact hgo2 _ w1 w2 w3
      refine pre fun N n1 n2 n3 n4 => ?_
      clear pre hkn hsel
      have hl16 := n3.2.1
      have hv := n3.2.2 k _ hP
      have hb := hpb _ (List.mem_of_getElem? hP)
      obtain ⟨st, hs1, hs2, hs3⟩ := hpl _ (List.mem_of_getElem? hP)
      obtain ⟨⟨bx1, bx2⟩, by1, by2⟩ := hb
      have hab := m_above (ptAt (cornF h) k).1 N (by omega) 
      have hbl := m_below (ptAt (cornF h) k).1 N (by omega)
      have hay := m_above (ptAt (cornF h) k).2.1 N (by omega)
      have hby := m_below (ptAt (cornF h) k).2.1 N (by omega)
      have har := m_area (s := st) (M := N) (by omega)
      rw [hR st hs1] at har
      have hea := m_endsAt hA n4 (rowsF_ok hf hl16 (hG h hf)) (k := k) (by omega)
      have x162 : N 162 (((16 * A + k : Nat) : Int)).toNat = (ptAt (cornF h) k).1 := hv.1
      have x163 : N 163 (((16 * A + k : Nat) : Int)).toNat = (ptAt (cornF h) k).2.1 := hv.2.1
      have x164 : N 164 (((16 * A + k : Nat) : Int)).toNat = (st : Int) := hv.2.2.trans hs3
      have hidx : 16 * A + k < 32 := by omega
      have hfin : ∀ r N2, MI s N2 → mFr N N2 → r = (if rngB w 7 = true then cornW h k w else -1000002) → Post (some (vI r)) N2 := by
        intro r N2 z1 z2 z3
        rw [← hPost, z3]
        exact ⟨rfl, z1, mFr_tr n2 z2⟩
      have hms : ∀ N2, MlF N N2 → MI s N2 ∧ mFr N N2 := fun N2 z => ⟨MI_fr n1 (fun j hj => z.2 j (by omega)) (fun b hb => z.1 b (by omega) (by omega) (by omega)), fun b hb => z.1 b (by omega) (by omega) (by omega)⟩
      clear hPost
      generalize 16 * A + k = j at *
      have cW : cornW h k w = if w < 4 then fldP (ptAt (cornF h) k) w.toNat else if w = 4 then mixed (ptAt (cornF h) k).2.2.toNat (ptAt (cornF h) k).2.2.toNat else if w = 5 then ((rowsF h).countP (fun e => decide (e 4 = (k : Int) ∨ e 5 = (k : Int))) : Nat) else (ptAt (cornF h) k).2.2 := rfl
      rw [hs3, Int.toNat_natCast] at cW
      rw [cW] at hfin
      clear cW hP hv hs3
      generalize (rowsF h).countP (fun e => decide (e 4 = (k : Int) ∨ e 5 = (k : Int))) = ce at *
      generalize ptAt (cornF h) k = P at *
      generalize mixed st st = ms at *
      by_cases c0 : w = 0
      · subst c0
        have hgo := hfin (numP P.1) N n1 (mFr_rfl N) rfl
        refine w_iload rfl rfl ?_
        skip
        · skip
          refine w_tsw (tgt := 88) rfl (by first | assumption | exact i32_0 | (unfold i32 at *; omega)) (by rfl) ?_
          refine w_aload rfl rfl (w_getR rfl (by first | rfl | assumption) rfl (by first | rfl | assumption) (w_iload rfl rfl (w_laloadV rfl (by first | rfl | assumption) (by omega) (by omega) (x162) ?_)))
          refine w_call (Or.inl rfl) ((hab)) (by omega) nof_209 rfl rfl rfl rfl trivial rfl ?_
          refine w_l2i rfl ?_
          exact w_ireturn rfl hgo
      · by_cases c1 : w = 1
        · subst c1
          have hgo := hfin (denP P.1) N n1 (mFr_rfl N) rfl
          refine w_iload rfl rfl ?_
          skip
          · skip
            refine w_tsw (tgt := 100) rfl (by first | assumption | exact i32_0 | (unfold i32 at *; omega)) (by rfl) ?_
            refine w_aload rfl rfl (w_getR rfl (by first | rfl | assumption) rfl (by first | rfl | assumption) (w_iload rfl rfl (w_laloadV rfl (by first | rfl | assumption) (by omega) (by omega) (x162) ?_)))
            refine w_call (Or.inl rfl) ((hbl)) (by omega) nof_211 rfl rfl rfl rfl trivial rfl ?_
            refine w_l2i rfl ?_
            exact w_ireturn rfl hgo
        · by_cases c2 : w = 2
          · subst c2
            have hgo := hfin (numP P.2.1) N n1 (mFr_rfl N) rfl
            refine w_iload rfl rfl ?_
            skip
            · skip
              refine w_tsw (tgt := 112) rfl (by first | assumption | exact i32_0 | (unfold i32 at *; omega)) (by rfl) ?_
              refine w_aload rfl rfl (w_getR rfl (by first | rfl | assumption) rfl (by first | rfl | assumption) (w_iload rfl rfl (w_laloadV rfl (by first | rfl | assumption) (by omega) (by omega) (x163) ?_)))
              refine w_call (Or.inl rfl) ((hay)) (by omega) nof_209 rfl rfl rfl rfl trivial rfl ?_
              refine w_l2i rfl ?_
              exact w_ireturn rfl hgo
          · by_cases c3 : w = 3
            · subst c3
              have hgo := hfin (denP P.2.1) N n1 (mFr_rfl N) rfl
              refine w_iload rfl rfl ?_
              skip
              · skip
                refine w_tsw (tgt := 124) rfl (by first | assumption | exact i32_0 | (unfold i32 at *; omega)) (by rfl) ?_
                refine w_aload rfl rfl (w_getR rfl (by first | rfl | assumption) rfl (by first | rfl | assumption) (w_iload rfl rfl (w_laloadV rfl (by first | rfl | assumption) (by omega) (by omega) (x163) ?_)))
                refine w_call (Or.inl rfl) ((hby)) (by omega) nof_211 rfl rfl rfl rfl trivial rfl ?_
                refine w_l2i rfl ?_
                exact w_ireturn rfl hgo
            · by_cases c4 : w = 4
              · subst c4
                have hgo := fun N2 z => hfin ms N2 (hms N2 z).1 (hms N2 z).2 rfl
                refine w_iload rfl rfl ?_
                skip
                · skip
                  refine w_tsw (tgt := 136) rfl (by first | assumption | exact i32_0 | (unfold i32 at *; omega)) (by rfl) ?_
                  refine w_aload rfl rfl (w_aload rfl rfl (w_getR rfl (by first | rfl | assumption) rfl (by first | rfl | assumption) (w_iload rfl rfl (w_ialoadV rfl (by first | rfl | assumption) (by omega) (by omega) (x164) ?_))))
                  refine w_callQ (Or.inr rfl) (har) (by omega) nof_207 rfl rfl rfl rfl (by first | rfl | (show cKB[_]? = _; assumption)) (fun r144 M144 hq144 => ?_)
                  obtain ⟨rfl, w1⟩ := hq144
                  exact w_ireturn rfl (hgo _ w1)
              · by_cases c5 : w = 5
                · subst c5
                  have hgo := hfin (ce : Int) N n1 (mFr_rfl N) rfl
                  refine w_iload rfl rfl ?_
                  skip
                  · skip
                    refine w_tsw (tgt := 148) rfl (by first | assumption | exact i32_0 | (unfold i32 at *; omega)) (by rfl) ?_
                    refine w_aload rfl rfl (w_iload rfl rfl (w_iload rfl rfl ?_))
                    refine w_call (Or.inr rfl) ((hea)) (by omega) nof_212 rfl rfl rfl rfl (by first | rfl | (show cKB[_]? = _; assumption)) rfl ?_
                    exact w_ireturn rfl hgo
                · by_cases c6 : w = 6
                  · subst c6
                    have hgo := hfin (st : Int) N n1 (mFr_rfl N) rfl
                    refine w_iload rfl rfl ?_
                    skip
                    · skip
                      refine w_tsw (tgt := 155) rfl (by first | assumption | exact i32_0 | (unfold i32 at *; omega)) (by rfl) ?_
                      refine w_aload rfl rfl (w_getR rfl (by first | rfl | assumption) rfl (by first | rfl | assumption) (w_iload rfl rfl (w_ialoadV rfl (by first | rfl | assumption) (by omega) (by omega) (x164) ?_)))
                      exact w_ireturn rfl hgo
                  · have hr : rngB w 7 = false := decide_eq_false (by omega)
                    have hgo := hfin (-1000002) N n1 (mFr_rfl N) (by rw [hr]; rfl)
                    refine w_iload rfl rfl ?_
                    skip
                    · skip
                      refine w_tsw (tgt := 163) rfl (by first | assumption | exact i32_0 | (unfold i32 at *; omega)) (by rw [show decide (w < 0 ∨ 6 < w) = true from decide_eq_true (by omega)]; rfl) ?_
                      refine w_iconst rfl ?_
                      exact w_ireturn rfl hgo
    · rw [if_neg qk]
      have qk := of_decide_eq_false (Bool.eq_false_iff.mpr qk)
      have hlen : ∀ N, MV s.2.1 s.2.2.1 N → N 165 ((A : Int)).toNat = ((cornF h).length : Int) ∧ (cornF h).length ≤ 16 := fun N z => ⟨(hsel N z).1.1, (hsel N z).1.2.1⟩
      unfold i32 at hk
      clear hpb hpl
      generalize (cornF h).length = m at *
      refine w_iload rfl rfl ?_
      refine w_call (Or.inl rfl) (m_isCurve1 M q) (by omega) nof_165 rfl rfl rfl rfl trivial rfl ?_
      refine w_if_ne (tgt := 10) rfl (by first | assumption | exact i32_0 | (unfold i32 at *; omega)) rfl (fun _ => ?_) (fun c => absurd c (by decide))
      refine w_aload rfl rfl ?_
      refine w_callQ (Or.inr rfl) (hkn) (by omega) nof_187 rfl rfl rfl rfl (by first | rfl | (show cKB[_]? = _; assumption)) (fun r11 M11 hq11 => ?_)
      obtain ⟨rfl, w1, w2, w3, w4⟩ := hq11
      have h165 := (hlen M11 w3).1
      have h16 := (hlen M11 w3).2
      refine w_iload rfl rfl (w_i2l rfl (by first | assumption | exact i32_0 | (unfold i32 at *; omega)) (w_lconst rfl (w_aload rfl rfl (w_getR rfl (by first | rfl | assumption) rfl (by first | rfl | assumption) (w_iload rfl rfl (w_ialoadV rfl (by first | rfl | assumption) (by omega) (by omega) (h165) (w_iconst rfl ?_)))))))
      refine w_isub rfl (w_i2l rfl (by first | assumption | exact i32_0 | (unfold i32 at *; omega)) ?_)
      refine w_call (Or.inl rfl) (m_in0 (v := k) (l := 0) (m := (m : Int) - 1) M11 (by unfold i64; omega) (by unfold i64; omega) (by unfold i64; omega) (by omega)) (by omega) nof_150 rfl rfl rfl rfl trivial rfl ?_
      refine w_if_ne (tgt := 35) rfl (by first | assumption | exact i32_0 | (unfold i32 at *; omega)) rfl (fun c => absurd c (by decide)) (fun _ => ?_)
      refine w_iconst rfl ?_
      exact w_ireturn rfl ⟨by first | rfl | (congr 2; omega), by exact ⟨w1, w2⟩⟩
  · rw [if_neg q]
    have q : ¬ (a = 0 ∨ a = 1) := fun z => q (isCu_iff.mpr z)
    refine w_iload rfl rfl ?_
    refine w_call (Or.inl rfl) (m_isCurve0 M ha q) (by omega) nof_165 rfl rfl rfl rfl trivial rfl ?_
    refine w_if_ne (tgt := 10) rfl (by first | assumption | exact i32_0 | (unfold i32 at *; omega)) rfl (fun c => absurd c (by decide)) (fun _ => ?_)
    refine w_iconst rfl ?_
    exact w_ireturn rfl ⟨by first | rfl | (congr 2; omega), by exact MI_same c⟩
