/-! ===== the model's region ===== -/
theorem unitF_dvd {h : Cv} {e : Nat → Int} (he : e ∈ rowsF h) (h5 : e 5 ≠ -1000000) : (e 9).toNat ∣ unitF h := by
  obtain ⟨k, hk⟩ := List.getElem?_of_mem he
  unfold rowsF at hk
  rw [rowsBr_get] at hk
  cases e0 : (rowsF0 h)[k]? with
  | none => rw [e0] at hk; exact absurd hk (by simp)
  | some r =>
    rw [e0, Option.map_some, Option.some.injEq] at hk
    have h95 : e 9 = r 9 ∧ e 5 = r 5 := by
      rw [← hk]
      split
      · exact ⟨rfl, rfl⟩
      · exact ⟨rfl, rfl⟩
    rw [h95.1]
    rw [h95.2] at h5
    exact unit_dvd e0 h5 _ (List.getElem?_eq_some_iff.mp e0).1
theorem unitF_ok {h : Cv} (hf : Cok 999 h) (hl : (cornF h).length ≤ 16) (hg : geoOK h (cornF h)) : unitF h ∣ 720720 ∧ 0 < unitF h := unitR_dvd (rowsF0_ok hf hl hg) _
theorem lenU_F {h : Cv} {e : Nat → Int} (hf : Cok 999 h) (hl : (cornF h).length ≤ 16) (hg : geoOK h (cornF h)) (he : e ∈ rowsF h) (h5 : e 5 ≠ -1000000) : lenU (unitF h : Nat) e * (720720 / unitF h : Nat) = lenE (cornF h) e := by
  have hq := (rowsF_lenQ hf hl hg e he).2 h5
  have hu := unitF_ok hf hl hg
  exact lenU_W hq.2.2.2.1 hq.2.2.2.2 (unitF_dvd he h5) hu.1 hu.2
theorem perR_W {h : Cv} {k : Int} (hf : Cok 999 h) (hl : (cornF h).length ≤ 16) (hg : geoOK h (cornF h)) (hop : openR (rowsF h) k = false) : ∀ n, n ≤ (rowsF h).length → perR (unitF h : Nat) (rowsF h) k n * (720720 / unitF h : Nat) = rndE (cornF h) (rowsF h) k n
  | 0, _ => Int.zero_mul _
  | n + 1, hn => by
    rw [rndE_snoc _ _ k n (by omega), perR_snoc _ _ k n (by omega), ← perR_W hf hl hg hop n (by omega)]
    by_cases q : sideR ((rowsF h)[n]'(by omega)) k = true
    · rw [if_pos q, if_pos q, Int.add_mul, lenU_F hf hl hg (List.getElem_mem (by omega)) (open_not hop n (by omega) q)]
    · rw [if_neg q, if_neg q]
theorem mo_region {s : Sta} {M : mM} {a i j w : Int} (hG : GEO) (hE : GEOE) (hM : GEOM) (c : MI s M) (ha : i32 a) (hi : i32 i) (hj : i32 j) (hw : i32 w) : EQ 12 218 [vR 155, vI a, vI i, vI j, vI w] M (MoQL M (dRegion a i j w s) s) := by
  refine q_in (ls := [vR 155, vI a, vI i, vI j, vI w, vN, vN]) mq_218 (ml_218 rfl) rfl fun D hD => ?_
  unfold dRegion
  by_cases q : isCu a = true
  · rw [if_pos q]
    have q := isCu_iff.mp q
    obtain ⟨A, rfl⟩ : ∃ z : Nat, a = (z : Int) := ⟨a.toNat, by omega⟩
    have hA : A < 2 := by omega
    by_cases qp : isPlB i j = true
    · by_cases qw : rngB w 4 = true
      · rw [if_pos ⟨qp, qw⟩]
        have qp := isPlB_iff.mp qp
        have qw := of_decide_eq_true qw
        obtain ⟨e1, e2, e3⟩ := plN_ok qp
        have hkn := m_knows hE hM c
        have hf : Cok 999 (selF A s.2.1 s.2.2.1) := Cok_sel (a := A) c.2.1.2.1 c.2.1.2.2
        have hsel := fun N (z : MV s.2.1 s.2.2.1 N) => MV_sel hA z
        have hcur := fun N (z : MI s N) => mcur_sel hA z.2.1.1
        generalize hh : selF A s.2.1 s.2.2.1 = h at *
        have hcM := hcur M c
        have hpq : 0 ≤ i ∧ 0 ≤ j ∧ i ≤ 4 ∧ j ≤ 4 - i := qp
        generalize plN i j = p at *
        cases hp : hasF h p with
        | false =>
          rw [if_neg (by decide)]
          clear hkn hsel hcur
          refine w_iload rfl rfl ?_
          refine w_call (Or.inl rfl) (m_isCurve1 M q) (by omega) nof_165 rfl rfl rfl rfl trivial rfl ?_
          refine w_if_ne (tgt := 11) rfl (by first | assumption | exact i32_0 | (unfold i32 at *; omega)) rfl (fun _ => ?_) (fun c => absurd c (by decide))
          refine w_iload rfl rfl (w_iload rfl rfl ?_)
          refine w_call (Or.inl rfl) (m_isPlace1 M qp) (by omega) nof_166 rfl rfl rfl rfl trivial rfl ?_
          refine w_if_eq (tgt := 32) rfl (by first | assumption | exact i32_0 | (unfold i32 at *; omega)) rfl (fun c => absurd c (by decide)) (fun _ => ?_)
          refine w_iload rfl rfl (w_i2l rfl (by first | assumption | exact i32_0 | (unfold i32 at *; omega)) (w_lconst rfl (w_lconst rfl ?_)))
          refine w_call (Or.inl rfl) (m_in1 (v := w) (l := 0) (m := 3) M (by unfold i64; omega) (by unfold i64; omega) (by unfold i64; omega) (by omega)) (by omega) nof_150 rfl rfl rfl rfl trivial rfl ?_
          refine w_if_ne (tgt := 36) rfl (by first | assumption | exact i32_0 | (unfold i32 at *; omega)) rfl (fun _ => ?_) (fun c => absurd c (by decide))
          refine w_iconst rfl (w_iload rfl rfl (w_imul rfl (w_iload rfl rfl (w_iadd rfl (w_istore (ls2 := [_, _, _, _, _, _, _]) rfl rfl rfl ?_)))))
          rw [e1]
          refine w_aload rfl rfl (w_iload rfl rfl (w_iload rfl rfl ?_))
          refine w_call (Or.inr rfl) (m_has0 hA hcM hf (by omega) hp) (by omega) nof_167 rfl rfl rfl rfl (by first | rfl | (show cKB[_]? = _; assumption)) rfl ?_
          refine w_if_ne (tgt := 57) rfl (by first | assumption | exact i32_0 | (unfold i32 at *; omega)) rfl (fun c => absurd c (by decide)) (fun _ => ?_)
          refine w_lconst rfl ?_
          exact w_lreturn rfl ⟨by first | rfl | (congr 2; omega), by exact MI_same c⟩
        | true =>
          rw [if_pos rfl]
          generalize hPost : MoQL M (regW h p w) s = Post
          have pre : (∀ N, MI s N → mFr M N → mvC A h N → mvE A h N → Wp mc_218 D 61 [vR 155, vI A, vI i, vI j, vI w, vI p, vN] [] N Post) → Wp mc_218 D 0 [vR 155, vI A, vI i, vI j, vI w, vN, vN] [] M Post := by
            intro hgo
            have hgo2 : ∀ N, MI s N → mFr M N → MV s.2.1 s.2.2.1 N → Wp mc_218 D 61 [vR 155, vI A, vI i, vI j, vI w, vI p, vN] [] N Post := fun N z1 z2 z3 => hgo N z1 z2 (hsel N z3).1 (hsel N z3).2
            clear hgo hPost
            refine w_iload rfl rfl ?_
            refine w_call (Or.inl rfl) (m_isCurve1 M q) (by omega) nof_165 rfl rfl rfl rfl trivial rfl ?_
            refine w_if_ne (tgt := 11) rfl (by first | assumption | exact i32_0 | (unfold i32 at *; omega)) rfl (fun _ => ?_) (fun c => absurd c (by decide))
            refine w_iload rfl rfl (w_iload rfl rfl ?_)
            refine w_call (Or.inl rfl) (m_isPlace1 M qp) (by omega) nof_166 rfl rfl rfl rfl trivial rfl ?_
            refine w_if_eq (tgt := 32) rfl (by first | assumption | exact i32_0 | (unfold i32 at *; omega)) rfl (fun c => absurd c (by decide)) (fun _ => ?_)
            refine w_iload rfl rfl (w_i2l rfl (by first | assumption | exact i32_0 | (unfold i32 at *; omega)) (w_lconst rfl (w_lconst rfl ?_)))
            refine w_call (Or.inl rfl) (m_in1 (v := w) (l := 0) (m := 3) M (by unfold i64; omega) (by unfold i64; omega) (by unfold i64; omega) (by omega)) (by omega) nof_150 rfl rfl rfl rfl trivial rfl ?_
            refine w_if_ne (tgt := 36) rfl (by first | assumption | exact i32_0 | (unfold i32 at *; omega)) rfl (fun _ => ?_) (fun c => absurd c (by decide))
            refine w_iconst rfl (w_iload rfl rfl (w_imul rfl (w_iload rfl rfl (w_iadd rfl (w_istore (ls2 := [_, _, _, _, _, _, _]) rfl rfl rfl ?_)))))
            rw [e1]
            refine w_aload rfl rfl (w_iload rfl rfl (w_iload rfl rfl ?_))
            refine w_call (Or.inr rfl) (m_has1 hA hcM hf (by omega) hp) (by omega) nof_167 rfl rfl rfl rfl (by first | rfl | (show cKB[_]? = _; assumption)) rfl ?_
            refine w_if_ne (tgt := 57) rfl (by first | assumption | exact i32_0 | (unfold i32 at *; omega)) rfl (fun _ => ?_) (fun c => absurd c (by decide))
            refine w_aload rfl rfl ?_
            refine w_callQ (Or.inr rfl) (hkn) (by omega) nof_187 rfl rfl rfl rfl (by first | rfl | (show cKB[_]? = _; assumption)) (fun r58 M58 hq58 => ?_)
            obtain ⟨rfl, w1, w2, w3, w4⟩ := hq58
            exact hgo2 _ w1 w2 w3
          refine pre fun N n1 n2 n3 n4 => ?_
          have hc := hcur N n1
          clear pre hkn hsel hcur
          have hl16 := n3.2.1
          have hg := hG h hf
          have hok := rowsF_ok hf hl16 hg
          have hLQ := rowsF_lenQ hf hl16 hg
          have hcl := m_isClosed (k := p) hA n4 hok (by omega)
          have hid := m_isHidden (k := p) hA hc hf n4 hok (by omega)
          have hsi := m_sides (k := p) hA n4 hok (by omega)
          have hro := m_round (k := p) hA hf n3 n4 hok rfl hLQ (by omega)
          have hpw := fun z => perR_W (k := p) hf hl16 hg z (rowsF h).length (Nat.le_refl _)
          have hrl := rndE_le hf (rowsF h) p (rowsF h).length (Nat.le_refl _)
          have hl30 := n4.2.1
          have hab := m_above (rndE (cornF h) (rowsF h) p (rowsF h).length) N (by omega)
          have hbe := m_below (rndE (cornF h) (rowsF h) p (rowsF h).length) N (by omega)
          have hfin : ∀ r, r = regW h p w → Post (some (vL r)) N := by
            intro r z3
            rw [← hPost, z3]
            exact ⟨rfl, n1, n2⟩
          have hkd : kindR h (rowsF h) p = if sidR (rowsF h) p = 0 then (if 1 < cntF h then 0 else 2) else if openR (rowsF h) p = true then 2 else 1 := rfl
          have hsr : sidR (rowsF h) p = (rowsF h).countP (fun e => sideR e p) := rfl
          have hrw : regW h p w = if w = 0 then kindR h (rowsF h) p else if w = 1 then (sidR (rowsF h) p : Int) else if kindR h (rowsF h) p = 1 then (if w = 2 then numP (perR (unitF h) (rowsF h) p (rowsF h).length * (720720 / unitF h : Nat)) else denP (perR (unitF h) (rowsF h) p (rowsF h).length * (720720 / unitF h : Nat))) else -1000000 := rfl
          rw [hrw, hkd] at hfin
          rw [← hsr] at hid hsi
          clear hPost hLQ hok n3 n4 hc hkd hsr hrw hg e1 e3 qp
          have h31 : sidR (rowsF h) p ≤ (rowsF h).length := List.countP_le_length
          generalize sidR (rowsF h) p = sd at *
          generalize rndE (cornF h) (rowsF h) p (rowsF h).length = rn at *
          generalize perR (unitF h) (rowsF h) p (rowsF h).length * (720720 / unitF h : Nat) = pr at *
          generalize (rowsF h).length = m at *
          generalize cntF h = ct at *
          have hend : ∀ x : Nat, (x = if (decide (0 < sd) && !openR (rowsF h) p) = true then 1 else 0) → Wp mc_218 D 70 [vR 155, vI A, vI i, vI j, vI w, vI p, vI x] [] N Post := by
            intro x hx
            by_cases c0 : w = 0
            · subst c0
              rw [if_pos rfl] at hfin
              by_cases z1 : sd = 0
              · by_cases z2 : 1 < ct
                · rw [if_pos ⟨z2, z1⟩] at hid
                  rw [if_pos z1, if_pos z2] at hfin
                  have hgo := hfin _ rfl
                  clear hx
                  refine w_iload rfl rfl ?_
                  refine w_if_ne (tgt := 102) rfl (by first | assumption | exact i32_0 | (unfold i32 at *; omega)) rfl (fun c72 => ?_) (fun c72 => ?_)
                  · skip
                    exfalso; omega
                  · skip
                    refine w_aload rfl rfl (w_iload rfl rfl (w_iload rfl rfl ?_))
                    refine w_call (Or.inr rfl) ((hid)) (by omega) nof_222 rfl rfl rfl rfl (by first | rfl | (show cKB[_]? = _; assumption)) rfl ?_
                    refine w_if_eq (tgt := 89) rfl (by first | assumption | exact i32_0 | (unfold i32 at *; omega)) rfl (fun c => absurd c (by decide)) (fun _ => ?_)
                    refine w_lconst rfl (w_goto (tgt := 101) rfl rfl ?_)
                    exact w_lreturn rfl hgo
                · rw [if_neg (fun z => z2 z.1)] at hid
                  rw [if_pos z1, if_neg z2] at hfin
                  rw [decide_eq_false (show ¬ 0 < sd by omega), Bool.false_and, if_neg (by decide)] at hx
                  subst hx
                  have hgo := hfin _ rfl
                  refine w_iload rfl rfl ?_
                  refine w_if_ne (tgt := 102) rfl (by first | assumption | exact i32_0 | (unfold i32 at *; omega)) rfl (fun c72 => ?_) (fun c72 => ?_)
                  · skip
                    exfalso; omega
                  · skip
                    refine w_aload rfl rfl (w_iload rfl rfl (w_iload rfl rfl ?_))
                    refine w_call (Or.inr rfl) ((hid)) (by omega) nof_222 rfl rfl rfl rfl (by first | rfl | (show cKB[_]? = _; assumption)) rfl ?_
                    refine w_if_eq (tgt := 89) rfl (by first | assumption | exact i32_0 | (unfold i32 at *; omega)) rfl (fun _ => ?_) (fun c => absurd c (by decide))
                    refine w_iload rfl rfl ?_
                    refine w_if_eq (tgt := 98) rfl (by first | assumption | exact i32_0 | (unfold i32 at *; omega)) rfl (fun _ => ?_) (fun c => absurd c (by decide))
                    refine w_lconst rfl ?_
                    exact w_lreturn rfl hgo
              · rw [if_neg (fun z => z1 z.2)] at hid
                rw [if_neg z1] at hfin
                rw [decide_eq_true (show 0 < sd by omega), Bool.true_and] at hx
                cases ho : openR (rowsF h) p with
                | true =>
                  rw [ho] at hx hfin
                  rw [if_neg (by decide)] at hx
                  subst hx
                  rw [if_pos rfl] at hfin
                  have hgo := hfin _ rfl
                  refine w_iload rfl rfl ?_
                  refine w_if_ne (tgt := 102) rfl (by first | assumption | exact i32_0 | (unfold i32 at *; omega)) rfl (fun c72 => ?_) (fun c72 => ?_)
                  · skip
                    exfalso; omega
                  · skip
                    refine w_aload rfl rfl (w_iload rfl rfl (w_iload rfl rfl ?_))
                    refine w_call (Or.inr rfl) ((hid)) (by omega) nof_222 rfl rfl rfl rfl (by first | rfl | (show cKB[_]? = _; assumption)) rfl ?_
                    refine w_if_eq (tgt := 89) rfl (by first | assumption | exact i32_0 | (unfold i32 at *; omega)) rfl (fun _ => ?_) (fun c => absurd c (by decide))
                    refine w_iload rfl rfl ?_
                    refine w_if_eq (tgt := 98) rfl (by first | assumption | exact i32_0 | (unfold i32 at *; omega)) rfl (fun _ => ?_) (fun c => absurd c (by decide))
                    refine w_lconst rfl ?_
                    exact w_lreturn rfl hgo
                | false =>
                  rw [ho] at hx hfin
                  rw [if_pos (by decide)] at hx
                  subst hx
                  rw [if_neg (by decide)] at hfin
                  have hgo := hfin _ rfl
                  refine w_iload rfl rfl ?_
                  refine w_if_ne (tgt := 102) rfl (by first | assumption | exact i32_0 | (unfold i32 at *; omega)) rfl (fun c72 => ?_) (fun c72 => ?_)
                  · skip
                    exfalso; omega
                  · skip
                    refine w_aload rfl rfl (w_iload rfl rfl (w_iload rfl rfl ?_))
                    refine w_call (Or.inr rfl) ((hid)) (by omega) nof_222 rfl rfl rfl rfl (by first | rfl | (show cKB[_]? = _; assumption)) rfl ?_
                    refine w_if_eq (tgt := 89) rfl (by first | assumption | exact i32_0 | (unfold i32 at *; omega)) rfl (fun _ => ?_) (fun c => absurd c (by decide))
                    refine w_iload rfl rfl ?_
                    refine w_if_eq (tgt := 98) rfl (by first | assumption | exact i32_0 | (unfold i32 at *; omega)) rfl (fun c => absurd c (by decide)) (fun _ => ?_)
                    refine w_lconst rfl (w_goto (tgt := 101) rfl rfl ?_)
                    exact w_lreturn rfl hgo
            rw [if_neg c0] at hfin
            by_cases c1 : w = 1
            · subst c1
              rw [if_pos rfl] at hfin
              have hgo := hfin _ rfl
              clear hx
              refine w_iload rfl rfl ?_
              refine w_if_ne (tgt := 102) rfl (by first | assumption | exact i32_0 | (unfold i32 at *; omega)) rfl (fun c72 => ?_) (fun c72 => ?_)
              · skip
                refine w_iload rfl rfl (w_iconst rfl ?_)
                refine w_icmp_ne (tgt := 117) rfl (by first | assumption | exact i32_0 | (unfold i32 at *; omega)) (by first | assumption | exact i32_0 | (unfold i32 at *; omega)) rfl (fun c105 => ?_) (fun c105 => ?_)
                · skip
                  exfalso; omega
                · skip
                  refine w_aload rfl rfl (w_iload rfl rfl (w_iload rfl rfl ?_))
                  refine w_call (Or.inr rfl) ((hsi)) (by omega) nof_220 rfl rfl rfl rfl (by first | rfl | (show cKB[_]? = _; assumption)) rfl ?_
                  refine w_i2l rfl (by first | assumption | exact i32_0 | (unfold i32 at *; omega)) ?_
                  exact w_lreturn rfl hgo
              · skip
                exfalso; omega
            rw [if_neg c1] at hfin
            by_cases z1 : sd = 0
            · rw [decide_eq_false (show ¬ 0 < sd by omega), Bool.false_and, if_neg (by decide)] at hx
              subst hx
              rw [if_pos z1, if_neg (by split <;> decide)] at hfin
              have hgo := hfin _ rfl
              refine w_iload rfl rfl ?_
              refine w_if_ne (tgt := 102) rfl (by first | assumption | exact i32_0 | (unfold i32 at *; omega)) rfl (fun c72 => ?_) (fun c72 => ?_)
              · skip
                refine w_iload rfl rfl (w_iconst rfl ?_)
                refine w_icmp_ne (tgt := 117) rfl (by first | assumption | exact i32_0 | (unfold i32 at *; omega)) (by first | assumption | exact i32_0 | (unfold i32 at *; omega)) rfl (fun c105 => ?_) (fun c105 => ?_)
                · skip
                  refine w_iload rfl rfl ?_
                  refine w_if_ne (tgt := 128) rfl (by first | assumption | exact i32_0 | (unfold i32 at *; omega)) rfl (fun c => absurd c (by decide)) (fun _ => ?_)
                  refine w_lconst rfl (w_goto (tgt := 157) rfl rfl ?_)
                  exact w_lreturn rfl hgo
                · skip
                  exfalso; omega
              · skip
                exfalso; omega
            rw [if_neg z1] at hfin
            rw [decide_eq_true (show 0 < sd by omega), Bool.true_and] at hx
            cases ho : openR (rowsF h) p with
            | true =>
              rw [ho] at hx hfin
              rw [if_neg (by decide)] at hx
              subst hx
              rw [if_pos rfl, if_neg (by decide)] at hfin
              have hgo := hfin _ rfl
              refine w_iload rfl rfl ?_
              refine w_if_ne (tgt := 102) rfl (by first | assumption | exact i32_0 | (unfold i32 at *; omega)) rfl (fun c72 => ?_) (fun c72 => ?_)
              · skip
                refine w_iload rfl rfl (w_iconst rfl ?_)
                refine w_icmp_ne (tgt := 117) rfl (by first | assumption | exact i32_0 | (unfold i32 at *; omega)) (by first | assumption | exact i32_0 | (unfold i32 at *; omega)) rfl (fun c105 => ?_) (fun c105 => ?_)
                · skip
                  refine w_iload rfl rfl ?_
                  refine w_if_ne (tgt := 128) rfl (by first | assumption | exact i32_0 | (unfold i32 at *; omega)) rfl (fun c => absurd c (by decide)) (fun _ => ?_)
                  refine w_lconst rfl (w_goto (tgt := 157) rfl rfl ?_)
                  exact w_lreturn rfl hgo
                · skip
                  exfalso; omega
              · skip
                exfalso; omega
            | false =>
              have hro := hro ho
              rw [hpw ho, ho] at hfin
              rw [ho, if_pos (by decide)] at hx
              subst hx
              rw [if_pos (by decide)] at hfin
              by_cases c2 : w = 2
              · subst c2
                rw [if_pos rfl] at hfin
                have hgo := hfin _ rfl
                refine w_iload rfl rfl ?_
                refine w_if_ne (tgt := 102) rfl (by first | assumption | exact i32_0 | (unfold i32 at *; omega)) rfl (fun c72 => ?_) (fun c72 => ?_)
                · skip
                  refine w_iload rfl rfl (w_iconst rfl ?_)
                  refine w_icmp_ne (tgt := 117) rfl (by first | assumption | exact i32_0 | (unfold i32 at *; omega)) (by first | assumption | exact i32_0 | (unfold i32 at *; omega)) rfl (fun c105 => ?_) (fun c105 => ?_)
                  · skip
                    refine w_iload rfl rfl ?_
                    refine w_if_ne (tgt := 128) rfl (by first | assumption | exact i32_0 | (unfold i32 at *; omega)) rfl (fun _ => ?_) (fun c => absurd c (by decide))
                    refine w_iload rfl rfl (w_iconst rfl ?_)
                    refine w_icmp_ne (tgt := 147) rfl (by first | assumption | exact i32_0 | (unfold i32 at *; omega)) (by first | assumption | exact i32_0 | (unfold i32 at *; omega)) rfl (fun c131 => ?_) (fun c131 => ?_)
                    · skip
                      exfalso; omega
                    · skip
                      refine w_aload rfl rfl (w_iload rfl rfl (w_iload rfl rfl ?_))
                      refine w_call (Or.inr rfl) ((hro)) (by omega) nof_223 rfl rfl rfl rfl (by first | rfl | (show cKB[_]? = _; assumption)) rfl ?_
                      refine w_call (Or.inl rfl) ((hab)) (by omega) nof_209 rfl rfl rfl rfl trivial rfl ?_
                      refine w_goto (tgt := 157) rfl rfl ?_
                      exact w_lreturn rfl hgo
                  · skip
                    exfalso; omega
                · skip
                  exfalso; omega
              · rw [if_neg c2] at hfin
                have hgo := hfin _ rfl
                refine w_iload rfl rfl ?_
                refine w_if_ne (tgt := 102) rfl (by first | assumption | exact i32_0 | (unfold i32 at *; omega)) rfl (fun c72 => ?_) (fun c72 => ?_)
                · skip
                  refine w_iload rfl rfl (w_iconst rfl ?_)
                  refine w_icmp_ne (tgt := 117) rfl (by first | assumption | exact i32_0 | (unfold i32 at *; omega)) (by first | assumption | exact i32_0 | (unfold i32 at *; omega)) rfl (fun c105 => ?_) (fun c105 => ?_)
                  · skip
                    refine w_iload rfl rfl ?_
                    refine w_if_ne (tgt := 128) rfl (by first | assumption | exact i32_0 | (unfold i32 at *; omega)) rfl (fun _ => ?_) (fun c => absurd c (by decide))
                    refine w_iload rfl rfl (w_iconst rfl ?_)
                    refine w_icmp_ne (tgt := 147) rfl (by first | assumption | exact i32_0 | (unfold i32 at *; omega)) (by first | assumption | exact i32_0 | (unfold i32 at *; omega)) rfl (fun c131 => ?_) (fun c131 => ?_)
                    · skip
                      refine w_aload rfl rfl (w_iload rfl rfl (w_iload rfl rfl ?_))
                      refine w_call (Or.inr rfl) ((hro)) (by omega) nof_223 rfl rfl rfl rfl (by first | rfl | (show cKB[_]? = _; assumption)) rfl ?_
                      refine w_call (Or.inl rfl) ((hbe)) (by omega) nof_211 rfl rfl rfl rfl trivial rfl ?_
                      exact w_lreturn rfl hgo
                    · skip
                      exfalso; omega
                  · skip
                    exfalso; omega
                · skip
                  exfalso; omega
          generalize (decide (0 < sd) && !openR (rowsF h) p) = b at *
          cases b with
          | true =>
            have hgo := hend 1 rfl
            clear hend hid hsi hro hab hbe
            refine w_aload rfl rfl (w_iload rfl rfl (w_iload rfl rfl ?_))
            refine w_call (Or.inr rfl) ((hcl)) (by omega) nof_219 rfl rfl rfl rfl (by first | rfl | (show cKB[_]? = _; assumption)) rfl ?_
            refine w_istore (ls2 := [_, _, _, _, _, _, _]) rfl rfl rfl ?_
            exact hgo
          | false =>
            have hgo := hend 0 rfl
            clear hend hid hsi hro hab hbe
            refine w_aload rfl rfl (w_iload rfl rfl (w_iload rfl rfl ?_))
            refine w_call (Or.inr rfl) ((hcl)) (by omega) nof_219 rfl rfl rfl rfl (by first | rfl | (show cKB[_]? = _; assumption)) rfl ?_
            refine w_istore (ls2 := [_, _, _, _, _, _, _]) rfl rfl rfl ?_
            exact hgo
      · rw [if_neg (fun z => qw z.2)]
        have qp := isPlB_iff.mp qp
        have qw := of_decide_eq_false (Bool.eq_false_iff.mpr qw)
        unfold i32 at hw
        refine w_iload rfl rfl ?_
        refine w_call (Or.inl rfl) (m_isCurve1 M q) (by omega) nof_165 rfl rfl rfl rfl trivial rfl ?_
        refine w_if_ne (tgt := 11) rfl (by first | assumption | exact i32_0 | (unfold i32 at *; omega)) rfl (fun _ => ?_) (fun c => absurd c (by decide))
        refine w_iload rfl rfl (w_iload rfl rfl ?_)
        refine w_call (Or.inl rfl) (m_isPlace1 M qp) (by omega) nof_166 rfl rfl rfl rfl trivial rfl ?_
        refine w_if_eq (tgt := 32) rfl (by first | assumption | exact i32_0 | (unfold i32 at *; omega)) rfl (fun c => absurd c (by decide)) (fun _ => ?_)
        refine w_iload rfl rfl (w_i2l rfl (by first | assumption | exact i32_0 | (unfold i32 at *; omega)) (w_lconst rfl (w_lconst rfl ?_)))
        refine w_call (Or.inl rfl) (m_in0 (v := w) (l := 0) (m := 3) M (by unfold i64; omega) (by unfold i64; omega) (by unfold i64; omega) (by omega)) (by omega) nof_150 rfl rfl rfl rfl trivial rfl ?_
        refine w_if_ne (tgt := 36) rfl (by first | assumption | exact i32_0 | (unfold i32 at *; omega)) rfl (fun c => absurd c (by decide)) (fun _ => ?_)
        refine w_lconst rfl ?_
        exact w_lreturn rfl ⟨by first | rfl | (congr 2; omega), by exact MI_same c⟩
    · rw [if_neg (fun z => qp z.1)]
      have qp : ¬ isPl i j := fun z => qp (isPlB_iff.mpr z)
      refine w_iload rfl rfl ?_
      refine w_call (Or.inl rfl) (m_isCurve1 M q) (by omega) nof_165 rfl rfl rfl rfl trivial rfl ?_
      refine w_if_ne (tgt := 11) rfl (by first | assumption | exact i32_0 | (unfold i32 at *; omega)) rfl (fun _ => ?_) (fun c => absurd c (by decide))
      refine w_iload rfl rfl (w_iload rfl rfl ?_)
      refine w_call (Or.inl rfl) (m_isPlace0 M hi hj qp) (by omega) nof_166 rfl rfl rfl rfl trivial rfl ?_
      refine w_if_eq (tgt := 32) rfl (by first | assumption | exact i32_0 | (unfold i32 at *; omega)) rfl (fun _ => ?_) (fun c => absurd c (by decide))
      refine w_lconst rfl ?_
      exact w_lreturn rfl ⟨by first | rfl | (congr 2; omega), by exact MI_same c⟩
  · rw [if_neg q]
    have q : ¬ (a = 0 ∨ a = 1) := fun z => q (isCu_iff.mpr z)
    refine w_iload rfl rfl ?_
    refine w_call (Or.inl rfl) (m_isCurve0 M ha q) (by omega) nof_165 rfl rfl rfl rfl trivial rfl ?_
    refine w_if_ne (tgt := 11) rfl (by first | assumption | exact i32_0 | (unfold i32 at *; omega)) rfl (fun c => absurd c (by decide)) (fun _ => ?_)
    refine w_lconst rfl ?_
    exact w_lreturn rfl ⟨by first | rfl | (congr 2; omega), by exact MI_same c⟩
