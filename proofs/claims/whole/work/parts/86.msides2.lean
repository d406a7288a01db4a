/-! ===== the sides of a cell placed, the code ===== -/
theorem m_sidesOf {a c : Nat} {Q : List (Int × Int)} {R : List (Nat → Int)} {M : mM} (ha : a < 2) (hc : c < 16) (hP : mPL Q M) (hQ : ∀ p ∈ Q, p.1 ≤ 4 ∧ p.2 ≤ 4) (h : mE a R M) (hst : stK R) (hlen : (sdI Q c R Q.length).length ≤ 40) : EQ 5 199 [vR 155, vI a, vI c] M (fun z N => z = none ∧ mE a (sdI Q c R Q.length) N ∧ MeF a M N) := by
  refine q_in (ls := [vR 155, vI a, vI c, vN, vN, vN, vN, vN, vN]) mq_199 (ml_199 rfl) rfl fun D hD => ?_
  have hPN : ∀ N : mM, MeF a M N → mPL Q N := fun N hF => ⟨by rw [hF.1 155 (by omega)]; exact hP.1, hP.2.1, fun k p hk => by rw [hF.1 159 (by omega), hF.1 160 (by omega)]; exact hP.2.2.1 k p hk, hP.2.2.2⟩
  have hQ4 : ∀ k, k < Q.length → (0 ≤ (ptQ Q k).1 ∧ (ptQ Q k).1 ≤ 4) ∧ (0 ≤ (ptQ Q k).2 ∧ (ptQ Q k).2 ≤ 4) := by
    intro k hk
    have hq : Q[k]? = some (ptQ Q k) := by unfold ptQ; rw [List.getElem?_eq_getElem hk]; rfl
    have b1 := hQ _ (List.mem_of_getElem? hq)
    have b2 := hP.2.2.2 _ (List.mem_of_getElem? hq)
    omega
  generalize hPost : (fun (z : Option mV) (N : mM) => z = none ∧ mE a (sdI Q c R Q.length) N ∧ MeF a M N) = Post
  have step : ∀ (i j : Nat) (R1 : List (Nat → Int)) (N : mM) (w5 w6 w7 w8 : mV), i < Q.length → j < Q.length → isdQ Q i j = true → mE a R1 N → stK R1 → MeF a M N → (sdStep c (ptQ Q i) (ptQ Q j) R1).length ≤ 40 → (∀ (N2 : mM) (w5 w6 w7 w8 : mV), mE a (sdStep c (ptQ Q i) (ptQ Q j) R1) N2 → MeF a M N2 → Wp mc_199 D 215 [vR 155, vI a, vI c, vI i, vI j, w5, w6, w7, w8] [] N2 Post) → Wp mc_199 D 32 [vR 155, vI a, vI c, vI i, vI j, w5, w6, w7, w8] [] N Post := by
    intro i j R1 N w5 w6 w7 w8 hi hj hsd hE hs hF hl hout
    have xi := mPL_at (hPN N hF) hi
    have xj := mPL_at (hPN N hF) hj
    have bi := hQ4 i hi
    have bj := hQ4 j hj
    have hne := isdQ_ne hsd
    have hgi := gcd_le8 (x := (ptQ Q j).1 - (ptQ Q i).1) (y := (ptQ Q j).2 - (ptQ Q i).2) (by omega) (by omega) (by omega)
    have hui := tdiv_le8 (x := (ptQ Q i).2 - (ptQ Q j).2) (g := Nat.gcd ((ptQ Q j).1 - (ptQ Q i).1).natAbs ((ptQ Q j).2 - (ptQ Q i).2).natAbs) (by omega)
    have hvi := tdiv_le8 (x := (ptQ Q j).1 - (ptQ Q i).1) (g := Nat.gcd ((ptQ Q j).1 - (ptQ Q i).1).natAbs ((ptQ Q j).2 - (ptQ Q i).2).natAbs) (by omega)
    have hdv := fun N => m_divisor ((ptQ Q j).1 - (ptQ Q i).1) ((ptQ Q j).2 - (ptQ Q i).2) N (by omega) (by omega)
    have hstep : sdStep c (ptQ Q i) (ptQ Q j) R1 = sdPut R1 (if plC (ptQ Q i) < plC (ptQ Q j) then plC (ptQ Q i) else plC (ptQ Q j)) (if plC (ptQ Q i) < plC (ptQ Q j) then plC (ptQ Q j) else plC (ptQ Q i)) c (((ptQ Q i).2 - (ptQ Q j).2).tdiv ((Nat.gcd ((ptQ Q j).1 - (ptQ Q i).1).natAbs ((ptQ Q j).2 - (ptQ Q i).2).natAbs : Nat) : Int)) (((ptQ Q j).1 - (ptQ Q i).1).tdiv ((Nat.gcd ((ptQ Q j).1 - (ptQ Q i).1).natAbs ((ptQ Q j).2 - (ptQ Q i).2).natAbs : Nat) : Int)) := rfl
    have hpi : plC (ptQ Q i) = 5 * (ptQ Q i).1 + (ptQ Q i).2 := rfl
    have hpj : plC (ptQ Q j) = 5 * (ptQ Q j).1 + (ptQ Q j).2 := rfl
    rw [hpi, hpj] at hstep
    have r159 : ∀ N2 : mM, MeF a N N2 → N2 159 ((i : Int)).toNat = (ptQ Q i).1 ∧ N2 159 ((j : Int)).toNat = (ptQ Q j).1 := fun N2 z => by rw [z.1 159 (by omega)]; exact ⟨xi.1.1, xj.1.1⟩
    have r160 : ∀ N2 : mM, MeF a N N2 → N2 160 ((i : Int)).toNat = (ptQ Q i).2 ∧ N2 160 ((j : Int)).toNat = (ptQ Q j).2 := fun N2 z => by rw [z.1 160 (by omega)]; exact ⟨xi.1.2, xj.1.2⟩
    have hl64 := hP.2.1
    clear hPost hQ4 hQ hlen hP
    generalize hG : Nat.gcd ((ptQ Q j).1 - (ptQ Q i).1).natAbs ((ptQ Q j).2 - (ptQ Q i).2).natAbs = G at *
    generalize ptQ Q i = x at *
    generalize ptQ Q j = y at *
    have cont : ∀ (lo hi : Nat) (w5 w6 w8 : mV), lo < 25 → hi < 25 → sdStep c x y R1 = sdPut R1 lo hi c ((x.2 - y.2).tdiv (G : Int)) ((y.1 - x.1).tdiv (G : Int)) → ∀ N2 : mM, MeF a N N2 → (((∃ e, R1[posE lo hi R1]? = some e ∧ e 0 = (lo : Int) ∧ e 1 = (hi : Int)) ∧ N2 = N) ∨ ((¬ ∃ e, R1[posE lo hi R1]? = some e ∧ e 0 = (lo : Int) ∧ e 1 = (hi : Int)) ∧ ∃ e, e 0 = (lo : Int) ∧ e 1 = (hi : Int) ∧ e 2 = -1000000 ∧ e 3 = -1000000 ∧ ∀ u v, (-1000000 ≤ u ∧ u ≤ 1000000) → (-1000000 ≤ v ∧ v ≤ 1000000) → mE a (R1.take (posE lo hi R1) ++ (sR (sR e 4 u) 5 v) :: R1.drop (posE lo hi R1)) (upI (upI N2 170 (40 * a + posE lo hi R1) u) 171 (40 * a + posE lo hi R1) v))) → Wp mc_199 D 103 [vR 155, vI a, vI c, vI i, vI j, w5, w6, vI ((40 * a + posE lo hi R1 : Nat) : Int), w8] [] N2 Post := by
      intro lo hi w5 w6 w8 hlo hhi hst N2 hF2 hcase
      have r1 := r159 N2 hF2
      have r2 := r160 N2 hF2
      have hd2 := hdv N2
      rcases hcase with ⟨⟨e, he, e0, e1⟩, rfl⟩ | ⟨hno, e, e0, e1, e2, e3, hmE⟩
      · have hput : sdStep c x y R1 = R1.set (posE lo hi R1) (sR e 3 c) := by
          rw [hst]
          unfold sdPut
          rw [he]
          exact if_pos ⟨e0, e1⟩
        have hil := (List.getElem?_eq_some_iff.mp he).1
        have hb := hE.2.1
        have h109 : N2 168 (((40 * a + posE lo hi R1 : Nat) : Int).toNat) = e 2 := hE.2.2.2 _ e he 2 (by decide)
        have hrw := hE.2.2.1 e (List.mem_of_getElem? he)
        have hb2 := hrw 2 (by decide)
        have hne2 := hs e (List.mem_of_getElem? he)
        have hE2 : mE a (R1.set (posE lo hi R1) (sR e 3 c)) (upI N2 169 (40 * a + posE lo hi R1) c) := by
          refine mE_set hE hil ?_ ?_ ?_ ?_
          · intro t ht
            have := hrw t ht
            unfold sR
            split <;> omega
          · rw [upI_ne _ _ _ _ (by decide)]
          · intro t ht
            have := hE.2.2.2 _ e he t ht
            by_cases z : t = 3
            · subst z
              exact upI_same _ _ _ _
            · rw [show upI N2 169 (40 * a + posE lo hi R1) c (166 + t) (40 * a + posE lo hi R1) = N2 (166 + t) (40 * a + posE lo hi R1) from if_neg (by omega), this]
              exact (if_neg z).symm
          · intro t k ht hk
            exact if_neg (by omega)
        have hF3 : MeF a M (upI N2 169 (40 * a + posE lo hi R1) c) := MeF_tr hF ⟨fun b hb => upI_ne _ _ _ _ (by omega), fun b k hk hb => if_neg (by omega), fun k hk => if_neg (by omega)⟩
        have hgo := fun w5 w6 w7 w8 => hout _ w5 w6 w7 w8 (by rw [hput]; exact hE2) hF3
        generalize e 2 = s2 at *
        clear hE2 hF3
        have hkl : 40 * a + posE lo hi R1 < 80 := by omega
        generalize 40 * a + posE lo hi R1 = k at *
        refine w_aload rfl rfl (w_getR rfl (by first | rfl | assumption) rfl (by first | rfl | assumption) (w_iload rfl rfl (w_ialoadV rfl (by first | rfl | assumption) (by omega) (by omega) (h109) (w_iconst rfl ?_))))
        refine w_icmp_ne (tgt := 207) rfl (by first | assumption | exact i32_0 | (unfold i32 at *; omega)) (by first | assumption | exact i32_0 | (unfold i32 at *; omega)) rfl (fun c112 => ?_) (fun c112 => ?_)
        · skip
          refine w_aload rfl rfl (w_getR rfl (by first | rfl | assumption) rfl (by first | rfl | assumption) (w_iload rfl rfl (w_iload rfl rfl (w_iastore rfl (by first | rfl | assumption) (by omega) (by omega) ?_))))
          exact hgo _ _ _ _
        · skip
          exfalso; omega
      · have hput : sdStep c x y R1 = insE R1 lo hi c ((x.2 - y.2).tdiv (G : Int)) ((y.1 - x.1).tdiv (G : Int)) := by
          rw [hst]
          unfold sdPut
          split
          · next e4 he4 => exact if_neg (fun z => hno ⟨e4, he4, z⟩)
          · rfl
        have hil := posE_le (lo : Int) (hi : Int) R1
        rw [hput, insE_len] at hl
        have hl1 : ∀ z : Nat → Int, (R1.take (posE lo hi R1) ++ z :: R1.drop (posE lo hi R1))[posE lo hi R1]? = some z := by
          intro z
          rw [List.getElem?_append_right (by rw [List.length_take]; omega), List.length_take, show posE lo hi R1 - min (posE lo hi R1) R1.length = 0 by omega]
          rfl
        have hat : ∀ t, t < 4 → N2 (166 + t) (40 * a + posE lo hi R1) = e t := by
          intro t ht
          have z := (hmE 0 0 (by omega) (by omega)).2.2.2 _ _ (hl1 _) t (by omega)
          rw [upI_ne _ _ _ _ (by omega), upI_ne _ _ _ _ (by omega)] at z
          rw [z]
          show (if t = 5 then _ else if t = 4 then _ else e t) = e t
          rw [if_neg (by omega), if_neg (by omega)]
        have h109 : N2 168 (((40 * a + posE lo hi R1 : Nat) : Int).toNat) = -1000000 := (hat 2 (by decide)).trans e2
        have hrow : ∀ u v : Int, (-8 ≤ u ∧ u ≤ 8) → (-8 ≤ v ∧ v ≤ 8) → mE a (insE R1 lo hi c u v) (upI (upI (upI N2 168 (40 * a + posE lo hi R1) c) 170 (40 * a + posE lo hi R1) u) 171 (40 * a + posE lo hi R1) v) := by
          intro u v hu hv
          have hset := mE_set (i := posE lo hi R1) (M2 := upI (upI (upI N2 168 (40 * a + posE lo hi R1) c) 170 (40 * a + posE lo hi R1) u) 171 (40 * a + posE lo hi R1) v) (e := frE lo hi c u v) (hmE u v (by omega) (by omega)) (by rw [List.length_append, List.length_take, List.length_cons, List.length_drop]; omega) ?_ ?_ ?_ ?_
          · rw [set_ins _ _ _ _ hil] at hset
            exact hset
          · intro t ht
            have hc6 : t = 0 ∨ t = 1 ∨ t = 2 ∨ t = 3 ∨ t = 4 ∨ t = 5 := by omega
            rcases hc6 with rfl | rfl | rfl | rfl | rfl | rfl
            · show -1000000 ≤ (lo : Int) ∧ (lo : Int) ≤ 1000000; omega
            · show -1000000 ≤ (hi : Int) ∧ (hi : Int) ≤ 1000000; omega
            · show -1000000 ≤ (c : Int) ∧ (c : Int) ≤ 1000000; omega
            · show -1000000 ≤ (-1000000 : Int) ∧ (-1000000 : Int) ≤ 1000000; omega
            · show -1000000 ≤ u ∧ u ≤ 1000000; omega
            · show -1000000 ≤ v ∧ v ≤ 1000000; omega
          · rw [upI_ne _ _ _ _ (by decide), upI_ne _ _ _ _ (by decide), upI_ne _ _ _ _ (by decide), upI_ne _ _ _ _ (by decide), upI_ne _ _ _ _ (by decide)]
          · intro t ht
            have hc6 : t = 0 ∨ t = 1 ∨ t = 2 ∨ t = 3 ∨ t = 4 ∨ t = 5 := by omega
            rcases hc6 with rfl | rfl | rfl | rfl | rfl | rfl
            · rw [upI_ne _ _ _ _ (by decide), upI_ne _ _ _ _ (by decide), upI_ne _ _ _ _ (by decide)]
              exact (hat 0 (by decide)).trans e0
            · rw [upI_ne _ _ _ _ (by decide), upI_ne _ _ _ _ (by decide), upI_ne _ _ _ _ (by decide)]
              exact (hat 1 (by decide)).trans e1
            · rw [upI_ne _ _ _ _ (by decide), upI_ne _ _ _ _ (by decide)]
              exact upI_same _ _ _ _
            · rw [upI_ne _ _ _ _ (by decide), upI_ne _ _ _ _ (by decide), upI_ne _ _ _ _ (by decide)]
              exact (hat 3 (by decide)).trans e3
            · rw [upI_ne _ _ _ _ (by decide)]
              exact upI_same _ _ _ _
            · exact upI_same _ _ _ _
          · intro t k ht hk
            unfold upI
            rw [if_neg (by omega), if_neg (by omega), if_neg (by omega), if_neg (by omega), if_neg (by omega)]
        have hF3 : ∀ u v : Int, MeF a M (upI (upI (upI N2 168 (40 * a + posE lo hi R1) c) 170 (40 * a + posE lo hi R1) u) 171 (40 * a + posE lo hi R1) v) := fun u v => MeF_tr hF (MeF_tr hF2 ⟨fun b hb => by rw [upI_ne _ _ _ _ (by omega), upI_ne _ _ _ _ (by omega), upI_ne _ _ _ _ (by omega)], fun b k hk hb => by unfold upI; rw [if_neg (by omega), if_neg (by omega), if_neg (by omega)], fun k hk => by unfold upI; rw [if_neg (by omega), if_neg (by omega), if_neg (by omega)]⟩)
        have hgo := fun w5 w6 w7 w8 => hout _ w5 w6 w7 w8 (by rw [hput]; exact hrow _ _ hui hvi) (hF3 _ _)
        clear hrow hF3 hout hmE hat
        generalize hk0 : 40 * a + posE lo hi R1 = k at *
        have hkl : k < 80 := by omega
        have s167 : upI N2 168 k (c : Int) 160 ((i : Int)).toNat = x.2 := by rw [upI_ne _ _ _ _ (by decide)]; exact r2.1
        have s174 : upI N2 168 k (c : Int) 160 ((j : Int)).toNat = y.2 := by rw [upI_ne _ _ _ _ (by decide)]; exact r2.2
        have s192 : ∀ u, upI (upI N2 168 k (c : Int)) 170 k u 159 ((j : Int)).toNat = y.1 := fun u => by rw [upI_ne _ _ _ _ (by decide), upI_ne _ _ _ _ (by decide)]; exact r1.2
        have s199 : ∀ u, upI (upI N2 168 k (c : Int)) 170 k u 159 ((i : Int)).toNat = x.1 := fun u => by rw [upI_ne _ _ _ _ (by decide), upI_ne _ _ _ _ (by decide)]; exact r1.1
        refine w_aload rfl rfl (w_getR rfl (by first | rfl | assumption) rfl (by first | rfl | assumption) (w_iload rfl rfl (w_ialoadV rfl (by first | rfl | assumption) (by omega) (by omega) (h109) (w_iconst rfl ?_))))
        refine w_icmp_ne (tgt := 207) rfl (by first | assumption | exact i32_0 | (unfold i32 at *; omega)) (by first | assumption | exact i32_0 | (unfold i32 at *; omega)) rfl (fun c112 => ?_) (fun c112 => ?_)
        · skip
          exfalso; omega
        · skip
          refine w_aload rfl rfl (w_getR rfl (by first | rfl | assumption) rfl (by first | rfl | assumption) (w_iload rfl rfl (w_ialoadV rfl (by first | rfl | assumption) (by omega) (by omega) (r1.2) (w_aload rfl rfl (w_getR rfl (by first | rfl | assumption) rfl (by first | rfl | assumption) (w_iload rfl rfl (w_ialoadV rfl (by first | rfl | assumption) (by omega) (by omega) (r1.1) ?_)))))))
          refine w_isub rfl (w_aload rfl rfl (w_getR rfl (by first | rfl | assumption) rfl (by first | rfl | assumption) (w_iload rfl rfl (w_ialoadV rfl (by first | rfl | assumption) (by omega) (by omega) (r2.2) (w_aload rfl rfl (w_getR rfl (by first | rfl | assumption) rfl (by first | rfl | assumption) (w_iload rfl rfl ?_)))))))
          refine w_ialoadV rfl (by first | rfl | assumption) (by omega) (by omega) (r2.1) (w_isub rfl ?_)
          refine w_call (Or.inl rfl) ((hd2)) (by omega) nof_195 rfl rfl rfl rfl trivial rfl ?_
          refine w_istore (ls2 := [_, _, _, _, _, _, _, _, _]) rfl rfl rfl (w_aload rfl rfl (w_getR rfl (by first | rfl | assumption) rfl (by first | rfl | assumption) (w_iload rfl rfl (w_iload rfl rfl (w_iastore rfl (by first | rfl | assumption) (by omega) (by omega) (w_aload rfl rfl (w_getR rfl (by first | rfl | assumption) rfl (by first | rfl | assumption) ?_)))))))
          refine w_iload rfl rfl (w_aload rfl rfl (w_getR rfl (by first | rfl | assumption) rfl (by first | rfl | assumption) (w_iload rfl rfl (w_ialoadV rfl (by first | rfl | assumption) (by omega) (by omega) (s167) (w_aload rfl rfl (w_getR rfl (by first | rfl | assumption) rfl (by first | rfl | assumption) (w_iload rfl rfl ?_)))))))
          refine w_ialoadV rfl (by first | rfl | assumption) (by omega) (by omega) (s174) (w_isub rfl (w_iload rfl rfl (w_idiv rfl (by first | assumption | exact i32_0 | (unfold i32 at *; omega)) (by first | assumption | exact i32_0 | (unfold i32 at *; omega)) (by first | decide | omega | assumption) (w_iastore rfl (by first | rfl | assumption) (by omega) (by omega) (w_aload rfl rfl (w_getR rfl (by first | rfl | assumption) rfl (by first | rfl | assumption) (w_iload rfl rfl ?_)))))))
          refine w_aload rfl rfl (w_getR rfl (by first | rfl | assumption) rfl (by first | rfl | assumption) (w_iload rfl rfl (w_ialoadV rfl (by first | rfl | assumption) (by omega) (by omega) (s192 _) (w_aload rfl rfl (w_getR rfl (by first | rfl | assumption) rfl (by first | rfl | assumption) (w_iload rfl rfl (w_ialoadV rfl (by first | rfl | assumption) (by omega) (by omega) (s199 _) ?_)))))))
          refine w_isub rfl (w_iload rfl rfl (w_idiv rfl (by first | assumption | exact i32_0 | (unfold i32 at *; omega)) (by first | assumption | exact i32_0 | (unfold i32 at *; omega)) (by first | decide | omega | assumption) (w_iastore rfl (by first | rfl | assumption) (by omega) (by omega) (w_goto (tgt := 215) rfl rfl ?_))))
          exact hgo _ _ _ _
    obtain ⟨p, hp⟩ : ∃ p : Nat, 5 * x.1 + x.2 = (p : Int) := ⟨(5 * x.1 + x.2).toNat, by omega⟩
    obtain ⟨q, hq⟩ : ∃ q : Nat, 5 * y.1 + y.2 = (q : Int) := ⟨(5 * y.1 + y.2).toNat, by omega⟩
    rw [hp, hq] at hstep
    have hpl : p < 25 := by omega
    have hql : q < 25 := by omega
    have hpq : p ≠ q := by omega
    have room : ∀ lo hi : Nat, sdStep c x y R1 = sdPut R1 lo hi c ((x.2 - y.2).tdiv (G : Int)) ((y.1 - x.1).tdiv (G : Int)) → R1.length < 40 ∨ ∃ e, R1[posE lo hi R1]? = some e ∧ e 0 = (lo : Int) ∧ e 1 = (hi : Int) := by
      intro lo hi hst
      by_cases z : ∃ e, R1[posE lo hi R1]? = some e ∧ e 0 = (lo : Int) ∧ e 1 = (hi : Int)
      · exact Or.inr z
      · refine Or.inl ?_
        have hput : sdStep c x y R1 = insE R1 lo hi c ((x.2 - y.2).tdiv (G : Int)) ((y.1 - x.1).tdiv (G : Int)) := by
          rw [hst]
          unfold sdPut
          split
          · next e4 he4 => exact if_neg (fun w => z ⟨e4, he4, w⟩)
          · rfl
        rw [hput, insE_len] at hl
        omega
    by_cases hlt : (p : Int) < (q : Int)
    · rw [if_pos hlt, if_pos hlt] at hstep
      have hpe := m_placesEdge ha hpl hql hE (room p q hstep)
      have hgo := fun w5 w6 w8 => cont p q w5 w6 w8 hpl hql hstep
      clear cont room hout hstep hui hvi hdv hgi
      refine w_iconst rfl (w_aload rfl rfl (w_getR rfl (by first | rfl | assumption) rfl (by first | rfl | assumption) (w_iload rfl rfl (w_ialoadV rfl (by first | rfl | assumption) (by omega) (by omega) (xi.1.1) (w_imul rfl (w_aload rfl rfl (w_getR rfl (by first | rfl | assumption) rfl (by first | rfl | assumption) ?_)))))))
      refine w_iload rfl rfl (w_ialoadV rfl (by first | rfl | assumption) (by omega) (by omega) (xi.1.2) (w_iadd rfl ?_))
      rw [hp]
      refine w_istore (ls2 := [_, _, _, _, _, _, _, _, _]) rfl rfl rfl (w_iconst rfl (w_aload rfl rfl (w_getR rfl (by first | rfl | assumption) rfl (by first | rfl | assumption) (w_iload rfl rfl (w_ialoadV rfl (by first | rfl | assumption) (by omega) (by omega) (xj.1.1) (w_imul rfl (w_aload rfl rfl ?_)))))))
      refine w_getR rfl (by first | rfl | assumption) rfl (by first | rfl | assumption) (w_iload rfl rfl (w_ialoadV rfl (by first | rfl | assumption) (by omega) (by omega) (xj.1.2) (w_iadd rfl ?_)))
      rw [hq]
      refine w_istore (ls2 := [_, _, _, _, _, _, _, _, _]) rfl rfl rfl (w_aload rfl rfl (w_iload rfl rfl (w_iload rfl rfl (w_iload rfl rfl ?_))))
      refine w_icmp_ge (tgt := 82) rfl (by first | assumption | exact i32_0 | (unfold i32 at *; omega)) (by first | assumption | exact i32_0 | (unfold i32 at *; omega)) rfl (fun c74 => ?_) (fun c74 => ?_)
      · exfalso; omega
      · skip
        refine w_iload rfl rfl (w_goto (tgt := 84) rfl rfl (w_iload rfl rfl (w_iload rfl rfl ?_)))
        refine w_icmp_ge (tgt := 96) rfl (by first | assumption | exact i32_0 | (unfold i32 at *; omega)) (by first | assumption | exact i32_0 | (unfold i32 at *; omega)) rfl (fun c88 => ?_) (fun c88 => ?_)
        · exfalso; omega
        · skip
          refine w_iload rfl rfl (w_goto (tgt := 98) rfl rfl ?_)
          refine w_callQ (Or.inr rfl) (hpe) (by omega) nof_197 rfl rfl rfl rfl (by first | rfl | (show cKB[_]? = _; assumption)) (fun r98 M98 hq98 => ?_)
          obtain ⟨rfl, w1, w2⟩ := hq98
          refine w_istore (ls2 := [_, _, _, _, _, _, _, _, _]) rfl rfl rfl ?_
          exact hgo _ _ _ _ w1 w2
    · rw [if_neg hlt, if_neg hlt] at hstep
      have hpe := m_placesEdge ha hql hpl hE (room q p hstep)
      have hgo := fun w5 w6 w8 => cont q p w5 w6 w8 hql hpl hstep
      clear cont room hout hstep hui hvi hdv hgi
      refine w_iconst rfl (w_aload rfl rfl (w_getR rfl (by first | rfl | assumption) rfl (by first | rfl | assumption) (w_iload rfl rfl (w_ialoadV rfl (by first | rfl | assumption) (by omega) (by omega) (xi.1.1) (w_imul rfl (w_aload rfl rfl (w_getR rfl (by first | rfl | assumption) rfl (by first | rfl | assumption) ?_)))))))
      refine w_iload rfl rfl (w_ialoadV rfl (by first | rfl | assumption) (by omega) (by omega) (xi.1.2) (w_iadd rfl ?_))
      rw [hp]
      refine w_istore (ls2 := [_, _, _, _, _, _, _, _, _]) rfl rfl rfl (w_iconst rfl (w_aload rfl rfl (w_getR rfl (by first | rfl | assumption) rfl (by first | rfl | assumption) (w_iload rfl rfl (w_ialoadV rfl (by first | rfl | assumption) (by omega) (by omega) (xj.1.1) (w_imul rfl (w_aload rfl rfl ?_)))))))
      refine w_getR rfl (by first | rfl | assumption) rfl (by first | rfl | assumption) (w_iload rfl rfl (w_ialoadV rfl (by first | rfl | assumption) (by omega) (by omega) (xj.1.2) (w_iadd rfl ?_)))
      rw [hq]
      refine w_istore (ls2 := [_, _, _, _, _, _, _, _, _]) rfl rfl rfl (w_aload rfl rfl (w_iload rfl rfl (w_iload rfl rfl (w_iload rfl rfl ?_))))
      refine w_icmp_ge (tgt := 82) rfl (by first | assumption | exact i32_0 | (unfold i32 at *; omega)) (by first | assumption | exact i32_0 | (unfold i32 at *; omega)) rfl (fun c74 => ?_) (fun c74 => ?_)
      · skip
        refine w_iload rfl rfl (w_iload rfl rfl (w_iload rfl rfl ?_))
        refine w_icmp_ge (tgt := 96) rfl (by first | assumption | exact i32_0 | (unfold i32 at *; omega)) (by first | assumption | exact i32_0 | (unfold i32 at *; omega)) rfl (fun c88 => ?_) (fun c88 => ?_)
        · skip
          refine w_iload rfl rfl ?_
          refine w_callQ (Or.inr rfl) (hpe) (by omega) nof_197 rfl rfl rfl rfl (by first | rfl | (show cKB[_]? = _; assumption)) (fun r98 M98 hq98 => ?_)
          obtain ⟨rfl, w1, w2⟩ := hq98
          refine w_istore (ls2 := [_, _, _, _, _, _, _, _, _]) rfl rfl rfl ?_
          exact hgo _ _ _ _ w1 w2
        · exfalso; omega
      · exfalso; omega
  have hcn : (c : Int) ≠ -1000000 := by omega
  have hq64 : Q.length ≤ 64 := hP.2.1
  have loopJ : ∀ (i : Nat), i < Q.length → (∀ (N : mM) (w5 w6 w7 w8 : mV), mE a (sdI Q c R (i + 1)) N → MeF a M N → Wp mc_199 D 2 [vR 155, vI a, vI c, vI ((i + 1 : Nat) : Int), vI Q.length, w5, w6, w7, w8] [] N Post) → ∀ (z n : Nat) (N : mM) (w5 w6 w7 w8 : mV), Q.length - n = z → n ≤ Q.length → mE a (sdJ Q c i (sdI Q c R i) n) N → MeF a M N → Wp mc_199 D 13 [vR 155, vI a, vI c, vI i, vI n, w5, w6, w7, w8] [] N Post := by
    intro i hi hout z
    induction z with
    | zero =>
      intro n N w5 w6 w7 w8 hz hn hE hF
      obtain rfl : n = Q.length := by omega
      have hm := (hPN N hF).1
      have hgo := hout N w5 w6 w7 w8 hE hF
      clear step hPost
      generalize Q.length = m at *
      refine w_iload rfl rfl (w_aload rfl rfl (w_getIV rfl (by first | rfl | assumption) (by first | exact Or.inl rfl | exact Or.inr rfl) (hm) ?_))
      refine w_icmp_ge (tgt := 221) rfl (by first | assumption | exact i32_0 | (unfold i32 at *; omega)) (by first | assumption | exact i32_0 | (unfold i32 at *; omega)) rfl (fun c19 => ?_) (fun c19 => ?_)
      · skip
        refine w_iinc (ls2 := [_, _, _, _, _, _, _, _, _]) rfl rfl rfl (w_goto (tgt := 2) rfl rfl ?_)
        exact hgo
      · skip
        exfalso; omega
    | succ z ih =>
      intro n N w5 w6 w7 w8 hz hn hE hF
      have ihn := fun N w5 w6 w7 w8 => ih (n + 1) N w5 w6 w7 w8 (by omega) (by omega)
      have hm := (hPN N hF).1
      have his := m_isSide (hPN N hF) hi (show n < Q.length by omega)
      have hJ : sdJ Q c i (sdI Q c R i) (n + 1) = if isdQ Q i n = true then sdStep c (ptQ Q i) (ptQ Q n) (sdJ Q c i (sdI Q c R i) n) else sdJ Q c i (sdI Q c R i) n := rfl
      have hl1 := sdJ_len Q c i (sdI Q c R i) (n + 1) Q.length (by omega)
      have hl2 := sdI_len Q c R (i + 1) Q.length (by omega)
      have hI : sdJ Q c i (sdI Q c R i) Q.length = sdI Q c R (i + 1) := rfl
      rw [hI] at hl1
      rw [hJ] at ihn hl1
      cases e : isdQ Q i n with
      | true =>
        rw [e, if_pos rfl] at his
        rw [e, if_pos rfl] at ihn hl1
        have hsk := sdJ_stK (Q := Q) (i := i) (sdI_stK (Q := Q) hst hcn i) hcn n
        have after : ∀ (N2 : mM) (w5 w6 w7 w8 : mV), mE a (sdStep c (ptQ Q i) (ptQ Q n) (sdJ Q c i (sdI Q c R i) n)) N2 → MeF a M N2 → Wp mc_199 D 215 [vR 155, vI a, vI c, vI i, vI n, w5, w6, w7, w8] [] N2 Post := by
          intro N2 w5 w6 w7 w8 q1 q2
          have hih := ihn N2 w5 w6 w7 w8 q1 q2
          clear step hPost ihn hJ hl1 hl2 hI hsk hout ih
          generalize Q.length = m at *
          refine w_iinc (ls2 := [_, _, _, _, _, _, _, _, _]) rfl rfl rfl (w_goto (tgt := 13) rfl rfl ?_)
          exact hih
        have hgo := step i n _ N w5 w6 w7 w8 hi (by omega) e hE hsk hF (by omega) after
        clear after step hPost ihn hJ hl1 hl2 hI hsk hout ih
        generalize Q.length = m at *
        refine w_iload rfl rfl (w_aload rfl rfl (w_getIV rfl (by first | rfl | assumption) (by first | exact Or.inl rfl | exact Or.inr rfl) (hm) ?_))
        refine w_icmp_ge (tgt := 221) rfl (by first | assumption | exact i32_0 | (unfold i32 at *; omega)) (by first | assumption | exact i32_0 | (unfold i32 at *; omega)) rfl (fun c19 => ?_) (fun c19 => ?_)
        · exfalso; omega
        · skip
          refine w_aload rfl rfl (w_iload rfl rfl (w_iload rfl rfl ?_))
          refine w_call (Or.inr rfl) ((his)) (by omega) nof_200 rfl rfl rfl rfl (by first | rfl | (show cKB[_]? = _; assumption)) rfl ?_
          refine w_if_eq (tgt := 215) rfl (by first | assumption | exact i32_0 | (unfold i32 at *; omega)) rfl (fun c => absurd c (by decide)) (fun _ => ?_)
          exact hgo
      | false =>
        rw [e, if_neg (by decide)] at his
        rw [e, if_neg (by decide)] at ihn hl1
        have hih := ihn N w5 w6 w7 w8 hE hF
        clear step hPost ihn hJ hl1 hl2 hI hout ih
        generalize Q.length = m at *
        refine w_iload rfl rfl (w_aload rfl rfl (w_getIV rfl (by first | rfl | assumption) (by first | exact Or.inl rfl | exact Or.inr rfl) (hm) ?_))
        refine w_icmp_ge (tgt := 221) rfl (by first | assumption | exact i32_0 | (unfold i32 at *; omega)) (by first | assumption | exact i32_0 | (unfold i32 at *; omega)) rfl (fun c19 => ?_) (fun c19 => ?_)
        · exfalso; omega
        · skip
          refine w_aload rfl rfl (w_iload rfl rfl (w_iload rfl rfl ?_))
          refine w_call (Or.inr rfl) ((his)) (by omega) nof_200 rfl rfl rfl rfl (by first | rfl | (show cKB[_]? = _; assumption)) rfl ?_
          refine w_if_eq (tgt := 215) rfl (by first | assumption | exact i32_0 | (unfold i32 at *; omega)) rfl (fun _ => ?_) (fun c => absurd c (by decide))
          refine w_iinc (ls2 := [_, _, _, _, _, _, _, _, _]) rfl rfl rfl (w_goto (tgt := 13) rfl rfl ?_)
          exact hih
  have loopI : ∀ (z n : Nat) (N : mM) (w4 w5 w6 w7 w8 : mV), Q.length - n = z → n ≤ Q.length → mE a (sdI Q c R n) N → MeF a M N → Wp mc_199 D 2 [vR 155, vI a, vI c, vI n, w4, w5, w6, w7, w8] [] N Post := by
    intro z
    induction z with
    | zero =>
      intro n N w4 w5 w6 w7 w8 hz hn hE hF
      obtain rfl : n = Q.length := by omega
      have hm := (hPN N hF).1
      have hfin : Post none N := by
        rw [← hPost]
        exact ⟨rfl, hE, hF⟩
      clear step hPost loopJ
      generalize Q.length = m at *
      refine w_iload rfl rfl (w_aload rfl rfl (w_getIV rfl (by first | rfl | assumption) (by first | exact Or.inl rfl | exact Or.inr rfl) (hm) ?_))
      refine w_icmp_ge (tgt := 227) rfl (by first | assumption | exact i32_0 | (unfold i32 at *; omega)) (by first | assumption | exact i32_0 | (unfold i32 at *; omega)) rfl (fun c7 => ?_) (fun c7 => ?_)
      · skip
        exact w_return rfl hfin
      · skip
        exfalso; omega
    | succ z ih =>
      intro n N w4 w5 w6 w7 w8 hz hn hE hF
      have hm := (hPN N hF).1
      have hgo := loopJ n (by omega) (fun N w5 w6 w7 w8 q1 q2 => ih (n + 1) N (vI Q.length) w5 w6 w7 w8 (by omega) (by omega) q1 q2) Q.length 0 N w5 w6 w7 w8 rfl (Nat.zero_le _) hE hF
      clear step hPost loopJ ih
      generalize Q.length = m at *
      refine w_iload rfl rfl (w_aload rfl rfl (w_getIV rfl (by first | rfl | assumption) (by first | exact Or.inl rfl | exact Or.inr rfl) (hm) ?_))
      refine w_icmp_ge (tgt := 227) rfl (by first | assumption | exact i32_0 | (unfold i32 at *; omega)) (by first | assumption | exact i32_0 | (unfold i32 at *; omega)) rfl (fun c7 => ?_) (fun c7 => ?_)
      · exfalso; omega
      · skip
        refine w_iconst rfl (w_istore (ls2 := [_, _, _, _, _, _, _, _, _]) rfl rfl rfl ?_)
        exact hgo
  have hgo := loopI Q.length 0 M vN vN vN vN vN rfl (Nat.zero_le _) h (MeF_rfl a M)
  clear step hPost loopJ loopI
  refine w_iconst rfl (w_istore (ls2 := [_, _, _, _, _, _, _, _, _]) rfl rfl rfl ?_)
  exact hgo
