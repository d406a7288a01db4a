/-! ===== the model's bridges, the code ===== -/
theorem m_isBridge {a j n0 : Nat} {h : Cv} {M : mM} (ha : a < 2) (hv : mvE a h M) (hok : rowsOK n0 (rowsF h)) (hn0 : n0 ≤ 16) (hj : j < (rowsF h).length) : EQ 2 217 [vR 155, vI a, vI ((40 * a + j : Nat) : Int)] M (fun z N => z = some (vI (if mBrK ((rowsF h).map endK) j = true then 1 else 0)) ∧ BrF M N) := by
  have hl30 := hv.2.1
  have h172 : M 172 ((a : Int)).toNat = ((rowsF h).length : Int) := hv.1
  have hat := fun k hk => mv_at (k := k) hv hok hk
  have hb5 : ∀ k (hk : k < (rowsF h).length), ((rowsF h)[k]'hk) 5 ≠ -1000000 → ∃ x y : Nat, ((rowsF h)[k]'hk) 4 = (x : Int) ∧ ((rowsF h)[k]'hk) 5 = (y : Int) ∧ x < 16 ∧ y < 16 := by
    intro k hk z
    obtain ⟨b4, b5, -⟩ := (hok _ (List.getElem_mem hk)).2.2 z
    exact ⟨_, _, (Int.toNat_of_nonneg b4.1).symm, (Int.toNat_of_nonneg b5.1).symm, by omega, by omega⟩
  clear hv hok
  generalize rowsF h = R at *
  have hK : ∀ k (hk : k < R.length), ((R.map endK)[k]?).getD none = endK (R[k]'hk) := by
    intro k hk
    rw [List.getElem?_map, List.getElem?_eq_getElem hk]
    rfl
  have hKl : (R.map endK).length = R.length := List.length_map ..
  refine q_in (ls := [vR 155, vI a, vI ((40 * a + j : Nat) : Int), vN, vN, vN]) mq_217 (ml_217 rfl) rfl fun D hD => ?_
  have hxj := hat j hj
  have hbj := hb5 j hj
  have hKj := hK j hj
  have hbd := m_isBounded (j := 40 * a + j) (M := M) (by omega) hxj.2.1.2 hxj.2.2.2.2.2.2.1
  by_cases z5 : (R[j]'hj) 5 = -1000000
  · have hans : mBrK (R.map endK) j = false := by
      unfold mBrK
      rw [hKj]
      unfold endK
      rw [if_pos z5]
    rw [hans]
    rw [if_pos z5] at hbd
    clear hat hb5 hK hxj hbj hKj
    refine w_aload rfl rfl (w_iload rfl rfl ?_)
    refine w_call (Or.inr rfl) ((hbd)) (by omega) nof_215 rfl rfl rfl rfl (by first | rfl | (show cKB[_]? = _; assumption)) rfl ?_
    refine w_if_ne (tgt := 10) rfl (by first | assumption | exact i32_0 | (unfold i32 at *; omega)) rfl (fun c => absurd c (by decide)) (fun _ => ?_)
    refine w_iconst rfl ?_
    exact w_zreturn rfl (by first | exact Or.inl rfl | exact Or.inr rfl | omega | assumption) ⟨by first | rfl | (congr 2; omega), by exact fun _ _ => rfl⟩
  · rw [if_neg z5] at hbd
    obtain ⟨x, y, e4, e5, hx, hy⟩ := hbj z5
    have hxk : M 168 (((40 * a + j : Nat) : Int).toNat) = (x : Int) := hxj.2.1.1.trans e4
    have hyk : M 169 (((40 * a + j : Nat) : Int).toNat) = (y : Int) := hxj.2.1.2.trans e5
    have hans : mBrK (R.map endK) j = !(sprI (R.map endK) j (2 ^ x) 16).testBit y := by
      unfold mBrK
      rw [hKj, endK_some e4 e5]
    rw [hans]
    clear hans hxj hbj hKj z5 e4 e5
    have hj80 : 40 * a + j < 80 := by omega
    generalize hPost : (fun (z : Option mV) (N : mM) => z = some (vI (if (!(sprI (R.map endK) j (2 ^ x) 16).testBit y) = true then 1 else 0)) ∧ BrF M N) = Post
    have hend : ∀ (N : mM) (w4 w5 : mV), rchM (sprI (R.map endK) j (2 ^ x) 16) N → BrF M N → Wp mc_217 D 167 [vR 155, vI a, vI ((40 * a + j : Nat) : Int), vI (16 : Nat), w4, w5] [] N Post := by
      intro N w4 w5 hr hF
      have hry := hr y hy
      have q169 : N 169 (((40 * a + j : Nat) : Int).toNat) = (y : Int) := by rw [hF 169 (by decide)]; exact hyk
      clear hat hb5 hK hr
      rw [← hPost]
      generalize 40 * a + j = jj at *
      cases e : (sprI (R.map endK) j (2 ^ x) 16).testBit y with
      | true =>
        rw [e, if_pos rfl] at hry
        have hry : N 176 ((y : Int)).toNat = 1 := hry
        refine w_aload rfl rfl (w_getR rfl (by first | rfl | assumption) rfl (by first | rfl | assumption) (w_aload rfl rfl (w_getR rfl (by first | rfl | assumption) rfl (by first | rfl | assumption) (w_iload rfl rfl (w_ialoadV rfl (by first | rfl | assumption) (by omega) (by omega) (q169) (w_baloadV rfl (by first | rfl | assumption) (by omega) (by omega) (hry) ?_))))))
        refine w_if_ne (tgt := 185) rfl (by first | assumption | exact i32_0 | (unfold i32 at *; omega)) rfl (fun _ => ?_) (fun c => absurd c (by decide))
        refine w_iconst rfl ?_
        exact w_zreturn rfl (by first | exact Or.inl rfl | exact Or.inr rfl | omega | assumption) ⟨by first | rfl | (congr 2; omega), by exact hF⟩
      | false =>
        rw [e, if_neg (by decide)] at hry
        have hry : N 176 ((y : Int)).toNat = 0 := hry
        refine w_aload rfl rfl (w_getR rfl (by first | rfl | assumption) rfl (by first | rfl | assumption) (w_aload rfl rfl (w_getR rfl (by first | rfl | assumption) rfl (by first | rfl | assumption) (w_iload rfl rfl (w_ialoadV rfl (by first | rfl | assumption) (by omega) (by omega) (q169) (w_baloadV rfl (by first | rfl | assumption) (by omega) (by omega) (hry) ?_))))))
        refine w_if_ne (tgt := 185) rfl (by first | assumption | exact i32_0 | (unfold i32 at *; omega)) rfl (fun c => absurd c (by decide)) (fun _ => ?_)
        refine w_iconst rfl (w_goto (tgt := 186) rfl rfl ?_)
        exact w_zreturn rfl (by first | exact Or.inl rfl | exact Or.inr rfl | omega | assumption) ⟨by first | rfl | (congr 2; omega), by exact hF⟩
    have inner : ∀ (r s : Nat), (∀ (N : mM) (w4 w5 : mV), rchM (sprK (R.map endK) j s R.length) N → BrF M N → Wp mc_217 D 161 [vR 155, vI a, vI ((40 * a + j : Nat) : Int), vI r, w4, w5] [] N Post) → ∀ (z n : Nat) (N : mM) (w5 : mV), R.length - n = z → n ≤ R.length → rchM (sprK (R.map endK) j s n) N → BrF M N → Wp mc_217 D 59 [vR 155, vI a, vI ((40 * a + j : Nat) : Int), vI r, vI ((40 * a + n : Nat) : Int), w5] [] N Post := by
      intro r s hout z
      induction z with
      | zero =>
        intro n N w5 hz hn hr hF
        obtain rfl : n = R.length := by omega
        have q172 : N 172 ((a : Int)).toNat = (R.length : Int) := by rw [hF 172 (by decide)]; exact h172
        have hgo := hout N (vI ((40 * a + R.length : Nat) : Int)) w5 hr hF
        clear hat hb5 hK hPost hend hout
        generalize R.length = m at *
        refine w_iload rfl rfl (w_iconst rfl (w_iload rfl rfl (w_imul rfl (w_aload rfl rfl (w_getR rfl (by first | rfl | assumption) rfl (by first | rfl | assumption) (w_iload rfl rfl (w_ialoadV rfl (by first | rfl | assumption) (by omega) (by omega) (q172) ?_)))))))
        refine w_iadd rfl ?_
        refine w_icmp_ge (tgt := 161) rfl (by first | assumption | exact i32_0 | (unfold i32 at *; omega)) (by first | assumption | exact i32_0 | (unfold i32 at *; omega)) rfl (fun c72 => ?_) (fun c72 => ?_)
        · skip
          exact hgo
        · skip
          exfalso; omega
      | succ z ih =>
        intro n N w5 hz hn hr hF
        have hnl : n < R.length := by omega
        have q172 : N 172 ((a : Int)).toNat = (R.length : Int) := by rw [hF 172 (by decide)]; exact h172
        have ihn := fun N w5 => ih (n + 1) N w5 (by omega) (by omega)
        have hS : sprK (R.map endK) j s (n + 1) = if n = j then sprK (R.map endK) j s n else spr1 (((R.map endK)[n]?).getD none) (sprK (R.map endK) j s n) := rfl
        rw [hS, hK n hnl] at ihn
        have hxn := hat n hnl
        have hbn := hb5 n hnl
        have v4 : N 168 (((40 * a + n : Nat) : Int).toNat) = (R[n]'hnl) 4 := by rw [hF 168 (by decide)]; exact hxn.2.1.1
        have v5 : N 169 (((40 * a + n : Nat) : Int).toNat) = (R[n]'hnl) 5 := by rw [hF 169 (by decide)]; exact hxn.2.1.2
        have hbd := m_isBounded (j := 40 * a + n) (M := N) (by omega) v5 hxn.2.2.2.2.2.2.1
        have hi : ((40 * a + n : Nat) : Int) + 1 = ((40 * a + (n + 1) : Nat) : Int) := by omega
        have hn80 : 40 * a + n < 80 := by omega
        clear hat hb5 hK hPost hend hout ih hS hxn
        generalize (R[n]'hnl) = e at *
        generalize sprK (R.map endK) j s n = S at *
        by_cases z6 : e 5 = -1000000
        · have hen : endK e = none := if_pos z6
          rw [hen] at ihn
          have hgo := ihn N w5 (by
            split
            · exact hr
            · exact hr) hF
          rw [if_pos z6] at hbd
          clear ihn
          generalize R.length = m at *
          refine w_iload rfl rfl (w_iconst rfl (w_iload rfl rfl (w_imul rfl (w_aload rfl rfl (w_getR rfl (by first | rfl | assumption) rfl (by first | rfl | assumption) (w_iload rfl rfl (w_ialoadV rfl (by first | rfl | assumption) (by omega) (by omega) (q172) ?_)))))))
          refine w_iadd rfl ?_
          refine w_icmp_ge (tgt := 161) rfl (by first | assumption | exact i32_0 | (unfold i32 at *; omega)) (by first | assumption | exact i32_0 | (unfold i32 at *; omega)) rfl (fun c72 => ?_) (fun c72 => ?_)
          · exfalso; omega
          · skip
            refine w_aload rfl rfl (w_iload rfl rfl ?_)
            refine w_call (Or.inr rfl) ((hbd)) (by omega) nof_215 rfl rfl rfl rfl (by first | rfl | (show cKB[_]? = _; assumption)) rfl ?_
            refine w_if_eq (tgt := 155) rfl (by first | assumption | exact i32_0 | (unfold i32 at *; omega)) rfl (fun _ => ?_) (fun c => absurd c (by decide))
            refine w_iinc (ls2 := [_, _, _, _, _, _]) rfl rfl rfl ?_
            rw [hi]
            refine w_goto (tgt := 59) rfl rfl ?_
            exact hgo
        · rw [if_neg z6] at hbd
          by_cases zj : n = j
          · rw [if_pos zj] at ihn
            have hgo := ihn N w5 hr hF
            clear ihn
            generalize R.length = m at *
            refine w_iload rfl rfl (w_iconst rfl (w_iload rfl rfl (w_imul rfl (w_aload rfl rfl (w_getR rfl (by first | rfl | assumption) rfl (by first | rfl | assumption) (w_iload rfl rfl (w_ialoadV rfl (by first | rfl | assumption) (by omega) (by omega) (q172) ?_)))))))
            refine w_iadd rfl ?_
            refine w_icmp_ge (tgt := 161) rfl (by first | assumption | exact i32_0 | (unfold i32 at *; omega)) (by first | assumption | exact i32_0 | (unfold i32 at *; omega)) rfl (fun c72 => ?_) (fun c72 => ?_)
            · exfalso; omega
            · skip
              refine w_aload rfl rfl (w_iload rfl rfl ?_)
              refine w_call (Or.inr rfl) ((hbd)) (by omega) nof_215 rfl rfl rfl rfl (by first | rfl | (show cKB[_]? = _; assumption)) rfl ?_
              refine w_if_eq (tgt := 155) rfl (by first | assumption | exact i32_0 | (unfold i32 at *; omega)) rfl (fun c => absurd c (by decide)) (fun _ => ?_)
              refine w_iload rfl rfl (w_iload rfl rfl ?_)
              refine w_icmp_eq (tgt := 155) rfl (by first | assumption | exact i32_0 | (unfold i32 at *; omega)) (by first | assumption | exact i32_0 | (unfold i32 at *; omega)) rfl (fun c87 => ?_) (fun c87 => ?_)
              · skip
                refine w_iinc (ls2 := [_, _, _, _, _, _]) rfl rfl rfl ?_
                rw [hi]
                refine w_goto (tgt := 59) rfl rfl ?_
                exact hgo
              · skip
                exfalso; omega
          · rw [if_neg zj] at ihn
            obtain ⟨p, q, ep, eq, hp, hq⟩ := hbn z6
            rw [endK_some ep eq] at ihn
            rw [ep] at v4
            rw [eq] at v5
            have hput := fun v hv => rchM_put (v := v) hp hq hr hv
            have hFu : ∀ v, BrF M (upI (upI N 176 p v) 176 q v) := fun v b hb => by rw [upI_ne _ _ _ _ hb, upI_ne _ _ _ _ hb]; exact hF b hb
            have r1 := hr p hp
            have r2 := hr q hq
            have hgo := fun v hv => ihn (upI (upI N 176 p v) 176 q v) (vI v) (hput v hv) (hFu v)
            have v5b : ∀ v, upI N 176 p v 169 (((40 * a + n : Nat) : Int).toNat) = (q : Int) := fun v => by rw [upI_ne _ _ _ _ (by decide)]; exact v5
            clear ihn hput hFu hbn
            generalize R.length = m at *
            generalize hjn : 40 * a + (n + 1) = jn at *
            generalize hjm : 40 * a + n = jm at *
            cases b1 : S.testBit p with
            | true =>
              rw [b1, if_pos rfl] at r1
              have r1 : N 176 ((p : Int)).toNat = 1 := r1
              have hgo := hgo 1 (by rw [b1]; rfl)
              refine w_iload rfl rfl (w_iconst rfl (w_iload rfl rfl (w_imul rfl (w_aload rfl rfl (w_getR rfl (by first | rfl | assumption) rfl (by first | rfl | assumption) (w_iload rfl rfl (w_ialoadV rfl (by first | rfl | assumption) (by omega) (by omega) (q172) ?_)))))))
              refine w_iadd rfl ?_
              refine w_icmp_ge (tgt := 161) rfl (by first | assumption | exact i32_0 | (unfold i32 at *; omega)) (by first | assumption | exact i32_0 | (unfold i32 at *; omega)) rfl (fun c72 => ?_) (fun c72 => ?_)
              · exfalso; omega
              · skip
                refine w_aload rfl rfl (w_iload rfl rfl ?_)
                refine w_call (Or.inr rfl) ((hbd)) (by omega) nof_215 rfl rfl rfl rfl (by first | rfl | (show cKB[_]? = _; assumption)) rfl ?_
                refine w_if_eq (tgt := 155) rfl (by first | assumption | exact i32_0 | (unfold i32 at *; omega)) rfl (fun c => absurd c (by decide)) (fun _ => ?_)
                refine w_iload rfl rfl (w_iload rfl rfl ?_)
                refine w_icmp_eq (tgt := 155) rfl (by first | assumption | exact i32_0 | (unfold i32 at *; omega)) (by first | assumption | exact i32_0 | (unfold i32 at *; omega)) rfl (fun c87 => ?_) (fun c87 => ?_)
                · exfalso; omega
                · skip
                  refine w_aload rfl rfl (w_getR rfl (by first | rfl | assumption) rfl (by first | rfl | assumption) (w_aload rfl rfl (w_getR rfl (by first | rfl | assumption) rfl (by first | rfl | assumption) (w_iload rfl rfl (w_ialoadV rfl (by first | rfl | assumption) (by omega) (by omega) (v4) (w_baloadV rfl (by first | rfl | assumption) (by omega) (by omega) (r1) ?_))))))
                  refine w_if_ne (tgt := 120) rfl (by first | assumption | exact i32_0 | (unfold i32 at *; omega)) rfl (fun _ => ?_) (fun c => absurd c (by decide))
                  refine w_iconst rfl (w_goto (tgt := 125) rfl rfl (w_istore (ls2 := [_, _, _, _, _, _]) rfl rfl rfl (w_aload rfl rfl (w_getR rfl (by first | rfl | assumption) rfl (by first | rfl | assumption) (w_aload rfl rfl (w_getR rfl (by first | rfl | assumption) rfl (by first | rfl | assumption) (w_iload rfl rfl ?_)))))))
                  refine w_ialoadV rfl (by first | rfl | assumption) (by omega) (by omega) (v4) (w_iload rfl rfl (w_bastore rfl (by first | rfl | assumption) (by omega) (by omega) (by first | exact Or.inl rfl | exact Or.inr rfl | omega | assumption) (w_aload rfl rfl (w_getR rfl (by first | rfl | assumption) rfl (by first | rfl | assumption) (w_aload rfl rfl (w_getR rfl (by first | rfl | assumption) rfl (by first | rfl | assumption) (w_iload rfl rfl ?_)))))))
                  refine w_ialoadV rfl (by first | rfl | assumption) (by omega) (by omega) (v5b _) (w_iload rfl rfl (w_bastore rfl (by first | rfl | assumption) (by omega) (by omega) (by first | exact Or.inl rfl | exact Or.inr rfl | omega | assumption) (w_iinc (ls2 := [_, _, _, _, _, _]) rfl rfl rfl ?_)))
                  rw [hi]
                  refine w_goto (tgt := 59) rfl rfl ?_
                  exact hgo
            | false =>
              rw [b1, if_neg (by decide)] at r1
              have r1 : N 176 ((p : Int)).toNat = 0 := r1
              cases b2 : S.testBit q with
              | true =>
                rw [b2, if_pos rfl] at r2
                have r2 : N 176 ((q : Int)).toNat = 1 := r2
                have hgo := hgo 1 (by rw [b1, b2]; rfl)
                refine w_iload rfl rfl (w_iconst rfl (w_iload rfl rfl (w_imul rfl (w_aload rfl rfl (w_getR rfl (by first | rfl | assumption) rfl (by first | rfl | assumption) (w_iload rfl rfl (w_ialoadV rfl (by first | rfl | assumption) (by omega) (by omega) (q172) ?_)))))))
                refine w_iadd rfl ?_
                refine w_icmp_ge (tgt := 161) rfl (by first | assumption | exact i32_0 | (unfold i32 at *; omega)) (by first | assumption | exact i32_0 | (unfold i32 at *; omega)) rfl (fun c72 => ?_) (fun c72 => ?_)
                · exfalso; omega
                · skip
                  refine w_aload rfl rfl (w_iload rfl rfl ?_)
                  refine w_call (Or.inr rfl) ((hbd)) (by omega) nof_215 rfl rfl rfl rfl (by first | rfl | (show cKB[_]? = _; assumption)) rfl ?_
                  refine w_if_eq (tgt := 155) rfl (by first | assumption | exact i32_0 | (unfold i32 at *; omega)) rfl (fun c => absurd c (by decide)) (fun _ => ?_)
                  refine w_iload rfl rfl (w_iload rfl rfl ?_)
                  refine w_icmp_eq (tgt := 155) rfl (by first | assumption | exact i32_0 | (unfold i32 at *; omega)) (by first | assumption | exact i32_0 | (unfold i32 at *; omega)) rfl (fun c87 => ?_) (fun c87 => ?_)
                  · exfalso; omega
                  · skip
                    refine w_aload rfl rfl (w_getR rfl (by first | rfl | assumption) rfl (by first | rfl | assumption) (w_aload rfl rfl (w_getR rfl (by first | rfl | assumption) rfl (by first | rfl | assumption) (w_iload rfl rfl (w_ialoadV rfl (by first | rfl | assumption) (by omega) (by omega) (v4) (w_baloadV rfl (by first | rfl | assumption) (by omega) (by omega) (r1) ?_))))))
                    refine w_if_ne (tgt := 120) rfl (by first | assumption | exact i32_0 | (unfold i32 at *; omega)) rfl (fun c => absurd c (by decide)) (fun _ => ?_)
                    refine w_aload rfl rfl (w_getR rfl (by first | rfl | assumption) rfl (by first | rfl | assumption) (w_aload rfl rfl (w_getR rfl (by first | rfl | assumption) rfl (by first | rfl | assumption) (w_iload rfl rfl (w_ialoadV rfl (by first | rfl | assumption) (by omega) (by omega) (v5) (w_baloadV rfl (by first | rfl | assumption) (by omega) (by omega) (r2) ?_))))))
                    refine w_if_eq (tgt := 124) rfl (by first | assumption | exact i32_0 | (unfold i32 at *; omega)) rfl (fun c => absurd c (by decide)) (fun _ => ?_)
                    refine w_iconst rfl (w_goto (tgt := 125) rfl rfl (w_istore (ls2 := [_, _, _, _, _, _]) rfl rfl rfl (w_aload rfl rfl (w_getR rfl (by first | rfl | assumption) rfl (by first | rfl | assumption) (w_aload rfl rfl (w_getR rfl (by first | rfl | assumption) rfl (by first | rfl | assumption) (w_iload rfl rfl ?_)))))))
                    refine w_ialoadV rfl (by first | rfl | assumption) (by omega) (by omega) (v4) (w_iload rfl rfl (w_bastore rfl (by first | rfl | assumption) (by omega) (by omega) (by first | exact Or.inl rfl | exact Or.inr rfl | omega | assumption) (w_aload rfl rfl (w_getR rfl (by first | rfl | assumption) rfl (by first | rfl | assumption) (w_aload rfl rfl (w_getR rfl (by first | rfl | assumption) rfl (by first | rfl | assumption) (w_iload rfl rfl ?_)))))))
                    refine w_ialoadV rfl (by first | rfl | assumption) (by omega) (by omega) (v5b _) (w_iload rfl rfl (w_bastore rfl (by first | rfl | assumption) (by omega) (by omega) (by first | exact Or.inl rfl | exact Or.inr rfl | omega | assumption) (w_iinc (ls2 := [_, _, _, _, _, _]) rfl rfl rfl ?_)))
                    rw [hi]
                    refine w_goto (tgt := 59) rfl rfl ?_
                    exact hgo
              | false =>
                rw [b2, if_neg (by decide)] at r2
                have r2 : N 176 ((q : Int)).toNat = 0 := r2
                have hgo := hgo 0 (by rw [b1, b2]; rfl)
                refine w_iload rfl rfl (w_iconst rfl (w_iload rfl rfl (w_imul rfl (w_aload rfl rfl (w_getR rfl (by first | rfl | assumption) rfl (by first | rfl | assumption) (w_iload rfl rfl (w_ialoadV rfl (by first | rfl | assumption) (by omega) (by omega) (q172) ?_)))))))
                refine w_iadd rfl ?_
                refine w_icmp_ge (tgt := 161) rfl (by first | assumption | exact i32_0 | (unfold i32 at *; omega)) (by first | assumption | exact i32_0 | (unfold i32 at *; omega)) rfl (fun c72 => ?_) (fun c72 => ?_)
                · exfalso; omega
                · skip
                  refine w_aload rfl rfl (w_iload rfl rfl ?_)
                  refine w_call (Or.inr rfl) ((hbd)) (by omega) nof_215 rfl rfl rfl rfl (by first | rfl | (show cKB[_]? = _; assumption)) rfl ?_
                  refine w_if_eq (tgt := 155) rfl (by first | assumption | exact i32_0 | (unfold i32 at *; omega)) rfl (fun c => absurd c (by decide)) (fun _ => ?_)
                  refine w_iload rfl rfl (w_iload rfl rfl ?_)
                  refine w_icmp_eq (tgt := 155) rfl (by first | assumption | exact i32_0 | (unfold i32 at *; omega)) (by first | assumption | exact i32_0 | (unfold i32 at *; omega)) rfl (fun c87 => ?_) (fun c87 => ?_)
                  · exfalso; omega
                  · skip
                    refine w_aload rfl rfl (w_getR rfl (by first | rfl | assumption) rfl (by first | rfl | assumption) (w_aload rfl rfl (w_getR rfl (by first | rfl | assumption) rfl (by first | rfl | assumption) (w_iload rfl rfl (w_ialoadV rfl (by first | rfl | assumption) (by omega) (by omega) (v4) (w_baloadV rfl (by first | rfl | assumption) (by omega) (by omega) (r1) ?_))))))
                    refine w_if_ne (tgt := 120) rfl (by first | assumption | exact i32_0 | (unfold i32 at *; omega)) rfl (fun c => absurd c (by decide)) (fun _ => ?_)
                    refine w_aload rfl rfl (w_getR rfl (by first | rfl | assumption) rfl (by first | rfl | assumption) (w_aload rfl rfl (w_getR rfl (by first | rfl | assumption) rfl (by first | rfl | assumption) (w_iload rfl rfl (w_ialoadV rfl (by first | rfl | assumption) (by omega) (by omega) (v5) (w_baloadV rfl (by first | rfl | assumption) (by omega) (by omega) (r2) ?_))))))
                    refine w_if_eq (tgt := 124) rfl (by first | assumption | exact i32_0 | (unfold i32 at *; omega)) rfl (fun _ => ?_) (fun c => absurd c (by decide))
                    refine w_iconst rfl (w_istore (ls2 := [_, _, _, _, _, _]) rfl rfl rfl (w_aload rfl rfl (w_getR rfl (by first | rfl | assumption) rfl (by first | rfl | assumption) (w_aload rfl rfl (w_getR rfl (by first | rfl | assumption) rfl (by first | rfl | assumption) (w_iload rfl rfl (w_ialoadV rfl (by first | rfl | assumption) (by omega) (by omega) (v4) ?_)))))))
                    refine w_iload rfl rfl (w_bastore rfl (by first | rfl | assumption) (by omega) (by omega) (by first | exact Or.inl rfl | exact Or.inr rfl | omega | assumption) (w_aload rfl rfl (w_getR rfl (by first | rfl | assumption) rfl (by first | rfl | assumption) (w_aload rfl rfl (w_getR rfl (by first | rfl | assumption) rfl (by first | rfl | assumption) (w_iload rfl rfl (w_ialoadV rfl (by first | rfl | assumption) (by omega) (by omega) (v5b _) ?_)))))))
                    refine w_iload rfl rfl (w_bastore rfl (by first | rfl | assumption) (by omega) (by omega) (by first | exact Or.inl rfl | exact Or.inr rfl | omega | assumption) (w_iinc (ls2 := [_, _, _, _, _, _]) rfl rfl rfl ?_))
                    rw [hi]
                    refine w_goto (tgt := 59) rfl rfl ?_
                    exact hgo
    have outer : ∀ (z n : Nat) (N : mM) (w4 w5 : mV), 16 - n = z → n ≤ 16 → rchM (sprI (R.map endK) j (2 ^ x) n) N → BrF M N → Wp mc_217 D 47 [vR 155, vI a, vI ((40 * a + j : Nat) : Int), vI n, w4, w5] [] N Post := by
      intro z
      induction z with
      | zero =>
        intro n N w4 w5 hz hn hr hF
        obtain rfl : n = 16 := by omega
        have hgo := hend N w4 w5 hr hF
        clear hat hb5 hK hPost hend inner
        refine w_iload rfl rfl (w_iconst rfl ?_)
        refine w_icmp_ge (tgt := 167) rfl (by first | assumption | exact i32_0 | (unfold i32 at *; omega)) (by first | assumption | exact i32_0 | (unfold i32 at *; omega)) rfl (fun c50 => ?_) (fun c50 => ?_)
        · skip
          exact hgo
        · skip
          exfalso; omega
      | succ z ih =>
        intro n N w4 w5 hz hn hr hF
        have hS : sprI (R.map endK) j (2 ^ x) (n + 1) = sprK (R.map endK) j (sprI (R.map endK) j (2 ^ x) n) (R.map endK).length := rfl
        rw [hKl] at hS
        have after : ∀ (N : mM) (w4 w5 : mV), rchM (sprK (R.map endK) j (sprI (R.map endK) j (2 ^ x) n) R.length) N → BrF M N → Wp mc_217 D 161 [vR 155, vI a, vI ((40 * a + j : Nat) : Int), vI n, w4, w5] [] N Post := by
          intro N w4 w5 q1 q2
          have hgo := ih (n + 1) N w4 w5 (by omega) (by omega) (by rw [hS]; exact q1) q2
          clear hat hb5 hK hPost hend inner ih
          refine w_iinc (ls2 := [_, _, _, _, _, _]) rfl rfl rfl (w_goto (tgt := 47) rfl rfl ?_)
          exact hgo
        have hgo := inner n _ after R.length 0 N w5 rfl (Nat.zero_le _) hr hF
        have hi0 : (40 : Int) * (a : Int) = ((40 * a + 0 : Nat) : Int) := by omega
        clear hat hb5 hK hPost hend inner ih after
        refine w_iload rfl rfl (w_iconst rfl ?_)
        refine w_icmp_ge (tgt := 167) rfl (by first | assumption | exact i32_0 | (unfold i32 at *; omega)) (by first | assumption | exact i32_0 | (unfold i32 at *; omega)) rfl (fun c50 => ?_) (fun c50 => ?_)
        · exfalso; omega
        · skip
          refine w_iconst rfl (w_iload rfl rfl (w_imul rfl ?_))
          rw [hi0]
          refine w_istore (ls2 := [_, _, _, _, _, _]) rfl rfl rfl ?_
          exact hgo
    have init : ∀ (z n : Nat) (N : mM), 16 - n = z → n ≤ 16 → (∀ k, k < n → N 176 k = if (2 ^ x).testBit k = true then 1 else 0) → BrF M N → Wp mc_217 D 12 [vR 155, vI a, vI ((40 * a + j : Nat) : Int), vI n, vN, vN] [] N Post := by
      intro z
      induction z with
      | zero =>
        intro n N hz hn hr hF
        obtain rfl : n = 16 := by omega
        have hgo := outer 16 0 N vN vN rfl (by decide) hr hF
        clear hat hb5 hK hPost hend inner outer
        refine w_iload rfl rfl (w_iconst rfl ?_)
        refine w_icmp_ge (tgt := 45) rfl (by first | assumption | exact i32_0 | (unfold i32 at *; omega)) (by first | assumption | exact i32_0 | (unfold i32 at *; omega)) rfl (fun c15 => ?_) (fun c15 => ?_)
        · skip
          refine w_iconst rfl (w_istore (ls2 := [_, _, _, _, _, _]) rfl rfl rfl ?_)
          exact hgo
        · skip
          exfalso; omega
      | succ z ih =>
        intro n N hz hn hr hF
        have q168 : N 168 (((40 * a + j : Nat) : Int).toNat) = (x : Int) := by rw [hF 168 (by decide)]; exact hxk
        have hgo := fun v (hv : v = if (2 ^ x).testBit n = true then (1 : Int) else 0) => ih (n + 1) (upI N 176 n v) (by omega) (by omega) (fun k hk => by
          by_cases q : k = n
          · rw [q, upI_same]; exact hv
          · rw [show upI N 176 n v 176 k = N 176 k from if_neg (fun z => q z.2)]
            exact hr k (by omega)) (fun b hb => by rw [upI_ne _ _ _ _ hb]; exact hF b hb)
        rw [Nat.testBit_two_pow] at hgo
        clear hat hb5 hK hPost hend inner outer ih hr
        by_cases q : x = n
        · have hgo := hgo 1 (by rw [decide_eq_true q]; rfl)
          refine w_iload rfl rfl (w_iconst rfl ?_)
          refine w_icmp_ge (tgt := 45) rfl (by first | assumption | exact i32_0 | (unfold i32 at *; omega)) (by first | assumption | exact i32_0 | (unfold i32 at *; omega)) rfl (fun c15 => ?_) (fun c15 => ?_)
          · exfalso; omega
          · skip
            refine w_aload rfl rfl (w_getR rfl (by first | rfl | assumption) rfl (by first | rfl | assumption) (w_iload rfl rfl (w_iload rfl rfl (w_aload rfl rfl (w_getR rfl (by first | rfl | assumption) rfl (by first | rfl | assumption) (w_iload rfl rfl (w_ialoadV rfl (by first | rfl | assumption) (by omega) (by omega) (q168) ?_)))))))
            refine w_icmp_ne (tgt := 37) rfl (by first | assumption | exact i32_0 | (unfold i32 at *; omega)) (by first | assumption | exact i32_0 | (unfold i32 at *; omega)) rfl (fun c30 => ?_) (fun c30 => ?_)
            · skip
              exfalso; omega
            · skip
              refine w_iconst rfl (w_goto (tgt := 38) rfl rfl (w_bastore rfl (by first | rfl | assumption) (by omega) (by omega) (by first | exact Or.inl rfl | exact Or.inr rfl | omega | assumption) (w_iinc (ls2 := [_, _, _, _, _, _]) rfl rfl rfl (w_goto (tgt := 12) rfl rfl ?_))))
              exact hgo
        · have hgo := hgo 0 (by rw [decide_eq_false q]; rfl)
          refine w_iload rfl rfl (w_iconst rfl ?_)
          refine w_icmp_ge (tgt := 45) rfl (by first | assumption | exact i32_0 | (unfold i32 at *; omega)) (by first | assumption | exact i32_0 | (unfold i32 at *; omega)) rfl (fun c15 => ?_) (fun c15 => ?_)
          · exfalso; omega
          · skip
            refine w_aload rfl rfl (w_getR rfl (by first | rfl | assumption) rfl (by first | rfl | assumption) (w_iload rfl rfl (w_iload rfl rfl (w_aload rfl rfl (w_getR rfl (by first | rfl | assumption) rfl (by first | rfl | assumption) (w_iload rfl rfl (w_ialoadV rfl (by first | rfl | assumption) (by omega) (by omega) (q168) ?_)))))))
            refine w_icmp_ne (tgt := 37) rfl (by first | assumption | exact i32_0 | (unfold i32 at *; omega)) (by first | assumption | exact i32_0 | (unfold i32 at *; omega)) rfl (fun c30 => ?_) (fun c30 => ?_)
            · skip
              refine w_iconst rfl (w_bastore rfl (by first | rfl | assumption) (by omega) (by omega) (by first | exact Or.inl rfl | exact Or.inr rfl | omega | assumption) (w_iinc (ls2 := [_, _, _, _, _, _]) rfl rfl rfl (w_goto (tgt := 12) rfl rfl ?_)))
              exact hgo
            · skip
              exfalso; omega
    have hgo := init 16 0 M rfl (by decide) (fun k hk => by omega) (fun _ _ => rfl)
    clear hat hb5 hK hPost hend inner outer init
    refine w_aload rfl rfl (w_iload rfl rfl ?_)
    refine w_call (Or.inr rfl) ((hbd)) (by omega) nof_215 rfl rfl rfl rfl (by first | rfl | (show cKB[_]? = _; assumption)) rfl ?_
    refine w_if_ne (tgt := 10) rfl (by first | assumption | exact i32_0 | (unfold i32 at *; omega)) rfl (fun _ => ?_) (fun c => absurd c (by decide))
    refine w_iconst rfl (w_istore (ls2 := [_, _, _, _, _, _]) rfl rfl rfl ?_)
    exact hgo
