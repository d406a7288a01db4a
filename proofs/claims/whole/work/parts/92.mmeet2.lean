/-! ===== the model places a meeting ===== -/
theorem m_placesMeeting {f g : Cv} {L : List (Int × Int)} {M : mM} {x y : Int} (hcf : mcur 0 f M) (hcg : mcur 25 g M) (hf : Cok 999 f) (hg : Cok 999 g) (h : mMt L M) (hB : lqB (x, y)) (hs1 : 0 < ledW f x y) (hs2 : 0 < ledW g x y) : EQ 8 204 [vR 155, vL x, vL y] M (fun z N => z = none ∧ mMt (mtPut f g x y L) N ∧ MzF M N) := by
  have hh := h
  obtain ⟨h1, h2, h3, h4⟩ := h
  have hB0 := hB
  obtain ⟨⟨x1, x2⟩, y1, y2⟩ := hB
  have x1 : -20000000000 ≤ x := x1
  have x2 : x ≤ 20000000000 := x2
  have y1 : -20000000000 ≤ y := y1
  have y2 : y ≤ 20000000000 := y2
  have hx64 : i64 x := by unfold i64; omega
  have hy64 : i64 y := by unfold i64; omega
  refine q_in (ls := [vR 155, vL x, vN, vL y, vN, vN, vN, vN, vN, vN]) mq_204 (ml_204 rfl) rfl fun D hD => ?_
  generalize hQ : (fun (z : Option mV) (N : mM) => z = none ∧ mMt (mtPut f g x y L) N ∧ MzF M N) = Q
  have cell : ∀ (j : Nat) (P : Int × Int), L[j]? = some P → M 173 ((j : Int)).toNat = P.1 ∧ M 174 ((j : Int)).toNat = P.2 ∧ i64 P.1 ∧ i64 P.2 := by
    intro j P hj
    have q := h4 j P hj
    have qb := h3 P (List.mem_of_getElem? hj)
    unfold lqB at qb
    exact ⟨q.1, q.2, by unfold i64; omega, by unfold i64; omega⟩
  have hld1 := m_leadAt (a := 0) (x := x) (y := y) (d := 720720) (by decide) hcf hf (by omega) (by omega) (by omega)
  have hld2 := m_leadAt (a := 1) (x := x) (y := y) (d := 720720) (by decide) hcg hg (by omega) (by omega) (by omega)
  have hl1 := leadF_lt f x y 720720
  have hl2 := leadF_lt g x y 720720
  have hp1 := lead_plS hf x y 720720
  have hp2 := lead_plS hg x y 720720
  have hok : mtOK f g x y = (twoB (leadF f x y 720720) && (twoB (leadF g x y 720720) && !decide (mxM (leadF f x y 720720) (leadF g x y 720720) = 0))) := rfl
  have hmx := m_mixed (M := M) hp1 hp2
  have hmb := mxM_le _ _ hp1 hp2
  have hs1 : 0 < leadF f x y 720720 := hs1
  have hs2 : 0 < leadF g x y 720720 := hs2
  have hput : mtPut f g x y L = if L[posP x y L]? = some (x, y) ∨ L.length = 16 ∨ mtOK f g x y = false then L else L.take (posP x y L) ++ (x, y) :: L.drop (posP x y L) := rfl
  have stay : ∀ N, (L[posP x y L]? = some (x, y) ∨ L.length = 16 ∨ mtOK f g x y = false) → MmF M N → Q none N := by
    intro N hc hF
    rw [← hQ]
    refine ⟨rfl, ?_, MzF_m hF⟩
    rw [hput, if_pos hc]
    exact mMt_m hh hF
  have hins : ∀ (n : Nat) (N : mM), n = posP x y L → n ≤ L.length → L.length < 16 → L[posP x y L]? ≠ some (x, y) → mtOK f g x y = true → MtG L n N → MzF M N → Q none (upI (upI (upI N 173 n x) 174 n y) 155 35 ((L.length : Int) + 1)) := by
    intro n N hn hnl hl q1 q2 hG hF
    rw [← hQ]
    have hu : upI (upI (upI N 173 n x) 174 n y) 155 35 ((L.length : Int) + 1) = upI (ptUp N n (x, y)) 155 35 ((L.length : Int) + 1) := rfl
    rw [hu]
    refine ⟨rfl, ?_, MzF_tr hF (MzF_tr (ptUp_fr N n (x, y)) ⟨fun b q _ _ _ _ _ => upI_ne _ _ _ _ q, fun j _ q => if_neg (fun z => q z.2)⟩)⟩
    rw [hput, if_neg (fun z => by
      rcases z with z | z | z
      · exact q1 z
      · omega
      · rw [q2] at z; cases z), ← hn]
    exact mMt_ins hh hl hnl hG hB0
  clear hput hQ
  have shift : ∀ (z m n : Nat) (N : mM) (w6 w7 w8 : Int), m - n = z → n ≤ m → m ≤ L.length → n = posP x y L → L.length < 16 → L[posP x y L]? ≠ some (x, y) → mtOK f g x y = true → MtG L m N → MzF M N → Wp mc_204 D 156 [vR 155, vL x, vN, vL y, vN, vI n, vI w6, vI w7, vI w8, vI m] [] N Q := by
    intro z
    induction z with
    | zero =>
      intro m n N w6 w7 w8 hz hnm hm hpn hl q1 q2 hG hF
      obtain rfl : m = n := by omega
      have hgo := hins m N hpn hm hl q1 q2 hG hF
      have e219 : upI (upI N 173 m x) 174 m y 155 35 = (L.length : Int) := by rw [upI_ne _ _ _ _ (by decide), upI_ne _ _ _ _ (by decide)]; exact hG.1
      clear hins stay hmx hok hmb
      generalize L.length = len at *
      refine w_iload rfl rfl (w_iload rfl rfl ?_)
      refine w_icmp_le (tgt := 201) rfl (by first | assumption | exact i32_0 | (unfold i32 at *; omega)) (by first | assumption | exact i32_0 | (unfold i32 at *; omega)) rfl (fun c160 => ?_) (fun c160 => ?_)
      · skip
        refine w_aload rfl rfl (w_getR rfl (by first | rfl | assumption) rfl (by first | rfl | assumption) (w_iload rfl rfl (w_lload rfl rfl (w_lastore rfl (by first | rfl | assumption) (by omega) (by omega) (w_aload rfl rfl (w_getR rfl (by first | rfl | assumption) rfl (by first | rfl | assumption) (w_iload rfl rfl ?_)))))))
        refine w_lload rfl rfl (w_lastore rfl (by first | rfl | assumption) (by omega) (by omega) (w_aload rfl rfl (w_dup rfl rfl (w_getIV rfl (by first | rfl | assumption) (by first | exact Or.inl rfl | exact Or.inr rfl) (e219) (w_iconst rfl (w_iadd rfl (w_putI rfl (by first | rfl | assumption) rfl ?_)))))))
        exact w_return rfl hgo
      · skip
        exfalso; omega
    | succ z ih =>
      intro m n N w6 w7 w8 hz hnm hm hpn hl q1 q2 hG hF
      have he : L[m - 1]? = some (L[m - 1]'(by omega)) := List.getElem?_eq_getElem (by omega)
      generalize (L[m - 1]'(by omega)) = P at he
      have hr := hG.2.1 (m - 1) P he (by omega)
      have hPb := h3 P (List.mem_of_getElem? he)
      unfold lqB at hPb
      have hG2 : MtG L (m - 1) (ptUp N m P) := by
        obtain ⟨g1, g2, g3⟩ := hG
        refine ⟨by rw [ptUp_ne N m P (by omega)]; exact g1, fun j R hj hjk => ?_, fun j R hj hjk => ?_⟩
        · rw [ptUp_ne N m P (by omega), ptUp_ne N m P (by omega)]
          exact g2 j R hj (by omega)
        · by_cases q : j = m - 1
          · subst q
            have hx : R = P := by rw [he] at hj; simpa using hj.symm
            rw [hx, show m - 1 + 1 = m by omega]
            exact ptUp_at N m P
          · rw [ptUp_ne N m P (by omega), ptUp_ne N m P (by omega)]
            exact g3 j R hj (by omega)
      have ihn := ih (m - 1) n _ w6 w7 w8 (by omega) (by omega) (by omega) hpn hl q1 q2 hG2 (MzF_tr hF (ptUp_fr N m P))
      have hidx : (((m : Nat) : Int) - 1).toNat = m - 1 := by omega
      have hi1 : ((m : Nat) : Int) + (-1) = ((m - 1 : Nat) : Int) := by omega
      have hb : 0 < m ∧ m < 16 ∧ n < m := by omega
      unfold ptUp at ihn
      have r0 : N 173 (((m : Int) - 1).toNat) = P.1 := by rw [hidx]; exact hr.1
      have r1 : upI N 173 m P.1 174 (((m : Int) - 1).toNat) = P.2 := by rw [upI_ne _ _ _ _ (by decide), hidx]; exact hr.2
      clear hins stay hmx hok hmb ih hG hG2 cell
      generalize L.length = len at *
      refine w_iload rfl rfl (w_iload rfl rfl ?_)
      refine w_icmp_le (tgt := 201) rfl (by first | assumption | exact i32_0 | (unfold i32 at *; omega)) (by first | assumption | exact i32_0 | (unfold i32 at *; omega)) rfl (fun c160 => ?_) (fun c160 => ?_)
      · exfalso; omega
      · skip
        refine w_aload rfl rfl (w_getR rfl (by first | rfl | assumption) rfl (by first | rfl | assumption) (w_iload rfl rfl (w_aload rfl rfl (w_getR rfl (by first | rfl | assumption) rfl (by first | rfl | assumption) (w_iload rfl rfl (w_iconst rfl (w_isub rfl ?_)))))))
        refine w_laloadV rfl (by first | rfl | assumption) (by omega) (by omega) (r0) (w_lastore rfl (by first | rfl | assumption) (by omega) (by omega) (w_aload rfl rfl (w_getR rfl (by first | rfl | assumption) rfl (by first | rfl | assumption) (w_iload rfl rfl (w_aload rfl rfl (w_getR rfl (by first | rfl | assumption) rfl (by first | rfl | assumption) (w_iload rfl rfl ?_)))))))
        refine w_iconst rfl (w_isub rfl (w_laloadV rfl (by first | rfl | assumption) (by omega) (by omega) (r1) (w_lastore rfl (by first | rfl | assumption) (by omega) (by omega) (w_iinc (ls2 := [_, _, _, _, _, _, _, _, _, _]) rfl rfl rfl ?_))))
        rw [hi1]
        refine w_goto (tgt := 156) rfl rfl ?_
        exact ihn
  have fresh : ∀ (n : Nat) (w6 : mV), n = posP x y L → n ≤ L.length → L[posP x y L]? ≠ some (x, y) → Wp mc_204 D 80 [vR 155, vL x, vN, vL y, vN, vI n, vI 0, vN, vN, vN] [] M Q := by
    intro n w6 hpn hn hno
    have hG0 : ∀ N, MmF M N → MtG L L.length N := fun N hF => ⟨(mMt_m hh hF).1, fun j P hj _ => (mMt_m hh hF).2.2.2 j P hj, fun j P hj hjl => by
      have := (List.getElem?_eq_some_iff.mp hj).1
      omega⟩
    have hsh := fun N w7 w8 q1 q2 hF => shift (L.length - n) L.length n N 0 w7 w8 rfl hn (Nat.le_refl _) hpn q1 hno q2 (hG0 N hF) (MzF_m hF)
    have h150 : ∀ (N : mM), MmF M N → N 155 35 = (L.length : Int) := fun N hF => (mMt_m hh hF).1
    have ht1 : twoB (leadF f x y 720720) = !decide (leadF f x y 720720 &&& (leadF f x y 720720 - 1) = 0) := rfl
    have ht2 : twoB (leadF g x y 720720) = !decide (leadF g x y 720720 &&& (leadF g x y 720720 - 1) = 0) := rfl
    rw [ht1, ht2] at hok
    rw [hok] at stay hsh
    clear hins shift cell hok ht1 ht2 hh hG0
    generalize L.length = len at *
    generalize mxM (leadF f x y 720720) (leadF g x y 720720) = mx at *
    generalize leadF f x y 720720 = s at *
    generalize leadF g x y 720720 = o at *
    have e124 : bitI (· &&& ·) (s : Int) ((s : Int) - 1) = ((s &&& (s - 1) : Nat) : Int) := by
      rw [show (s : Int) - 1 = ((s - 1 : Nat) : Int) by omega]
      exact bitI_and (by omega)
    have e134 : bitI (· &&& ·) (o : Int) ((o : Int) - 1) = ((o &&& (o - 1) : Nat) : Int) := by
      rw [show (o : Int) - 1 = ((o - 1 : Nat) : Int) by omega]
      exact bitI_and (by omega)
    have ls : s &&& (s - 1) ≤ s := Nat.and_le_left
    have lo : o &&& (o - 1) ≤ o := Nat.and_le_left
    generalize s &&& (s - 1) = s2 at *
    generalize o &&& (o - 1) = o2 at *
    by_cases c1 : len = 16
    · have hfin := stay M (Or.inr (Or.inl c1)) (MmF_rfl M)
      refine w_aload rfl rfl (w_iconst rfl (w_lload rfl rfl (w_lload rfl rfl (w_lconst rfl ?_))))
      refine w_call (Or.inr rfl) ((hld1)) (by omega) nof_172 rfl rfl rfl rfl (by first | rfl | (show cKB[_]? = _; assumption)) rfl ?_
      refine w_istore (ls2 := [_, _, _, _, _, _, _, _, _, _]) rfl rfl rfl (w_aload rfl rfl (w_iconst rfl (w_lload rfl rfl (w_lload rfl rfl (w_lconst rfl ?_)))))
      refine w_call (Or.inr rfl) ((hld2)) (by omega) nof_172 rfl rfl rfl rfl (by first | rfl | (show cKB[_]? = _; assumption)) rfl ?_
      refine w_istore (ls2 := [_, _, _, _, _, _, _, _, _, _]) rfl rfl rfl (w_iload rfl rfl ?_)
      refine w_if_ne (tgt := 149) rfl (by first | assumption | exact i32_0 | (unfold i32 at *; omega)) rfl (fun c => absurd c (by decide)) (fun _ => ?_)
      refine w_aload rfl rfl (w_getIV rfl (by first | rfl | assumption) (by first | exact Or.inl rfl | exact Or.inr rfl) (h1) (w_iconst rfl ?_))
      refine w_icmp_eq (tgt := 149) rfl (by first | assumption | exact i32_0 | (unfold i32 at *; omega)) (by first | assumption | exact i32_0 | (unfold i32 at *; omega)) rfl (fun c115 => ?_) (fun c115 => ?_)
      · skip
        exact w_return rfl hfin
      · exfalso; omega
    · by_cases c2 : s2 = 0
      · have hfin := stay M (Or.inr (Or.inr (by rw [decide_eq_true c2]; rfl))) (MmF_rfl M)
        refine w_aload rfl rfl (w_iconst rfl (w_lload rfl rfl (w_lload rfl rfl (w_lconst rfl ?_))))
        refine w_call (Or.inr rfl) ((hld1)) (by omega) nof_172 rfl rfl rfl rfl (by first | rfl | (show cKB[_]? = _; assumption)) rfl ?_
        refine w_istore (ls2 := [_, _, _, _, _, _, _, _, _, _]) rfl rfl rfl (w_aload rfl rfl (w_iconst rfl (w_lload rfl rfl (w_lload rfl rfl (w_lconst rfl ?_)))))
        refine w_call (Or.inr rfl) ((hld2)) (by omega) nof_172 rfl rfl rfl rfl (by first | rfl | (show cKB[_]? = _; assumption)) rfl ?_
        refine w_istore (ls2 := [_, _, _, _, _, _, _, _, _, _]) rfl rfl rfl (w_iload rfl rfl ?_)
        refine w_if_ne (tgt := 149) rfl (by first | assumption | exact i32_0 | (unfold i32 at *; omega)) rfl (fun c => absurd c (by decide)) (fun _ => ?_)
        refine w_aload rfl rfl (w_getIV rfl (by first | rfl | assumption) (by first | exact Or.inl rfl | exact Or.inr rfl) (h1) (w_iconst rfl ?_))
        refine w_icmp_eq (tgt := 149) rfl (by first | assumption | exact i32_0 | (unfold i32 at *; omega)) (by first | assumption | exact i32_0 | (unfold i32 at *; omega)) rfl (fun c115 => ?_) (fun c115 => ?_)
        · exfalso; omega
        · skip
          refine w_iload rfl rfl (w_iload rfl rfl (w_iconst rfl (w_isub rfl (w_iand rfl (e124) ?_))))
          refine w_if_eq (tgt := 149) rfl (by first | assumption | exact i32_0 | (unfold i32 at *; omega)) rfl (fun c125 => ?_) (fun c125 => ?_)
          · skip
            exact w_return rfl hfin
          · exfalso; omega
      · by_cases c3 : o2 = 0
        · have hfin := stay M (Or.inr (Or.inr (by rw [decide_eq_true c3, Bool.not_true, Bool.false_and, Bool.and_false]))) (MmF_rfl M)
          refine w_aload rfl rfl (w_iconst rfl (w_lload rfl rfl (w_lload rfl rfl (w_lconst rfl ?_))))
          refine w_call (Or.inr rfl) ((hld1)) (by omega) nof_172 rfl rfl rfl rfl (by first | rfl | (show cKB[_]? = _; assumption)) rfl ?_
          refine w_istore (ls2 := [_, _, _, _, _, _, _, _, _, _]) rfl rfl rfl (w_aload rfl rfl (w_iconst rfl (w_lload rfl rfl (w_lload rfl rfl (w_lconst rfl ?_)))))
          refine w_call (Or.inr rfl) ((hld2)) (by omega) nof_172 rfl rfl rfl rfl (by first | rfl | (show cKB[_]? = _; assumption)) rfl ?_
          refine w_istore (ls2 := [_, _, _, _, _, _, _, _, _, _]) rfl rfl rfl (w_iload rfl rfl ?_)
          refine w_if_ne (tgt := 149) rfl (by first | assumption | exact i32_0 | (unfold i32 at *; omega)) rfl (fun c => absurd c (by decide)) (fun _ => ?_)
          refine w_aload rfl rfl (w_getIV rfl (by first | rfl | assumption) (by first | exact Or.inl rfl | exact Or.inr rfl) (h1) (w_iconst rfl ?_))
          refine w_icmp_eq (tgt := 149) rfl (by first | assumption | exact i32_0 | (unfold i32 at *; omega)) (by first | assumption | exact i32_0 | (unfold i32 at *; omega)) rfl (fun c115 => ?_) (fun c115 => ?_)
          · exfalso; omega
          · skip
            refine w_iload rfl rfl (w_iload rfl rfl (w_iconst rfl (w_isub rfl (w_iand rfl (e124) ?_))))
            refine w_if_eq (tgt := 149) rfl (by first | assumption | exact i32_0 | (unfold i32 at *; omega)) rfl (fun c125 => ?_) (fun c125 => ?_)
            · exfalso; omega
            · skip
              refine w_iload rfl rfl (w_iload rfl rfl (w_iconst rfl (w_isub rfl (w_iand rfl (e134) ?_))))
              refine w_if_eq (tgt := 149) rfl (by first | assumption | exact i32_0 | (unfold i32 at *; omega)) rfl (fun c135 => ?_) (fun c135 => ?_)
              · skip
                exact w_return rfl hfin
              · exfalso; omega
        · by_cases c4 : mx = 0
          · have hfin := fun N => stay N (Or.inr (Or.inr (by rw [decide_eq_true c4, Bool.not_true, Bool.and_false, Bool.and_false])))
            refine w_aload rfl rfl (w_iconst rfl (w_lload rfl rfl (w_lload rfl rfl (w_lconst rfl ?_))))
            refine w_call (Or.inr rfl) ((hld1)) (by omega) nof_172 rfl rfl rfl rfl (by first | rfl | (show cKB[_]? = _; assumption)) rfl ?_
            refine w_istore (ls2 := [_, _, _, _, _, _, _, _, _, _]) rfl rfl rfl (w_aload rfl rfl (w_iconst rfl (w_lload rfl rfl (w_lload rfl rfl (w_lconst rfl ?_)))))
            refine w_call (Or.inr rfl) ((hld2)) (by omega) nof_172 rfl rfl rfl rfl (by first | rfl | (show cKB[_]? = _; assumption)) rfl ?_
            refine w_istore (ls2 := [_, _, _, _, _, _, _, _, _, _]) rfl rfl rfl (w_iload rfl rfl ?_)
            refine w_if_ne (tgt := 149) rfl (by first | assumption | exact i32_0 | (unfold i32 at *; omega)) rfl (fun c => absurd c (by decide)) (fun _ => ?_)
            refine w_aload rfl rfl (w_getIV rfl (by first | rfl | assumption) (by first | exact Or.inl rfl | exact Or.inr rfl) (h1) (w_iconst rfl ?_))
            refine w_icmp_eq (tgt := 149) rfl (by first | assumption | exact i32_0 | (unfold i32 at *; omega)) (by first | assumption | exact i32_0 | (unfold i32 at *; omega)) rfl (fun c115 => ?_) (fun c115 => ?_)
            · exfalso; omega
            · skip
              refine w_iload rfl rfl (w_iload rfl rfl (w_iconst rfl (w_isub rfl (w_iand rfl (e124) ?_))))
              refine w_if_eq (tgt := 149) rfl (by first | assumption | exact i32_0 | (unfold i32 at *; omega)) rfl (fun c125 => ?_) (fun c125 => ?_)
              · exfalso; omega
              · skip
                refine w_iload rfl rfl (w_iload rfl rfl (w_iconst rfl (w_isub rfl (w_iand rfl (e134) ?_))))
                refine w_if_eq (tgt := 149) rfl (by first | assumption | exact i32_0 | (unfold i32 at *; omega)) rfl (fun c135 => ?_) (fun c135 => ?_)
                · exfalso; omega
                · skip
                  refine w_aload rfl rfl (w_iload rfl rfl (w_iload rfl rfl ?_))
                  refine w_callQ (Or.inr rfl) (hmx) (by omega) nof_205 rfl rfl rfl rfl (by first | rfl | (show cKB[_]? = _; assumption)) (fun r143 M143 hq143 => ?_)
                  obtain ⟨rfl, w1⟩ := hq143
                  refine w_if_ne (tgt := 150) rfl (by first | assumption | exact i32_0 | (unfold i32 at *; omega)) rfl (fun c146 => ?_) (fun c146 => ?_)
                  · exfalso; omega
                  · skip
                    exact w_return rfl (hfin _ w1)
          · have hgo := fun N w7 w8 => hsh N w7 w8 (by omega) (by rw [decide_eq_false c2, decide_eq_false c3, decide_eq_false c4]; rfl)
            refine w_aload rfl rfl (w_iconst rfl (w_lload rfl rfl (w_lload rfl rfl (w_lconst rfl ?_))))
            refine w_call (Or.inr rfl) ((hld1)) (by omega) nof_172 rfl rfl rfl rfl (by first | rfl | (show cKB[_]? = _; assumption)) rfl ?_
            refine w_istore (ls2 := [_, _, _, _, _, _, _, _, _, _]) rfl rfl rfl (w_aload rfl rfl (w_iconst rfl (w_lload rfl rfl (w_lload rfl rfl (w_lconst rfl ?_)))))
            refine w_call (Or.inr rfl) ((hld2)) (by omega) nof_172 rfl rfl rfl rfl (by first | rfl | (show cKB[_]? = _; assumption)) rfl ?_
            refine w_istore (ls2 := [_, _, _, _, _, _, _, _, _, _]) rfl rfl rfl (w_iload rfl rfl ?_)
            refine w_if_ne (tgt := 149) rfl (by first | assumption | exact i32_0 | (unfold i32 at *; omega)) rfl (fun c => absurd c (by decide)) (fun _ => ?_)
            refine w_aload rfl rfl (w_getIV rfl (by first | rfl | assumption) (by first | exact Or.inl rfl | exact Or.inr rfl) (h1) (w_iconst rfl ?_))
            refine w_icmp_eq (tgt := 149) rfl (by first | assumption | exact i32_0 | (unfold i32 at *; omega)) (by first | assumption | exact i32_0 | (unfold i32 at *; omega)) rfl (fun c115 => ?_) (fun c115 => ?_)
            · exfalso; omega
            · skip
              refine w_iload rfl rfl (w_iload rfl rfl (w_iconst rfl (w_isub rfl (w_iand rfl (e124) ?_))))
              refine w_if_eq (tgt := 149) rfl (by first | assumption | exact i32_0 | (unfold i32 at *; omega)) rfl (fun c125 => ?_) (fun c125 => ?_)
              · exfalso; omega
              · skip
                refine w_iload rfl rfl (w_iload rfl rfl (w_iconst rfl (w_isub rfl (w_iand rfl (e134) ?_))))
                refine w_if_eq (tgt := 149) rfl (by first | assumption | exact i32_0 | (unfold i32 at *; omega)) rfl (fun c135 => ?_) (fun c135 => ?_)
                · exfalso; omega
                · skip
                  refine w_aload rfl rfl (w_iload rfl rfl (w_iload rfl rfl ?_))
                  refine w_callQ (Or.inr rfl) (hmx) (by omega) nof_205 rfl rfl rfl rfl (by first | rfl | (show cKB[_]? = _; assumption)) (fun r143 M143 hq143 => ?_)
                  obtain ⟨rfl, w1⟩ := hq143
                  have e151 := h150 M143 w1
                  refine w_if_ne (tgt := 150) rfl (by first | assumption | exact i32_0 | (unfold i32 at *; omega)) rfl (fun c146 => ?_) (fun c146 => ?_)
                  · skip
                    refine w_aload rfl rfl (w_getIV rfl (by first | rfl | assumption) (by first | exact Or.inl rfl | exact Or.inr rfl) (e151) (w_istore (ls2 := [_, _, _, _, _, _, _, _, _, _]) rfl rfl rfl ?_))
                    exact hgo _ _ _ w1
                  · exfalso; omega
  have found : ∀ (n : Nat), n ≤ L.length → Q none M → Wp mc_204 D 80 [vR 155, vL x, vN, vL y, vN, vI n, vI 1, vN, vN, vN] [] M Q := by
    intro n hn hfin
    clear shift fresh hins stay hmx hok hmb
    generalize leadF f x y 720720 = s at *
    generalize leadF g x y 720720 = o at *
    refine w_aload rfl rfl (w_iconst rfl (w_lload rfl rfl (w_lload rfl rfl (w_lconst rfl ?_))))
    refine w_call (Or.inr rfl) ((hld1)) (by omega) nof_172 rfl rfl rfl rfl (by first | rfl | (show cKB[_]? = _; assumption)) rfl ?_
    refine w_istore (ls2 := [_, _, _, _, _, _, _, _, _, _]) rfl rfl rfl (w_aload rfl rfl (w_iconst rfl (w_lload rfl rfl (w_lload rfl rfl (w_lconst rfl ?_)))))
    refine w_call (Or.inr rfl) ((hld2)) (by omega) nof_172 rfl rfl rfl rfl (by first | rfl | (show cKB[_]? = _; assumption)) rfl ?_
    refine w_istore (ls2 := [_, _, _, _, _, _, _, _, _, _]) rfl rfl rfl (w_iload rfl rfl ?_)
    refine w_if_ne (tgt := 149) rfl (by first | assumption | exact i32_0 | (unfold i32 at *; omega)) rfl (fun _ => ?_) (fun c => absurd c (by decide))
    exact w_return rfl hfin
  have at40 : ∀ (n : Nat), n = posP x y L → n ≤ L.length → Wp mc_204 D 40 [vR 155, vL x, vN, vL y, vN, vI n, vN, vN, vN, vN] [] M Q := by
    intro n hpn hn
    clear shift hmx hok hmb hld1 hld2 hp1 hp2 hl1 hl2 hs1 hs2
    by_cases q1 : n = L.length
    · have hgo := fresh n vN hpn hn (fun z => by rw [← hpn, q1, List.getElem?_eq_none (Nat.le_refl _)] at z; cases z)
      clear fresh hins stay
      generalize L.length = len at *
      refine w_iload rfl rfl (w_aload rfl rfl (w_getIV rfl (by first | rfl | assumption) (by first | exact Or.inl rfl | exact Or.inr rfl) (h1) ?_))
      refine w_icmp_ge (tgt := 77) rfl (by first | assumption | exact i32_0 | (unfold i32 at *; omega)) (by first | assumption | exact i32_0 | (unfold i32 at *; omega)) rfl (fun c46 => ?_) (fun c46 => ?_)
      · skip
        refine w_iconst rfl (w_istore (ls2 := [_, _, _, _, _, _, _, _, _, _]) rfl rfl rfl ?_)
        exact hgo
      · skip
        exfalso; omega
    · have he : L[n]? = some (L[n]'(by omega)) := List.getElem?_eq_getElem (by omega)
      generalize (L[n]'(by omega)) = P at he
      have hc := cell n P he
      by_cases q2 : P = (x, y)
      · have hfin := fresh
        have hst := stay M (Or.inl (by rw [← hpn, he, q2])) (MmF_rfl M)
        have e1 : P.1 = x := by rw [q2]
        have e2 : P.2 = y := by rw [q2]
        rw [e1, e2] at hc
        have hfound := found n hn hst
        clear fresh hins stay hfin found
        generalize L.length = len at *
        refine w_iload rfl rfl (w_aload rfl rfl (w_getIV rfl (by first | rfl | assumption) (by first | exact Or.inl rfl | exact Or.inr rfl) (h1) ?_))
        refine w_icmp_ge (tgt := 77) rfl (by first | assumption | exact i32_0 | (unfold i32 at *; omega)) (by first | assumption | exact i32_0 | (unfold i32 at *; omega)) rfl (fun c46 => ?_) (fun c46 => ?_)
        · exfalso; omega
        · skip
          refine w_aload rfl rfl (w_getR rfl (by first | rfl | assumption) rfl (by first | rfl | assumption) (w_iload rfl rfl (w_laloadV rfl (by first | rfl | assumption) (by omega) (by omega) (hc.1) (w_lload rfl rfl ?_))))
          refine w_lcmp rfl (by first | assumption | exact i64_0 | (unfold i64 at *; omega)) (by first | assumption | exact i64_0 | (unfold i64 at *; omega)) (fun c57 => ?_) (fun c57 => ?_) (fun c57 => ?_)
          · exfalso; omega
          · exfalso; omega
          · skip
            refine w_if_ne (tgt := 77) rfl (by first | assumption | exact i32_0 | (unfold i32 at *; omega)) rfl (fun c => absurd c (by decide)) (fun _ => ?_)
            refine w_aload rfl rfl (w_getR rfl (by first | rfl | assumption) rfl (by first | rfl | assumption) (w_iload rfl rfl (w_laloadV rfl (by first | rfl | assumption) (by omega) (by omega) (hc.2.1) (w_lload rfl rfl ?_))))
            refine w_lcmp rfl (by first | assumption | exact i64_0 | (unfold i64 at *; omega)) (by first | assumption | exact i64_0 | (unfold i64 at *; omega)) (fun c69 => ?_) (fun c69 => ?_) (fun c69 => ?_)
            · exfalso; omega
            · exfalso; omega
            · skip
              refine w_if_ne (tgt := 77) rfl (by first | assumption | exact i32_0 | (unfold i32 at *; omega)) rfl (fun c => absurd c (by decide)) (fun _ => ?_)
              refine w_iconst rfl (w_goto (tgt := 78) rfl rfl (w_istore (ls2 := [_, _, _, _, _, _, _, _, _, _]) rfl rfl rfl ?_))
              exact hfound
      · have hgo := fresh n vN hpn hn (fun z => q2 (by
          rw [← hpn, he] at z
          simpa using z))
        have hne : P.1 = x → P.2 = y → False := fun z1 z2 => q2 (by rw [← z1, ← z2])
        clear fresh hins stay
        generalize L.length = len at *
        by_cases z1 : P.1 = x
        · have z2 : ¬ P.2 = y := fun z => hne z1 z
          rw [z1] at hc
          generalize P.2 = v at *
          refine w_iload rfl rfl (w_aload rfl rfl (w_getIV rfl (by first | rfl | assumption) (by first | exact Or.inl rfl | exact Or.inr rfl) (h1) ?_))
          refine w_icmp_ge (tgt := 77) rfl (by first | assumption | exact i32_0 | (unfold i32 at *; omega)) (by first | assumption | exact i32_0 | (unfold i32 at *; omega)) rfl (fun c46 => ?_) (fun c46 => ?_)
          · exfalso; omega
          · skip
            refine w_aload rfl rfl (w_getR rfl (by first | rfl | assumption) rfl (by first | rfl | assumption) (w_iload rfl rfl (w_laloadV rfl (by first | rfl | assumption) (by omega) (by omega) (hc.1) (w_lload rfl rfl ?_))))
            refine w_lcmp rfl (by first | assumption | exact i64_0 | (unfold i64 at *; omega)) (by first | assumption | exact i64_0 | (unfold i64 at *; omega)) (fun c57 => ?_) (fun c57 => ?_) (fun c57 => ?_)
            · exfalso; omega
            · exfalso; omega
            · skip
              refine w_if_ne (tgt := 77) rfl (by first | assumption | exact i32_0 | (unfold i32 at *; omega)) rfl (fun c => absurd c (by decide)) (fun _ => ?_)
              refine w_aload rfl rfl (w_getR rfl (by first | rfl | assumption) rfl (by first | rfl | assumption) (w_iload rfl rfl (w_laloadV rfl (by first | rfl | assumption) (by omega) (by omega) (hc.2.1) (w_lload rfl rfl ?_))))
              refine w_lcmp rfl (by first | assumption | exact i64_0 | (unfold i64 at *; omega)) (by first | assumption | exact i64_0 | (unfold i64 at *; omega)) (fun c69 => ?_) (fun c69 => ?_) (fun c69 => ?_)
              · skip
                refine w_if_ne (tgt := 77) rfl (by first | assumption | exact i32_0 | (unfold i32 at *; omega)) rfl (fun _ => ?_) (fun c => absurd c (by decide))
                refine w_iconst rfl (w_istore (ls2 := [_, _, _, _, _, _, _, _, _, _]) rfl rfl rfl ?_)
                exact hgo
              · skip
                refine w_if_ne (tgt := 77) rfl (by first | assumption | exact i32_0 | (unfold i32 at *; omega)) rfl (fun _ => ?_) (fun c => absurd c (by decide))
                refine w_iconst rfl (w_istore (ls2 := [_, _, _, _, _, _, _, _, _, _]) rfl rfl rfl ?_)
                exact hgo
              · exfalso; omega
        · generalize P.1 = u at *
          refine w_iload rfl rfl (w_aload rfl rfl (w_getIV rfl (by first | rfl | assumption) (by first | exact Or.inl rfl | exact Or.inr rfl) (h1) ?_))
          refine w_icmp_ge (tgt := 77) rfl (by first | assumption | exact i32_0 | (unfold i32 at *; omega)) (by first | assumption | exact i32_0 | (unfold i32 at *; omega)) rfl (fun c46 => ?_) (fun c46 => ?_)
          · exfalso; omega
          · skip
            refine w_aload rfl rfl (w_getR rfl (by first | rfl | assumption) rfl (by first | rfl | assumption) (w_iload rfl rfl (w_laloadV rfl (by first | rfl | assumption) (by omega) (by omega) (hc.1) (w_lload rfl rfl ?_))))
            refine w_lcmp rfl (by first | assumption | exact i64_0 | (unfold i64 at *; omega)) (by first | assumption | exact i64_0 | (unfold i64 at *; omega)) (fun c57 => ?_) (fun c57 => ?_) (fun c57 => ?_)
            · skip
              refine w_if_ne (tgt := 77) rfl (by first | assumption | exact i32_0 | (unfold i32 at *; omega)) rfl (fun _ => ?_) (fun c => absurd c (by decide))
              refine w_iconst rfl (w_istore (ls2 := [_, _, _, _, _, _, _, _, _, _]) rfl rfl rfl ?_)
              exact hgo
            · skip
              refine w_if_ne (tgt := 77) rfl (by first | assumption | exact i32_0 | (unfold i32 at *; omega)) rfl (fun _ => ?_) (fun c => absurd c (by decide))
              refine w_iconst rfl (w_istore (ls2 := [_, _, _, _, _, _, _, _, _, _]) rfl rfl rfl ?_)
              exact hgo
            · exfalso; omega
  have loop : ∀ (z n : Nat), L.length - n = z → n ≤ L.length → (∀ k, k < n → ∃ P, L[k]? = some P ∧ ahP x y P) → Wp mc_204 D 3 [vR 155, vL x, vN, vL y, vN, vI n, vN, vN, vN, vN] [] M Q := by
    intro z
    induction z with
    | zero =>
      intro n hz hn hk
      obtain rfl : n = L.length := by omega
      have hgo := at40 L.length (posP_at L L.length hk (fun P hP => by rw [List.getElem?_eq_none (Nat.le_refl _)] at hP; cases hP)).symm (Nat.le_refl _)
      clear shift fresh at40 stay hins hmx hok hmb hk
      generalize L.length = len at *
      refine w_iload rfl rfl (w_aload rfl rfl (w_getIV rfl (by first | rfl | assumption) (by first | exact Or.inl rfl | exact Or.inr rfl) (h1) ?_))
      refine w_icmp_ge (tgt := 40) rfl (by first | assumption | exact i32_0 | (unfold i32 at *; omega)) (by first | assumption | exact i32_0 | (unfold i32 at *; omega)) rfl (fun c9 => ?_) (fun c9 => ?_)
      · skip
        exact hgo
      · skip
        exfalso; omega
    | succ z ih =>
      intro n hz hn hk
      have he : L[n]? = some (L[n]'(by omega)) := List.getElem?_eq_getElem (by omega)
      generalize (L[n]'(by omega)) = P at he
      have hc := cell n P he
      have hah := m_ahead (x := P.1) (y := P.2) (u := x) (v := y) M hc.2.2.1 hc.2.2.2 hx64 hy64
      by_cases q2 : ahP x y P
      · have hgo := ih (n + 1) (by omega) (by omega) (fun k hk2 => by
          by_cases z : k = n
          · rw [z]; exact ⟨P, he, q2⟩
          · exact hk k (by omega))
        rw [if_pos q2] at hah
        clear shift fresh at40 stay hins hmx hok hmb hk ih q2
        generalize L.length = len at *
        refine w_iload rfl rfl (w_aload rfl rfl (w_getIV rfl (by first | rfl | assumption) (by first | exact Or.inl rfl | exact Or.inr rfl) (h1) ?_))
        refine w_icmp_ge (tgt := 40) rfl (by first | assumption | exact i32_0 | (unfold i32 at *; omega)) (by first | assumption | exact i32_0 | (unfold i32 at *; omega)) rfl (fun c9 => ?_) (fun c9 => ?_)
        · exfalso; omega
        · skip
          refine w_aload rfl rfl (w_getR rfl (by first | rfl | assumption) rfl (by first | rfl | assumption) (w_iload rfl rfl (w_laloadV rfl (by first | rfl | assumption) (by omega) (by omega) (hc.1) (w_aload rfl rfl (w_getR rfl (by first | rfl | assumption) rfl (by first | rfl | assumption) (w_iload rfl rfl (w_laloadV rfl (by first | rfl | assumption) (by omega) (by omega) (hc.2.1) ?_)))))))
          refine w_lload rfl rfl (w_lload rfl rfl ?_)
          refine w_call (Or.inl rfl) ((hah)) (by omega) nof_192 rfl rfl rfl rfl trivial rfl ?_
          refine w_if_eq (tgt := 40) rfl (by first | assumption | exact i32_0 | (unfold i32 at *; omega)) rfl (fun c => absurd c (by decide)) (fun _ => ?_)
          refine w_iinc (ls2 := [_, _, _, _, _, _, _, _, _, _]) rfl rfl rfl (w_goto (tgt := 3) rfl rfl ?_)
          exact hgo
      · have hgo := at40 n (posP_at L n hk (fun P2 hP2 => by
          rw [he] at hP2
          have z : P = P2 := by simpa using hP2
          rw [← z]; exact q2)).symm hn
        rw [if_neg q2] at hah
        clear shift fresh at40 stay hins hmx hok hmb hk ih q2
        generalize L.length = len at *
        refine w_iload rfl rfl (w_aload rfl rfl (w_getIV rfl (by first | rfl | assumption) (by first | exact Or.inl rfl | exact Or.inr rfl) (h1) ?_))
        refine w_icmp_ge (tgt := 40) rfl (by first | assumption | exact i32_0 | (unfold i32 at *; omega)) (by first | assumption | exact i32_0 | (unfold i32 at *; omega)) rfl (fun c9 => ?_) (fun c9 => ?_)
        · exfalso; omega
        · skip
          refine w_aload rfl rfl (w_getR rfl (by first | rfl | assumption) rfl (by first | rfl | assumption) (w_iload rfl rfl (w_laloadV rfl (by first | rfl | assumption) (by omega) (by omega) (hc.1) (w_aload rfl rfl (w_getR rfl (by first | rfl | assumption) rfl (by first | rfl | assumption) (w_iload rfl rfl (w_laloadV rfl (by first | rfl | assumption) (by omega) (by omega) (hc.2.1) ?_)))))))
          refine w_lload rfl rfl (w_lload rfl rfl ?_)
          refine w_call (Or.inl rfl) ((hah)) (by omega) nof_192 rfl rfl rfl rfl trivial rfl ?_
          refine w_if_eq (tgt := 40) rfl (by first | assumption | exact i32_0 | (unfold i32 at *; omega)) rfl (fun _ => ?_) (fun c => absurd c (by decide))
          exact hgo
  have hgo := loop L.length 0 rfl (Nat.zero_le _) (fun k hk => by omega)
  clear loop shift fresh at40 stay hins hmx hok hmb
  refine w_iconst rfl (w_istore (ls2 := [_, _, _, _, _, _, _, _, _, _]) rfl rfl rfl ?_)
  exact hgo
