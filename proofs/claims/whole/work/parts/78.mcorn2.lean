/-! ===== the model's corners found ===== -/
theorem m_cross (a b c d : Int) (M : mM) : E 1 190 [vI a, vI b, vI c, vI d] M (some (vI (a * d - b * c))) M := by
  refine e_in (ls := [vI a, vI b, vI c, vI d]) mq_190 (ml_190 rfl) rfl fun D hD => ?_
  refine w_iload rfl rfl (w_iload rfl rfl (w_imul rfl (w_iload rfl rfl (w_iload rfl rfl (w_imul rfl (w_isub rfl ?_))))))
  exact w_ireturn rfl ⟨by first | rfl | (congr 2; omega), by rfl⟩
theorem part_le {w : Int} (h : -16 ≤ w ∧ w ≤ 16) (h0 : w ≠ 0) : -720720 ≤ Int.tdiv 720720 w ∧ Int.tdiv 720720 w ≤ 720720 := by
  have h1 : (Int.tdiv 720720 w).natAbs ≤ 720720 := by
    rw [Int.natAbs_tdiv]; exact Nat.div_le_self _ _
  omega
theorem crXY_le {f : Cv} {a b d : Nat} (hf : Cok 999 f) (ha : a < 25) (hb : b < 25) (hd : d < 25) (h16 : -16 ≤ turn a b d ∧ turn a b d ≤ 16) (h0 : turn a b d ≠ 0) : (-20000000000 ≤ crX f a b d ∧ crX f a b d ≤ 20000000000) ∧ (-20000000000 ≤ crY f a b d ∧ crY f a b d ≤ 20000000000) := by
  have q1 := cv_le hf a
  have q2 := cv_le hf b
  have q3 := cv_le hf d
  have b1 := pi_le ha
  have b2 := pi_le hb
  have b3 := pi_le hd
  have b4 := pj_le a
  have b5 := pj_le b
  have b6 := pj_le d
  have hp := part_le h16 h0
  unfold crX crY
  generalize Int.tdiv 720720 (turn a b d) = u at *
  have m1 := mul_le (d := cv f a - cv f b) (c := pj d - pj a) (A := 1998) (B := 4) (by omega) (by omega)
  have m2 := mul_le (d := cv f a - cv f d) (c := pj b - pj a) (A := 1998) (B := 4) (by omega) (by omega)
  have m3 := mul_le (d := cv f a - cv f d) (c := pi b - pi a) (A := 1998) (B := 4) (by omega) (by omega)
  have m4 := mul_le (d := cv f a - cv f b) (c := pi d - pi a) (A := 1998) (B := 4) (by omega) (by omega)
  have r1 := mul_le (d := (cv f a - cv f b) * (pj d - pj a) - (cv f a - cv f d) * (pj b - pj a)) (c := u) (A := 15984) (B := 720720) (by omega) hp
  have r2 := mul_le (d := (cv f a - cv f d) * (pi b - pi a) - (cv f a - cv f b) * (pi d - pi a)) (c := u) (A := 15984) (B := 720720) (by omega) hp
  omega
theorem m_triesCorner {a p q r : Nat} {f : Cv} {L : List Pt} {M : mM} (ha : a < 2) (hc : mcur (25 * a) f M) (hf : Cok 999 f) (hL : mcC a L M) (hp : hasF f p = true) (hq : hasF f q = true) (hr : hasF f r = true) : EQ 4 189 [vR 155, vI a, vI p, vI q, vI r] M (fun z N => z = none ∧ mcC a (cornStep f p q r L) N ∧ McF a M N) := by
  have fp := hf p _ (hasF_some hp)
  have fq := hf q _ (hasF_some hq)
  have fr := hf r _ (hasF_some hr)
  have h16 := turn_16 p fp.1 fp.2.1 q fq.1 fq.2.1 r fr.1 fr.2.1
  have q1 := cv_le hf p
  have q2 := cv_le hf q
  have q3 := cv_le hf r
  have b1 := pi_le (p := p) (by omega)
  have b2 := pi_le (p := q) (by omega)
  have b3 := pi_le (p := r) (by omega)
  have b4 := pj_le p
  have b5 := pj_le q
  have b6 := pj_le r
  have hst : cornStep f p q r L = if !decide (turn p q r = 0) && (ledW f (crX f p q r) (crY f p q r)).testBit p then capP L (crX f p q r, crY f p q r, (ledW f (crX f p q r) (crY f p q r) : Int)) else L := by
    unfold cornStep isCorn
    rw [hp, hq, hr]
    simp only [Bool.true_and]
  rw [hst]
  have hcr := m_cross (pi q - pi p) (pj q - pj p) (pi r - pi p) (pj r - pj p) M
  have hturn : (pi q - pi p) * (pj r - pj p) - (pj q - pj p) * (pi r - pi p) = turn p q r := rfl
  rw [hturn] at hcr
  have xp : M 156 ((25 * (a : Int) + (p : Int)).toNat) = cv f p := by rw [show (25 * (a : Int) + (p : Int)).toNat = 25 * a + p by omega, hc p (by omega), mv_some hp]
  have xq : M 156 ((25 * (a : Int) + (q : Int)).toNat) = cv f q := by rw [show (25 * (a : Int) + (q : Int)).toNat = 25 * a + q by omega, hc q (by omega), mv_some hq]
  have xr : M 156 ((25 * (a : Int) + (r : Int)).toNat) = cv f r := by rw [show (25 * (a : Int) + (r : Int)).toNat = 25 * a + r by omega, hc r (by omega), mv_some hr]
  have t1 : (q : Int).tdiv 5 - (p : Int).tdiv 5 = pi q - pi p := rfl
  have t2 : (q : Int).tmod 5 - (p : Int).tmod 5 = pj q - pj p := rfl
  have t3 : (r : Int).tdiv 5 - (p : Int).tdiv 5 = pi r - pi p := rfl
  have t4 : (r : Int).tmod 5 - (p : Int).tmod 5 = pj r - pj p := rfl
  refine q_in (ls := [vR 155, vI a, vI p, vI q, vI r, vN, vN, vN, vN, vN, vN, vN, vN, vN, vN, vN, vN, vN, vN, vN, vN]) mq_189 (ml_189 rfl) rfl fun D hD => ?_
  by_cases h0 : turn p q r = 0
  · rw [h0] at hcr
    rw [if_neg (by rw [h0]; simp)]
    refine w_iload rfl rfl (w_iconst rfl (w_idiv rfl (by first | assumption | exact i32_0 | (unfold i32 at *; omega)) (by first | assumption | exact i32_0 | (unfold i32 at *; omega)) (by first | decide | omega | assumption) (w_iload rfl rfl (w_iconst rfl (w_idiv rfl (by first | assumption | exact i32_0 | (unfold i32 at *; omega)) (by first | assumption | exact i32_0 | (unfold i32 at *; omega)) (by first | decide | omega | assumption) (w_isub rfl ?_))))))
    rw [t1]
    refine w_istore (ls2 := [_, _, _, _, _, _, _, _, _, _, _, _, _, _, _, _, _, _, _, _, _]) rfl rfl rfl (w_iload rfl rfl (w_iconst rfl (w_irem rfl (by first | assumption | exact i32_0 | (unfold i32 at *; omega)) (by first | assumption | exact i32_0 | (unfold i32 at *; omega)) (by first | decide | omega | assumption) (w_iload rfl rfl (w_iconst rfl (w_irem rfl (by first | assumption | exact i32_0 | (unfold i32 at *; omega)) (by first | assumption | exact i32_0 | (unfold i32 at *; omega)) (by first | decide | omega | assumption) (w_isub rfl ?_)))))))
    rw [t2]
    refine w_istore (ls2 := [_, _, _, _, _, _, _, _, _, _, _, _, _, _, _, _, _, _, _, _, _]) rfl rfl rfl (w_iload rfl rfl (w_iconst rfl (w_idiv rfl (by first | assumption | exact i32_0 | (unfold i32 at *; omega)) (by first | assumption | exact i32_0 | (unfold i32 at *; omega)) (by first | decide | omega | assumption) (w_iload rfl rfl (w_iconst rfl (w_idiv rfl (by first | assumption | exact i32_0 | (unfold i32 at *; omega)) (by first | assumption | exact i32_0 | (unfold i32 at *; omega)) (by first | decide | omega | assumption) (w_isub rfl ?_)))))))
    rw [t3]
    refine w_istore (ls2 := [_, _, _, _, _, _, _, _, _, _, _, _, _, _, _, _, _, _, _, _, _]) rfl rfl rfl (w_iload rfl rfl (w_iconst rfl (w_irem rfl (by first | assumption | exact i32_0 | (unfold i32 at *; omega)) (by first | assumption | exact i32_0 | (unfold i32 at *; omega)) (by first | decide | omega | assumption) (w_iload rfl rfl (w_iconst rfl (w_irem rfl (by first | assumption | exact i32_0 | (unfold i32 at *; omega)) (by first | assumption | exact i32_0 | (unfold i32 at *; omega)) (by first | decide | omega | assumption) (w_isub rfl ?_)))))))
    rw [t4]
    refine w_istore (ls2 := [_, _, _, _, _, _, _, _, _, _, _, _, _, _, _, _, _, _, _, _, _]) rfl rfl rfl (w_iload rfl rfl (w_iload rfl rfl (w_iload rfl rfl (w_iload rfl rfl ?_))))
    refine w_call (Or.inl rfl) ((hcr)) (by omega) nof_190 rfl rfl rfl rfl trivial rfl ?_
    refine w_istore (ls2 := [_, _, _, _, _, _, _, _, _, _, _, _, _, _, _, _, _, _, _, _, _]) rfl rfl rfl (w_iload rfl rfl ?_)
    refine w_if_ne (tgt := 57) rfl (by first | assumption | exact i32_0 | (unfold i32 at *; omega)) rfl (fun c => absurd c (by decide)) (fun _ => ?_)
    exact w_return rfl ⟨rfl, by exact ⟨hL, fun _ _ => rfl, fun _ _ _ _ => rfl, fun _ _ => rfl⟩⟩
  · have hle := crXY_le hf (a := p) (b := q) (d := r) (by omega) (by omega) (by omega) h16 h0
    have hX : ((cv f p - cv f q) * (pj r - pj p) - (cv f p - cv f r) * (pj q - pj p)) * Int.tdiv 720720 (turn p q r) = crX f p q r := rfl
    have hY : ((cv f p - cv f r) * (pi q - pi p) - (cv f p - cv f q) * (pi r - pi p)) * Int.tdiv 720720 (turn p q r) = crY f p q r := rfl
    have hld := m_leadAt (x := crX f p q r) (y := crY f p q r) (d := 720720) ha hc hf (by omega) (by omega) (by omega)
    have hlt := leadF_lt f (crX f p q r) (crY f p q r) 720720
    have hled : leadF f (crX f p q r) (crY f p q r) 720720 = ledW f (crX f p q r) (crY f p q r) := rfl
    rw [hled] at hld hlt
    have hpc := m_placesCorner (led := (ledW f (crX f p q r) (crY f p q r) : Int)) ha hL (show ptB (crX f p q r, crY f p q r, (ledW f (crX f p q r) (crY f p q r) : Int)) from hle)
    rw [decide_eq_false h0]
    generalize ledW f (crX f p q r) (crY f p q r) = led at *
    generalize crX f p q r = X at *
    generalize crY f p q r = Y at *
    generalize turn p q r = w at *
    have e172 := bitI_shr (n := led) (p := p) (by omega) (by omega)
    have e174 : bitI (· &&& ·) ((led >>> p : Nat) : Int) 1 = ((led >>> p &&& 1 : Nat) : Int) := bitI_and (a := led >>> p) (b := 1) (by have := Nat.shiftRight_le led p; omega)
    rw [tb_and1] at e174
    cases e : led.testBit p with
    | true =>
      rw [e, if_pos rfl] at e174
      rw [if_pos (by decide)]
      have e174 : bitI (· &&& ·) ((led >>> p : Nat) : Int) 1 = 1 := e174
      refine w_iload rfl rfl (w_iconst rfl (w_idiv rfl (by first | assumption | exact i32_0 | (unfold i32 at *; omega)) (by first | assumption | exact i32_0 | (unfold i32 at *; omega)) (by first | decide | omega | assumption) (w_iload rfl rfl (w_iconst rfl (w_idiv rfl (by first | assumption | exact i32_0 | (unfold i32 at *; omega)) (by first | assumption | exact i32_0 | (unfold i32 at *; omega)) (by first | decide | omega | assumption) (w_isub rfl ?_))))))
      rw [t1]
      refine w_istore (ls2 := [_, _, _, _, _, _, _, _, _, _, _, _, _, _, _, _, _, _, _, _, _]) rfl rfl rfl (w_iload rfl rfl (w_iconst rfl (w_irem rfl (by first | assumption | exact i32_0 | (unfold i32 at *; omega)) (by first | assumption | exact i32_0 | (unfold i32 at *; omega)) (by first | decide | omega | assumption) (w_iload rfl rfl (w_iconst rfl (w_irem rfl (by first | assumption | exact i32_0 | (unfold i32 at *; omega)) (by first | assumption | exact i32_0 | (unfold i32 at *; omega)) (by first | decide | omega | assumption) (w_isub rfl ?_)))))))
      rw [t2]
      refine w_istore (ls2 := [_, _, _, _, _, _, _, _, _, _, _, _, _, _, _, _, _, _, _, _, _]) rfl rfl rfl (w_iload rfl rfl (w_iconst rfl (w_idiv rfl (by first | assumption | exact i32_0 | (unfold i32 at *; omega)) (by first | assumption | exact i32_0 | (unfold i32 at *; omega)) (by first | decide | omega | assumption) (w_iload rfl rfl (w_iconst rfl (w_idiv rfl (by first | assumption | exact i32_0 | (unfold i32 at *; omega)) (by first | assumption | exact i32_0 | (unfold i32 at *; omega)) (by first | decide | omega | assumption) (w_isub rfl ?_)))))))
      rw [t3]
      refine w_istore (ls2 := [_, _, _, _, _, _, _, _, _, _, _, _, _, _, _, _, _, _, _, _, _]) rfl rfl rfl (w_iload rfl rfl (w_iconst rfl (w_irem rfl (by first | assumption | exact i32_0 | (unfold i32 at *; omega)) (by first | assumption | exact i32_0 | (unfold i32 at *; omega)) (by first | decide | omega | assumption) (w_iload rfl rfl (w_iconst rfl (w_irem rfl (by first | assumption | exact i32_0 | (unfold i32 at *; omega)) (by first | assumption | exact i32_0 | (unfold i32 at *; omega)) (by first | decide | omega | assumption) (w_isub rfl ?_)))))))
      rw [t4]
      refine w_istore (ls2 := [_, _, _, _, _, _, _, _, _, _, _, _, _, _, _, _, _, _, _, _, _]) rfl rfl rfl (w_iload rfl rfl (w_iload rfl rfl (w_iload rfl rfl (w_iload rfl rfl ?_))))
      refine w_call (Or.inl rfl) ((hcr)) (by omega) nof_190 rfl rfl rfl rfl trivial rfl ?_
      refine w_istore (ls2 := [_, _, _, _, _, _, _, _, _, _, _, _, _, _, _, _, _, _, _, _, _]) rfl rfl rfl (w_iload rfl rfl ?_)
      refine w_if_ne (tgt := 57) rfl (by first | assumption | exact i32_0 | (unfold i32 at *; omega)) rfl (fun c53 => ?_) (fun c53 => ?_)
      · skip
        refine w_lconst rfl (w_iload rfl rfl (w_i2l rfl (by first | assumption | exact i32_0 | (unfold i32 at *; omega)) (w_ldiv rfl (by first | assumption | exact i64_0 | (unfold i64 at *; omega)) (by first | assumption | exact i64_0 | (unfold i64 at *; omega)) (by first | decide | omega | assumption) (w_lstore (ls2 := [_, _, _, _, _, _, _, _, _, _, _, _, _, _, _, _, _, _, _, _, _]) rfl rfl rfl (w_aload rfl rfl (w_getR rfl (by first | rfl | assumption) rfl (by first | rfl | assumption) (w_iconst rfl ?_)))))))
        refine w_iload rfl rfl (w_imul rfl (w_iload rfl rfl (w_iadd rfl (w_ialoadV rfl (by first | rfl | assumption) (by omega) (by omega) (xp) (w_aload rfl rfl (w_getR rfl (by first | rfl | assumption) rfl (by first | rfl | assumption) (w_iconst rfl ?_)))))))
        refine w_iload rfl rfl (w_imul rfl (w_iload rfl rfl (w_iadd rfl (w_ialoadV rfl (by first | rfl | assumption) (by omega) (by omega) (xq) (w_isub rfl (w_i2l rfl (by first | assumption | exact i32_0 | (unfold i32 at *; omega)) (w_lstore (ls2 := [_, _, _, _, _, _, _, _, _, _, _, _, _, _, _, _, _, _, _, _, _]) rfl rfl rfl ?_)))))))
        refine w_aload rfl rfl (w_getR rfl (by first | rfl | assumption) rfl (by first | rfl | assumption) (w_iconst rfl (w_iload rfl rfl (w_imul rfl (w_iload rfl rfl (w_iadd rfl (w_ialoadV rfl (by first | rfl | assumption) (by omega) (by omega) (xp) ?_)))))))
        refine w_aload rfl rfl (w_getR rfl (by first | rfl | assumption) rfl (by first | rfl | assumption) (w_iconst rfl (w_iload rfl rfl (w_imul rfl (w_iload rfl rfl (w_iadd rfl (w_ialoadV rfl (by first | rfl | assumption) (by omega) (by omega) (xr) ?_)))))))
        refine w_isub rfl (w_i2l rfl (by first | assumption | exact i32_0 | (unfold i32 at *; omega)) (w_lstore (ls2 := [_, _, _, _, _, _, _, _, _, _, _, _, _, _, _, _, _, _, _, _, _]) rfl rfl rfl (w_lload rfl rfl (w_iload rfl rfl (w_i2l rfl (by first | assumption | exact i32_0 | (unfold i32 at *; omega)) (w_lmul rfl (w_lload rfl rfl ?_)))))))
        refine w_iload rfl rfl (w_i2l rfl (by first | assumption | exact i32_0 | (unfold i32 at *; omega)) (w_lmul rfl (w_lsub rfl (w_lload rfl rfl (w_lmul rfl ?_)))))
        rw [hX]
        refine w_lstore (ls2 := [_, _, _, _, _, _, _, _, _, _, _, _, _, _, _, _, _, _, _, _, _]) rfl rfl rfl (w_lload rfl rfl (w_iload rfl rfl (w_i2l rfl (by first | assumption | exact i32_0 | (unfold i32 at *; omega)) (w_lmul rfl (w_lload rfl rfl (w_iload rfl rfl (w_i2l rfl (by first | assumption | exact i32_0 | (unfold i32 at *; omega)) ?_)))))))
        refine w_lmul rfl (w_lsub rfl (w_lload rfl rfl (w_lmul rfl ?_)))
        rw [hY]
        refine w_lstore (ls2 := [_, _, _, _, _, _, _, _, _, _, _, _, _, _, _, _, _, _, _, _, _]) rfl rfl rfl (w_aload rfl rfl (w_iload rfl rfl (w_lload rfl rfl (w_lload rfl rfl (w_lconst rfl ?_)))))
        refine w_call (Or.inr rfl) ((hld)) (by omega) nof_172 rfl rfl rfl rfl (by first | rfl | (show cKB[_]? = _; assumption)) rfl ?_
        refine w_istore (ls2 := [_, _, _, _, _, _, _, _, _, _, _, _, _, _, _, _, _, _, _, _, _]) rfl rfl rfl (w_iload rfl rfl (w_iload rfl rfl (w_ishr rfl (e172) (w_iconst rfl (w_iand rfl (e174) (w_iconst rfl ?_))))))
        refine w_icmp_ne (tgt := 190) rfl (by first | assumption | exact i32_0 | (unfold i32 at *; omega)) (by first | assumption | exact i32_0 | (unfold i32 at *; omega)) rfl (fun c176 => ?_) (fun c176 => ?_)
        · exfalso; omega
        · skip
          refine w_aload rfl rfl (w_iload rfl rfl (w_lload rfl rfl (w_lload rfl rfl (w_iload rfl rfl ?_))))
          refine w_callQ (Or.inr rfl) (hpc) (by omega) nof_191 rfl rfl rfl rfl (by first | rfl | (show cKB[_]? = _; assumption)) (fun r187 M187 hq187 => ?_)
          obtain ⟨rfl, w1, w2⟩ := hq187
          exact w_return rfl ⟨rfl, by exact ⟨w1, w2⟩⟩
      · skip
        exfalso; omega
    | false =>
      rw [e, if_neg (by decide)] at e174
      rw [if_neg (by decide)]
      have e174 : bitI (· &&& ·) ((led >>> p : Nat) : Int) 1 = 0 := e174
      refine w_iload rfl rfl (w_iconst rfl (w_idiv rfl (by first | assumption | exact i32_0 | (unfold i32 at *; omega)) (by first | assumption | exact i32_0 | (unfold i32 at *; omega)) (by first | decide | omega | assumption) (w_iload rfl rfl (w_iconst rfl (w_idiv rfl (by first | assumption | exact i32_0 | (unfold i32 at *; omega)) (by first | assumption | exact i32_0 | (unfold i32 at *; omega)) (by first | decide | omega | assumption) (w_isub rfl ?_))))))
      rw [t1]
      refine w_istore (ls2 := [_, _, _, _, _, _, _, _, _, _, _, _, _, _, _, _, _, _, _, _, _]) rfl rfl rfl (w_iload rfl rfl (w_iconst rfl (w_irem rfl (by first | assumption | exact i32_0 | (unfold i32 at *; omega)) (by first | assumption | exact i32_0 | (unfold i32 at *; omega)) (by first | decide | omega | assumption) (w_iload rfl rfl (w_iconst rfl (w_irem rfl (by first | assumption | exact i32_0 | (unfold i32 at *; omega)) (by first | assumption | exact i32_0 | (unfold i32 at *; omega)) (by first | decide | omega | assumption) (w_isub rfl ?_)))))))
      rw [t2]
      refine w_istore (ls2 := [_, _, _, _, _, _, _, _, _, _, _, _, _, _, _, _, _, _, _, _, _]) rfl rfl rfl (w_iload rfl rfl (w_iconst rfl (w_idiv rfl (by first | assumption | exact i32_0 | (unfold i32 at *; omega)) (by first | assumption | exact i32_0 | (unfold i32 at *; omega)) (by first | decide | omega | assumption) (w_iload rfl rfl (w_iconst rfl (w_idiv rfl (by first | assumption | exact i32_0 | (unfold i32 at *; omega)) (by first | assumption | exact i32_0 | (unfold i32 at *; omega)) (by first | decide | omega | assumption) (w_isub rfl ?_)))))))
      rw [t3]
      refine w_istore (ls2 := [_, _, _, _, _, _, _, _, _, _, _, _, _, _, _, _, _, _, _, _, _]) rfl rfl rfl (w_iload rfl rfl (w_iconst rfl (w_irem rfl (by first | assumption | exact i32_0 | (unfold i32 at *; omega)) (by first | assumption | exact i32_0 | (unfold i32 at *; omega)) (by first | decide | omega | assumption) (w_iload rfl rfl (w_iconst rfl (w_irem rfl (by first | assumption | exact i32_0 | (unfold i32 at *; omega)) (by first | assumption | exact i32_0 | (unfold i32 at *; omega)) (by first | decide | omega | assumption) (w_isub rfl ?_)))))))
      rw [t4]
      refine w_istore (ls2 := [_, _, _, _, _, _, _, _, _, _, _, _, _, _, _, _, _, _, _, _, _]) rfl rfl rfl (w_iload rfl rfl (w_iload rfl rfl (w_iload rfl rfl (w_iload rfl rfl ?_))))
      refine w_call (Or.inl rfl) ((hcr)) (by omega) nof_190 rfl rfl rfl rfl trivial rfl ?_
      refine w_istore (ls2 := [_, _, _, _, _, _, _, _, _, _, _, _, _, _, _, _, _, _, _, _, _]) rfl rfl rfl (w_iload rfl rfl ?_)
      refine w_if_ne (tgt := 57) rfl (by first | assumption | exact i32_0 | (unfold i32 at *; omega)) rfl (fun c53 => ?_) (fun c53 => ?_)
      · skip
        refine w_lconst rfl (w_iload rfl rfl (w_i2l rfl (by first | assumption | exact i32_0 | (unfold i32 at *; omega)) (w_ldiv rfl (by first | assumption | exact i64_0 | (unfold i64 at *; omega)) (by first | assumption | exact i64_0 | (unfold i64 at *; omega)) (by first | decide | omega | assumption) (w_lstore (ls2 := [_, _, _, _, _, _, _, _, _, _, _, _, _, _, _, _, _, _, _, _, _]) rfl rfl rfl (w_aload rfl rfl (w_getR rfl (by first | rfl | assumption) rfl (by first | rfl | assumption) (w_iconst rfl ?_)))))))
        refine w_iload rfl rfl (w_imul rfl (w_iload rfl rfl (w_iadd rfl (w_ialoadV rfl (by first | rfl | assumption) (by omega) (by omega) (xp) (w_aload rfl rfl (w_getR rfl (by first | rfl | assumption) rfl (by first | rfl | assumption) (w_iconst rfl ?_)))))))
        refine w_iload rfl rfl (w_imul rfl (w_iload rfl rfl (w_iadd rfl (w_ialoadV rfl (by first | rfl | assumption) (by omega) (by omega) (xq) (w_isub rfl (w_i2l rfl (by first | assumption | exact i32_0 | (unfold i32 at *; omega)) (w_lstore (ls2 := [_, _, _, _, _, _, _, _, _, _, _, _, _, _, _, _, _, _, _, _, _]) rfl rfl rfl ?_)))))))
        refine w_aload rfl rfl (w_getR rfl (by first | rfl | assumption) rfl (by first | rfl | assumption) (w_iconst rfl (w_iload rfl rfl (w_imul rfl (w_iload rfl rfl (w_iadd rfl (w_ialoadV rfl (by first | rfl | assumption) (by omega) (by omega) (xp) ?_)))))))
        refine w_aload rfl rfl (w_getR rfl (by first | rfl | assumption) rfl (by first | rfl | assumption) (w_iconst rfl (w_iload rfl rfl (w_imul rfl (w_iload rfl rfl (w_iadd rfl (w_ialoadV rfl (by first | rfl | assumption) (by omega) (by omega) (xr) ?_)))))))
        refine w_isub rfl (w_i2l rfl (by first | assumption | exact i32_0 | (unfold i32 at *; omega)) (w_lstore (ls2 := [_, _, _, _, _, _, _, _, _, _, _, _, _, _, _, _, _, _, _, _, _]) rfl rfl rfl (w_lload rfl rfl (w_iload rfl rfl (w_i2l rfl (by first | assumption | exact i32_0 | (unfold i32 at *; omega)) (w_lmul rfl (w_lload rfl rfl ?_)))))))
        refine w_iload rfl rfl (w_i2l rfl (by first | assumption | exact i32_0 | (unfold i32 at *; omega)) (w_lmul rfl (w_lsub rfl (w_lload rfl rfl (w_lmul rfl ?_)))))
        rw [hX]
        refine w_lstore (ls2 := [_, _, _, _, _, _, _, _, _, _, _, _, _, _, _, _, _, _, _, _, _]) rfl rfl rfl (w_lload rfl rfl (w_iload rfl rfl (w_i2l rfl (by first | assumption | exact i32_0 | (unfold i32 at *; omega)) (w_lmul rfl (w_lload rfl rfl (w_iload rfl rfl (w_i2l rfl (by first | assumption | exact i32_0 | (unfold i32 at *; omega)) ?_)))))))
        refine w_lmul rfl (w_lsub rfl (w_lload rfl rfl (w_lmul rfl ?_)))
        rw [hY]
        refine w_lstore (ls2 := [_, _, _, _, _, _, _, _, _, _, _, _, _, _, _, _, _, _, _, _, _]) rfl rfl rfl (w_aload rfl rfl (w_iload rfl rfl (w_lload rfl rfl (w_lload rfl rfl (w_lconst rfl ?_)))))
        refine w_call (Or.inr rfl) ((hld)) (by omega) nof_172 rfl rfl rfl rfl (by first | rfl | (show cKB[_]? = _; assumption)) rfl ?_
        refine w_istore (ls2 := [_, _, _, _, _, _, _, _, _, _, _, _, _, _, _, _, _, _, _, _, _]) rfl rfl rfl (w_iload rfl rfl (w_iload rfl rfl (w_ishr rfl (e172) (w_iconst rfl (w_iand rfl (e174) (w_iconst rfl ?_))))))
        refine w_icmp_ne (tgt := 190) rfl (by first | assumption | exact i32_0 | (unfold i32 at *; omega)) (by first | assumption | exact i32_0 | (unfold i32 at *; omega)) rfl (fun c176 => ?_) (fun c176 => ?_)
        · skip
          exact w_return rfl ⟨rfl, by exact ⟨hL, fun _ _ => rfl, fun _ _ _ _ => rfl, fun _ _ => rfl⟩⟩
        · exfalso; omega
      · skip
        exfalso; omega
theorem McF_tr {a : Nat} {M N O : mM} (h : McF a M N) (h2 : McF a N O) : McF a M O := ⟨fun b hb => (h2.1 b hb).trans (h.1 b hb), fun b j q1 q2 => (h2.2.1 b j q1 q2).trans (h.2.1 b j q1 q2), fun j hj => (h2.2.2 j hj).trans (h.2.2 j hj)⟩
theorem m_findsCorners {a : Nat} {f : Cv} {M : mM} (ha : a < 2) (hc : mcur (25 * a) f M) (hf : Cok 999 f) : EQ 5 188 [vR 155, vI a] M (fun z N => z = none ∧ mcC a (cornF f) N ∧ McF a M N) := by
  have hcN : ∀ N : mM, McF a M N → mcur (25 * a) f N := fun N h => mcur_fr hc (fun k _ _ => by rw [h.1 156 (by omega)])
  refine q_in (ls := [vR 155, vI a, vN, vN, vN]) mq_188 (ml_188 rfl) rfl fun D hD => ?_
  rw [← cornF_25 hf]
  have loopD : ∀ (p q : Nat) (acc : List Pt), p < 25 → q < 25 → (∀ N : mM, mcC a (cornD f p q acc 25) N → McF a M N → Wp mc_188 D 80 [vR 155, vI a, vI p, vI q, vI (25 : Nat)] [] N (fun z N => z = none ∧ mcC a (cornA f 25 25) N ∧ McF a M N)) → ∀ (m n : Nat) (N : mM), 25 - n = m → q < n → n ≤ 25 → mcC a (cornD f p q acc n) N → McF a M N → Wp mc_188 D 30 [vR 155, vI a, vI p, vI q, vI n] [] N (fun z N => z = none ∧ mcC a (cornA f 25 25) N ∧ McF a M N) := by
    intro p q acc hp hq hout m
    induction m with
    | zero =>
      intro n N hm hqn hn hP hF
      obtain rfl : n = 25 := by omega
      have hgo := hout N hP hF
      refine w_iload rfl rfl (w_iconst rfl ?_)
      refine w_icmp_ge (tgt := 80) rfl (by first | assumption | exact i32_0 | (unfold i32 at *; omega)) (by first | assumption | exact i32_0 | (unfold i32 at *; omega)) rfl (fun c34 => ?_) (fun c34 => ?_)
      · skip
        exact hgo
      · skip
        exfalso; omega
    | succ m ih =>
      intro n N hm hqn hn hP hF
      have hcn := hcN N hF
      have hD1 : cornD f p q acc (n + 1) = cornStep f p q n (cornD f p q acc n) := if_pos hqn
      have ihn := fun N2 => ih (n + 1) N2 (by omega) (by omega) (by omega)
      rw [hD1] at ihn
      cases ep : hasF f p with
      | false =>
        rw [cornStep_no (fun z => by rw [ep] at z; exact absurd z.1 (by decide))] at ihn
        have hgo := ihn N hP hF
        refine w_iload rfl rfl (w_iconst rfl ?_)
        refine w_icmp_ge (tgt := 80) rfl (by first | assumption | exact i32_0 | (unfold i32 at *; omega)) (by first | assumption | exact i32_0 | (unfold i32 at *; omega)) rfl (fun c34 => ?_) (fun c34 => ?_)
        · skip
          exfalso; omega
        · skip
          refine w_aload rfl rfl (w_iload rfl rfl (w_iload rfl rfl ?_))
          refine w_call (Or.inr rfl) (m_has0 ha hcn hf hp ep) (by omega) nof_167 rfl rfl rfl rfl (by first | rfl | (show cKB[_]? = _; assumption)) rfl ?_
          refine w_if_eq (tgt := 74) rfl (by first | assumption | exact i32_0 | (unfold i32 at *; omega)) rfl (fun _ => ?_) (fun c => absurd c (by decide))
          refine w_iinc (ls2 := [_, _, _, _, _]) rfl rfl rfl (w_goto (tgt := 30) rfl rfl ?_)
          exact hgo
      | true =>
        cases eq : hasF f q with
        | false =>
          rw [cornStep_no (fun z => by rw [eq] at z; exact absurd z.2.1 (by decide))] at ihn
          have hgo := ihn N hP hF
          refine w_iload rfl rfl (w_iconst rfl ?_)
          refine w_icmp_ge (tgt := 80) rfl (by first | assumption | exact i32_0 | (unfold i32 at *; omega)) (by first | assumption | exact i32_0 | (unfold i32 at *; omega)) rfl (fun c34 => ?_) (fun c34 => ?_)
          · skip
            exfalso; omega
          · skip
            refine w_aload rfl rfl (w_iload rfl rfl (w_iload rfl rfl ?_))
            refine w_call (Or.inr rfl) (m_has1 ha hcn hf hp ep) (by omega) nof_167 rfl rfl rfl rfl (by first | rfl | (show cKB[_]? = _; assumption)) rfl ?_
            refine w_if_eq (tgt := 74) rfl (by first | assumption | exact i32_0 | (unfold i32 at *; omega)) rfl (fun c => absurd c (by decide)) (fun _ => ?_)
            refine w_aload rfl rfl (w_iload rfl rfl (w_iload rfl rfl ?_))
            refine w_call (Or.inr rfl) (m_has0 ha hcn hf hq eq) (by omega) nof_167 rfl rfl rfl rfl (by first | rfl | (show cKB[_]? = _; assumption)) rfl ?_
            refine w_if_eq (tgt := 74) rfl (by first | assumption | exact i32_0 | (unfold i32 at *; omega)) rfl (fun _ => ?_) (fun c => absurd c (by decide))
            refine w_iinc (ls2 := [_, _, _, _, _]) rfl rfl rfl (w_goto (tgt := 30) rfl rfl ?_)
            exact hgo
        | true =>
          cases en : hasF f n with
          | false =>
            rw [cornStep_no (fun z => by rw [en] at z; exact absurd z.2.2 (by decide))] at ihn
            have hgo := ihn N hP hF
            refine w_iload rfl rfl (w_iconst rfl ?_)
            refine w_icmp_ge (tgt := 80) rfl (by first | assumption | exact i32_0 | (unfold i32 at *; omega)) (by first | assumption | exact i32_0 | (unfold i32 at *; omega)) rfl (fun c34 => ?_) (fun c34 => ?_)
            · skip
              exfalso; omega
            · skip
              refine w_aload rfl rfl (w_iload rfl rfl (w_iload rfl rfl ?_))
              refine w_call (Or.inr rfl) (m_has1 ha hcn hf hp ep) (by omega) nof_167 rfl rfl rfl rfl (by first | rfl | (show cKB[_]? = _; assumption)) rfl ?_
              refine w_if_eq (tgt := 74) rfl (by first | assumption | exact i32_0 | (unfold i32 at *; omega)) rfl (fun c => absurd c (by decide)) (fun _ => ?_)
              refine w_aload rfl rfl (w_iload rfl rfl (w_iload rfl rfl ?_))
              refine w_call (Or.inr rfl) (m_has1 ha hcn hf hq eq) (by omega) nof_167 rfl rfl rfl rfl (by first | rfl | (show cKB[_]? = _; assumption)) rfl ?_
              refine w_if_eq (tgt := 74) rfl (by first | assumption | exact i32_0 | (unfold i32 at *; omega)) rfl (fun c => absurd c (by decide)) (fun _ => ?_)
              refine w_aload rfl rfl (w_iload rfl rfl (w_iload rfl rfl ?_))
              refine w_call (Or.inr rfl) (m_has0 ha hcn hf (by omega) en) (by omega) nof_167 rfl rfl rfl rfl (by first | rfl | (show cKB[_]? = _; assumption)) rfl ?_
              refine w_if_eq (tgt := 74) rfl (by first | assumption | exact i32_0 | (unfold i32 at *; omega)) rfl (fun _ => ?_) (fun c => absurd c (by decide))
              refine w_iinc (ls2 := [_, _, _, _, _]) rfl rfl rfl (w_goto (tgt := 30) rfl rfl ?_)
              exact hgo
          | true =>
            have htr := m_triesCorner ha hcn hf hP ep eq en
            refine w_iload rfl rfl (w_iconst rfl ?_)
            refine w_icmp_ge (tgt := 80) rfl (by first | assumption | exact i32_0 | (unfold i32 at *; omega)) (by first | assumption | exact i32_0 | (unfold i32 at *; omega)) rfl (fun c34 => ?_) (fun c34 => ?_)
            · skip
              exfalso; omega
            · skip
              refine w_aload rfl rfl (w_iload rfl rfl (w_iload rfl rfl ?_))
              refine w_call (Or.inr rfl) (m_has1 ha hcn hf hp ep) (by omega) nof_167 rfl rfl rfl rfl (by first | rfl | (show cKB[_]? = _; assumption)) rfl ?_
              refine w_if_eq (tgt := 74) rfl (by first | assumption | exact i32_0 | (unfold i32 at *; omega)) rfl (fun c => absurd c (by decide)) (fun _ => ?_)
              refine w_aload rfl rfl (w_iload rfl rfl (w_iload rfl rfl ?_))
              refine w_call (Or.inr rfl) (m_has1 ha hcn hf hq eq) (by omega) nof_167 rfl rfl rfl rfl (by first | rfl | (show cKB[_]? = _; assumption)) rfl ?_
              refine w_if_eq (tgt := 74) rfl (by first | assumption | exact i32_0 | (unfold i32 at *; omega)) rfl (fun c => absurd c (by decide)) (fun _ => ?_)
              refine w_aload rfl rfl (w_iload rfl rfl (w_iload rfl rfl ?_))
              refine w_call (Or.inr rfl) (m_has1 ha hcn hf (by omega) en) (by omega) nof_167 rfl rfl rfl rfl (by first | rfl | (show cKB[_]? = _; assumption)) rfl ?_
              refine w_if_eq (tgt := 74) rfl (by first | assumption | exact i32_0 | (unfold i32 at *; omega)) rfl (fun c => absurd c (by decide)) (fun _ => ?_)
              refine w_aload rfl rfl (w_iload rfl rfl (w_iload rfl rfl (w_iload rfl rfl (w_iload rfl rfl ?_))))
              refine w_callQ (Or.inr rfl) (htr) (by omega) nof_189 rfl rfl rfl rfl (by first | rfl | (show cKB[_]? = _; assumption)) (fun r71 M71 hq71 => ?_)
              obtain ⟨rfl, w1, w2⟩ := hq71
              refine w_iinc (ls2 := [_, _, _, _, _]) rfl rfl rfl (w_goto (tgt := 30) rfl rfl ?_)
              exact ihn _ w1 (McF_tr hF w2)
  have loopB : ∀ (p : Nat) (acc : List Pt), p < 25 → (∀ (N : mM) (v : mV), mcC a (cornB f 25 p acc 25) N → McF a M N → Wp mc_188 D 86 [vR 155, vI a, vI p, vI (25 : Nat), v] [] N (fun z N => z = none ∧ mcC a (cornA f 25 25) N ∧ McF a M N)) → ∀ (m n : Nat) (N : mM) (v : mV), 25 - n = m → p < n → n ≤ 25 → mcC a (cornB f 25 p acc n) N → McF a M N → Wp mc_188 D 19 [vR 155, vI a, vI p, vI n, v] [] N (fun z N => z = none ∧ mcC a (cornA f 25 25) N ∧ McF a M N) := by
    intro p acc hp hout m
    induction m with
    | zero =>
      intro n N v hm hqn hn hP hF
      obtain rfl : n = 25 := by omega
      have hgo := hout N v hP hF
      refine w_iload rfl rfl (w_iconst rfl ?_)
      refine w_icmp_ge (tgt := 86) rfl (by first | assumption | exact i32_0 | (unfold i32 at *; omega)) (by first | assumption | exact i32_0 | (unfold i32 at *; omega)) rfl (fun c22 => ?_) (fun c22 => ?_)
      · skip
        exact hgo
      · skip
        exfalso; omega
    | succ m ih =>
      intro n N v hm hqn hn hP hF
      have hD1 : cornB f 25 p acc (n + 1) = cornD f p n (cornB f 25 p acc n) 25 := if_pos hqn
      have ihn := fun N2 v => ih (n + 1) N2 v (by omega) (by omega) (by omega)
      rw [hD1] at ihn
      have hgo := loopD p n (cornB f 25 p acc n) hp (by omega) (fun N2 w1 w2 => by
        have hgo := ihn N2 (vI (25 : Nat)) w1 w2
        refine w_iinc (ls2 := [_, _, _, _, _]) rfl rfl rfl (w_goto (tgt := 19) rfl rfl ?_)
        exact hgo) (25 - (n + 1)) (n + 1) N rfl (by omega) (by omega) (by rw [cornD_lo f p n _ (n + 1) (by omega)]; exact hP) hF
      refine w_iload rfl rfl (w_iconst rfl ?_)
      refine w_icmp_ge (tgt := 86) rfl (by first | assumption | exact i32_0 | (unfold i32 at *; omega)) (by first | assumption | exact i32_0 | (unfold i32 at *; omega)) rfl (fun c22 => ?_) (fun c22 => ?_)
      · skip
        exfalso; omega
      · skip
        refine w_iload rfl rfl (w_iconst rfl (w_iadd rfl (w_istore (ls2 := [_, _, _, _, _]) rfl rfl rfl ?_)))
        exact hgo
  have loopA : ∀ (m n : Nat) (N : mM) (v w : mV), 25 - n = m → n ≤ 25 → mcC a (cornA f 25 n) N → McF a M N → Wp mc_188 D 9 [vR 155, vI a, vI n, v, w] [] N (fun z N => z = none ∧ mcC a (cornA f 25 25) N ∧ McF a M N) := by
    intro m
    induction m with
    | zero =>
      intro n N v w hm hn hP hF
      obtain rfl : n = 25 := by omega
      refine w_iload rfl rfl (w_iconst rfl ?_)
      refine w_icmp_ge (tgt := 92) rfl (by first | assumption | exact i32_0 | (unfold i32 at *; omega)) (by first | assumption | exact i32_0 | (unfold i32 at *; omega)) rfl (fun c12 => ?_) (fun c12 => ?_)
      · skip
        exact w_return rfl ⟨rfl, by exact ⟨hP, hF⟩⟩
      · skip
        exfalso; omega
    | succ m ih =>
      intro n N v w hm hn hP hF
      have ihn := fun N2 v w => ih (n + 1) N2 v w (by omega) (by omega)
      have hgo := fun w => loopB n (cornA f 25 n) (by omega) (fun N2 v w1 w2 => by
        have hgo := ihn N2 (vI (25 : Nat)) v w1 w2
        refine w_iinc (ls2 := [_, _, _, _, _]) rfl rfl rfl (w_goto (tgt := 9) rfl rfl ?_)
        exact hgo) (25 - (n + 1)) (n + 1) N w rfl (by omega) (by omega) (by rw [cornB_lo f 25 n _ (n + 1) (by omega)]; exact hP) hF
      refine w_iload rfl rfl (w_iconst rfl ?_)
      refine w_icmp_ge (tgt := 92) rfl (by first | assumption | exact i32_0 | (unfold i32 at *; omega)) (by first | assumption | exact i32_0 | (unfold i32 at *; omega)) rfl (fun c12 => ?_) (fun c12 => ?_)
      · skip
        exfalso; omega
      · skip
        refine w_iload rfl rfl (w_iconst rfl (w_iadd rfl (w_istore (ls2 := [_, _, _, _, _]) rfl rfl rfl ?_)))
        exact hgo _
  have hgo := loopA 25 0 (upI M 165 a 0) vN vN rfl (by omega) ⟨upI_same _ _ _ _, Nat.zero_le 16, fun P hP => (by cases hP), fun k P h => (by cases h)⟩ ⟨fun b hb => upI_ne _ _ _ _ (by omega), fun b j _ hb => by rw [upI_ne _ _ _ _ hb], fun j hj => if_neg (by omega)⟩
  refine w_aload rfl rfl (w_getR rfl (by first | rfl | assumption) rfl (by first | rfl | assumption) (w_iload rfl rfl (w_iconst rfl (w_iastore rfl (by first | rfl | assumption) (by omega) (by omega) (w_iconst rfl (w_istore (ls2 := [_, _, _, _, _]) rfl rfl rfl ?_))))))
  exact hgo
