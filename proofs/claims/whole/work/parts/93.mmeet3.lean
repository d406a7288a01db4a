/-! ===== the model tries a meeting ===== -/
theorem minF_att {f : Cv} {x y d : Int} : ∀ (n : Nat) (m : Int), minF f x y d n = some m → ∃ k, k < n ∧ ∃ c, f k = some c ∧ m = wv c k x y d
  | 0, m, h => by cases h
  | n + 1, m, h => by
    have hu : minF f x y d (n + 1) = match f n with | none => minF f x y d n | some c => match minF f x y d n with | none => some (wv c n x y d) | some m => some (min m (wv c n x y d)) := rfl
    rw [hu] at h
    cases e : f n with
    | none =>
      rw [e] at h
      obtain ⟨k, hk, c, h2⟩ := minF_att n m h
      exact ⟨k, by omega, c, h2⟩
    | some c =>
      rw [e] at h
      cases e2 : minF f x y d n with
      | none =>
        rw [e2] at h
        have h : some (wv c n x y d) = some m := h
        exact ⟨n, by omega, c, e, (Option.some.inj h).symm⟩
      | some m2 =>
        rw [e2] at h
        have h : some (min m2 (wv c n x y d)) = some m := h
        have h := Option.some.inj h
        obtain ⟨k, hk, c2, h2, h3⟩ := minF_att n m2 e2
        by_cases q : m2 ≤ wv c n x y d
        · exact ⟨k, by omega, c2, h2, by rw [← h, Int.min_eq_left q]; exact h3⟩
        · exact ⟨n, by omega, c, e, by rw [← h, Int.min_eq_right (by omega)]⟩
theorem minF_ne {f : Cv} {x y d : Int} {p : Nat} (h : hasF f p = true) : ∀ n, p < n → minF f x y d n ≠ none
  | 0, hn => by omega
  | n + 1, hn => by
    have hu : minF f x y d (n + 1) = match f n with | none => minF f x y d n | some c => match minF f x y d n with | none => some (wv c n x y d) | some m => some (min m (wv c n x y d)) := rfl
    rw [hu]
    by_cases q : p = n
    · rw [← q, hasF_some h]
      cases e2 : minF f x y d p with
      | none => exact fun z => by cases z
      | some m2 => exact fun z => by cases z
    · have ih := minF_ne (x := x) (y := y) (d := d) h n (by omega)
      cases e : f n with
      | none => exact ih
      | some c =>
        cases e2 : minF f x y d n with
        | none => exact absurd e2 ih
        | some m2 => exact fun z => by cases z
theorem lead_pos {f : Cv} (hf : Cok 999 f) {x y d : Int} {p : Nat} (h : hasF f p = true) : 0 < leadF f x y d := by
  have hp := hf p _ (hasF_some h)
  cases e : minF f x y d 21 with
  | none => exact absurd e (minF_ne h 21 (by omega))
  | some m =>
    obtain ⟨k, hk, c, h2, h3⟩ := minF_att 21 m e
    have ht : (leadF f x y d).testBit k = true := lead_tb.mpr ⟨hk, c, h2, by rw [e, h3]⟩
    rcases Nat.eq_zero_or_pos (leadF f x y d) with z | z
    · rw [z, Nat.zero_testBit] at ht
      cases ht
    · exact z
theorem mt_le {f g : Cv} {p q r t : Nat} (hf : Cok 999 f) (hg : Cok 999 g) (hp : p < 25) (hq : q < 25) (hr : r < 25) (ht : t < 25) : lqB (mtX f g p q r t, mtY f g p q r t) := by
  have q1 := cv_le hf p
  have q2 := cv_le hf q
  have q3 := cv_le hg r
  have q4 := cv_le hg t
  have b1 := pi_le hp
  have b2 := pi_le hq
  have b3 := pi_le hr
  have b4 := pi_le ht
  have b5 := pj_le p
  have b6 := pj_le q
  have b7 := pj_le r
  have b8 := pj_le t
  have hpt : -720720 ≤ Int.tdiv 720720 (crs p q r t) ∧ Int.tdiv 720720 (crs p q r t) ≤ 720720 := by
    have h1 : (Int.tdiv 720720 (crs p q r t)).natAbs ≤ 720720 := by
      rw [Int.natAbs_tdiv]; exact Nat.div_le_self _ _
    omega
  have m1 := mul_le (d := cv f p - cv f q) (c := pj t - pj r) (A := 1998) (B := 4) (by omega) (by omega)
  have m2 := mul_le (d := cv g r - cv g t) (c := pj q - pj p) (A := 1998) (B := 4) (by omega) (by omega)
  have m3 := mul_le (d := cv g r - cv g t) (c := pi q - pi p) (A := 1998) (B := 4) (by omega) (by omega)
  have m4 := mul_le (d := cv f p - cv f q) (c := pi t - pi r) (A := 1998) (B := 4) (by omega) (by omega)
  show (-20000000000 ≤ mtX f g p q r t ∧ mtX f g p q r t ≤ 20000000000) ∧ (-20000000000 ≤ mtY f g p q r t ∧ mtY f g p q r t ≤ 20000000000)
  unfold mtX mtY
  generalize Int.tdiv 720720 (crs p q r t) = w at *
  have r1 := mul_le (d := (cv f p - cv f q) * (pj t - pj r) - (cv g r - cv g t) * (pj q - pj p)) (c := w) (A := 15984) (B := 720720) (by omega) hpt
  have r2 := mul_le (d := (cv g r - cv g t) * (pi q - pi p) - (cv f p - cv f q) * (pi t - pi r)) (c := w) (A := 15984) (B := 720720) (by omega) hpt
  omega
def mtTry (f g : Cv) (p q r t : Nat) (L : List (Int × Int)) : List (Int × Int) := if crs p q r t = 0 then L else mtPut f g (mtX f g p q r t) (mtY f g p q r t) L
theorem m_triesMeeting {f g : Cv} {L : List (Int × Int)} {M : mM} {j k p q r t : Nat} (hcf : mcur 0 f M) (hcg : mcur 25 g M) (hf : Cok 999 f) (hg : Cok 999 g) (h : mMt L M) (hj : j < 80) (hk : k < 80) (mp : M 166 ((j : Int)).toNat = (p : Int)) (mq : M 167 ((j : Int)).toNat = (q : Int)) (mr : M 166 ((k : Int)).toNat = (r : Int)) (mt : M 167 ((k : Int)).toNat = (t : Int)) (hp : hasF f p = true) (hq : hasF f q = true) (hr : hasF g r = true) (ht : hasF g t = true) : EQ 9 208 [vR 155, vI j, vI k] M (fun z N => z = none ∧ mMt (mtTry f g p q r t L) N ∧ MzF M N) := by
  have fp := hf p _ (hasF_some hp)
  have fq := hf q _ (hasF_some hq)
  have fr := hg r _ (hasF_some hr)
  have ft := hg t _ (hasF_some ht)
  have b1 := pi_le (p := p) (by omega)
  have b2 := pi_le (p := q) (by omega)
  have b3 := pi_le (p := r) (by omega)
  have b4 := pi_le (p := t) (by omega)
  have b5 := pj_le p
  have b6 := pj_le q
  have b7 := pj_le r
  have b8 := pj_le t
  have q1 := cv_le hf p
  have q2 := cv_le hf q
  have q3 := cv_le hg r
  have q4 := cv_le hg t
  have tp1 : (p : Int).tdiv 5 = pi p := rfl
  have tp2 : (p : Int).tmod 5 = pj p := rfl
  have tq1 : (q : Int).tdiv 5 = pi q := rfl
  have tq2 : (q : Int).tmod 5 = pj q := rfl
  have tr1 : (r : Int).tdiv 5 = pi r := rfl
  have tr2 : (r : Int).tmod 5 = pj r := rfl
  have tt1 : (t : Int).tdiv 5 = pi t := rfl
  have tt2 : (t : Int).tmod 5 = pj t := rfl
  have xp : M 156 ((p : Int)).toNat = cv f p := by
    have := hcf p (by omega)
    rw [Nat.zero_add] at this
    rw [mv_some hp] at this
    exact this
  have xq : M 156 ((q : Int)).toNat = cv f q := by
    have := hcf q (by omega)
    rw [Nat.zero_add] at this
    rw [mv_some hq] at this
    exact this
  have xr : M 156 ((25 + (r : Int)).toNat) = cv g r := by rw [show (25 + (r : Int)).toNat = 25 + r by omega, hcg r (by omega), mv_some hr]
  have xt : M 156 ((25 + (t : Int)).toNat) = cv g t := by rw [show (25 + (t : Int)).toNat = 25 + t by omega, hcg t (by omega), mv_some ht]
  have hcr := m_cross (pi q - pi p) (pj q - pj p) (pi t - pi r) (pj t - pj r) M
  have hc : (pi q - pi p) * (pj t - pj r) - (pj q - pj p) * (pi t - pi r) = crs p q r t := rfl
  rw [hc] at hcr
  have m1 := mul_le (d := pi q - pi p) (c := pj t - pj r) (A := 4) (B := 4) (by omega) (by omega)
  have m2 := mul_le (d := pj q - pj p) (c := pi t - pi r) (A := 4) (B := 4) (by omega) (by omega)
  have hcl : -32 ≤ crs p q r t ∧ crs p q r t ≤ 32 := by rw [← hc]; omega
  have hX : ((cv f p - cv f q) * (pj t - pj r) - (cv g r - cv g t) * (pj q - pj p)) * Int.tdiv 720720 (crs p q r t) = mtX f g p q r t := rfl
  have hY : ((cv g r - cv g t) * (pi q - pi p) - (cv f p - cv f q) * (pi t - pi r)) * Int.tdiv 720720 (crs p q r t) = mtY f g p q r t := rfl
  have hB := mt_le (p := p) (q := q) (r := r) (t := t) hf hg (by omega) (by omega) (by omega) (by omega)
  have hpm := m_placesMeeting hcf hcg hf hg h hB (lead_pos hf hp) (lead_pos hg hr)
  have hmt : mtTry f g p q r t L = if crs p q r t = 0 then L else mtPut f g (mtX f g p q r t) (mtY f g p q r t) L := rfl
  rw [hmt]
  refine q_in (ls := [vR 155, vI j, vI k, vN, vN, vN, vN, vN, vN, vN, vN, vN, vN, vN]) mq_208 (ml_208 rfl) rfl fun D hD => ?_
  clear hc hmt m1 m2
  generalize crs p q r t = w at *
  generalize mtX f g p q r t = X at *
  generalize mtY f g p q r t = Y at *
  by_cases h0 : w = 0
  · rw [if_pos h0]
    refine w_aload rfl rfl (w_getR rfl (by first | rfl | assumption) rfl (by first | rfl | assumption) (w_iload rfl rfl (w_ialoadV rfl (by first | rfl | assumption) (by omega) (by omega) (mq) (w_iconst rfl (w_idiv rfl (by first | assumption | exact i32_0 | (unfold i32 at *; omega)) (by first | assumption | exact i32_0 | (unfold i32 at *; omega)) (by first | decide | omega | assumption) ?_)))))
    rw [tq1]
    refine w_aload rfl rfl (w_getR rfl (by first | rfl | assumption) rfl (by first | rfl | assumption) (w_iload rfl rfl (w_ialoadV rfl (by first | rfl | assumption) (by omega) (by omega) (mp) (w_iconst rfl (w_idiv rfl (by first | assumption | exact i32_0 | (unfold i32 at *; omega)) (by first | assumption | exact i32_0 | (unfold i32 at *; omega)) (by first | decide | omega | assumption) ?_)))))
    rw [tp1]
    refine w_isub rfl (w_istore (ls2 := [_, _, _, _, _, _, _, _, _, _, _, _, _, _]) rfl rfl rfl (w_aload rfl rfl (w_getR rfl (by first | rfl | assumption) rfl (by first | rfl | assumption) (w_iload rfl rfl (w_ialoadV rfl (by first | rfl | assumption) (by omega) (by omega) (mq) (w_iconst rfl (w_irem rfl (by first | assumption | exact i32_0 | (unfold i32 at *; omega)) (by first | assumption | exact i32_0 | (unfold i32 at *; omega)) (by first | decide | omega | assumption) ?_)))))))
    rw [tq2]
    refine w_aload rfl rfl (w_getR rfl (by first | rfl | assumption) rfl (by first | rfl | assumption) (w_iload rfl rfl (w_ialoadV rfl (by first | rfl | assumption) (by omega) (by omega) (mp) (w_iconst rfl (w_irem rfl (by first | assumption | exact i32_0 | (unfold i32 at *; omega)) (by first | assumption | exact i32_0 | (unfold i32 at *; omega)) (by first | decide | omega | assumption) ?_)))))
    rw [tp2]
    refine w_isub rfl (w_istore (ls2 := [_, _, _, _, _, _, _, _, _, _, _, _, _, _]) rfl rfl rfl (w_aload rfl rfl (w_getR rfl (by first | rfl | assumption) rfl (by first | rfl | assumption) (w_iload rfl rfl (w_ialoadV rfl (by first | rfl | assumption) (by omega) (by omega) (mt) (w_iconst rfl (w_idiv rfl (by first | assumption | exact i32_0 | (unfold i32 at *; omega)) (by first | assumption | exact i32_0 | (unfold i32 at *; omega)) (by first | decide | omega | assumption) ?_)))))))
    rw [tt1]
    refine w_aload rfl rfl (w_getR rfl (by first | rfl | assumption) rfl (by first | rfl | assumption) (w_iload rfl rfl (w_ialoadV rfl (by first | rfl | assumption) (by omega) (by omega) (mr) (w_iconst rfl (w_idiv rfl (by first | assumption | exact i32_0 | (unfold i32 at *; omega)) (by first | assumption | exact i32_0 | (unfold i32 at *; omega)) (by first | decide | omega | assumption) ?_)))))
    rw [tr1]
    refine w_isub rfl (w_istore (ls2 := [_, _, _, _, _, _, _, _, _, _, _, _, _, _]) rfl rfl rfl (w_aload rfl rfl (w_getR rfl (by first | rfl | assumption) rfl (by first | rfl | assumption) (w_iload rfl rfl (w_ialoadV rfl (by first | rfl | assumption) (by omega) (by omega) (mt) (w_iconst rfl (w_irem rfl (by first | assumption | exact i32_0 | (unfold i32 at *; omega)) (by first | assumption | exact i32_0 | (unfold i32 at *; omega)) (by first | decide | omega | assumption) ?_)))))))
    rw [tt2]
    refine w_aload rfl rfl (w_getR rfl (by first | rfl | assumption) rfl (by first | rfl | assumption) (w_iload rfl rfl (w_ialoadV rfl (by first | rfl | assumption) (by omega) (by omega) (mr) (w_iconst rfl (w_irem rfl (by first | assumption | exact i32_0 | (unfold i32 at *; omega)) (by first | assumption | exact i32_0 | (unfold i32 at *; omega)) (by first | decide | omega | assumption) ?_)))))
    rw [tr2]
    refine w_isub rfl (w_istore (ls2 := [_, _, _, _, _, _, _, _, _, _, _, _, _, _]) rfl rfl rfl (w_iload rfl rfl (w_iload rfl rfl (w_iload rfl rfl (w_iload rfl rfl ?_)))))
    refine w_call (Or.inl rfl) ((hcr)) (by omega) nof_190 rfl rfl rfl rfl trivial rfl ?_
    refine w_istore (ls2 := [_, _, _, _, _, _, _, _, _, _, _, _, _, _]) rfl rfl rfl (w_iload rfl rfl ?_)
    refine w_if_eq (tgt := 194) rfl (by first | assumption | exact i32_0 | (unfold i32 at *; omega)) rfl (fun c89 => ?_) (fun c89 => ?_)
    · skip
      exact w_return rfl ⟨rfl, by exact ⟨h, MzF_rfl M⟩⟩
    · exfalso; omega
  · rw [if_neg h0]
    refine w_aload rfl rfl (w_getR rfl (by first | rfl | assumption) rfl (by first | rfl | assumption) (w_iload rfl rfl (w_ialoadV rfl (by first | rfl | assumption) (by omega) (by omega) (mq) (w_iconst rfl (w_idiv rfl (by first | assumption | exact i32_0 | (unfold i32 at *; omega)) (by first | assumption | exact i32_0 | (unfold i32 at *; omega)) (by first | decide | omega | assumption) ?_)))))
    rw [tq1]
    refine w_aload rfl rfl (w_getR rfl (by first | rfl | assumption) rfl (by first | rfl | assumption) (w_iload rfl rfl (w_ialoadV rfl (by first | rfl | assumption) (by omega) (by omega) (mp) (w_iconst rfl (w_idiv rfl (by first | assumption | exact i32_0 | (unfold i32 at *; omega)) (by first | assumption | exact i32_0 | (unfold i32 at *; omega)) (by first | decide | omega | assumption) ?_)))))
    rw [tp1]
    refine w_isub rfl (w_istore (ls2 := [_, _, _, _, _, _, _, _, _, _, _, _, _, _]) rfl rfl rfl (w_aload rfl rfl (w_getR rfl (by first | rfl | assumption) rfl (by first | rfl | assumption) (w_iload rfl rfl (w_ialoadV rfl (by first | rfl | assumption) (by omega) (by omega) (mq) (w_iconst rfl (w_irem rfl (by first | assumption | exact i32_0 | (unfold i32 at *; omega)) (by first | assumption | exact i32_0 | (unfold i32 at *; omega)) (by first | decide | omega | assumption) ?_)))))))
    rw [tq2]
    refine w_aload rfl rfl (w_getR rfl (by first | rfl | assumption) rfl (by first | rfl | assumption) (w_iload rfl rfl (w_ialoadV rfl (by first | rfl | assumption) (by omega) (by omega) (mp) (w_iconst rfl (w_irem rfl (by first | assumption | exact i32_0 | (unfold i32 at *; omega)) (by first | assumption | exact i32_0 | (unfold i32 at *; omega)) (by first | decide | omega | assumption) ?_)))))
    rw [tp2]
    refine w_isub rfl (w_istore (ls2 := [_, _, _, _, _, _, _, _, _, _, _, _, _, _]) rfl rfl rfl (w_aload rfl rfl (w_getR rfl (by first | rfl | assumption) rfl (by first | rfl | assumption) (w_iload rfl rfl (w_ialoadV rfl (by first | rfl | assumption) (by omega) (by omega) (mt) (w_iconst rfl (w_idiv rfl (by first | assumption | exact i32_0 | (unfold i32 at *; omega)) (by first | assumption | exact i32_0 | (unfold i32 at *; omega)) (by first | decide | omega | assumption) ?_)))))))
    rw [tt1]
    refine w_aload rfl rfl (w_getR rfl (by first | rfl | assumption) rfl (by first | rfl | assumption) (w_iload rfl rfl (w_ialoadV rfl (by first | rfl | assumption) (by omega) (by omega) (mr) (w_iconst rfl (w_idiv rfl (by first | assumption | exact i32_0 | (unfold i32 at *; omega)) (by first | assumption | exact i32_0 | (unfold i32 at *; omega)) (by first | decide | omega | assumption) ?_)))))
    rw [tr1]
    refine w_isub rfl (w_istore (ls2 := [_, _, _, _, _, _, _, _, _, _, _, _, _, _]) rfl rfl rfl (w_aload rfl rfl (w_getR rfl (by first | rfl | assumption) rfl (by first | rfl | assumption) (w_iload rfl rfl (w_ialoadV rfl (by first | rfl | assumption) (by omega) (by omega) (mt) (w_iconst rfl (w_irem rfl (by first | assumption | exact i32_0 | (unfold i32 at *; omega)) (by first | assumption | exact i32_0 | (unfold i32 at *; omega)) (by first | decide | omega | assumption) ?_)))))))
    rw [tt2]
    refine w_aload rfl rfl (w_getR rfl (by first | rfl | assumption) rfl (by first | rfl | assumption) (w_iload rfl rfl (w_ialoadV rfl (by first | rfl | assumption) (by omega) (by omega) (mr) (w_iconst rfl (w_irem rfl (by first | assumption | exact i32_0 | (unfold i32 at *; omega)) (by first | assumption | exact i32_0 | (unfold i32 at *; omega)) (by first | decide | omega | assumption) ?_)))))
    rw [tr2]
    refine w_isub rfl (w_istore (ls2 := [_, _, _, _, _, _, _, _, _, _, _, _, _, _]) rfl rfl rfl (w_iload rfl rfl (w_iload rfl rfl (w_iload rfl rfl (w_iload rfl rfl ?_)))))
    refine w_call (Or.inl rfl) ((hcr)) (by omega) nof_190 rfl rfl rfl rfl trivial rfl ?_
    refine w_istore (ls2 := [_, _, _, _, _, _, _, _, _, _, _, _, _, _]) rfl rfl rfl (w_iload rfl rfl ?_)
    refine w_if_eq (tgt := 194) rfl (by first | assumption | exact i32_0 | (unfold i32 at *; omega)) rfl (fun c89 => ?_) (fun c89 => ?_)
    · exfalso; omega
    · skip
      refine w_lconst rfl (w_iload rfl rfl (w_i2l rfl (by first | assumption | exact i32_0 | (unfold i32 at *; omega)) (w_ldiv rfl (by first | assumption | exact i64_0 | (unfold i64 at *; omega)) (by first | assumption | exact i64_0 | (unfold i64 at *; omega)) (by first | decide | omega | assumption) (w_lstore (ls2 := [_, _, _, _, _, _, _, _, _, _, _, _, _, _]) rfl rfl rfl (w_aload rfl rfl (w_getR rfl (by first | rfl | assumption) rfl (by first | rfl | assumption) (w_aload rfl rfl ?_)))))))
      refine w_getR rfl (by first | rfl | assumption) rfl (by first | rfl | assumption) (w_iload rfl rfl (w_ialoadV rfl (by first | rfl | assumption) (by omega) (by omega) (mp) (w_ialoadV rfl (by first | rfl | assumption) (by omega) (by omega) (xp) (w_aload rfl rfl (w_getR rfl (by first | rfl | assumption) rfl (by first | rfl | assumption) (w_aload rfl rfl (w_getR rfl (by first | rfl | assumption) rfl (by first | rfl | assumption) ?_)))))))
      refine w_iload rfl rfl (w_ialoadV rfl (by first | rfl | assumption) (by omega) (by omega) (mq) (w_ialoadV rfl (by first | rfl | assumption) (by omega) (by omega) (xq) (w_isub rfl (w_i2l rfl (by first | assumption | exact i32_0 | (unfold i32 at *; omega)) (w_lstore (ls2 := [_, _, _, _, _, _, _, _, _, _, _, _, _, _]) rfl rfl rfl (w_aload rfl rfl (w_getR rfl (by first | rfl | assumption) rfl (by first | rfl | assumption) ?_)))))))
      refine w_iconst rfl (w_aload rfl rfl (w_getR rfl (by first | rfl | assumption) rfl (by first | rfl | assumption) (w_iload rfl rfl (w_ialoadV rfl (by first | rfl | assumption) (by omega) (by omega) (mr) (w_iadd rfl (w_ialoadV rfl (by first | rfl | assumption) (by omega) (by omega) (xr) (w_aload rfl rfl ?_)))))))
      refine w_getR rfl (by first | rfl | assumption) rfl (by first | rfl | assumption) (w_iconst rfl (w_aload rfl rfl (w_getR rfl (by first | rfl | assumption) rfl (by first | rfl | assumption) (w_iload rfl rfl (w_ialoadV rfl (by first | rfl | assumption) (by omega) (by omega) (mt) (w_iadd rfl (w_ialoadV rfl (by first | rfl | assumption) (by omega) (by omega) (xt) ?_)))))))
      refine w_isub rfl (w_i2l rfl (by first | assumption | exact i32_0 | (unfold i32 at *; omega)) (w_lstore (ls2 := [_, _, _, _, _, _, _, _, _, _, _, _, _, _]) rfl rfl rfl (w_aload rfl rfl (w_lload rfl rfl (w_iload rfl rfl (w_i2l rfl (by first | assumption | exact i32_0 | (unfold i32 at *; omega)) (w_lmul rfl ?_)))))))
      refine w_lload rfl rfl (w_iload rfl rfl (w_i2l rfl (by first | assumption | exact i32_0 | (unfold i32 at *; omega)) (w_lmul rfl (w_lsub rfl (w_lload rfl rfl (w_lmul rfl ?_))))))
      rw [hX]
      refine w_lload rfl rfl (w_iload rfl rfl (w_i2l rfl (by first | assumption | exact i32_0 | (unfold i32 at *; omega)) (w_lmul rfl (w_lload rfl rfl (w_iload rfl rfl (w_i2l rfl (by first | assumption | exact i32_0 | (unfold i32 at *; omega)) (w_lmul rfl ?_)))))))
      refine w_lsub rfl (w_lload rfl rfl (w_lmul rfl ?_))
      rw [hY]
      refine w_callQ (Or.inr rfl) (hpm) (by omega) nof_204 rfl rfl rfl rfl (by first | rfl | (show cKB[_]? = _; assumption)) (fun r191 M191 hq191 => ?_)
      obtain ⟨rfl, w1, w2⟩ := hq191
      exact w_return rfl ⟨rfl, by exact ⟨w1, w2⟩⟩
