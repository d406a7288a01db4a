/-! ===== lengths of the model's edges ===== -/
def lenQ (f : Cv) (e : Nat → Int) : Prop := (e 5 = -1000000 → e 8 = -1000000 ∧ e 9 = -1000000) ∧ (e 5 ≠ -1000000 → e 4 ≠ -1000000 ∧ 0 < lenE (cornF f) e ∧ (e 6 ≠ 0 ∨ e 7 ≠ 0) ∧ e 8 = numP (lenE (cornF f) e) ∧ e 9 = denP (lenE (cornF f) e))
theorem rowE_lenQ {f : Cv} {p q : Nat} (hf : Cok 999 f) (hl : (cornF f).length ≤ 16) (hp : p < 21) (hq : q < 21) (hg : geoE (cornF f) (rowN f (cornF f) p q (cornF f).length)) : lenQ f (rowE f (cornF f) p q) := by
  have hi := rowN_ok (C := cornF f) hf hp hq (cornF f).length hl
  unfold lenQ rowE
  generalize rowN f (cornF f) p q (cornF f).length = e at *
  split
  · next q5 => exact ⟨fun _ => ⟨hi.2.1.2.2.2.1, hi.2.1.2.2.2.2.1⟩, fun z => absurd q5 z⟩
  · next q5 =>
    obtain ⟨g1, g2, -⟩ := hg q5
    refine ⟨fun z => absurd z q5, fun _ => ⟨hi.2.2 q5, g1, ?_, rfl, rfl⟩⟩
    rcases g2 with g2 | g2
    · exact Or.inl g2.1
    · exact Or.inr g2.2.1
theorem rowsF_lenQ {f : Cv} (hf : Cok 999 f) (hl : (cornF f).length ≤ 16) (hg : geoOK f (cornF f)) : ∀ e ∈ rowsF f, lenQ f e := by
  intro e he
  obtain ⟨k, hk⟩ := List.getElem?_of_mem he
  unfold rowsF at hk
  rw [rowsBr_get] at hk
  cases q : (rowsF0 f)[k]? with
  | none => rw [q] at hk; cases hk
  | some r =>
    rw [q] at hk
    have h1 : (if k < (rowsF0 f).length then sR r 10 (if brK (KF f) (cornF f).length k = true then 1 else 0) else r) = e := by injection hk
    have hr := List.mem_of_getElem? q
    unfold rowsF0 at hr
    obtain ⟨pq, hpq, hpe⟩ := List.mem_map.mp hr
    obtain ⟨m1, m2, m3, m4, -⟩ := elA_mem 21 hpq
    have hL := rowE_lenQ hf hl (p := pq.1) (q := pq.2) (by omega) m2 (hg pq.1 pq.2 m1 m3 m4)
    rw [hpe] at hL
    rw [← h1]
    split
    · exact hL
    · exact hL
theorem m_longOf {a k n0 : Nat} {h : Cv} {M : mM} (ha : a < 2) (hf : Cok 999 h) (hc : mvC a h M) (hv : mvE a h M) (hok : rowsOK n0 (rowsF h)) (hn : n0 = (cornF h).length) (hL : ∀ e ∈ rowsF h, lenQ h e) (hk : k < (rowsF h).length) (h5 : ((rowsF h)[k]'hk) 5 ≠ -1000000) : E 1 216 [vR 155, vI a, vI ((40 * a + k : Nat) : Int)] M (some (vL (lenE (cornF h) ((rowsF h)[k]'hk)))) M := by
  have hx := mv_at hv hok hk
  have hro := hok _ (List.getElem_mem hk)
  have hq := hL _ (List.getElem_mem hk)
  have hl30 := hv.2.1
  have hpb := corn_ptB hf
  have hle : lenE (cornF h) ((rowsF h)[k]'hk) = if ((rowsF h)[k]'hk) 6 ≠ 0 then ((ptAt (cornF h) (((rowsF h)[k]'hk) 5)).1 - (ptAt (cornF h) (((rowsF h)[k]'hk) 4)).1).tdiv (((rowsF h)[k]'hk) 6) else ((ptAt (cornF h) (((rowsF h)[k]'hk) 5)).2.1 - (ptAt (cornF h) (((rowsF h)[k]'hk) 4)).2.1).tdiv (((rowsF h)[k]'hk) 7) := rfl
  rw [hle]
  generalize ((rowsF h)[k]'hk) = e at *
  obtain ⟨-, ⟨x4, x5⟩, ⟨x6, x7⟩, -⟩ := hx
  obtain ⟨ho, -, hb⟩ := hro
  obtain ⟨b4, b5, -⟩ := hb h5
  obtain ⟨-, -, hne, -⟩ := hq.2 h5
  have o6 := ho.2.2.2.2.1
  rw [hn] at b4 b5
  obtain ⟨s, hs⟩ : ∃ z : Nat, e 4 = (z : Int) := ⟨(e 4).toNat, by omega⟩
  obtain ⟨t, ht⟩ : ∃ z : Nat, e 5 = (z : Int) := ⟨(e 5).toNat, by omega⟩
  have hP := ptAt_eq (C := cornF h) (k := e 4) b4.1 b4.2
  have hT := ptAt_eq (C := cornF h) (k := e 5) b5.1 b5.2
  rw [hs] at x4 hP b4 ⊢
  rw [ht] at x5 hT b5 ⊢
  rw [Int.toNat_natCast] at hP hT
  have hl16 := hc.2.1
  have vP := hc.2.2 s _ hP
  have vT := hc.2.2 t _ hT
  have bP := hpb _ (List.mem_of_getElem? hP)
  have bT := hpb _ (List.mem_of_getElem? hT)
  unfold ptB at bP bT
  have i1 : (16 : Int) * (a : Int) + (s : Int) = ((16 * a + s : Nat) : Int) := by omega
  have i2 : (16 : Int) * (a : Int) + (t : Int) = ((16 * a + t : Nat) : Int) := by omega
  have y1 : M 162 (((16 * a + s : Nat) : Int).toNat) = (ptAt (cornF h) (s : Int)).1 := vP.1
  have y2 : M 163 (((16 * a + s : Nat) : Int).toNat) = (ptAt (cornF h) (s : Int)).2.1 := vP.2.1
  have y3 : M 162 (((16 * a + t : Nat) : Int).toNat) = (ptAt (cornF h) (t : Int)).1 := vT.1
  have y4 : M 163 (((16 * a + t : Nat) : Int).toNat) = (ptAt (cornF h) (t : Int)).2.1 := vT.2.1
  have l1 : 16 * a + s < 32 := by omega
  have l2 : 16 * a + t < 32 := by omega
  have l3 : 40 * a + k < 80 := by omega
  clear hL hok hpb hb hq hP hT vP vT hle hc hv
  generalize 16 * a + s = js at *
  generalize 16 * a + t = jt at *
  generalize 40 * a + k = j at *
  generalize ptAt (cornF h) (s : Int) = P at *
  generalize ptAt (cornF h) (t : Int) = T at *
  generalize e 6 = u at *
  generalize e 7 = v at *
  refine e_in (ls := [vR 155, vI a, vI (j : Int), vN, vN]) mq_216 (ml_216 rfl) rfl fun D hD => ?_
  by_cases z6 : u = 0
  · rw [if_neg (by omega)]
    refine w_iconst rfl (w_iload rfl rfl (w_imul rfl (w_aload rfl rfl (w_getR rfl (by first | rfl | assumption) rfl (by first | rfl | assumption) (w_iload rfl rfl (w_ialoadV rfl (by first | rfl | assumption) (by omega) (by omega) (x4) (w_iadd rfl ?_)))))))
    rw [i1]
    refine w_istore (ls2 := [_, _, _, _, _]) rfl rfl rfl (w_iconst rfl (w_iload rfl rfl (w_imul rfl (w_aload rfl rfl (w_getR rfl (by first | rfl | assumption) rfl (by first | rfl | assumption) (w_iload rfl rfl (w_ialoadV rfl (by first | rfl | assumption) (by omega) (by omega) (x5) ?_)))))))
    refine w_iadd rfl ?_
    rw [i2]
    refine w_istore (ls2 := [_, _, _, _, _]) rfl rfl rfl (w_aload rfl rfl (w_getR rfl (by first | rfl | assumption) rfl (by first | rfl | assumption) (w_iload rfl rfl (w_ialoadV rfl (by first | rfl | assumption) (by omega) (by omega) (x6) ?_))))
    refine w_if_eq (tgt := 59) rfl (by first | assumption | exact i32_0 | (unfold i32 at *; omega)) rfl (fun c31 => ?_) (fun c31 => ?_)
    · skip
      refine w_aload rfl rfl (w_getR rfl (by first | rfl | assumption) rfl (by first | rfl | assumption) (w_iload rfl rfl (w_laloadV rfl (by first | rfl | assumption) (by omega) (by omega) (y4) (w_aload rfl rfl (w_getR rfl (by first | rfl | assumption) rfl (by first | rfl | assumption) (w_iload rfl rfl (w_laloadV rfl (by first | rfl | assumption) (by omega) (by omega) (y2) ?_)))))))
      refine w_lsub rfl (w_aload rfl rfl (w_getR rfl (by first | rfl | assumption) rfl (by first | rfl | assumption) (w_iload rfl rfl (w_ialoadV rfl (by first | rfl | assumption) (by omega) (by omega) (x7) (w_i2l rfl (by first | assumption | exact i32_0 | (unfold i32 at *; omega)) (w_ldiv rfl (by first | assumption | exact i64_0 | (unfold i64 at *; omega)) (by first | assumption | exact i64_0 | (unfold i64 at *; omega)) (by first | decide | omega | assumption) ?_))))))
      exact w_lreturn rfl ⟨by first | rfl | (congr 2; omega), by rfl⟩
    · exfalso; omega
  · rw [if_pos z6]
    refine w_iconst rfl (w_iload rfl rfl (w_imul rfl (w_aload rfl rfl (w_getR rfl (by first | rfl | assumption) rfl (by first | rfl | assumption) (w_iload rfl rfl (w_ialoadV rfl (by first | rfl | assumption) (by omega) (by omega) (x4) (w_iadd rfl ?_)))))))
    rw [i1]
    refine w_istore (ls2 := [_, _, _, _, _]) rfl rfl rfl (w_iconst rfl (w_iload rfl rfl (w_imul rfl (w_aload rfl rfl (w_getR rfl (by first | rfl | assumption) rfl (by first | rfl | assumption) (w_iload rfl rfl (w_ialoadV rfl (by first | rfl | assumption) (by omega) (by omega) (x5) ?_)))))))
    refine w_iadd rfl ?_
    rw [i2]
    refine w_istore (ls2 := [_, _, _, _, _]) rfl rfl rfl (w_aload rfl rfl (w_getR rfl (by first | rfl | assumption) rfl (by first | rfl | assumption) (w_iload rfl rfl (w_ialoadV rfl (by first | rfl | assumption) (by omega) (by omega) (x6) ?_))))
    refine w_if_eq (tgt := 59) rfl (by first | assumption | exact i32_0 | (unfold i32 at *; omega)) rfl (fun c31 => ?_) (fun c31 => ?_)
    · exfalso; omega
    · skip
      refine w_aload rfl rfl (w_getR rfl (by first | rfl | assumption) rfl (by first | rfl | assumption) (w_iload rfl rfl (w_laloadV rfl (by first | rfl | assumption) (by omega) (by omega) (y3) (w_aload rfl rfl (w_getR rfl (by first | rfl | assumption) rfl (by first | rfl | assumption) (w_iload rfl rfl (w_laloadV rfl (by first | rfl | assumption) (by omega) (by omega) (y1) ?_)))))))
      refine w_lsub rfl (w_aload rfl rfl (w_getR rfl (by first | rfl | assumption) rfl (by first | rfl | assumption) (w_iload rfl rfl (w_ialoadV rfl (by first | rfl | assumption) (by omega) (by omega) (x6) (w_i2l rfl (by first | assumption | exact i32_0 | (unfold i32 at *; omega)) (w_ldiv rfl (by first | assumption | exact i64_0 | (unfold i64 at *; omega)) (by first | assumption | exact i64_0 | (unfold i64 at *; omega)) (by first | decide | omega | assumption) (w_goto (tgt := 81) rfl rfl ?_)))))))
      exact w_lreturn rfl ⟨by first | rfl | (congr 2; omega), by rfl⟩
