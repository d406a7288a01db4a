/-! ===== the model's edges found ===== -/
def mcE (C : List Pt) (R0 : List (Nat → Int)) : Nat → List (Nat → Int)
  | 0 => R0
  | k + 1 => sdI (qsF (cellAt C k) 25) (k : Int) (mcE C R0 k) (qsF (cellAt C k) 25).length
def mEf (f : Cv) : List (Nat → Int) := mcE (cornF f) (if (cornF f).length = 0 then lnA f 25 else []) (cornF f).length
theorem mcE_len (C : List Pt) (R0 : List (Nat → Int)) : ∀ n m, n ≤ m → (mcE C R0 n).length ≤ (mcE C R0 m).length
  | n, 0, h => by obtain rfl : n = 0 := by omega
                  exact Nat.le_refl _
  | n, m + 1, h => by
    by_cases q : n = m + 1
    · rw [q]; exact Nat.le_refl _
    · exact Nat.le_trans (mcE_len C R0 n m (by omega)) (sdI_len _ _ (mcE C R0 m) 0 _ (Nat.zero_le _))
theorem mcE_stK (C : List Pt) : ∀ n, stK (mcE C [] n)
  | 0 => fun e he => by cases he
  | n + 1 => sdI_stK (mcE_stK C n) (by omega) _
theorem qsF_le4 (s : Nat) : ∀ n, n ≤ 25 → ∀ p ∈ qsF s n, p.1 ≤ 4 ∧ p.2 ≤ 4
  | 0, _ => by intro p hp; cases hp
  | n + 1, hn => by
    intro p hp
    have ih := qsF_le4 s n (by omega)
    unfold qsF at hp
    split at hp
    · rcases List.mem_append.mp hp with z | z
      · exact ih p z
      · have z : p = (pi n, pj n) := by simpa using z
        have b1 := pi_le (p := n) (by omega)
        have b2 := pj_le n
        rw [z]
        exact ⟨b1.2, b2.2⟩
    · exact ih p hp
def MkF (a : Nat) (M N : mM) : Prop := (∀ b, b ≠ 155 → b ≠ 159 → b ≠ 160 → (b < 166 ∨ 172 < b) → N b = M b) ∧ (∀ j, j ≠ 19 → N 155 j = M 155 j) ∧ (∀ b j, 166 ≤ b → b ≤ 171 → (j < 40 * a ∨ 40 * a + 40 ≤ j) → N b j = M b j) ∧ ∀ j, j ≠ a → N 172 j = M 172 j
theorem MkF_tr {a : Nat} {M N O : mM} (h : MkF a M N) (h2 : MkF a N O) : MkF a M O := ⟨fun b q1 q2 q3 q4 => (h2.1 b q1 q2 q3 q4).trans (h.1 b q1 q2 q3 q4), fun j hj => (h2.2.1 j hj).trans (h.2.1 j hj), fun b j q1 q2 q3 => (h2.2.2.1 b j q1 q2 q3).trans (h.2.2.1 b j q1 q2 q3), fun j hj => (h2.2.2.2 j hj).trans (h.2.2.2 j hj)⟩
theorem MkF_e {a : Nat} {M N : mM} (h : MeF a M N) : MkF a M N := ⟨fun b _ _ _ q => h.1 b (by omega), fun j _ => by rw [h.1 155 (by decide)], fun b j q1 q2 q3 => h.2.1 b j q3 (by omega), h.2.2⟩
theorem MkF_l {a : Nat} {M N : mM} (h : MlF M N) : MkF a M N := ⟨fun b q1 q2 q3 _ => h.1 b q1 q2 q3, h.2, fun b j _ _ _ => by rw [h.1 b (by omega) (by omega) (by omega)], fun j _ => by rw [h.1 172 (by decide) (by decide) (by decide)]⟩
theorem mE_l {a : Nat} {R : List (Nat → Int)} {M N : mM} (h : mE a R M) (hF : MlF M N) : mE a R N := ⟨by rw [hF.1 172 (by decide) (by decide) (by decide)]; exact h.1, h.2.1, h.2.2.1, fun k e hk t ht => by rw [hF.1 (166 + t) (by omega) (by omega) (by omega)]; exact h.2.2.2 k e hk t ht⟩
theorem mcC_k {a : Nat} {L : List Pt} {M N : mM} (h : mcC a L M) (hF : MkF a M N) : mcC a L N := ⟨by rw [hF.1 165 (by decide) (by decide) (by decide) (by decide)]; exact h.1, h.2.1, h.2.2.1, fun k P hk => by rw [hF.1 162 (by decide) (by decide) (by decide) (by decide), hF.1 163 (by decide) (by decide) (by decide) (by decide), hF.1 164 (by decide) (by decide) (by decide) (by decide)]; exact h.2.2.2 k P hk⟩
theorem m_findsEdges {a : Nat} {f : Cv} {M : mM} (ha : a < 2) (hc : mcur (25 * a) f M) (hf : Cok 999 f) (hC : mcC a (cornF f) M) (hlen : (mEf f).length ≤ 40) : EQ 6 193 [vR 155, vI a] M (fun z N => z = none ∧ mE a (mEf f) N ∧ MkF a M N) := by
  refine q_in (ls := [vR 155, vI a, vN]) mq_193 (ml_193 rfl) rfl fun D hD => ?_
  have hcel := celOK_cornF f
  have hmE : mEf f = mcE (cornF f) (if (cornF f).length = 0 then lnA f 25 else []) (cornF f).length := rfl
  rw [hmE] at hlen ⊢
  clear hmE
  generalize cornF f = C at *
  have loop : ∀ (z n : Nat) (N : mM), C.length - n = z → n ≤ C.length → mE a (mcE C (if C.length = 0 then lnA f 25 else []) n) N → MkF a M N → Wp mc_193 D 23 [vR 155, vI a, vI n] [] N (fun z N => z = none ∧ mE a (mcE C (if C.length = 0 then lnA f 25 else []) C.length) N ∧ MkF a M N) := by
    intro z
    induction z with
    | zero =>
      intro n N hz hn hE hF
      obtain rfl : n = C.length := by omega
      have h165 : N 165 ((a : Int)).toNat = (C.length : Int) := (mcC_k hC hF).1
      have h16 := hC.2.1
      clear hlen
      generalize (if C.length = 0 then lnA f 25 else []) = R0 at *
      have hfin : mE a (mcE C R0 C.length) N ∧ MkF a M N := ⟨hE, hF⟩
      generalize mcE C R0 C.length = R1 at *
      clear hC
      generalize C.length = m at *
      refine w_iload rfl rfl (w_aload rfl rfl (w_getR rfl (by first | rfl | assumption) rfl (by first | rfl | assumption) (w_iload rfl rfl (w_ialoadV rfl (by first | rfl | assumption) (by omega) (by omega) (h165) ?_))))
      refine w_icmp_ge (tgt := 60) rfl (by first | assumption | exact i32_0 | (unfold i32 at *; omega)) (by first | assumption | exact i32_0 | (unfold i32 at *; omega)) rfl (fun c30 => ?_) (fun c30 => ?_)
      · skip
        exact w_return rfl ⟨rfl, by exact hfin⟩
      · skip
        exfalso; omega
    | succ z ih =>
      intro n N hz hn hE hF
      have ihn := fun N => ih (n + 1) N (by omega) (by omega)
      have h165 : N 165 ((a : Int)).toNat = (C.length : Int) := (mcC_k hC hF).1
      have h16 := hC.2.1
      have hne : ¬ C.length = 0 := by omega
      rw [if_neg hne] at ihn hE hlen ⊢
      have hP : C[n]? = some (C[n]'(by omega)) := List.getElem?_eq_getElem (by omega)
      generalize (C[n]'(by omega)) = P at hP
      obtain ⟨s, hs, hsP⟩ := hcel P (List.mem_of_getElem? hP)
      have hcell : cellAt C n = s := by
        unfold cellAt
        rw [hP]
        show P.2.2.toNat = s
        rw [hsP]
        rfl
      have h164 : N 164 ((16 * (a : Int) + (n : Int)).toNat) = (s : Int) := by
        rw [show (16 * (a : Int) + (n : Int)).toNat = 16 * a + n by omega, ((mcC_k hC hF).2.2.2 n P hP).2.2, hsP]
      have hls := m_lists (M := N) (s := s) (by omega)
      have hml := mcE_len C [] (n + 1) C.length (by omega)
      have hmn : mcE C [] (n + 1) = sdI (qsF (cellAt C n) 25) (n : Int) (mcE C [] n) (qsF (cellAt C n) 25).length := rfl
      rw [hmn, hcell] at ihn hml
      have hsk := mcE_stK C n
      have hsd := fun (N2 : mM) (w1 : mPL (qsF s 25) N2) (w2 : mE a (mcE C [] n) N2) => m_sidesOf (a := a) (c := n) ha (by omega) w1 (qsF_le4 s 25 (by decide)) w2 hsk (by omega)
      have hidx : 16 * a + n < 32 := by omega
      clear hlen hmn ih hC hml
      generalize mcE C [] C.length = RR at *
      generalize mcE C [] n = R at *
      generalize C.length = m at *
      refine w_iload rfl rfl (w_aload rfl rfl (w_getR rfl (by first | rfl | assumption) rfl (by first | rfl | assumption) (w_iload rfl rfl (w_ialoadV rfl (by first | rfl | assumption) (by omega) (by omega) (h165) ?_))))
      refine w_icmp_ge (tgt := 60) rfl (by first | assumption | exact i32_0 | (unfold i32 at *; omega)) (by first | assumption | exact i32_0 | (unfold i32 at *; omega)) rfl (fun c30 => ?_) (fun c30 => ?_)
      · exfalso; omega
      · skip
        refine w_aload rfl rfl (w_aload rfl rfl (w_getR rfl (by first | rfl | assumption) rfl (by first | rfl | assumption) (w_iconst rfl (w_iload rfl rfl (w_imul rfl (w_iload rfl rfl (w_iadd rfl ?_)))))))
        refine w_ialoadV rfl (by first | rfl | assumption) (by omega) (by omega) (h164) ?_
        refine w_callQ (Or.inr rfl) (hls) (by omega) nof_198 rfl rfl rfl rfl (by first | rfl | (show cKB[_]? = _; assumption)) (fun r45 M45 hq45 => ?_)
        obtain ⟨rfl, w1, w2⟩ := hq45
        refine w_aload rfl rfl (w_iload rfl rfl (w_iload rfl rfl ?_))
        refine w_callQ (Or.inr rfl) ((hsd M45 w1 (mE_l hE w2))) (by omega) nof_199 rfl rfl rfl rfl (by first | rfl | (show cKB[_]? = _; assumption)) (fun r51 M51 hq51 => ?_)
        obtain ⟨rfl, w3, w4⟩ := hq51
        refine w_iinc (ls2 := [_, _, _]) rfl rfl rfl (w_goto (tgt := 23) rfl rfl ?_)
        exact ihn _ w3 (MkF_tr hF (MkF_tr (MkF_l w2) (MkF_e w4)))
  have h0 : mE a [] (upI M 172 a 0) := ⟨upI_same _ _ _ _, Nat.zero_le _, (fun e he => by cases he), (fun k e hk => by cases hk)⟩
  have hF0 : MeF a M (upI M 172 a 0) := ⟨fun b hb => upI_ne _ _ _ _ (by omega), fun b j _ hb => by rw [upI_ne _ _ _ _ hb], fun j hj => if_neg (fun q => hj q.2)⟩
  have h11 : upI M 172 a 0 165 ((a : Int)).toNat = (C.length : Int) := by rw [upI_ne _ _ _ _ (by decide)]; exact hC.1
  have h16 := hC.2.1
  by_cases hz : C.length = 0
  · have hl2 : (lnA f 25).length ≤ 40 := by
      have := mcE_len C (if C.length = 0 then lnA f 25 else []) 0 C.length (Nat.zero_le _)
      have e0 : mcE C (if C.length = 0 then lnA f 25 else []) 0 = (if C.length = 0 then lnA f 25 else []) := rfl
      rw [e0, if_pos hz] at this
      rw [if_pos hz] at hlen
      omega
    have hcl : mcur (25 * a) f (upI M 172 a 0) := mcur_fr hc (fun k _ _ => by rw [upI_ne _ _ _ _ (by decide)])
    have hfl := m_findsLines ha hcl hf h0 hl2
    have hgo := fun N q => loop C.length 0 N rfl (Nat.zero_le _) q
    have e0 : mcE C (if C.length = 0 then lnA f 25 else []) 0 = lnA f 25 := if_pos hz
    rw [e0] at hgo
    clear loop hlen e0
    rw [hz] at h11
    refine w_aload rfl rfl (w_getR rfl (by first | rfl | assumption) rfl (by first | rfl | assumption) (w_iload rfl rfl (w_iconst rfl (w_iastore rfl (by first | rfl | assumption) (by omega) (by omega) (w_aload rfl rfl (w_getR rfl (by first | rfl | assumption) rfl (by first | rfl | assumption) (w_iload rfl rfl ?_)))))))
    refine w_ialoadV rfl (by first | rfl | assumption) (by omega) (by omega) (h11) ?_
    refine w_if_ne (tgt := 21) rfl (by first | assumption | exact i32_0 | (unfold i32 at *; omega)) rfl (fun c => absurd c (by decide)) (fun _ => ?_)
    refine w_aload rfl rfl (w_iload rfl rfl ?_)
    refine w_callQ (Or.inr rfl) (hfl) (by omega) nof_194 rfl rfl rfl rfl (by first | rfl | (show cKB[_]? = _; assumption)) (fun r18 M18 hq18 => ?_)
    obtain ⟨rfl, w1, w2⟩ := hq18
    refine w_iconst rfl (w_istore (ls2 := [_, _, _]) rfl rfl rfl ?_)
    exact hgo _ w1 (MkF_tr (MkF_e hF0) (MkF_e w2))
  · have hgo := fun q => loop C.length 0 (upI M 172 a 0) rfl (Nat.zero_le _) q (MkF_e hF0)
    have e0 : mcE C (if C.length = 0 then lnA f 25 else []) 0 = [] := if_neg hz
    rw [e0] at hgo
    have hgo := hgo h0
    clear loop hlen e0 hC
    generalize (if C.length = 0 then lnA f 25 else []) = R0 at *
    generalize mcE C R0 C.length = R1 at *
    generalize C.length = m at *
    refine w_aload rfl rfl (w_getR rfl (by first | rfl | assumption) rfl (by first | rfl | assumption) (w_iload rfl rfl (w_iconst rfl (w_iastore rfl (by first | rfl | assumption) (by omega) (by omega) (w_aload rfl rfl (w_getR rfl (by first | rfl | assumption) rfl (by first | rfl | assumption) (w_iload rfl rfl ?_)))))))
    refine w_ialoadV rfl (by first | rfl | assumption) (by omega) (by omega) (h11) ?_
    refine w_if_ne (tgt := 21) rfl (by first | assumption | exact i32_0 | (unfold i32 at *; omega)) rfl (fun c13 => ?_) (fun c13 => ?_)
    · skip
      refine w_iconst rfl (w_istore (ls2 := [_, _, _]) rfl rfl rfl ?_)
      exact hgo
    · skip
      exfalso; omega
