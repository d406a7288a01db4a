/-! ===== the model's meetings found ===== -/
def rowP (f : Cv) (R : List (Nat → Int)) : Prop := ∀ e ∈ R, ∃ p q : Nat, e 0 = (p : Int) ∧ e 1 = (q : Int) ∧ hasF f p = true ∧ hasF f q = true
def kA (e : Nat → Int) : Nat := (e 0).toNat
def kB (e : Nat → Int) : Nat := (e 1).toNat
def rwAt (R : List (Nat → Int)) (k : Nat) : Nat → Int := (R[k]?).getD (fun _ => 0)
def pnAt (C : List Pt) (k : Nat) : Pt := (C[k]?).getD (0, 0, 0)
def mlC (f g : Cv) (C : List Pt) (L : List (Int × Int)) : Nat → List (Int × Int)
  | 0 => L
  | k + 1 => mtPut f g (pnAt C k).1 (pnAt C k).2.1 (mlC f g C L k)
def mlR (f g : Cv) (e : Nat → Int) (R : List (Nat → Int)) (L : List (Int × Int)) : Nat → List (Int × Int)
  | 0 => L
  | k + 1 => mtTry f g (kA e) (kB e) (kA (rwAt R k)) (kB (rwAt R k)) (mlR f g e R L k)
def mlA (f g : Cv) (A B : List (Nat → Int)) (L : List (Int × Int)) : Nat → List (Int × Int)
  | 0 => L
  | j + 1 => mlR f g (rwAt A j) B (mlA f g A B L j) B.length
def mLF (f g : Cv) (A B : List (Nat → Int)) : List (Int × Int) := if cntF f = 0 ∨ cntF g = 0 then [] else mlA f g A B (mlC f g (cornF g) (mlC f g (cornF f) [] (cornF f).length) (cornF g).length) A.length
theorem cntF_pos {f : Cv} (h : cntF f ≠ 0) : ∃ p, hasF f p = true := by
  have hp : 0 < fb_ct (hasF f) 21 := Nat.pos_of_ne_zero h
  obtain ⟨k, -, hk⟩ := fb_ct_pos.mp hp
  exact ⟨k, hk⟩
theorem m_findsMeetings {f g : Cv} {A B : List (Nat → Int)} {M : mM} (hcf : mcur 0 f M) (hcg : mcur 25 g M) (hf : Cok 999 f) (hg : Cok 999 g) (hC : mcC 0 (cornF f) M) (hD2 : mcC 1 (cornF g) M) (hA : mE 0 A M) (hB : mE 1 B M) (pA : rowP f A) (pB : rowP g B) : EQ 10 203 [vR 155] M (fun z N => z = none ∧ mMt (mLF f g A B) N ∧ MzF M N) := by
  have hcfN : ∀ N : mM, MzF M N → mcur 0 f N := fun N h => mcur_fr hcf (fun k _ _ => by rw [h.1 156 (by decide) (by decide) (by decide) (by decide) (by decide) (by decide)])
  have hcgN : ∀ N : mM, MzF M N → mcur 25 g N := fun N h => mcur_fr hcg (fun k _ _ => by rw [h.1 156 (by decide) (by decide) (by decide) (by decide) (by decide) (by decide)])
  have hcf0 : mcur (25 * 0) f M := hcf
  have hcg1 : mcur (25 * 1) g M := hcg
  refine q_in (ls := [vR 155, vN, vN]) mq_203 (ml_203 rfl) rfl fun D hD => ?_
  have hF0 : MzF M (upI M 155 35 0) := ⟨fun b q _ _ _ _ _ => upI_ne _ _ _ _ q, fun j _ q => if_neg (fun z => q z.2)⟩
  have h0 : mMt [] (upI M 155 35 0) := ⟨upI_same _ _ _ _, Nat.zero_le _, (fun e he => by cases he), (fun k e hk => by cases hk)⟩
  have hm : mLF f g A B = if cntF f = 0 ∨ cntF g = 0 then [] else mlA f g A B (mlC f g (cornF g) (mlC f g (cornF f) [] (cornF f).length) (cornF g).length) A.length := rfl
  have htA := m_terms (a := 0) (M := upI M 155 35 0) (by decide) (mcur_fr hcf0 (fun k _ _ => by rw [upI_ne _ _ _ _ (by decide)])) hf
  have htB := m_terms (a := 1) (M := upI M 155 35 0) (by decide) (mcur_fr hcg1 (fun k _ _ => by rw [upI_ne _ _ _ _ (by decide)])) hg
  have c1 := cntF_le f
  have c2 := cntF_le g
  by_cases z1 : cntF f = 0
  · rw [hm, if_pos (Or.inl z1)]
    rw [z1] at htA
    refine w_aload rfl rfl (w_iconst rfl (w_putI rfl (by first | rfl | assumption) rfl (w_aload rfl rfl (w_iconst rfl ?_))))
    refine w_call (Or.inr rfl) ((htA)) (by omega) nof_169 rfl rfl rfl rfl (by first | rfl | (show cKB[_]? = _; assumption)) rfl ?_
    refine w_if_eq (tgt := 21) rfl (by first | assumption | exact i32_0 | (unfold i32 at *; omega)) rfl (fun _ => ?_) (fun c => absurd c (by decide))
    exact w_return rfl ⟨rfl, by exact ⟨h0, hF0⟩⟩
  · by_cases z2 : cntF g = 0
    · rw [hm, if_pos (Or.inr z2)]
      rw [z2] at htB
      generalize cntF f = n1 at *
      refine w_aload rfl rfl (w_iconst rfl (w_putI rfl (by first | rfl | assumption) rfl (w_aload rfl rfl (w_iconst rfl ?_))))
      refine w_call (Or.inr rfl) ((htA)) (by omega) nof_169 rfl rfl rfl rfl (by first | rfl | (show cKB[_]? = _; assumption)) rfl ?_
      refine w_if_eq (tgt := 21) rfl (by first | assumption | exact i32_0 | (unfold i32 at *; omega)) rfl (fun c10 => ?_) (fun c10 => ?_)
      · exfalso; omega
      · skip
        refine w_aload rfl rfl (w_iconst rfl ?_)
        refine w_call (Or.inr rfl) ((htB)) (by omega) nof_169 rfl rfl rfl rfl (by first | rfl | (show cKB[_]? = _; assumption)) rfl ?_
        refine w_if_ne (tgt := 22) rfl (by first | assumption | exact i32_0 | (unfold i32 at *; omega)) rfl (fun c => absurd c (by decide)) (fun _ => ?_)
        exact w_return rfl ⟨rfl, by exact ⟨h0, hF0⟩⟩
    · rw [hm, if_neg (fun z => z.elim z1 z2)]
      obtain ⟨p0, hp0⟩ := cntF_pos z1
      obtain ⟨r0, hr0⟩ := cntF_pos z2
      generalize hQ : (fun (z : Option mV) (N : mM) => z = none ∧ mMt (mlA f g A B (mlC f g (cornF g) (mlC f g (cornF f) [] (cornF f).length) (cornF g).length) A.length) N ∧ MzF M N) = Q
      generalize cornF f = CA at *
      generalize cornF g = CB at *
      have corn : ∀ (a : Nat) (C : List Pt) (L : List (Int × Int)), a < 2 → mcC a C M → (∀ N, mMt (mlC f g C L C.length) N → MzF M N → Wp mc_203 D 24 [vR 155, vI ((a + 1 : Nat) : Int), vI C.length] [] N Q) → ∀ (z n : Nat) (N : mM), C.length - n = z → n ≤ C.length → mMt (mlC f g C L n) N → MzF M N → Wp mc_203 D 31 [vR 155, vI a, vI n] [] N Q := by
        intro a C L ha hCM hout z
        induction z with
        | zero =>
          intro n N hz hn hL hF
          obtain rfl : n = C.length := by omega
          have h165 : N 165 ((a : Int)).toNat = (C.length : Int) := by rw [hF.1 165 (by decide) (by decide) (by decide) (by decide) (by decide) (by decide)]; exact hCM.1
          have h16 := hCM.2.1
          have hgo := hout N hL hF
          clear hQ hm
          generalize C.length = m at *
          refine w_iload rfl rfl (w_aload rfl rfl (w_getR rfl (by first | rfl | assumption) rfl (by first | rfl | assumption) (w_iload rfl rfl (w_ialoadV rfl (by first | rfl | assumption) (by omega) (by omega) (h165) ?_))))
          refine w_icmp_ge (tgt := 73) rfl (by first | assumption | exact i32_0 | (unfold i32 at *; omega)) (by first | assumption | exact i32_0 | (unfold i32 at *; omega)) rfl (fun c38 => ?_) (fun c38 => ?_)
          · skip
            refine w_iinc (ls2 := [_, _, _]) rfl rfl rfl (w_goto (tgt := 24) rfl rfl ?_)
            exact hgo
          · skip
            exfalso; omega
        | succ z ih =>
          intro n N hz hn hL hF
          have h165 : N 165 ((a : Int)).toNat = (C.length : Int) := by rw [hF.1 165 (by decide) (by decide) (by decide) (by decide) (by decide) (by decide)]; exact hCM.1
          have h16 := hCM.2.1
          have ihn := fun N => ih (n + 1) N (by omega) (by omega)
          have he : C[n]? = some (C[n]'(by omega)) := List.getElem?_eq_getElem (by omega)
          generalize (C[n]'(by omega)) = P at he
          have hpn : pnAt C n = P := by unfold pnAt; rw [he]; rfl
          have hS : mlC f g C L (n + 1) = mtPut f g (pnAt C n).1 (pnAt C n).2.1 (mlC f g C L n) := rfl
          rw [hS, hpn] at ihn
          have hv := hCM.2.2.2 n P he
          have hPb := hCM.2.2.1 P (List.mem_of_getElem? he)
          have i162 : N 162 ((16 * (a : Int) + (n : Int)).toNat) = P.1 := by rw [show (16 * (a : Int) + (n : Int)).toNat = 16 * a + n by omega, hF.1 162 (by decide) (by decide) (by decide) (by decide) (by decide) (by decide)]; exact hv.1
          have i163 : N 163 ((16 * (a : Int) + (n : Int)).toNat) = P.2.1 := by rw [show (16 * (a : Int) + (n : Int)).toNat = 16 * a + n by omega, hF.1 163 (by decide) (by decide) (by decide) (by decide) (by decide) (by decide)]; exact hv.2.1
          have hpm := m_placesMeeting (hcfN N hF) (hcgN N hF) hf hg hL (x := P.1) (y := P.2.1) hPb (lead_pos hf hp0) (lead_pos hg hr0)
          have hidx : 16 * a + n < 32 := by omega
          clear hQ hm ih hS
          generalize mtPut f g P.1 P.2.1 (mlC f g C L n) = L2 at *
          generalize C.length = m at *
          refine w_iload rfl rfl (w_aload rfl rfl (w_getR rfl (by first | rfl | assumption) rfl (by first | rfl | assumption) (w_iload rfl rfl (w_ialoadV rfl (by first | rfl | assumption) (by omega) (by omega) (h165) ?_))))
          refine w_icmp_ge (tgt := 73) rfl (by first | assumption | exact i32_0 | (unfold i32 at *; omega)) (by first | assumption | exact i32_0 | (unfold i32 at *; omega)) rfl (fun c38 => ?_) (fun c38 => ?_)
          · exfalso; omega
          · skip
            refine w_aload rfl rfl (w_aload rfl rfl (w_getR rfl (by first | rfl | assumption) rfl (by first | rfl | assumption) (w_iconst rfl (w_iload rfl rfl (w_imul rfl (w_iload rfl rfl (w_iadd rfl ?_)))))))
            refine w_laloadV rfl (by first | rfl | assumption) (by omega) (by omega) (i162) (w_aload rfl rfl (w_getR rfl (by first | rfl | assumption) rfl (by first | rfl | assumption) (w_iconst rfl (w_iload rfl rfl (w_imul rfl (w_iload rfl rfl (w_iadd rfl ?_)))))))
            refine w_laloadV rfl (by first | rfl | assumption) (by omega) (by omega) (i163) ?_
            refine w_callQ (Or.inr rfl) (hpm) (by omega) nof_204 rfl rfl rfl rfl (by first | rfl | (show cKB[_]? = _; assumption)) (fun r64 M64 hq64 => ?_)
            obtain ⟨rfl, w1, w2⟩ := hq64
            refine w_iinc (ls2 := [_, _, _]) rfl rfl rfl (w_goto (tgt := 31) rfl rfl ?_)
            exact ihn _ w1 (MzF_tr hF w2)
      have pairB : ∀ (j : Nat), j < A.length → (∀ N, mMt (mlA f g A B (mlC f g CB (mlC f g CA [] CA.length) CB.length) (j + 1)) N → MzF M N → Wp mc_203 D 81 [vR 155, vI ((j + 1 : Nat) : Int), vI B.length] [] N Q) → ∀ (z n : Nat) (N : mM), B.length - n = z → n ≤ B.length → mMt (mlR f g (rwAt A j) B (mlA f g A B (mlC f g CB (mlC f g CA [] CA.length) CB.length) j) n) N → MzF M N → Wp mc_203 D 93 [vR 155, vI j, vI n] [] N Q := by
        intro j hj hout z
        have hA40 := hA.2.1
        have hB40 := hB.2.1
        induction z with
        | zero =>
          intro n N hz hn hL hF
          obtain rfl : n = B.length := by omega
          have h172 : N 172 ((1 : Int)).toNat = (B.length : Int) := by rw [hF.1 172 (by decide) (by decide) (by decide) (by decide) (by decide) (by decide)]; exact hB.1
          have hgo := hout N hL hF
          clear hQ hm corn
          generalize B.length = m at *
          refine w_iload rfl rfl (w_aload rfl rfl (w_getR rfl (by first | rfl | assumption) rfl (by first | rfl | assumption) (w_iconst rfl (w_ialoadV rfl (by first | rfl | assumption) (by omega) (by omega) (h172) ?_))))
          refine w_icmp_ge (tgt := 118) rfl (by first | assumption | exact i32_0 | (unfold i32 at *; omega)) (by first | assumption | exact i32_0 | (unfold i32 at *; omega)) rfl (fun c100 => ?_) (fun c100 => ?_)
          · skip
            refine w_iinc (ls2 := [_, _, _]) rfl rfl rfl (w_goto (tgt := 81) rfl rfl ?_)
            exact hgo
          · skip
            exfalso; omega
        | succ z ih =>
          intro n N hz hn hL hF
          have h172 : N 172 ((1 : Int)).toNat = (B.length : Int) := by rw [hF.1 172 (by decide) (by decide) (by decide) (by decide) (by decide) (by decide)]; exact hB.1
          have ihn := fun N => ih (n + 1) N (by omega) (by omega)
          have hS : ∀ L, mlR f g (rwAt A j) B L (n + 1) = mtTry f g (kA (rwAt A j)) (kB (rwAt A j)) (kA (rwAt B n)) (kB (rwAt B n)) (mlR f g (rwAt A j) B L n) := fun _ => rfl
          rw [hS] at ihn
          have hea : A[j]? = some (A[j]'(by omega)) := List.getElem?_eq_getElem (by omega)
          generalize (A[j]'(by omega)) = ea at hea
          have heb : B[n]? = some (B[n]'(by omega)) := List.getElem?_eq_getElem (by omega)
          generalize (B[n]'(by omega)) = eb at heb
          have hra : rwAt A j = ea := by unfold rwAt; rw [hea]; rfl
          have hrb : rwAt B n = eb := by unfold rwAt; rw [heb]; rfl
          rw [hra, hrb] at ihn
          rw [hra] at hL
          obtain ⟨p, q, ep, eq, hp, hq⟩ := pA ea (List.mem_of_getElem? hea)
          obtain ⟨r, t, er, et, hr, ht⟩ := pB eb (List.mem_of_getElem? heb)
          have ka : kA ea = p := by unfold kA; rw [ep]; rfl
          have kb : kB ea = q := by unfold kB; rw [eq]; rfl
          have kc : kA eb = r := by unfold kA; rw [er]; rfl
          have kd : kB eb = t := by unfold kB; rw [et]; rfl
          rw [ka, kb, kc, kd] at ihn
          have fr6 : N 166 = M 166 := hF.1 166 (by decide) (by decide) (by decide) (by decide) (by decide) (by decide)
          have fr7 : N 167 = M 167 := hF.1 167 (by decide) (by decide) (by decide) (by decide) (by decide) (by decide)
          have va := hA.2.2.2 j ea hea
          have vb := hB.2.2.2 n eb heb
          have v0 := va 0 (by decide)
          have v1 := va 1 (by decide)
          rw [show 40 * 0 + j = j by omega] at v0 v1
          have w0 := vb 0 (by decide)
          have w1 := vb 1 (by decide)
          have mp : N 166 ((j : Int)).toNat = (p : Int) := by rw [fr6]; exact v0.trans ep
          have mq : N 167 ((j : Int)).toNat = (q : Int) := by rw [fr7]; exact v1.trans eq
          have mr : N 166 (((40 + n : Nat) : Int)).toNat = (r : Int) := by rw [fr6]; exact w0.trans er
          have mt : N 167 (((40 + n : Nat) : Int)).toNat = (t : Int) := by rw [fr7]; exact w1.trans et
          have htr := m_triesMeeting (hcfN N hF) (hcgN N hF) hf hg hL (by omega) (by omega) mp mq mr mt hp hq hr ht
          have hk : (40 : Int) + (n : Int) = ((40 + n : Nat) : Int) := by omega
          rw [← hk] at htr
          clear hQ hm corn ih hS
          generalize mtTry f g p q r t (mlR f g ea B (mlA f g A B (mlC f g CB (mlC f g CA [] CA.length) CB.length) j) n) = L2 at *
          generalize B.length = m at *
          refine w_iload rfl rfl (w_aload rfl rfl (w_getR rfl (by first | rfl | assumption) rfl (by first | rfl | assumption) (w_iconst rfl (w_ialoadV rfl (by first | rfl | assumption) (by omega) (by omega) (h172) ?_))))
          refine w_icmp_ge (tgt := 118) rfl (by first | assumption | exact i32_0 | (unfold i32 at *; omega)) (by first | assumption | exact i32_0 | (unfold i32 at *; omega)) rfl (fun c100 => ?_) (fun c100 => ?_)
          · exfalso; omega
          · skip
            refine w_aload rfl rfl (w_iload rfl rfl (w_iconst rfl (w_iload rfl rfl (w_iadd rfl ?_))))
            refine w_callQ (Or.inr rfl) (htr) (by omega) nof_208 rfl rfl rfl rfl (by first | rfl | (show cKB[_]? = _; assumption)) (fun r109 M109 hq109 => ?_)
            obtain ⟨rfl, w2, w3⟩ := hq109
            refine w_iinc (ls2 := [_, _, _]) rfl rfl rfl (w_goto (tgt := 93) rfl rfl ?_)
            exact ihn _ w2 (MzF_tr hF w3)
      have pairA : ∀ (z n : Nat) (N : mM) (w : mV), A.length - n = z → n ≤ A.length → mMt (mlA f g A B (mlC f g CB (mlC f g CA [] CA.length) CB.length) n) N → MzF M N → Wp mc_203 D 81 [vR 155, vI n, w] [] N Q := by
        intro z
        have hA40 := hA.2.1
        induction z with
        | zero =>
          intro n N w hz hn hL hF
          obtain rfl : n = A.length := by omega
          have h172 : N 172 ((0 : Int)).toNat = (A.length : Int) := by rw [hF.1 172 (by decide) (by decide) (by decide) (by decide) (by decide) (by decide)]; exact hA.1
          have hfin : Q none N := by
            rw [← hQ]
            exact ⟨rfl, hL, hF⟩
          clear hQ hm corn pairB
          generalize A.length = m at *
          refine w_iload rfl rfl (w_aload rfl rfl (w_getR rfl (by first | rfl | assumption) rfl (by first | rfl | assumption) (w_iconst rfl (w_ialoadV rfl (by first | rfl | assumption) (by omega) (by omega) (h172) ?_))))
          refine w_icmp_ge (tgt := 124) rfl (by first | assumption | exact i32_0 | (unfold i32 at *; omega)) (by first | assumption | exact i32_0 | (unfold i32 at *; omega)) rfl (fun c88 => ?_) (fun c88 => ?_)
          · skip
            exact w_return rfl hfin
          · skip
            exfalso; omega
        | succ z ih =>
          intro n N w hz hn hL hF
          have h172 : N 172 ((0 : Int)).toNat = (A.length : Int) := by rw [hF.1 172 (by decide) (by decide) (by decide) (by decide) (by decide) (by decide)]; exact hA.1
          have hgo := pairB n (by omega) (fun N q1 q2 => ih (n + 1) N _ (by omega) (by omega) q1 q2) B.length 0 N rfl (Nat.zero_le _) hL hF
          clear hQ hm corn pairB ih
          generalize A.length = m at *
          refine w_iload rfl rfl (w_aload rfl rfl (w_getR rfl (by first | rfl | assumption) rfl (by first | rfl | assumption) (w_iconst rfl (w_ialoadV rfl (by first | rfl | assumption) (by omega) (by omega) (h172) ?_))))
          refine w_icmp_ge (tgt := 124) rfl (by first | assumption | exact i32_0 | (unfold i32 at *; omega)) (by first | assumption | exact i32_0 | (unfold i32 at *; omega)) rfl (fun c88 => ?_) (fun c88 => ?_)
          · exfalso; omega
          · skip
            refine w_iconst rfl (w_istore (ls2 := [_, _, _]) rfl rfl rfl ?_)
            exact hgo
      have at24c : ∀ N, mMt (mlC f g CB (mlC f g CA [] CA.length) CB.length) N → MzF M N → Wp mc_203 D 24 [vR 155, vI ((1 + 1 : Nat) : Int), vI CB.length] [] N Q := by
        intro N hL hF
        have hgo := pairA A.length 0 N (vI CB.length) rfl (Nat.zero_le _) hL hF
        clear hQ hm corn pairB pairA
        refine w_iload rfl rfl (w_iconst rfl ?_)
        refine w_icmp_ge (tgt := 79) rfl (by first | assumption | exact i32_0 | (unfold i32 at *; omega)) (by first | assumption | exact i32_0 | (unfold i32 at *; omega)) rfl (fun c26 => ?_) (fun c26 => ?_)
        · skip
          refine w_iconst rfl (w_istore (ls2 := [_, _, _]) rfl rfl rfl ?_)
          exact hgo
        · skip
          exfalso; omega
      have at24b : ∀ N, mMt (mlC f g CA [] CA.length) N → MzF M N → Wp mc_203 D 24 [vR 155, vI ((0 + 1 : Nat) : Int), vI CA.length] [] N Q := by
        intro N hL hF
        have hgo := corn 1 CB (mlC f g CA [] CA.length) (by decide) hD2 at24c CB.length 0 N rfl (Nat.zero_le _) hL hF
        clear hQ hm corn pairB pairA at24c
        refine w_iload rfl rfl (w_iconst rfl ?_)
        refine w_icmp_ge (tgt := 79) rfl (by first | assumption | exact i32_0 | (unfold i32 at *; omega)) (by first | assumption | exact i32_0 | (unfold i32 at *; omega)) rfl (fun c26 => ?_) (fun c26 => ?_)
        · exfalso; omega
        · skip
          refine w_iconst rfl (w_istore (ls2 := [_, _, _]) rfl rfl rfl ?_)
          exact hgo
      have hgo := corn 0 CA [] (by decide) hC at24b CA.length 0 _ rfl (Nat.zero_le _) h0 hF0
      clear hQ hm corn pairB pairA at24c at24b
      generalize cntF f = n1 at *
      generalize cntF g = n2 at *
      refine w_aload rfl rfl (w_iconst rfl (w_putI rfl (by first | rfl | assumption) rfl (w_aload rfl rfl (w_iconst rfl ?_))))
      refine w_call (Or.inr rfl) ((htA)) (by omega) nof_169 rfl rfl rfl rfl (by first | rfl | (show cKB[_]? = _; assumption)) rfl ?_
      refine w_if_eq (tgt := 21) rfl (by first | assumption | exact i32_0 | (unfold i32 at *; omega)) rfl (fun c10 => ?_) (fun c10 => ?_)
      · exfalso; omega
      · skip
        refine w_aload rfl rfl (w_iconst rfl ?_)
        refine w_call (Or.inr rfl) ((htB)) (by omega) nof_169 rfl rfl rfl rfl (by first | rfl | (show cKB[_]? = _; assumption)) rfl ?_
        refine w_if_ne (tgt := 22) rfl (by first | assumption | exact i32_0 | (unfold i32 at *; omega)) rfl (fun c18 => ?_) (fun c18 => ?_)
        · skip
          refine w_iconst rfl (w_istore (ls2 := [_, _, _]) rfl rfl rfl (w_iload rfl rfl (w_iconst rfl ?_)))
          refine w_icmp_ge (tgt := 79) rfl (by first | assumption | exact i32_0 | (unfold i32 at *; omega)) (by first | assumption | exact i32_0 | (unfold i32 at *; omega)) rfl (fun c26 => ?_) (fun c26 => ?_)
          · exfalso; omega
          · skip
            refine w_iconst rfl (w_istore (ls2 := [_, _, _]) rfl rfl rfl ?_)
            exact hgo
        · exfalso; omega
