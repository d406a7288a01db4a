/-! ===== the model's ways from a vertex ===== -/
def wyM (C : List Pt) (e : Nat → Int) : Option (Nat × Nat × Int) := if e 5 = -1000000 then none else some ((e 4).toNat, (e 5).toNat, lenE C e)
def mwF (h : Cv) (k : Nat) : Lab := rlxI ((rowsF h).map (wyM (cornF h))) (lab0 k) 40
theorem m_findsWays {A a : Nat} {h : Cv} {M : mM} (hA : A < 2) (hf : Cok 999 h) (hc : mvC A h M) (hv : mvE A h M) (hok : rowsOK (cornF h).length (rowsF h)) (hL : ∀ e ∈ rowsF h, lenQ h e) (ha : a < 16) : EQ 2 228 [vR 155, vI A, vI a] M (fun r N => r = none ∧ wyR (mwF h a) N ∧ labOK 2400 (mwF h a) ∧ wyF M N) := by
  have hl30 := hv.2.1
  have hl16 := hc.2.1
  have h172 : M 172 ((A : Int)).toNat = ((rowsF h).length : Int) := hv.1
  have hat := fun k hk N (hF : wyF M N) => mv_at (k := k) (mvE_fr hv (fun b h1 h2 => hF b (by omega) (by omega))) hok hk
  have hlo := fun n N (hF : wyF M N) hn h5 => m_longOf (k := n) (M := N) hA hf (mvC_fr hc (fun b h1 h2 => hF b (by omega) (by omega))) (mvE_fr hv (fun b h1 h2 => hF b (by omega) (by omega))) hok rfl hL hn h5
  have hrow := fun n (hn : n < (rowsF h).length) => (hok _ (List.getElem_mem hn)).2.2
  have hlp := fun n (hn : n < (rowsF h).length) z => ((hL _ (List.getElem_mem hn)).2 z).2.1
  have hll := fun n (hn : n < (rowsF h).length) => lenE_le2 hf (rowsF h)[n]
  unfold mwF
  clear hv hok hL hc
  generalize rowsF h = R at *
  generalize cornF h = C at *
  have hlen : (R.map (wyM C)).length = R.length := List.length_map _
  generalize hW : R.map (wyM C) = W at *
  have hWn : ∀ n (hn : n < R.length), (W[n]?).getD none = wyM C R[n] := by
    intro n hn
    rw [← hW, List.getElem?_map, List.getElem?_eq_getElem hn]
    rfl
  clear hW
  refine q_in (ls := [vR 155, vI A, vI a, vN, vN]) mq_228 (ml_228 rfl) rfl fun D hD => ?_
  generalize hPost : (fun (r : Option mV) (N : mM) => r = none ∧ wyR (rlxI W (lab0 a) 40) N ∧ labOK 2400 (rlxI W (lab0 a) 40) ∧ wyF M N) = Post
  have inner : ∀ (i : Nat) (acc : Lab), i < 40 → (∀ (N : mM) (v : mV), wyR (rlxK W acc R.length) N → labOK (60 * i + 2 * R.length) (rlxK W acc R.length) → wyF M N → Wp mc_228 D 134 [vR 155, vI A, vI a, vI i, v] [] N Post) → ∀ (m n : Nat) (N : mM), R.length - n = m → n ≤ R.length → wyR (rlxK W acc n) N → labOK (60 * i + 2 * n) (rlxK W acc n) → wyF M N → Wp mc_228 D 53 [vR 155, vI A, vI a, vI i, vI ((40 * A + n : Nat) : Int)] [] N Post := by
    intro i acc hi hout m
    induction m with
    | zero =>
      intro n N hm hn hWy hX hF
      obtain rfl : n = R.length := by omega
      have hgo := hout N (vI ((40 * A + R.length : Nat) : Int)) hWy hX hF
      have q172 : N 172 ((A : Int)).toNat = (R.length : Int) := by rw [hF 172 (by decide) (by decide)]; exact h172
      clear hat hlo hrow hlp hll hWn hlen hPost hout
      generalize R.length = m at *
      refine w_iload rfl rfl (w_iconst rfl (w_iload rfl rfl (w_imul rfl (w_aload rfl rfl (w_getR rfl (by first | rfl | assumption) rfl (by first | rfl | assumption) (w_iload rfl rfl (w_ialoadV rfl (by first | rfl | assumption) (by omega) (by omega) (q172) ?_)))))))
      refine w_iadd rfl ?_
      refine w_icmp_ge (tgt := 134) rfl (by first | assumption | exact i32_0 | (unfold i32 at *; omega)) (by first | assumption | exact i32_0 | (unfold i32 at *; omega)) rfl (fun c66 => ?_) (fun c66 => ?_)
      · skip
        exact hgo
      · skip
        exfalso; omega
    | succ m ih =>
      intro n N hm hn hWy hX hF
      have hnl : n < R.length := by omega
      have q172 : N 172 ((A : Int)).toNat = (R.length : Int) := by rw [hF 172 (by decide) (by decide)]; exact h172
      have ihn := fun N2 => ih (n + 1) N2 (by omega) (by omega)
      have hun : rlxK W acc (n + 1) = rlxE ((W[n]?).getD none) (rlxK W acc n) := rfl
      rw [hun, hWn n hnl] at ihn
      have hx := fun N (z : wyF M N) => hat n hnl N z
      have hlon := fun N (z : wyF M N) => hlo n N z hnl
      have hrn := hrow n hnl
      have hlpn := hlp n hnl
      have hlln := hll n hnl
      have hi2 : ((40 * A + n : Nat) : Int) + 1 = ((40 * A + (n + 1) : Nat) : Int) := by omega
      clear hat hlo hrow hlp hll hWn hlen hPost hout ih hun
      generalize rlxK W acc n = X at *
      generalize R[n] = e at *
      generalize R.length = mm at *
      obtain ⟨-, ⟨x4, x5⟩, -, hed⟩ := hx N hF
      have hbd := m_isBounded (j := 40 * A + n) (M := N) (by omega) x5 hed.2.2.2.1
      clear hed
      by_cases q5 : e 5 = -1000000
      · have hw : wyM C e = none := if_pos q5
        rw [hw] at ihn
        rw [if_pos q5] at hbd
        have hgo := ihn N hWy (show labOK _ X from fun k => by have := hX k; omega) hF
        refine w_iload rfl rfl (w_iconst rfl (w_iload rfl rfl (w_imul rfl (w_aload rfl rfl (w_getR rfl (by first | rfl | assumption) rfl (by first | rfl | assumption) (w_iload rfl rfl (w_ialoadV rfl (by first | rfl | assumption) (by omega) (by omega) (q172) ?_)))))))
        refine w_iadd rfl ?_
        refine w_icmp_ge (tgt := 134) rfl (by first | assumption | exact i32_0 | (unfold i32 at *; omega)) (by first | assumption | exact i32_0 | (unfold i32 at *; omega)) rfl (fun c66 => ?_) (fun c66 => ?_)
        · skip
          exfalso; omega
        · skip
          refine w_aload rfl rfl (w_iload rfl rfl ?_)
          refine w_call (Or.inr rfl) ((hbd)) (by omega) nof_215 rfl rfl rfl rfl (by first | rfl | (show cKB[_]? = _; assumption)) rfl ?_
          refine w_if_eq (tgt := 128) rfl (by first | assumption | exact i32_0 | (unfold i32 at *; omega)) rfl (fun _ => ?_) (fun c => absurd c (by decide))
          refine w_iinc (ls2 := [_, _, _, _, _]) rfl rfl rfl ?_
          rw [hi2]
          refine w_goto (tgt := 53) rfl rfl ?_
          exact hgo
      · have hw : wyM C e = some ((e 4).toNat, (e 5).toNat, lenE C e) := if_neg q5
        rw [hw] at ihn
        rw [if_neg q5] at hbd
        obtain ⟨a4, a5, -⟩ := hrn q5
        have hlpn := hlpn q5
        have hlon := fun N (z : wyF M N) => hlon N z q5
        have b4 : (e 4).toNat < 16 := by omega
        have b5 : (e 5).toNat < 16 := by omega
        have hx4 : ∀ N, wyF M N → N 168 (((40 * A + n : Nat) : Int)).toNat = ((e 4).toNat : Int) ∧ N 169 (((40 * A + n : Nat) : Int)).toNat = ((e 5).toNat : Int) := fun N z => ⟨(hx N z).2.1.1.trans (by omega), (hx N z).2.1.2.trans (by omega)⟩
        have m4 := hx4 N hF
        clear hx x4 x5 hrn a4 a5 q5 hw
        generalize (e 4).toNat = i4 at *
        generalize (e 5).toNat = i5 at *
        generalize lenE C e = lz at *
        have hlb : 0 ≤ lz ∧ lz ≤ 4000000000000 := by omega
        have s1 := m_goes (c := 60 * i + 2 * n) hWy hX (by omega) b4 b5 hlb
        have hX2 := labOK_rlx (a := i4) (b := i5) hX hlb
        have hX3 := labOK_rlx (a := i5) (b := i4) hX2 hlb
        have hlN := hlon N hF
        have hgo := fun N2 w1 w2 => ihn N2 w1 hX3 w2
        have s2 := fun N2 w1 => m_goes (M := N2) (c := 60 * i + 2 * n + 1) w1 hX2 (by omega) b5 b4 hlb
        clear ihn hX3 hX2 hX
        refine w_iload rfl rfl (w_iconst rfl (w_iload rfl rfl (w_imul rfl (w_aload rfl rfl (w_getR rfl (by first | rfl | assumption) rfl (by first | rfl | assumption) (w_iload rfl rfl (w_ialoadV rfl (by first | rfl | assumption) (by omega) (by omega) (q172) ?_)))))))
        refine w_iadd rfl ?_
        refine w_icmp_ge (tgt := 134) rfl (by first | assumption | exact i32_0 | (unfold i32 at *; omega)) (by first | assumption | exact i32_0 | (unfold i32 at *; omega)) rfl (fun c66 => ?_) (fun c66 => ?_)
        · skip
          exfalso; omega
        · skip
          refine w_aload rfl rfl (w_iload rfl rfl ?_)
          refine w_call (Or.inr rfl) ((hbd)) (by omega) nof_215 rfl rfl rfl rfl (by first | rfl | (show cKB[_]? = _; assumption)) rfl ?_
          refine w_if_eq (tgt := 128) rfl (by first | assumption | exact i32_0 | (unfold i32 at *; omega)) rfl (fun c => absurd c (by decide)) (fun _ => ?_)
          refine w_aload rfl rfl (w_aload rfl rfl (w_getR rfl (by first | rfl | assumption) rfl (by first | rfl | assumption) (w_iload rfl rfl (w_ialoadV rfl (by first | rfl | assumption) (by omega) (by omega) (m4.1) (w_aload rfl rfl (w_getR rfl (by first | rfl | assumption) rfl (by first | rfl | assumption) (w_iload rfl rfl ?_)))))))
          refine w_ialoadV rfl (by first | rfl | assumption) (by omega) (by omega) (m4.2) (w_aload rfl rfl (w_iload rfl rfl (w_iload rfl rfl ?_)))
          refine w_call (Or.inr rfl) ((hlN)) (by omega) nof_216 rfl rfl rfl rfl (by first | rfl | (show cKB[_]? = _; assumption)) rfl ?_
          refine w_callQ (Or.inr rfl) ((s1)) (by omega) nof_229 rfl rfl rfl rfl (by first | rfl | (show cKB[_]? = _; assumption)) (fun r100 M100 hq100 => ?_)
          obtain ⟨rfl, w1, w2⟩ := hq100
          have w2 := wyF_tr hF w2
          have n4 := hx4 _ w2
          have hl2 := hlon _ w2
          have s2 := s2 _ w1
          refine w_aload rfl rfl (w_aload rfl rfl (w_getR rfl (by first | rfl | assumption) rfl (by first | rfl | assumption) (w_iload rfl rfl (w_ialoadV rfl (by first | rfl | assumption) (by omega) (by omega) (n4.2) (w_aload rfl rfl (w_getR rfl (by first | rfl | assumption) rfl (by first | rfl | assumption) (w_iload rfl rfl ?_)))))))
          refine w_ialoadV rfl (by first | rfl | assumption) (by omega) (by omega) (n4.1) (w_aload rfl rfl (w_iload rfl rfl (w_iload rfl rfl ?_)))
          refine w_call (Or.inr rfl) ((hl2)) (by omega) nof_216 rfl rfl rfl rfl (by first | rfl | (show cKB[_]? = _; assumption)) rfl ?_
          refine w_callQ (Or.inr rfl) ((s2)) (by omega) nof_229 rfl rfl rfl rfl (by first | rfl | (show cKB[_]? = _; assumption)) (fun r125 M125 hq125 => ?_)
          obtain ⟨rfl, w3, w4⟩ := hq125
          have hgo := hgo _ w3 (wyF_tr w2 w4)
          refine w_iinc (ls2 := [_, _, _, _, _]) rfl rfl rfl ?_
          rw [hi2]
          refine w_goto (tgt := 53) rfl rfl ?_
          exact hgo
  have outer : ∀ (m n : Nat) (N : mM) (v : mV), 40 - n = m → n ≤ 40 → wyR (rlxI W (lab0 a) n) N → labOK (60 * n) (rlxI W (lab0 a) n) → wyF M N → Wp mc_228 D 41 [vR 155, vI A, vI a, vI n, v] [] N Post := by
    intro m
    induction m with
    | zero =>
      intro n N v hm hn hWy hX hF
      obtain rfl : n = 40 := by omega
      have hgo : Post none N := by rw [← hPost]; exact ⟨rfl, hWy, hX, hF⟩
      clear hat hlo hrow hlp hll hWn hlen hPost inner
      refine w_iload rfl rfl (w_iconst rfl ?_)
      refine w_icmp_ge (tgt := 140) rfl (by first | assumption | exact i32_0 | (unfold i32 at *; omega)) (by first | assumption | exact i32_0 | (unfold i32 at *; omega)) rfl (fun c44 => ?_) (fun c44 => ?_)
      · skip
        exact w_return rfl hgo
      · skip
        exfalso; omega
    | succ m ih =>
      intro n N v hm hn hWy hX hF
      have ihn := fun N2 v => ih (n + 1) N2 v (by omega) (by omega)
      have hun : rlxI W (lab0 a) (n + 1) = rlxK W (rlxI W (lab0 a) n) R.length := by rw [rlxI, hlen]
      rw [hun] at ihn
      have hgo := inner n (rlxI W (lab0 a) n) (by omega) (fun N2 v w1 w2 w3 => by
        have hgo := ihn N2 v w1 (show labOK _ _ from fun k => by have := w2 k; omega) w3
        clear hat hlo hrow hlp hll hWn hlen hPost inner ih ihn
        refine w_iinc (ls2 := [_, _, _, _, _]) rfl rfl rfl (w_goto (tgt := 41) rfl rfl ?_)
        exact hgo) R.length 0 N (Nat.sub_zero _) (Nat.zero_le _) hWy hX hF
      have hi0 : (40 : Int) * (A : Int) = ((40 * A + 0 : Nat) : Int) := by omega
      clear hat hlo hrow hlp hll hWn hlen hPost inner ih ihn
      refine w_iload rfl rfl (w_iconst rfl ?_)
      refine w_icmp_ge (tgt := 140) rfl (by first | assumption | exact i32_0 | (unfold i32 at *; omega)) (by first | assumption | exact i32_0 | (unfold i32 at *; omega)) rfl (fun c44 => ?_) (fun c44 => ?_)
      · skip
        exfalso; omega
      · skip
        refine w_iconst rfl (w_iload rfl rfl (w_imul rfl ?_))
        rw [hi0]
        refine w_istore (ls2 := [_, _, _, _, _]) rfl rfl rfl ?_
        exact hgo
  have fill : ∀ (m n : Nat) (N : mM), 16 - n = m → n ≤ 16 → (∀ k, k < n → N 177 k = (lab0 a).1 k ∧ N 178 k = (lab0 a).2 k) → wyF M N → Wp mc_228 D 2 [vR 155, vI A, vI a, vI n, vN] [] N Post := by
    intro m
    induction m with
    | zero =>
      intro n N hm hn hWy hF
      obtain rfl : n = 16 := by omega
      have hgo := outer 40 0 N vN rfl (by decide) hWy (fun k => by
        show -1 ≤ (if k = a then (0 : Int) else -1) ∧ (if k = a then (0 : Int) else -1) ≤ ((60 * 0 : Nat) : Int) * 4000000000000 ∧ (0 : Int) ≤ 0 ∧ (0 : Int) ≤ ((60 * 0 : Nat) : Int)
        split <;> omega) hF
      clear hat hlo hrow hlp hll hWn hlen hPost inner outer
      refine w_iload rfl rfl (w_iconst rfl ?_)
      refine w_icmp_ge (tgt := 39) rfl (by first | assumption | exact i32_0 | (unfold i32 at *; omega)) (by first | assumption | exact i32_0 | (unfold i32 at *; omega)) rfl (fun c5 => ?_) (fun c5 => ?_)
      · skip
        refine w_iconst rfl (w_istore (ls2 := [_, _, _, _, _]) rfl rfl rfl ?_)
        exact hgo
      · skip
        exfalso; omega
    | succ m ih =>
      intro n N hm hn hWy hF
      have hgo : ∀ w : Int, w = (if n = a then 0 else -1) → Wp mc_228 D 2 [vR 155, vI A, vI a, vI ((n : Int) + 1), vN] [] (upI (upI N 177 n w) 178 n 0) Post := by
        intro w hw
        refine ih (n + 1) _ (by omega) (by omega) (fun k hk => ?_) (fun x h1 h2 => by funext k; rw [upI_ne _ _ _ _ h2, upI_ne _ _ _ _ h1]; rw [hF x h1 h2])
        unfold upI
        by_cases q : k = n
        · rw [if_neg (by omega), if_pos ⟨rfl, q⟩, if_pos ⟨rfl, q⟩, hw, q]; exact ⟨rfl, rfl⟩
        · rw [if_neg (by omega), if_neg (by omega), if_neg (by omega), if_neg (by omega)]; exact hWy k (by omega)
      clear hat hlo hrow hlp hll hWn hlen hPost inner outer ih
      by_cases q : n = a
      · have hgo := hgo 0 (by rw [if_pos q])
        refine w_iload rfl rfl (w_iconst rfl ?_)
        refine w_icmp_ge (tgt := 39) rfl (by first | assumption | exact i32_0 | (unfold i32 at *; omega)) (by first | assumption | exact i32_0 | (unfold i32 at *; omega)) rfl (fun c5 => ?_) (fun c5 => ?_)
        · skip
          exfalso; omega
        · skip
          refine w_aload rfl rfl (w_getR rfl (by first | rfl | assumption) rfl (by first | rfl | assumption) (w_iload rfl rfl (w_iload rfl rfl (w_iload rfl rfl ?_))))
          refine w_icmp_ne (tgt := 22) rfl (by first | assumption | exact i32_0 | (unfold i32 at *; omega)) (by first | assumption | exact i32_0 | (unfold i32 at *; omega)) rfl (fun c15 => ?_) (fun c15 => ?_)
          · skip
            exfalso; omega
          · skip
            refine w_lconst rfl (w_goto (tgt := 25) rfl rfl (w_lastore rfl (by first | rfl | assumption) (by omega) (by omega) (w_aload rfl rfl (w_getR rfl (by first | rfl | assumption) rfl (by first | rfl | assumption) (w_iload rfl rfl (w_iconst rfl (w_iastore rfl (by first | rfl | assumption) (by omega) (by omega) ?_)))))))
            refine w_iinc (ls2 := [_, _, _, _, _]) rfl rfl rfl (w_goto (tgt := 2) rfl rfl ?_)
            exact hgo
      · have hgo := hgo (-1) (by rw [if_neg q])
        refine w_iload rfl rfl (w_iconst rfl ?_)
        refine w_icmp_ge (tgt := 39) rfl (by first | assumption | exact i32_0 | (unfold i32 at *; omega)) (by first | assumption | exact i32_0 | (unfold i32 at *; omega)) rfl (fun c5 => ?_) (fun c5 => ?_)
        · skip
          exfalso; omega
        · skip
          refine w_aload rfl rfl (w_getR rfl (by first | rfl | assumption) rfl (by first | rfl | assumption) (w_iload rfl rfl (w_iload rfl rfl (w_iload rfl rfl ?_))))
          refine w_icmp_ne (tgt := 22) rfl (by first | assumption | exact i32_0 | (unfold i32 at *; omega)) (by first | assumption | exact i32_0 | (unfold i32 at *; omega)) rfl (fun c15 => ?_) (fun c15 => ?_)
          · skip
            refine w_lconst rfl (w_lastore rfl (by first | rfl | assumption) (by omega) (by omega) (w_aload rfl rfl (w_getR rfl (by first | rfl | assumption) rfl (by first | rfl | assumption) (w_iload rfl rfl (w_iconst rfl (w_iastore rfl (by first | rfl | assumption) (by omega) (by omega) (w_iinc (ls2 := [_, _, _, _, _]) rfl rfl rfl ?_)))))))
            refine w_goto (tgt := 2) rfl rfl ?_
            exact hgo
          · skip
            exfalso; omega
  have hgo := fill 16 0 M rfl (by decide) (fun k hk => absurd hk (Nat.not_lt_zero k)) (wyF_rfl M)
  clear hat hlo hrow hlp hll hWn hlen hPost inner outer fill
  refine w_iconst rfl (w_istore (ls2 := [_, _, _, _, _]) rfl rfl rfl ?_)
  exact hgo
/-- ways: still to be shown -/
def WYQ : Prop := ∀ f, Cok 999 f → ∀ k m, k < (cornF f).length → m < (cornF f).length → (mwF f k).2 m = (wayF f k).2 m ∧ (((wayF f k).1 m < 0 ∧ (mwF f k).1 m < 0) ∨ (0 ≤ (wayF f k).1 m ∧ (mwF f k).1 m = (wayF f k).1 m * (720720 / unitF f : Nat) ∧ 0 ≤ (mwF f k).1 m ∧ (mwF f k).1 m ≤ 10000000000000))
theorem mo_way {s : Sta} {M : mM} {a k m w : Int} (hG : GEO) (hE : GEOE) (hM : GEOM) (hY : WYQ) (c : MI s M) (ha : i32 a) (hk : i32 k) (hm : i32 m) (hw : i32 w) : EQ 12 227 [vR 155, vI a, vI k, vI m, vI w] M (MoQL M (dWay a k m w s) s) := by
  refine q_in (ls := [vR 155, vI a, vI k, vI m, vI w]) mq_227 (ml_227 rfl) rfl fun D hD => ?_
  unfold dWay
  by_cases q : isCu a = true
  · rw [if_pos q]
    have q := isCu_iff.mp q
    obtain ⟨A, rfl⟩ : ∃ z : Nat, a = (z : Int) := ⟨a.toNat, by omega⟩
    have hA : A < 2 := by omega
    have hkn := m_knows hE hM c
    have hf : Cok 999 (selF A s.2.1 s.2.2.1) := Cok_sel (a := A) c.2.1.2.1 c.2.1.2.2
    have hsel := fun N (z : MV s.2.1 s.2.2.1 N) => MV_sel hA z
    generalize hh : selF A s.2.1 s.2.2.1 = h at *
    have hlen : ∀ N, MV s.2.1 s.2.2.1 N → N 165 ((A : Int)).toNat = ((cornF h).length : Int) ∧ (cornF h).length ≤ 16 := fun N z => ⟨(hsel N z).1.1, (hsel N z).1.2.1⟩
    unfold i32 at hk hm hw
    by_cases qk : rngB k (cornF h).length = true ∧ rngB m (cornF h).length = true
    · rw [if_pos qk]
      have qk1 := of_decide_eq_true qk.1
      have qk2 := of_decide_eq_true qk.2
      by_cases qw : rngB w 3 = true
      · rw [if_pos qw]
        have qw := of_decide_eq_true qw
        obtain ⟨k, rfl⟩ : ∃ z : Nat, k = (z : Int) := ⟨k.toNat, by omega⟩
        obtain ⟨m, rfl⟩ : ∃ z : Nat, m = (z : Int) := ⟨m.toNat, by omega⟩
        rw [Int.toNat_natCast, Int.toNat_natCast]
        have hY := hY h hf k m (by omega) (by omega)
        generalize hPost : MoQL M (wayW h k m w) s = Post
        have pre : (∀ N, MI s N → mFr M N → mvC A h N → mvE A h N → Wp mc_227 D 72 [vR 155, vI A, vI k, vI m, vI w] [] N Post) → Wp mc_227 D 0 [vR 155, vI A, vI k, vI m, vI w] [] M Post := by
          intro hgo
          have hgo2 : ∀ N, MI s N → mFr M N → MV s.2.1 s.2.2.1 N → Wp mc_227 D 72 [vR 155, vI A, vI k, vI m, vI w] [] N Post := fun N z1 z2 z3 => hgo N z1 z2 (hsel N z3).1 (hsel N z3).2
          clear hgo hPost hY qk
          generalize (cornF h).length = l at *
          refine w_iload rfl rfl ?_
          refine w_call (Or.inl rfl) (m_isCurve1 M q) (by omega) nof_165 rfl rfl rfl rfl trivial rfl ?_
          refine w_if_ne (tgt := 11) rfl (by first | assumption | exact i32_0 | (unfold i32 at *; omega)) rfl (fun _ => ?_) (fun c => absurd c (by decide))
          refine w_aload rfl rfl ?_
          refine w_callQ (Or.inr rfl) (hkn) (by omega) nof_187 rfl rfl rfl rfl (by first | rfl | (show cKB[_]? = _; assumption)) (fun r12 M12 hq12 => ?_)
          obtain ⟨rfl, w1, w2, w3, w4⟩ := hq12
          have h165 := (hlen M12 w3).1
          have h16 := (hlen M12 w3).2
          refine w_iload rfl rfl (w_i2l rfl (by first | assumption | exact i32_0 | (unfold i32 at *; omega)) (w_lconst rfl (w_aload rfl rfl (w_getR rfl (by first | rfl | assumption) rfl (by first | rfl | assumption) (w_iload rfl rfl (w_ialoadV rfl (by first | rfl | assumption) (by omega) (by omega) (h165) (w_iconst rfl ?_)))))))
          refine w_isub rfl (w_i2l rfl (by first | assumption | exact i32_0 | (unfold i32 at *; omega)) ?_)
          refine w_call (Or.inl rfl) (m_in1 (v := k) (l := 0) (m := (l : Int) - 1) M12 (by unfold i64; omega) (by unfold i64; omega) (by unfold i64; omega) (by omega)) (by omega) nof_150 rfl rfl rfl rfl trivial rfl ?_
          refine w_if_eq (tgt := 51) rfl (by first | assumption | exact i32_0 | (unfold i32 at *; omega)) rfl (fun c => absurd c (by decide)) (fun _ => ?_)
          refine w_iload rfl rfl (w_i2l rfl (by first | assumption | exact i32_0 | (unfold i32 at *; omega)) (w_lconst rfl (w_aload rfl rfl (w_getR rfl (by first | rfl | assumption) rfl (by first | rfl | assumption) (w_iload rfl rfl (w_ialoadV rfl (by first | rfl | assumption) (by omega) (by omega) (h165) (w_iconst rfl ?_)))))))
          refine w_isub rfl (w_i2l rfl (by first | assumption | exact i32_0 | (unfold i32 at *; omega)) ?_)
          refine w_call (Or.inl rfl) (m_in1 (v := m) (l := 0) (m := (l : Int) - 1) M12 (by unfold i64; omega) (by unfold i64; omega) (by unfold i64; omega) (by omega)) (by omega) nof_150 rfl rfl rfl rfl trivial rfl ?_
          refine w_if_ne (tgt := 55) rfl (by first | assumption | exact i32_0 | (unfold i32 at *; omega)) rfl (fun _ => ?_) (fun c => absurd c (by decide))
          refine w_iload rfl rfl (w_i2l rfl (by first | assumption | exact i32_0 | (unfold i32 at *; omega)) (w_lconst rfl (w_lconst rfl ?_)))
          refine w_call (Or.inl rfl) (m_in1 (v := w) (l := 0) (m := 2) M12 (by unfold i64; omega) (by unfold i64; omega) (by unfold i64; omega) (by omega)) (by omega) nof_150 rfl rfl rfl rfl trivial rfl ?_
          refine w_if_ne (tgt := 72) rfl (by first | assumption | exact i32_0 | (unfold i32 at *; omega)) rfl (fun _ => ?_) (fun c => absurd c (by decide))
          exact hgo2 _ w1 w2 w3
        refine pre fun N n1 n2 n3 n4 => ?_
        clear pre hkn hsel hlen
        have hl16 := n3.2.1
        have hg := hG h hf
        have hfw := m_findsWays (a := k) hA hf n3 n4 (rowsF_ok hf hl16 hg) (rowsF_lenQ hf hl16 hg) (by omega)
        have hfin : ∀ r N2, wyF N N2 → r = wayW h k m w → Post (some (vL r)) N2 := by
          intro r N2 z1 z3
          rw [← hPost, z3]
          exact ⟨rfl, MI_fr n1 (fun j hj => by rw [z1 155 (by decide) (by decide)]) (fun b hb => z1 b (by omega) (by omega)), mFr_tr n2 (fun b hb => z1 b (by omega) (by omega))⟩
        have hW0 : wayW h k m w = if (wayF h k).1 m < 0 then -1000000 else if w = 2 then (wayF h k).2 m else if w = 0 then numP ((wayF h k).1 m * (720720 / unitF h : Nat)) else denP ((wayF h k).1 m * (720720 / unitF h : Nat)) := rfl
        rw [hW0] at hfin
        have hm16 : m < 16 := by omega
        clear hPost n3 n4 hW0 qk
        generalize mwF h k = X at *
        generalize (wayF h k).1 m * (720720 / unitF h : Nat) = pr at *
        generalize (wayF h k).1 m = w1 at *
        generalize (wayF h k).2 m = w2 at *
        have hab := fun N2 z => m_above (X.1 m) N2 z
        have hbe := fun N2 z => m_below (X.1 m) N2 z
        generalize (cornF h).length = l at *
        rcases hY with ⟨y2, ⟨y3, y4⟩ | ⟨y3, y4, y5, y6⟩⟩
        · rw [if_pos y3] at hfin
          have hgo := fun N2 z => hfin _ N2 z rfl
          clear hab hbe y2
          refine w_aload rfl rfl (w_iload rfl rfl (w_iload rfl rfl ?_))
          refine w_callQ (Or.inr rfl) ((hfw)) (by omega) nof_228 rfl rfl rfl rfl (by first | rfl | (show cKB[_]? = _; assumption)) (fun r75 M75 hq75 => ?_)
          obtain ⟨rfl, u1, u2, u3⟩ := hq75
          have x1 : M75 177 ((m : Int)).toNat = X.1 m := (u1 m hm16).1
          have v1 := u2 m
          generalize X.1 m = fx at *
          refine w_aload rfl rfl (w_getR rfl (by first | rfl | assumption) rfl (by first | rfl | assumption) (w_iload rfl rfl (w_laloadV rfl (by first | rfl | assumption) (by omega) (by omega) (x1) (w_lconst rfl ?_))))
          refine w_lcmp rfl (by first | assumption | exact i64_0 | (unfold i64 at *; omega)) (by first | assumption | exact i64_0 | (unfold i64 at *; omega)) (fun c85 => ?_) (fun c85 => ?_) (fun c85 => ?_)
          · skip
            refine w_if_ge (tgt := 93) rfl (by first | assumption | exact i32_0 | (unfold i32 at *; omega)) rfl (fun c => absurd c (by decide)) (fun _ => ?_)
            refine w_lconst rfl ?_
            exact w_lreturn rfl (hgo _ u3)
          · skip
            refine w_if_ge (tgt := 93) rfl (by first | assumption | exact i32_0 | (unfold i32 at *; omega)) rfl (fun _ => ?_) (fun c => absurd c (by decide))
            exfalso; omega
          · skip
            refine w_if_ge (tgt := 93) rfl (by first | assumption | exact i32_0 | (unfold i32 at *; omega)) rfl (fun _ => ?_) (fun c => absurd c (by decide))
            exfalso; omega
        · rw [if_neg (by omega), ← y4] at hfin
          by_cases c2 : w = 2
          · subst c2
            rw [if_pos rfl, ← y2] at hfin
            have hgo := fun N2 z => hfin _ N2 z rfl
            clear hab hbe y2 y4
            refine w_aload rfl rfl (w_iload rfl rfl (w_iload rfl rfl ?_))
            refine w_callQ (Or.inr rfl) ((hfw)) (by omega) nof_228 rfl rfl rfl rfl (by first | rfl | (show cKB[_]? = _; assumption)) (fun r75 M75 hq75 => ?_)
            obtain ⟨rfl, u1, u2, u3⟩ := hq75
            have x1 : M75 177 ((m : Int)).toNat = X.1 m := (u1 m hm16).1
            have x2 : M75 178 ((m : Int)).toNat = X.2 m := (u1 m hm16).2
            have v1 := u2 m
            generalize X.1 m = fx at *
            generalize X.2 m = sx at *
            refine w_aload rfl rfl (w_getR rfl (by first | rfl | assumption) rfl (by first | rfl | assumption) (w_iload rfl rfl (w_laloadV rfl (by first | rfl | assumption) (by omega) (by omega) (x1) (w_lconst rfl ?_))))
            refine w_lcmp rfl (by first | assumption | exact i64_0 | (unfold i64 at *; omega)) (by first | assumption | exact i64_0 | (unfold i64 at *; omega)) (fun c85 => ?_) (fun c85 => ?_) (fun c85 => ?_)
            · skip
              refine w_if_ge (tgt := 93) rfl (by first | assumption | exact i32_0 | (unfold i32 at *; omega)) rfl (fun c => absurd c (by decide)) (fun _ => ?_)
              exfalso; omega
            · skip
              refine w_if_ge (tgt := 93) rfl (by first | assumption | exact i32_0 | (unfold i32 at *; omega)) rfl (fun _ => ?_) (fun c => absurd c (by decide))
              refine w_iload rfl rfl ?_
              refine w_if_ne (tgt := 110) rfl (by first | assumption | exact i32_0 | (unfold i32 at *; omega)) rfl (fun c95 => ?_) (fun c95 => ?_)
              · skip
                refine w_iload rfl rfl (w_iconst rfl ?_)
                refine w_icmp_ne (tgt := 128) rfl (by first | assumption | exact i32_0 | (unfold i32 at *; omega)) (by first | assumption | exact i32_0 | (unfold i32 at *; omega)) rfl (fun c113 => ?_) (fun c113 => ?_)
                · skip
                  refine w_aload rfl rfl (w_getR rfl (by first | rfl | assumption) rfl (by first | rfl | assumption) (w_iload rfl rfl (w_ialoadV rfl (by first | rfl | assumption) (by omega) (by omega) (x2) (w_i2l rfl (by first | assumption | exact i32_0 | (unfold i32 at *; omega)) ?_))))
                  exact w_lreturn rfl (hgo _ u3)
                · skip
                  exfalso; omega
              · skip
                exfalso; omega
            · skip
              refine w_if_ge (tgt := 93) rfl (by first | assumption | exact i32_0 | (unfold i32 at *; omega)) rfl (fun _ => ?_) (fun c => absurd c (by decide))
              refine w_iload rfl rfl ?_
              refine w_if_ne (tgt := 110) rfl (by first | assumption | exact i32_0 | (unfold i32 at *; omega)) rfl (fun c95 => ?_) (fun c95 => ?_)
              · skip
                refine w_iload rfl rfl (w_iconst rfl ?_)
                refine w_icmp_ne (tgt := 128) rfl (by first | assumption | exact i32_0 | (unfold i32 at *; omega)) (by first | assumption | exact i32_0 | (unfold i32 at *; omega)) rfl (fun c113 => ?_) (fun c113 => ?_)
                · skip
                  refine w_aload rfl rfl (w_getR rfl (by first | rfl | assumption) rfl (by first | rfl | assumption) (w_iload rfl rfl (w_ialoadV rfl (by first | rfl | assumption) (by omega) (by omega) (x2) (w_i2l rfl (by first | assumption | exact i32_0 | (unfold i32 at *; omega)) ?_))))
                  exact w_lreturn rfl (hgo _ u3)
                · skip
                  exfalso; omega
              · skip
                exfalso; omega
          · rw [if_neg c2] at hfin
            have hab := fun N2 => hab N2 (by omega)
            have hbe := fun N2 => hbe N2 (by omega)
            clear y4 y2
            by_cases c0 : w = 0
            · subst c0
              rw [if_pos rfl] at hfin
              have hgo := fun N2 z => hfin _ N2 z rfl
              refine w_aload rfl rfl (w_iload rfl rfl (w_iload rfl rfl ?_))
              refine w_callQ (Or.inr rfl) ((hfw)) (by omega) nof_228 rfl rfl rfl rfl (by first | rfl | (show cKB[_]? = _; assumption)) (fun r75 M75 hq75 => ?_)
              obtain ⟨rfl, u1, u2, u3⟩ := hq75
              have x1 : M75 177 ((m : Int)).toNat = X.1 m := (u1 m hm16).1
              have v1 := u2 m
              have hab := hab M75
              generalize X.1 m = fx at *
              refine w_aload rfl rfl (w_getR rfl (by first | rfl | assumption) rfl (by first | rfl | assumption) (w_iload rfl rfl (w_laloadV rfl (by first | rfl | assumption) (by omega) (by omega) (x1) (w_lconst rfl ?_))))
              refine w_lcmp rfl (by first | assumption | exact i64_0 | (unfold i64 at *; omega)) (by first | assumption | exact i64_0 | (unfold i64 at *; omega)) (fun c85 => ?_) (fun c85 => ?_) (fun c85 => ?_)
              · skip
                refine w_if_ge (tgt := 93) rfl (by first | assumption | exact i32_0 | (unfold i32 at *; omega)) rfl (fun c => absurd c (by decide)) (fun _ => ?_)
                exfalso; omega
              · skip
                refine w_if_ge (tgt := 93) rfl (by first | assumption | exact i32_0 | (unfold i32 at *; omega)) rfl (fun _ => ?_) (fun c => absurd c (by decide))
                refine w_iload rfl rfl ?_
                refine w_if_ne (tgt := 110) rfl (by first | assumption | exact i32_0 | (unfold i32 at *; omega)) rfl (fun c95 => ?_) (fun c95 => ?_)
                · skip
                  exfalso; omega
                · skip
                  refine w_aload rfl rfl (w_getR rfl (by first | rfl | assumption) rfl (by first | rfl | assumption) (w_iload rfl rfl (w_laloadV rfl (by first | rfl | assumption) (by omega) (by omega) (x1) ?_)))
                  refine w_call (Or.inl rfl) ((hab)) (by omega) nof_209 rfl rfl rfl rfl trivial rfl ?_
                  refine w_goto (tgt := 135) rfl rfl ?_
                  exact w_lreturn rfl (hgo _ u3)
              · skip
                refine w_if_ge (tgt := 93) rfl (by first | assumption | exact i32_0 | (unfold i32 at *; omega)) rfl (fun _ => ?_) (fun c => absurd c (by decide))
                refine w_iload rfl rfl ?_
                refine w_if_ne (tgt := 110) rfl (by first | assumption | exact i32_0 | (unfold i32 at *; omega)) rfl (fun c95 => ?_) (fun c95 => ?_)
                · skip
                  exfalso; omega
                · skip
                  refine w_aload rfl rfl (w_getR rfl (by first | rfl | assumption) rfl (by first | rfl | assumption) (w_iload rfl rfl (w_laloadV rfl (by first | rfl | assumption) (by omega) (by omega) (x1) ?_)))
                  refine w_call (Or.inl rfl) ((hab)) (by omega) nof_209 rfl rfl rfl rfl trivial rfl ?_
                  refine w_goto (tgt := 135) rfl rfl ?_
                  exact w_lreturn rfl (hgo _ u3)
            · rw [if_neg c0] at hfin
              have hgo := fun N2 z => hfin _ N2 z rfl
              refine w_aload rfl rfl (w_iload rfl rfl (w_iload rfl rfl ?_))
              refine w_callQ (Or.inr rfl) ((hfw)) (by omega) nof_228 rfl rfl rfl rfl (by first | rfl | (show cKB[_]? = _; assumption)) (fun r75 M75 hq75 => ?_)
              obtain ⟨rfl, u1, u2, u3⟩ := hq75
              have x1 : M75 177 ((m : Int)).toNat = X.1 m := (u1 m hm16).1
              have v1 := u2 m
              have hbe := hbe M75
              generalize X.1 m = fx at *
              refine w_aload rfl rfl (w_getR rfl (by first | rfl | assumption) rfl (by first | rfl | assumption) (w_iload rfl rfl (w_laloadV rfl (by first | rfl | assumption) (by omega) (by omega) (x1) (w_lconst rfl ?_))))
              refine w_lcmp rfl (by first | assumption | exact i64_0 | (unfold i64 at *; omega)) (by first | assumption | exact i64_0 | (unfold i64 at *; omega)) (fun c85 => ?_) (fun c85 => ?_) (fun c85 => ?_)
              · skip
                refine w_if_ge (tgt := 93) rfl (by first | assumption | exact i32_0 | (unfold i32 at *; omega)) rfl (fun c => absurd c (by decide)) (fun _ => ?_)
                exfalso; omega
              · skip
                refine w_if_ge (tgt := 93) rfl (by first | assumption | exact i32_0 | (unfold i32 at *; omega)) rfl (fun _ => ?_) (fun c => absurd c (by decide))
                refine w_iload rfl rfl ?_
                refine w_if_ne (tgt := 110) rfl (by first | assumption | exact i32_0 | (unfold i32 at *; omega)) rfl (fun c95 => ?_) (fun c95 => ?_)
                · skip
                  refine w_iload rfl rfl (w_iconst rfl ?_)
                  refine w_icmp_ne (tgt := 128) rfl (by first | assumption | exact i32_0 | (unfold i32 at *; omega)) (by first | assumption | exact i32_0 | (unfold i32 at *; omega)) rfl (fun c113 => ?_) (fun c113 => ?_)
                  · skip
                    exfalso; omega
                  · skip
                    refine w_aload rfl rfl (w_getR rfl (by first | rfl | assumption) rfl (by first | rfl | assumption) (w_iload rfl rfl (w_laloadV rfl (by first | rfl | assumption) (by omega) (by omega) (x1) ?_)))
                    refine w_call (Or.inl rfl) ((hbe)) (by omega) nof_211 rfl rfl rfl rfl trivial rfl ?_
                    refine w_goto (tgt := 135) rfl rfl ?_
                    exact w_lreturn rfl (hgo _ u3)
                · skip
                  exfalso; omega
              · skip
                refine w_if_ge (tgt := 93) rfl (by first | assumption | exact i32_0 | (unfold i32 at *; omega)) rfl (fun _ => ?_) (fun c => absurd c (by decide))
                refine w_iload rfl rfl ?_
                refine w_if_ne (tgt := 110) rfl (by first | assumption | exact i32_0 | (unfold i32 at *; omega)) rfl (fun c95 => ?_) (fun c95 => ?_)
                · skip
                  refine w_iload rfl rfl (w_iconst rfl ?_)
                  refine w_icmp_ne (tgt := 128) rfl (by first | assumption | exact i32_0 | (unfold i32 at *; omega)) (by first | assumption | exact i32_0 | (unfold i32 at *; omega)) rfl (fun c113 => ?_) (fun c113 => ?_)
                  · skip
                    exfalso; omega
                  · skip
                    refine w_aload rfl rfl (w_getR rfl (by first | rfl | assumption) rfl (by first | rfl | assumption) (w_iload rfl rfl (w_laloadV rfl (by first | rfl | assumption) (by omega) (by omega) (x1) ?_)))
                    refine w_call (Or.inl rfl) ((hbe)) (by omega) nof_211 rfl rfl rfl rfl trivial rfl ?_
                    refine w_goto (tgt := 135) rfl rfl ?_
                    exact w_lreturn rfl (hgo _ u3)
                · skip
                  exfalso; omega
      · rw [if_neg qw]
        have qw := of_decide_eq_false (Bool.eq_false_iff.mpr qw)
        clear hY qk
        generalize (cornF h).length = l at *
        refine w_iload rfl rfl ?_
        refine w_call (Or.inl rfl) (m_isCurve1 M q) (by omega) nof_165 rfl rfl rfl rfl trivial rfl ?_
        refine w_if_ne (tgt := 11) rfl (by first | assumption | exact i32_0 | (unfold i32 at *; omega)) rfl (fun _ => ?_) (fun c => absurd c (by decide))
        refine w_aload rfl rfl ?_
        refine w_callQ (Or.inr rfl) (hkn) (by omega) nof_187 rfl rfl rfl rfl (by first | rfl | (show cKB[_]? = _; assumption)) (fun r12 M12 hq12 => ?_)
        obtain ⟨rfl, w1, w2, w3, w4⟩ := hq12
        have h165 := (hlen M12 w3).1
        have h16 := (hlen M12 w3).2
        refine w_iload rfl rfl (w_i2l rfl (by first | assumption | exact i32_0 | (unfold i32 at *; omega)) (w_lconst rfl (w_aload rfl rfl (w_getR rfl (by first | rfl | assumption) rfl (by first | rfl | assumption) (w_iload rfl rfl (w_ialoadV rfl (by first | rfl | assumption) (by omega) (by omega) (h165) (w_iconst rfl ?_)))))))
        refine w_isub rfl (w_i2l rfl (by first | assumption | exact i32_0 | (unfold i32 at *; omega)) ?_)
        refine w_call (Or.inl rfl) (m_in1 (v := k) (l := 0) (m := (l : Int) - 1) M12 (by unfold i64; omega) (by unfold i64; omega) (by unfold i64; omega) (by omega)) (by omega) nof_150 rfl rfl rfl rfl trivial rfl ?_
        refine w_if_eq (tgt := 51) rfl (by first | assumption | exact i32_0 | (unfold i32 at *; omega)) rfl (fun c => absurd c (by decide)) (fun _ => ?_)
        refine w_iload rfl rfl (w_i2l rfl (by first | assumption | exact i32_0 | (unfold i32 at *; omega)) (w_lconst rfl (w_aload rfl rfl (w_getR rfl (by first | rfl | assumption) rfl (by first | rfl | assumption) (w_iload rfl rfl (w_ialoadV rfl (by first | rfl | assumption) (by omega) (by omega) (h165) (w_iconst rfl ?_)))))))
        refine w_isub rfl (w_i2l rfl (by first | assumption | exact i32_0 | (unfold i32 at *; omega)) ?_)
        refine w_call (Or.inl rfl) (m_in1 (v := m) (l := 0) (m := (l : Int) - 1) M12 (by unfold i64; omega) (by unfold i64; omega) (by unfold i64; omega) (by omega)) (by omega) nof_150 rfl rfl rfl rfl trivial rfl ?_
        refine w_if_ne (tgt := 55) rfl (by first | assumption | exact i32_0 | (unfold i32 at *; omega)) rfl (fun _ => ?_) (fun c => absurd c (by decide))
        refine w_iload rfl rfl (w_i2l rfl (by first | assumption | exact i32_0 | (unfold i32 at *; omega)) (w_lconst rfl (w_lconst rfl ?_)))
        refine w_call (Or.inl rfl) (m_in0 (v := w) (l := 0) (m := 2) M12 (by unfold i64; omega) (by unfold i64; omega) (by unfold i64; omega) (by omega)) (by omega) nof_150 rfl rfl rfl rfl trivial rfl ?_
        refine w_if_ne (tgt := 72) rfl (by first | assumption | exact i32_0 | (unfold i32 at *; omega)) rfl (fun c => absurd c (by decide)) (fun _ => ?_)
        refine w_lconst rfl ?_
        exact w_lreturn rfl ⟨by first | rfl | (congr 2; omega), by exact ⟨w1, w2⟩⟩
    · rw [if_neg qk]
      by_cases qk1 : rngB k (cornF h).length = true
      · have qk2 := of_decide_eq_false (Bool.eq_false_iff.mpr (fun z => qk ⟨qk1, z⟩))
        have qk1 := of_decide_eq_true qk1
        clear hY qk
        generalize (cornF h).length = l at *
        refine w_iload rfl rfl ?_
        refine w_call (Or.inl rfl) (m_isCurve1 M q) (by omega) nof_165 rfl rfl rfl rfl trivial rfl ?_
        refine w_if_ne (tgt := 11) rfl (by first | assumption | exact i32_0 | (unfold i32 at *; omega)) rfl (fun _ => ?_) (fun c => absurd c (by decide))
        refine w_aload rfl rfl ?_
        refine w_callQ (Or.inr rfl) (hkn) (by omega) nof_187 rfl rfl rfl rfl (by first | rfl | (show cKB[_]? = _; assumption)) (fun r12 M12 hq12 => ?_)
        obtain ⟨rfl, w1, w2, w3, w4⟩ := hq12
        have h165 := (hlen M12 w3).1
        have h16 := (hlen M12 w3).2
        refine w_iload rfl rfl (w_i2l rfl (by first | assumption | exact i32_0 | (unfold i32 at *; omega)) (w_lconst rfl (w_aload rfl rfl (w_getR rfl (by first | rfl | assumption) rfl (by first | rfl | assumption) (w_iload rfl rfl (w_ialoadV rfl (by first | rfl | assumption) (by omega) (by omega) (h165) (w_iconst rfl ?_)))))))
        refine w_isub rfl (w_i2l rfl (by first | assumption | exact i32_0 | (unfold i32 at *; omega)) ?_)
        refine w_call (Or.inl rfl) (m_in1 (v := k) (l := 0) (m := (l : Int) - 1) M12 (by unfold i64; omega) (by unfold i64; omega) (by unfold i64; omega) (by omega)) (by omega) nof_150 rfl rfl rfl rfl trivial rfl ?_
        refine w_if_eq (tgt := 51) rfl (by first | assumption | exact i32_0 | (unfold i32 at *; omega)) rfl (fun c => absurd c (by decide)) (fun _ => ?_)
        refine w_iload rfl rfl (w_i2l rfl (by first | assumption | exact i32_0 | (unfold i32 at *; omega)) (w_lconst rfl (w_aload rfl rfl (w_getR rfl (by first | rfl | assumption) rfl (by first | rfl | assumption) (w_iload rfl rfl (w_ialoadV rfl (by first | rfl | assumption) (by omega) (by omega) (h165) (w_iconst rfl ?_)))))))
        refine w_isub rfl (w_i2l rfl (by first | assumption | exact i32_0 | (unfold i32 at *; omega)) ?_)
        refine w_call (Or.inl rfl) (m_in0 (v := m) (l := 0) (m := (l : Int) - 1) M12 (by unfold i64; omega) (by unfold i64; omega) (by unfold i64; omega) (by omega)) (by omega) nof_150 rfl rfl rfl rfl trivial rfl ?_
        refine w_if_ne (tgt := 55) rfl (by first | assumption | exact i32_0 | (unfold i32 at *; omega)) rfl (fun c => absurd c (by decide)) (fun _ => ?_)
        refine w_lconst rfl ?_
        exact w_lreturn rfl ⟨by first | rfl | (congr 2; omega), by exact ⟨w1, w2⟩⟩
      · have qk1 := of_decide_eq_false (Bool.eq_false_iff.mpr qk1)
        clear hY qk
        generalize (cornF h).length = l at *
        refine w_iload rfl rfl ?_
        refine w_call (Or.inl rfl) (m_isCurve1 M q) (by omega) nof_165 rfl rfl rfl rfl trivial rfl ?_
        refine w_if_ne (tgt := 11) rfl (by first | assumption | exact i32_0 | (unfold i32 at *; omega)) rfl (fun _ => ?_) (fun c => absurd c (by decide))
        refine w_aload rfl rfl ?_
        refine w_callQ (Or.inr rfl) (hkn) (by omega) nof_187 rfl rfl rfl rfl (by first | rfl | (show cKB[_]? = _; assumption)) (fun r12 M12 hq12 => ?_)
        obtain ⟨rfl, w1, w2, w3, w4⟩ := hq12
        have h165 := (hlen M12 w3).1
        have h16 := (hlen M12 w3).2
        refine w_iload rfl rfl (w_i2l rfl (by first | assumption | exact i32_0 | (unfold i32 at *; omega)) (w_lconst rfl (w_aload rfl rfl (w_getR rfl (by first | rfl | assumption) rfl (by first | rfl | assumption) (w_iload rfl rfl (w_ialoadV rfl (by first | rfl | assumption) (by omega) (by omega) (h165) (w_iconst rfl ?_)))))))
        refine w_isub rfl (w_i2l rfl (by first | assumption | exact i32_0 | (unfold i32 at *; omega)) ?_)
        refine w_call (Or.inl rfl) (m_in0 (v := k) (l := 0) (m := (l : Int) - 1) M12 (by unfold i64; omega) (by unfold i64; omega) (by unfold i64; omega) (by omega)) (by omega) nof_150 rfl rfl rfl rfl trivial rfl ?_
        refine w_if_eq (tgt := 51) rfl (by first | assumption | exact i32_0 | (unfold i32 at *; omega)) rfl (fun _ => ?_) (fun c => absurd c (by decide))
        refine w_lconst rfl ?_
        exact w_lreturn rfl ⟨by first | rfl | (congr 2; omega), by exact ⟨w1, w2⟩⟩
  · rw [if_neg q]
    have q : ¬ (a = 0 ∨ a = 1) := fun z => q (isCu_iff.mpr z)
    refine w_iload rfl rfl ?_
    refine w_call (Or.inl rfl) (m_isCurve0 M ha q) (by omega) nof_165 rfl rfl rfl rfl trivial rfl ?_
    refine w_if_ne (tgt := 11) rfl (by first | assumption | exact i32_0 | (unfold i32 at *; omega)) rfl (fun c => absurd c (by decide)) (fun _ => ?_)
    refine w_lconst rfl ?_
    exact w_lreturn rfl ⟨by first | rfl | (congr 2; omega), by exact MI_same c⟩
