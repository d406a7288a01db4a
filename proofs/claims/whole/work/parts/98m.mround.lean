/-! ===== the model's length around a term ===== -/
theorem lenE_le2 {f : Cv} (hf : Cok 999 f) (e : Nat → Int) : -40000000000 ≤ lenE (cornF f) e ∧ lenE (cornF f) e ≤ 40000000000 := by
  have b1 := ptAt_ptB hf (e 5)
  have b2 := ptAt_ptB hf (e 4)
  unfold ptB at b1 b2
  unfold lenE
  split
  · have h1 : (((ptAt (cornF f) (e 5)).1 - (ptAt (cornF f) (e 4)).1).tdiv (e 6)).natAbs ≤ ((ptAt (cornF f) (e 5)).1 - (ptAt (cornF f) (e 4)).1).natAbs := by
      rw [Int.natAbs_tdiv]; exact Nat.div_le_self _ _
    omega
  · have h1 : (((ptAt (cornF f) (e 5)).2.1 - (ptAt (cornF f) (e 4)).2.1).tdiv (e 7)).natAbs ≤ ((ptAt (cornF f) (e 5)).2.1 - (ptAt (cornF f) (e 4)).2.1).natAbs := by
      rw [Int.natAbs_tdiv]; exact Nat.div_le_self _ _
    omega
def rndE (C : List Pt) (R : List (Nat → Int)) (k : Int) (n : Nat) : Int := (R.take n).foldl (fun a e => if sideR e k = true then a + lenE C e else a) 0
theorem rndE_snoc (C : List Pt) (R : List (Nat → Int)) (k : Int) (n : Nat) (h : n < R.length) : rndE C R k (n + 1) = if sideR R[n] k = true then rndE C R k n + lenE C R[n] else rndE C R k n := by
  unfold rndE; rw [take_snoc R n h, List.foldl_append]; rfl
theorem rndE_le {f : Cv} (hf : Cok 999 f) (R : List (Nat → Int)) (k : Int) : ∀ n, n ≤ R.length → -(40000000000 * (n : Int)) ≤ rndE (cornF f) R k n ∧ rndE (cornF f) R k n ≤ 40000000000 * (n : Int)
  | 0, _ => ⟨Int.le_refl _, Int.le_refl _⟩
  | n + 1, h => by
    rw [rndE_snoc _ R k n (by omega)]
    have ih := rndE_le hf R k n (by omega)
    have := lenE_le2 hf (R[n]'(by omega))
    split <;> omega
theorem open_not {R : List (Nat → Int)} {k : Int} (h : openR R k = false) (n : Nat) (hn : n < R.length) (hs : sideR R[n] k = true) : R[n] 5 ≠ -1000000 := by
  intro z
  have : openR R k = true := by
    unfold openR
    rw [List.any_eq_true]
    exact ⟨R[n], List.getElem_mem hn, by rw [hs, decide_eq_true z]; rfl⟩
  rw [h] at this
  exact absurd this (by decide)
theorem m_round {a k n0 : Nat} {h : Cv} {M : mM} (ha : a < 2) (hf : Cok 999 h) (hc : mvC a h M) (hv : mvE a h M) (hok : rowsOK n0 (rowsF h)) (hn0 : n0 = (cornF h).length) (hL : ∀ e ∈ rowsF h, lenQ h e) (hk : k < 1000) (hop : openR (rowsF h) k = false) : E 2 223 [vR 155, vI a, vI k] M (some (vL (rndE (cornF h) (rowsF h) k (rowsF h).length))) M := by
  have hl30 := hv.2.1
  have h172 : M 172 ((a : Int)).toNat = ((rowsF h).length : Int) := hv.1
  have hat := fun k hk => mv_at (k := k) hv hok hk
  have hlo := fun n hn h5 => m_longOf (k := n) (M := M) ha hf hc hv hok hn0 hL hn h5
  have hnl := open_not hop
  have hrl := rndE_le hf (rowsF h) k
  have hll := fun n (hn : n < (rowsF h).length) => lenE_le2 hf (rowsF h)[n]
  clear hv hok hc hL hop hn0
  generalize rowsF h = R at *
  generalize cornF h = C at *
  refine e_in (ls := [vR 155, vI a, vI k, vN, vN, vN]) mq_223 (ml_223 rfl) rfl fun D hD => ?_
  have loop : ∀ (z n : Nat), R.length - n = z → n ≤ R.length → Wp mc_223 D 8 [vR 155, vI a, vI k, vL (rndE C R k n), vN, vI ((40 * a + n : Nat) : Int)] [] M (fun r N => r = some (vL (rndE C R k R.length)) ∧ N = M) := by
    intro z
    induction z with
    | zero =>
      intro n hz hn
      obtain rfl : n = R.length := by omega
      clear hat hlo hnl hrl hll
      generalize rndE C R k R.length = c at *
      generalize R.length = m at *
      refine w_iload rfl rfl (w_iconst rfl (w_iload rfl rfl (w_imul rfl (w_aload rfl rfl (w_getR rfl (by first | rfl | assumption) rfl (by first | rfl | assumption) (w_iload rfl rfl (w_ialoadV rfl (by first | rfl | assumption) (by omega) (by omega) (h172) ?_)))))))
      refine w_iadd rfl ?_
      refine w_icmp_ge (tgt := 54) rfl (by first | assumption | exact i32_0 | (unfold i32 at *; omega)) (by first | assumption | exact i32_0 | (unfold i32 at *; omega)) rfl (fun c21 => ?_) (fun c21 => ?_)
      · skip
        refine w_lload rfl rfl ?_
        exact w_lreturn rfl ⟨by first | rfl | (congr 2; omega), by rfl⟩
      · skip
        exfalso; omega
    | succ z ih =>
      intro n hz hn
      have hnr : n < R.length := by omega
      have hx := hat n hnr
      have hlon := hlo n hnr
      have hno := hnl n hnr
      have hrn := hrl n hn
      have hln := hll n hnr
      have ihn := ih (n + 1) (by omega) (by omega)
      rw [rndE_snoc C R k n hnr] at ihn
      have hi : ((40 * a + n : Nat) : Int) + 1 = ((40 * a + (n + 1) : Nat) : Int) := by omega
      clear hat hlo hnl hrl hll ih
      generalize rndE C R k n = c at *
      generalize rndE C R k R.length = cc at *
      generalize R[n] = e at *
      obtain ⟨⟨x0, x1⟩, -, -, hed⟩ := hx
      have hsd := m_isSideOf (j := 40 * a + n) (k := k) (M := M) (by omega) hk x0 x1 ⟨hed.1.1, hed.1.2.1⟩ hed.1.2.2
      clear hed
      generalize lenE C e = le at *
      generalize R.length = m at *
      by_cases q : sideR e k = true
      · rw [if_pos q] at ihn
        have h5 := hlon (hno q)
        have q := of_decide_eq_true q
        rw [if_pos q] at hsd
        clear q hno hlon
        refine w_iload rfl rfl (w_iconst rfl (w_iload rfl rfl (w_imul rfl (w_aload rfl rfl (w_getR rfl (by first | rfl | assumption) rfl (by first | rfl | assumption) (w_iload rfl rfl (w_ialoadV rfl (by first | rfl | assumption) (by omega) (by omega) (h172) ?_)))))))
        refine w_iadd rfl ?_
        refine w_icmp_ge (tgt := 54) rfl (by first | assumption | exact i32_0 | (unfold i32 at *; omega)) (by first | assumption | exact i32_0 | (unfold i32 at *; omega)) rfl (fun c21 => ?_) (fun c21 => ?_)
        · exfalso; omega
        · skip
          refine w_lload rfl rfl (w_aload rfl rfl (w_iload rfl rfl (w_iload rfl rfl ?_)))
          refine w_call (Or.inr rfl) ((hsd)) (by omega) nof_221 rfl rfl rfl rfl (by first | rfl | (show cKB[_]? = _; assumption)) rfl ?_
          refine w_if_eq (tgt := 45) rfl (by first | assumption | exact i32_0 | (unfold i32 at *; omega)) rfl (fun c => absurd c (by decide)) (fun _ => ?_)
          refine w_aload rfl rfl (w_iload rfl rfl (w_iload rfl rfl ?_))
          refine w_call (Or.inr rfl) ((h5)) (by omega) nof_216 rfl rfl rfl rfl (by first | rfl | (show cKB[_]? = _; assumption)) rfl ?_
          refine w_goto (tgt := 46) rfl rfl (w_ladd rfl (w_lstore (ls2 := [_, _, _, _, _, _]) rfl rfl rfl (w_iinc (ls2 := [_, _, _, _, _, _]) rfl rfl rfl ?_)))
          rw [hi]
          refine w_goto (tgt := 8) rfl rfl ?_
          exact ihn
      · rw [if_neg q] at ihn
        have q : ¬ (e 0 = (k : Int) ∨ e 1 = (k : Int)) := fun z => q (decide_eq_true z)
        rw [if_neg q] at hsd
        clear q hno hlon
        refine w_iload rfl rfl (w_iconst rfl (w_iload rfl rfl (w_imul rfl (w_aload rfl rfl (w_getR rfl (by first | rfl | assumption) rfl (by first | rfl | assumption) (w_iload rfl rfl (w_ialoadV rfl (by first | rfl | assumption) (by omega) (by omega) (h172) ?_)))))))
        refine w_iadd rfl ?_
        refine w_icmp_ge (tgt := 54) rfl (by first | assumption | exact i32_0 | (unfold i32 at *; omega)) (by first | assumption | exact i32_0 | (unfold i32 at *; omega)) rfl (fun c21 => ?_) (fun c21 => ?_)
        · exfalso; omega
        · skip
          refine w_lload rfl rfl (w_aload rfl rfl (w_iload rfl rfl (w_iload rfl rfl ?_)))
          refine w_call (Or.inr rfl) ((hsd)) (by omega) nof_221 rfl rfl rfl rfl (by first | rfl | (show cKB[_]? = _; assumption)) rfl ?_
          refine w_if_eq (tgt := 45) rfl (by first | assumption | exact i32_0 | (unfold i32 at *; omega)) rfl (fun _ => ?_) (fun c => absurd c (by decide))
          refine w_lconst rfl (w_ladd rfl ?_)
          rw [show c + 0 = c by omega]
          refine w_lstore (ls2 := [_, _, _, _, _, _]) rfl rfl rfl (w_iinc (ls2 := [_, _, _, _, _, _]) rfl rfl rfl ?_)
          rw [hi]
          refine w_goto (tgt := 8) rfl rfl ?_
          exact ihn
  have hgo := loop R.length 0 (Nat.sub_zero _) (Nat.zero_le _)
  have hi0 : (40 : Int) * (a : Int) = ((40 * a + 0 : Nat) : Int) := by omega
  clear loop hat hlo hnl hrl hll
  refine w_lconst rfl (w_lstore (ls2 := [_, _, _, _, _, _]) rfl rfl rfl (w_iconst rfl (w_iload rfl rfl (w_imul rfl ?_))))
  rw [hi0]
  refine w_istore (ls2 := [_, _, _, _, _, _]) rfl rfl rfl ?_
  exact hgo
theorem unit_dvd {R : List (Nat → Int)} {k : Nat} {e : Nat → Int} (hk : R[k]? = some e) (h5 : e 5 ≠ -1000000) : ∀ n, k < n → (e 9).toNat ∣ unitR R n
  | 0, h => by omega
  | n + 1, h => by
    unfold unitR
    by_cases q : k = n
    · subst q
      rw [hk]
      dsimp only
      rw [if_neg h5]
      exact Nat.dvd_lcm_right ..
    · have ih := unit_dvd hk h5 n (by omega)
      split
      · exact ih
      · split
        · exact ih
        · exact Nat.dvd_trans ih (Nat.dvd_lcm_left ..)
theorem lenU_W {C : List Pt} {e : Nat → Int} {u : Nat} (h8 : e 8 = numP (lenE C e)) (h9 : e 9 = denP (lenE C e)) (hd : (e 9).toNat ∣ u) (hu : u ∣ 720720) (hp : 0 < u) : lenU u e * (720720 / u : Nat) = lenE C e := by
  have hg := gcdP_pos (lenE C e)
  have hm := denP_mul (lenE C e)
  have hn := numP_mul (lenE C e)
  rw [← h8] at hn
  rw [← h9] at hm
  have h9p : 0 < e 9 := by
    refine Int.pos_of_mul_pos_left (b := (Int.gcd (lenE C e) 720720 : Int)) ?_ hg
    rw [hm]; decide
  obtain ⟨d, hdd⟩ : ∃ d : Nat, e 9 = (d : Int) := ⟨(e 9).toNat, by omega⟩
  rw [hdd, Int.toNat_natCast] at hd
  obtain ⟨v, rfl⟩ := hd
  obtain ⟨w, hw⟩ := hu
  unfold lenU
  rw [if_pos h9p, hdd]
  have hd0 : 0 < d := by omega
  have e1 : ((d * v : Nat) : Int).tdiv (d : Int) = (v : Int) := by
    show ((d * v / d : Nat) : Int) = (v : Int)
    rw [Nat.mul_div_cancel_left _ hd0]
  have e2 : 720720 / (d * v) = w := by rw [hw, Nat.mul_div_cancel_left _ hp]
  rw [e1, e2]
  rw [hdd] at hm
  have e3 : (d : Int) * (Int.gcd (lenE C e) 720720 : Int) = (d : Int) * ((v : Int) * (w : Int)) := by
    rw [hm]
    have : (720720 : Int) = ((d * v * w : Nat) : Int) := congrArg Nat.cast hw
    rw [this, Int.natCast_mul, Int.natCast_mul, Int.mul_assoc]
  have e4 := Int.eq_of_mul_eq_mul_left (by omega) e3
  rw [e4] at hn
  rw [← hn, Int.mul_comm (v : Int) (e 8), Int.mul_assoc]
