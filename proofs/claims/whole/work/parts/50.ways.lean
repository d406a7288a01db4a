/-! ===== lengths and ways ===== -/
def lenU (u : Int) (e : Nat → Int) : Int := if 0 < e 9 then u.tdiv (e 9) * e 8 else 0
theorem lenU_le {m u : Nat} {e : Nat → Int} (hu : u ≤ 720720) (ho : rowOK m e) (h5 : e 5 ≠ -1000000) : 0 ≤ lenU u e ∧ lenU u e ≤ 4000000000000 := by
  obtain ⟨-, -, h8, d, hd, hd2, -⟩ := ho.2.2 h5
  unfold lenU
  rw [hd, if_pos (by omega)]
  have e1 : (u : Int).tdiv (d : Int) = ((u / d : Nat) : Int) := rfl
  have := Nat.div_le_self u d
  rw [e1]
  generalize u / d = z at this ⊢
  have hq := mul_le (d := (z : Int)) (c := e 8) (A := 720720) (B := 4000000) (by omega) (by omega)
  have hn : 0 ≤ (z : Int) * e 8 := Int.mul_nonneg (by omega) h8.1
  omega
theorem e_lengthOf {s t c m u : Nat} {e : Nat → Int} {M : mM} (hs : isS s t) (hc : isEd c) (h : EdR c e M) (hu5 : M s 5 = (u : Int)) (hu : u ≤ 720720) (ho : rowOK m e) (h5 : e 5 ≠ -1000000) : E 1 111 [vR s, vR c] M (some (vL (lenU u e))) M := by
  obtain ⟨⟨k0, k1, k2, k3, k4, k5⟩, -, -⟩ := hs
  have hc0 : cKB[c]? = some (0, 0) := hc
  obtain ⟨-, -, h8, d, hd, hd2, hd3⟩ := ho.2.2 h5
  have hdl := Nat.le_of_dvd (by decide) hd3
  have m8 := h 8 (by decide)
  have m9 := (h 9 (by decide)).trans hd
  unfold lenU
  rw [hd, if_pos (by omega)]
  refine e_in (ls := [vR s, vR c]) mq_111 (ml_111 rfl) rfl fun D hD => ?_
  refine w_aload rfl rfl (w_getIV rfl (by first | rfl | assumption) (by first | exact Or.inl rfl | exact Or.inr rfl) (m9) ?_)
  refine w_if_le (tgt := 26) rfl (by first | assumption | exact i32_0 | (unfold i32 at *; omega)) rfl (fun c4 => ?_) (fun c4 => ?_)
  · skip
    exfalso; omega
  · skip
    refine w_aload rfl rfl (w_getLV rfl (by first | rfl | assumption) rfl (hu5) (w_aload rfl rfl (w_getIV rfl (by first | rfl | assumption) (by first | exact Or.inl rfl | exact Or.inr rfl) (m9) (w_i2l rfl (by first | assumption | exact i32_0 | (unfold i32 at *; omega)) (w_ldiv rfl (by first | assumption | exact i64_0 | (unfold i64 at *; omega)) (by first | assumption | exact i64_0 | (unfold i64 at *; omega)) (by first | decide | omega | assumption) (w_aload rfl rfl (w_getIV rfl (by first | rfl | assumption) (by first | exact Or.inl rfl | exact Or.inr rfl) (m8) ?_)))))))
    refine w_i2l rfl (by first | assumption | exact i32_0 | (unfold i32 at *; omega)) (w_lmul rfl (w_goto (tgt := 27) rfl rfl ?_))
    exact w_lreturn rfl ⟨by first | rfl | (congr 2; omega), by rfl⟩
def perR (u : Int) (R : List (Nat → Int)) (k : Int) (n : Nat) : Int := (R.take n).foldl (fun a e => if sideR e k = true then a + lenU u e else a) 0
theorem perR_snoc (u : Int) (R : List (Nat → Int)) (k : Int) (n : Nat) (h : n < R.length) : perR u R k (n + 1) = if sideR R[n] k = true then perR u R k n + lenU u R[n] else perR u R k n := by
  unfold perR; rw [take_snoc R n h, List.foldl_append]; rfl
theorem perR_le {m u : Nat} {k : Int} {R : List (Nat → Int)} (hok : rowsOK m R) (hu : u ≤ 720720) (hop : openR R k = false) : ∀ n, n ≤ R.length → 0 ≤ perR u R k n ∧ perR u R k n ≤ 4000000000000 * n
  | 0, _ => ⟨Int.le_refl _, Int.le_refl _⟩
  | n + 1, h => by
    have hn : n < R.length := by omega
    rw [perR_snoc _ R k n hn]
    have ih := perR_le (k := k) hok hu hop n (by omega)
    split
    · next q =>
      have h5 : R[n] 5 ≠ -1000000 := by
        intro z
        unfold openR at hop
        rw [List.any_eq_false] at hop
        have := hop R[n] (List.getElem_mem hn)
        rw [q, decide_eq_true z] at this
        exact this rfl
      have := lenU_le hu (hok R[n] (List.getElem_mem hn)) h5
      omega
    · omega
theorem e_perimeterOf {s t m u k : Nat} {R : List (Nat → Int)} {M : mM} (hs : isS s t) (hR : edgs s R M) (hok : rowsOK m R) (hu5 : M s 5 = (u : Int)) (hu : u ≤ 720720) (hk : k < 1000) (hop : openR R k = false) : E 2 110 [vR s, vI k] M (some (vL (perR u R k R.length))) M := by
  have hss := hs
  obtain ⟨⟨k0, k1, k2, k3, k4, k5⟩, ⟨kE, -, -⟩, -⟩ := hs
  have hl30 := hR.2.1
  have hR4 := hR.1
  refine e_in (ls := [vR s, vI k, vN, vN, vN]) mq_110 (ml_110 rfl) rfl fun D hD => ?_
  have loop : ∀ (z n : Nat), R.length - n = z → n ≤ R.length → Wp mc_110 D 5 [vR s, vI k, vL (perR u R k n), vN, vI n] [] M (fun r N => r = some (vL (perR u R k R.length)) ∧ N = M) := by
    intro z
    induction z with
    | zero =>
      intro n hz hn
      obtain rfl : n = R.length := by omega
      refine w_iload rfl rfl (w_aload rfl rfl (w_getIV rfl (by first | rfl | assumption) (by first | exact Or.inl rfl | exact Or.inr rfl) (hR4) ?_))
      refine w_icmp_ge (tgt := 58) rfl (by first | assumption | exact i32_0 | (unfold i32 at *; omega)) (by first | assumption | exact i32_0 | (unfold i32 at *; omega)) rfl (fun c11 => ?_) (fun c11 => ?_)
      · skip
        refine w_lload rfl rfl ?_
        exact w_lreturn rfl ⟨by first | rfl | (congr 2; omega), by rfl⟩
      · skip
        exfalso; omega
    | succ z ih =>
      intro n hz hn
      have hnl : n < R.length := by omega
      have hx := edgs_row hss (k := n) (by omega)
      have hxr := hx.1
      have hxe : cKB[s + 10 + n]? = some (0, 0) := hx.2
      have hr : R[n]? = some R[n] := List.getElem?_eq_getElem hnl
      have hE := hR.2.2 n _ hr
      have ho := hok R[n] (List.getElem_mem hnl)
      have ihn := ih (n + 1) (by omega) (by omega)
      rw [perR_snoc _ R k n hnl] at ihn
      have hpl := perR_le hok hu hop n hn
      have hany : sideR R[n] k = true → R[n] 5 ≠ -1000000 := by
        intro q z
        unfold openR at hop
        rw [List.any_eq_false] at hop
        have := hop R[n] (List.getElem_mem hnl)
        rw [q, decide_eq_true z] at this
        exact this rfl
      generalize R[n] = e at *
      cases q : sideR e k with
      | true =>
        rw [q, if_pos rfl] at ihn
        have hlo := e_lengthOf hss hx.2 hE hu5 hu ho (hany q)
        refine w_iload rfl rfl (w_aload rfl rfl (w_getIV rfl (by first | rfl | assumption) (by first | exact Or.inl rfl | exact Or.inr rfl) (hR4) ?_))
        refine w_icmp_ge (tgt := 58) rfl (by first | assumption | exact i32_0 | (unfold i32 at *; omega)) (by first | assumption | exact i32_0 | (unfold i32 at *; omega)) rfl (fun c11 => ?_) (fun c11 => ?_)
        · skip
          exfalso; omega
        · skip
          refine w_iload rfl rfl (w_aload rfl rfl (w_getR rfl (by first | rfl | assumption) rfl (by first | rfl | assumption | (rw [Int.toNat_natCast]; assumption)) (w_alen rfl (by first | rfl | assumption) (by decide) (by decide) ?_)))
          refine w_icmp_ge (tgt := 58) rfl (by first | assumption | exact i32_0 | (unfold i32 at *; omega)) (by first | assumption | exact i32_0 | (unfold i32 at *; omega)) rfl (fun c21 => ?_) (fun c21 => ?_)
          · skip
            exfalso; omega
          · skip
            refine w_aload rfl rfl (w_getR rfl (by first | rfl | assumption) rfl (by first | rfl | assumption | (rw [Int.toNat_natCast]; assumption)) (w_iload rfl rfl (w_aaload rfl (by first | rfl | assumption) (by first | exact Or.inl rfl | exact Or.inr rfl) (by omega) (by omega) (by first | rfl | assumption | (rw [Int.toNat_natCast]; assumption)) (w_iload rfl rfl ?_))))
            refine w_call (Or.inr rfl) (e_isSideOf1 hx.2 hE ho.1 hk q) (by omega) nof_108 rfl rfl rfl rfl (by first | rfl | (show cKB[_]? = _; assumption)) rfl ?_
            refine w_if_eq (tgt := 52) rfl (by first | assumption | exact i32_0 | (unfold i32 at *; omega)) rfl (fun c => absurd c (by decide)) (fun _ => ?_)
            refine w_lload rfl rfl (w_aload rfl rfl (w_aload rfl rfl (w_getR rfl (by first | rfl | assumption) rfl (by first | rfl | assumption | (rw [Int.toNat_natCast]; assumption)) (w_iload rfl rfl (w_aaload rfl (by first | rfl | assumption) (by first | exact Or.inl rfl | exact Or.inr rfl) (by omega) (by omega) (by first | rfl | assumption | (rw [Int.toNat_natCast]; assumption)) ?_)))))
            refine w_call (Or.inr rfl) (hlo) (by omega) nof_111 rfl rfl rfl rfl (by first | rfl | (show cKB[_]? = _; assumption)) rfl ?_
            refine w_ladd rfl (w_lstore (ls2 := [_, _, _, _, _]) rfl rfl rfl (w_iinc (ls2 := [_, _, _, _, _]) rfl rfl rfl (w_goto (tgt := 5) rfl rfl ?_)))
            exact ihn
      | false =>
        rw [q, if_neg (by decide)] at ihn
        refine w_iload rfl rfl (w_aload rfl rfl (w_getIV rfl (by first | rfl | assumption) (by first | exact Or.inl rfl | exact Or.inr rfl) (hR4) ?_))
        refine w_icmp_ge (tgt := 58) rfl (by first | assumption | exact i32_0 | (unfold i32 at *; omega)) (by first | assumption | exact i32_0 | (unfold i32 at *; omega)) rfl (fun c11 => ?_) (fun c11 => ?_)
        · skip
          exfalso; omega
        · skip
          refine w_iload rfl rfl (w_aload rfl rfl (w_getR rfl (by first | rfl | assumption) rfl (by first | rfl | assumption | (rw [Int.toNat_natCast]; assumption)) (w_alen rfl (by first | rfl | assumption) (by decide) (by decide) ?_)))
          refine w_icmp_ge (tgt := 58) rfl (by first | assumption | exact i32_0 | (unfold i32 at *; omega)) (by first | assumption | exact i32_0 | (unfold i32 at *; omega)) rfl (fun c21 => ?_) (fun c21 => ?_)
          · skip
            exfalso; omega
          · skip
            refine w_aload rfl rfl (w_getR rfl (by first | rfl | assumption) rfl (by first | rfl | assumption | (rw [Int.toNat_natCast]; assumption)) (w_iload rfl rfl (w_aaload rfl (by first | rfl | assumption) (by first | exact Or.inl rfl | exact Or.inr rfl) (by omega) (by omega) (by first | rfl | assumption | (rw [Int.toNat_natCast]; assumption)) (w_iload rfl rfl ?_))))
            refine w_call (Or.inr rfl) (e_isSideOf0 hx.2 hE ho.1 hk q) (by omega) nof_108 rfl rfl rfl rfl (by first | rfl | (show cKB[_]? = _; assumption)) rfl ?_
            refine w_if_eq (tgt := 52) rfl (by first | assumption | exact i32_0 | (unfold i32 at *; omega)) rfl (fun _ => ?_) (fun c => absurd c (by decide))
            refine w_iinc (ls2 := [_, _, _, _, _]) rfl rfl rfl (w_goto (tgt := 5) rfl rfl ?_)
            exact ihn
  have hgo := loop R.length 0 (Nat.sub_zero _) (Nat.zero_le _)
  refine w_lconst rfl (w_lstore (ls2 := [_, _, _, _, _]) rfl rfl rfl (w_iconst rfl (w_istore (ls2 := [_, _, _, _, _]) rfl rfl rfl ?_)))
  exact hgo
/-- numerator and denominator of so many units -/
theorem e_reduced {s t u : Nat} {x : Int} {M : mM} (hs : isS s t) (hu5 : M s 5 = (u : Int)) (hu : u ∣ 720720) (hx : 0 ≤ x ∧ x ≤ 9000000000000000000) (top : Bool) : E 3 112 [vR s, vL x, vI (if top = true then 1 else 0)] M (some (vL (if top = true then numP (x * (720720 / u : Nat)) else denP (x * (720720 / u : Nat))))) M := by
  obtain ⟨⟨k0, k1, k2, k3, k4, k5⟩, -, -⟩ := hs
  have hup : 0 < u := Nat.pos_of_dvd_of_pos hu (by decide)
  have hul := Nat.le_of_dvd (by decide) hu
  obtain ⟨n, rfl⟩ : ∃ n : Nat, x = (n : Int) := ⟨x.toNat, by omega⟩
  have hmod : (n : Int).tmod (u : Int) = ((n % u : Nat) : Int) := rfl
  have hml := Nat.mod_lt n hup
  have hdv := e_divisor ((n % u : Nat) : Int) (u : Int) M (by omega) (by omega)
  have hgc : gcd1 ((n % u : Nat) : Int) (u : Int) = Nat.gcd n u := by
    unfold gcd1
    rw [Int.natAbs_natCast, Int.natAbs_natCast]
    have e1 : Nat.gcd (n % u) u = Nat.gcd n u := by rw [← Nat.gcd_rec, Nat.gcd_comm]
    have e2 : 0 < Nat.gcd n u := Nat.gcd_pos_of_pos_right n hup
    rw [e1]; omega
  rw [hgc] at hdv
  have hgp : 0 < Nat.gcd n u := Nat.gcd_pos_of_pos_right n hup
  have hgl : Nat.gcd n u ≤ u := Nat.le_of_dvd hup (Nat.gcd_dvd_right n u)
  have hf := frac_num (x := (n : Int)) (d := (u : Int)) (t := ((720720 / u : Nat) : Int)) (by omega) (by have := Nat.div_pos hul hup; omega) (by rw [← Int.natCast_mul, Nat.mul_div_cancel' hu]; rfl)
  have hg1 : gcd1 (n : Int) (u : Int) = Nat.gcd n u := by
    unfold gcd1
    rw [Int.natAbs_natCast, Int.natAbs_natCast]; omega
  rw [hg1] at hf
  rw [hf.1, hf.2]
  refine e_in (ls := [vR s, vL n, vN, vI (if top = true then 1 else 0), vN, vN, vN]) mq_112 (ml_112 rfl) rfl fun D hD => ?_
  cases top with
  | true =>
    refine w_aload rfl rfl (w_getLV rfl (by first | rfl | assumption) rfl (hu5) (w_lconst rfl ?_))
    refine w_lcmp rfl (by first | assumption | exact i64_0 | (unfold i64 at *; omega)) (by first | assumption | exact i64_0 | (unfold i64 at *; omega)) (fun c5 => ?_) (fun c5 => ?_) (fun c5 => ?_)
    · exfalso; omega
    · skip
      refine w_if_le (tgt := 19) rfl (by first | assumption | exact i32_0 | (unfold i32 at *; omega)) rfl (fun c => absurd c (by decide)) (fun _ => ?_)
      refine w_lload rfl rfl (w_aload rfl rfl (w_getLV rfl (by first | rfl | assumption) rfl (hu5) (w_lrem rfl (by first | assumption | exact i64_0 | (unfold i64 at *; omega)) (by first | assumption | exact i64_0 | (unfold i64 at *; omega)) (by first | decide | omega | assumption) (w_l2i rfl (w_goto (tgt := 20) rfl rfl ?_)))))
      rw [hmod]
      refine w_istore (ls2 := [_, _, _, _, _, _, _]) rfl rfl rfl (w_iload rfl rfl (w_aload rfl rfl (w_getLV rfl (by first | rfl | assumption) rfl (hu5) (w_l2i rfl ?_))))
      refine w_call (Or.inl rfl) (hdv) (by omega) nof_78 rfl rfl rfl rfl trivial rfl ?_
      refine w_i2l rfl (by first | assumption | exact i32_0 | (unfold i32 at *; omega)) (w_lstore (ls2 := [_, _, _, _, _, _, _]) rfl rfl rfl (w_iload rfl rfl ?_))
      refine w_if_eq (tgt := 43) rfl (by first | assumption | exact i32_0 | (unfold i32 at *; omega)) rfl (fun c => absurd c (by decide)) (fun _ => ?_)
      refine w_lload rfl rfl (w_goto (tgt := 47) rfl rfl (w_lload rfl rfl (w_ldiv rfl (by first | assumption | exact i64_0 | (unfold i64 at *; omega)) (by first | assumption | exact i64_0 | (unfold i64 at *; omega)) (by first | decide | omega | assumption) ?_)))
      exact w_lreturn rfl ⟨by first | rfl | (congr 2; omega), by rfl⟩
    · exfalso; omega
  | false =>
    refine w_aload rfl rfl (w_getLV rfl (by first | rfl | assumption) rfl (hu5) (w_lconst rfl ?_))
    refine w_lcmp rfl (by first | assumption | exact i64_0 | (unfold i64 at *; omega)) (by first | assumption | exact i64_0 | (unfold i64 at *; omega)) (fun c5 => ?_) (fun c5 => ?_) (fun c5 => ?_)
    · exfalso; omega
    · skip
      refine w_if_le (tgt := 19) rfl (by first | assumption | exact i32_0 | (unfold i32 at *; omega)) rfl (fun c => absurd c (by decide)) (fun _ => ?_)
      refine w_lload rfl rfl (w_aload rfl rfl (w_getLV rfl (by first | rfl | assumption) rfl (hu5) (w_lrem rfl (by first | assumption | exact i64_0 | (unfold i64 at *; omega)) (by first | assumption | exact i64_0 | (unfold i64 at *; omega)) (by first | decide | omega | assumption) (w_l2i rfl (w_goto (tgt := 20) rfl rfl ?_)))))
      rw [hmod]
      refine w_istore (ls2 := [_, _, _, _, _, _, _]) rfl rfl rfl (w_iload rfl rfl (w_aload rfl rfl (w_getLV rfl (by first | rfl | assumption) rfl (hu5) (w_l2i rfl ?_))))
      refine w_call (Or.inl rfl) (hdv) (by omega) nof_78 rfl rfl rfl rfl trivial rfl ?_
      refine w_i2l rfl (by first | assumption | exact i32_0 | (unfold i32 at *; omega)) (w_lstore (ls2 := [_, _, _, _, _, _, _]) rfl rfl rfl (w_iload rfl rfl ?_))
      refine w_if_eq (tgt := 43) rfl (by first | assumption | exact i32_0 | (unfold i32 at *; omega)) rfl (fun _ => ?_) (fun c => absurd c (by decide))
      refine w_aload rfl rfl (w_getLV rfl (by first | rfl | assumption) rfl (hu5) (w_lload rfl rfl (w_ldiv rfl (by first | assumption | exact i64_0 | (unfold i64 at *; omega)) (by first | assumption | exact i64_0 | (unfold i64 at *; omega)) (by first | decide | omega | assumption) ?_)))
      exact w_lreturn rfl ⟨by first | rfl | (congr 2; omega), by rfl⟩
    · exfalso; omega
/-! ways: labels of the vertices: how far, and over how many edges -/
abbrev Lab := (Nat → Int) × (Nat → Int)
def rlx (a b : Nat) (l : Int) (X : Lab) : Lab := if 0 ≤ X.1 a ∧ (X.1 b < 0 ∨ X.1 a + l < X.1 b ∨ (X.1 a + l = X.1 b ∧ X.2 a + 1 < X.2 b)) then (sR X.1 b (X.1 a + l), sR X.2 b (X.2 a + 1)) else X
def rlxE (o : Option (Nat × Nat × Int)) (X : Lab) : Lab := match o with
  | none => X
  | some t => rlx t.2.1 t.1 t.2.2 (rlx t.1 t.2.1 t.2.2 X)
def rlxK (W : List (Option (Nat × Nat × Int))) (X : Lab) : Nat → Lab
  | 0 => X
  | n + 1 => rlxE ((W[n]?).getD none) (rlxK W X n)
def rlxI (W : List (Option (Nat × Nat × Int))) (X : Lab) : Nat → Lab
  | 0 => X
  | n + 1 => rlxK W (rlxI W X n) W.length
def lab0 (a : Nat) : Lab := (fun k => if k = a then 0 else -1, fun _ => 0)
def labOK (c : Nat) (X : Lab) : Prop := ∀ k, -1 ≤ X.1 k ∧ X.1 k ≤ c * 4000000000000 ∧ 0 ≤ X.2 k ∧ X.2 k ≤ c
theorem labOK_rlx {c a b : Nat} {l : Int} {X : Lab} (h : labOK c X) (hl : 0 ≤ l ∧ l ≤ 4000000000000) : labOK (c + 1) (rlx a b l X) := by
  intro k
  have h1 := h k
  have h2 := h a
  unfold rlx
  split
  · next q =>
    show -1 ≤ sR X.1 b (X.1 a + l) k ∧ sR X.1 b (X.1 a + l) k ≤ ((c + 1 : Nat) : Int) * 4000000000000 ∧ 0 ≤ sR X.2 b (X.2 a + 1) k ∧ sR X.2 b (X.2 a + 1) k ≤ ((c + 1 : Nat) : Int)
    unfold sR
    split
    · omega
    · omega
  · omega
def WayR (s : Nat) (X : Lab) (M : mM) : Prop := ∀ k, k < 16 → M (s + 8) k = X.1 k ∧ M (s + 9) k = X.2 k
theorem e_farTo {s t k : Nat} {X : Lab} {M : mM} (hs : isS s t) (h : WayR s X M) (hk : k < 16) : E 1 122 [vR s, vI k] M (some (vL (X.1 k))) M := by
  obtain ⟨⟨k0, k1, k2, k3, k4, k5⟩, ⟨kE, kF, kS⟩, -⟩ := hs
  have hx := (h k hk).1
  refine e_in (ls := [vR s, vI k]) mq_122 (ml_122 rfl) rfl fun D hD => ?_
  refine w_iload rfl rfl ?_
  refine w_if_lt (tgt := 22) rfl (by first | assumption | exact i32_0 | (unfold i32 at *; omega)) rfl (fun c1 => ?_) (fun c1 => ?_)
  · skip
    exfalso; omega
  · skip
    refine w_iload rfl rfl (w_aload rfl rfl (w_getR rfl (by first | rfl | assumption) rfl (by first | rfl | assumption) (w_alen rfl (by first | rfl | assumption) (by decide) (by decide) ?_)))
    refine w_icmp_ge (tgt := 22) rfl (by first | assumption | exact i32_0 | (unfold i32 at *; omega)) (by first | assumption | exact i32_0 | (unfold i32 at *; omega)) rfl (fun c10 => ?_) (fun c10 => ?_)
    · skip
      exfalso; omega
    · skip
      refine w_aload rfl rfl (w_getR rfl (by first | rfl | assumption) rfl (by first | rfl | assumption) (w_iload rfl rfl (w_laloadV rfl (by first | rfl | assumption) (by omega) (by omega) (hx) (w_goto (tgt := 25) rfl rfl ?_))))
      exact w_lreturn rfl ⟨by first | rfl | (congr 2; omega), by rfl⟩
theorem e_stepsTo {s t k : Nat} {X : Lab} {M : mM} (hs : isS s t) (h : WayR s X M) (hk : k < 16) : E 1 123 [vR s, vI k] M (some (vI (X.2 k))) M := by
  obtain ⟨⟨k0, k1, k2, k3, k4, k5⟩, ⟨kE, kF, kS⟩, -⟩ := hs
  have hx := (h k hk).2
  refine e_in (ls := [vR s, vI k]) mq_123 (ml_123 rfl) rfl fun D hD => ?_
  refine w_iload rfl rfl ?_
  refine w_if_lt (tgt := 22) rfl (by first | assumption | exact i32_0 | (unfold i32 at *; omega)) rfl (fun c1 => ?_) (fun c1 => ?_)
  · skip
    exfalso; omega
  · skip
    refine w_iload rfl rfl (w_aload rfl rfl (w_getR rfl (by first | rfl | assumption) rfl (by first | rfl | assumption) (w_alen rfl (by first | rfl | assumption) (by decide) (by decide) ?_)))
    refine w_icmp_ge (tgt := 22) rfl (by first | assumption | exact i32_0 | (unfold i32 at *; omega)) (by first | assumption | exact i32_0 | (unfold i32 at *; omega)) rfl (fun c10 => ?_) (fun c10 => ?_)
    · skip
      exfalso; omega
    · skip
      refine w_aload rfl rfl (w_getR rfl (by first | rfl | assumption) rfl (by first | rfl | assumption) (w_iload rfl rfl (w_ialoadV rfl (by first | rfl | assumption) (by omega) (by omega) (hx) (w_goto (tgt := 23) rfl rfl ?_))))
      exact w_ireturn rfl ⟨by first | rfl | (congr 2; omega), by rfl⟩
theorem WayR_upd {s b : Nat} {X : Lab} {M : mM} (h : WayR s X M) (v w : Int) : WayR s (sR X.1 b v, sR X.2 b w) (upI (upI M (s + 8) b v) (s + 9) b w) := by
  intro k hk
  show upI (upI M (s + 8) b v) (s + 9) b w (s + 8) k = sR X.1 b v k ∧ upI (upI M (s + 8) b v) (s + 9) b w (s + 9) k = sR X.2 b w k
  have := h k hk
  unfold upI sR
  by_cases q : k = b
  · refine ⟨?_, ?_⟩
    · rw [if_neg (by omega), if_pos ⟨rfl, q⟩, if_pos q]
    · rw [if_pos ⟨rfl, q⟩, if_pos q]
  · refine ⟨?_, ?_⟩
    · rw [if_neg (by omega), if_neg (by omega), if_neg q]; exact this.1
    · rw [if_neg (by omega), if_neg (by omega), if_neg q]; exact this.2
theorem e_shorten {s t a b c : Nat} {l : Int} {X : Lab} {M : mM} (hs : isS s t) (h : WayR s X M) (hX : labOK c X) (hc : c ≤ 2000) (ha : a < 16) (hb : b < 16) (hl : 0 ≤ l ∧ l ≤ 4000000000000) : EQ 2 121 [vR s, vI a, vI b, vL l] M (fun r N => r = none ∧ WayR s (rlx a b l X) N ∧ ∀ x k, (x ≠ s + 8 ∧ x ≠ s + 9) → N x k = M x k) := by
  have hss := hs
  obtain ⟨⟨k0, k1, k2, k3, k4, k5⟩, ⟨kE, kF, kS⟩, -⟩ := hs
  have hfa := e_farTo hss h ha
  have hst := e_stepsTo hss h ha
  have b1 := hX a
  have b2 := hX b
  have x1 := (h b hb).1
  have x2 := (h b hb).2
  have hup := WayR_upd (b := b) h (X.1 a + l) (X.2 a + 1)
  have hfr : ∀ x k, (x ≠ s + 8 ∧ x ≠ s + 9) → upI (upI M (s + 8) b (X.1 a + l)) (s + 9) b (X.2 a + 1) x k = M x k := fun x k q => by rw [upI_ne _ _ _ _ q.2, upI_ne _ _ _ _ q.1]
  refine q_in (ls := [vR s, vI a, vI b, vL l, vN, vN, vN, vN, vN]) mq_121 (ml_121 rfl) rfl fun D hD => ?_
  unfold rlx
  generalize X.1 a = fa at *
  generalize X.1 b = fb at *
  generalize X.2 a = sa at *
  generalize X.2 b = sb at *
  by_cases q1 : 0 ≤ fa
  · by_cases q2 : fb < 0 ∨ fa + l < fb ∨ (fa + l = fb ∧ sa + 1 < sb)
    · rw [if_pos ⟨q1, q2⟩]
      have yes : ∀ z : Int, Wp mc_121 D 109 [vR s, vI a, vI b, vL l, vN, vL (fa + l), vN, vI (sa + 1), vI z] [] M (fun r N => r = none ∧ WayR s (sR X.1 b (fa + l), sR X.2 b (sa + 1)) N ∧ ∀ x k, (x ≠ s + 8 ∧ x ≠ s + 9) → N x k = M x k) := by
        intro z
        refine w_aload rfl rfl (w_getR rfl (by first | rfl | assumption) rfl (by first | rfl | assumption) (w_iload rfl rfl (w_lload rfl rfl (w_lastore rfl (by first | rfl | assumption) (by omega) (by omega) (w_aload rfl rfl (w_getR rfl (by first | rfl | assumption) rfl (by first | rfl | assumption) (w_iload rfl rfl ?_)))))))
        refine w_iload rfl rfl (w_iastore rfl (by first | rfl | assumption) (by omega) (by omega) ?_)
        exact w_return rfl ⟨rfl, by exact ⟨hup, hfr⟩⟩
      have yes0 := yes 0
      have yes1 := yes 1
      refine w_aload rfl rfl (w_iload rfl rfl ?_)
      refine w_call (Or.inr rfl) (hfa) (by omega) nof_122 rfl rfl rfl rfl (by first | rfl | (show cKB[_]? = _; assumption)) rfl ?_
      refine w_lconst rfl ?_
      refine w_lcmp rfl (by first | assumption | exact i64_0 | (unfold i64 at *; omega)) (by first | assumption | exact i64_0 | (unfold i64 at *; omega)) (fun c6 => ?_) (fun c6 => ?_) (fun c6 => ?_)
      · skip
        refine w_if_lt (tgt := 32) rfl (by first | assumption | exact i32_0 | (unfold i32 at *; omega)) rfl (fun _ => ?_) (fun c => absurd c (by decide))
        exfalso; omega
      · skip
        refine w_if_lt (tgt := 32) rfl (by first | assumption | exact i32_0 | (unfold i32 at *; omega)) rfl (fun c => absurd c (by decide)) (fun _ => ?_)
        refine w_iload rfl rfl ?_
        refine w_if_lt (tgt := 32) rfl (by first | assumption | exact i32_0 | (unfold i32 at *; omega)) rfl (fun c11 => ?_) (fun c11 => ?_)
        · skip
          exfalso; omega
        · skip
          refine w_iload rfl rfl (w_aload rfl rfl (w_getR rfl (by first | rfl | assumption) rfl (by first | rfl | assumption) (w_alen rfl (by first | rfl | assumption) (by decide) (by decide) ?_)))
          refine w_icmp_ge (tgt := 32) rfl (by first | assumption | exact i32_0 | (unfold i32 at *; omega)) (by first | assumption | exact i32_0 | (unfold i32 at *; omega)) rfl (fun c20 => ?_) (fun c20 => ?_)
          · skip
            exfalso; omega
          · skip
            refine w_iload rfl rfl (w_aload rfl rfl (w_getR rfl (by first | rfl | assumption) rfl (by first | rfl | assumption) (w_alen rfl (by first | rfl | assumption) (by decide) (by decide) ?_)))
            refine w_icmp_lt (tgt := 33) rfl (by first | assumption | exact i32_0 | (unfold i32 at *; omega)) (by first | assumption | exact i32_0 | (unfold i32 at *; omega)) rfl (fun c29 => ?_) (fun c29 => ?_)
            · skip
              refine w_aload rfl rfl (w_iload rfl rfl ?_)
              refine w_call (Or.inr rfl) (hfa) (by omega) nof_122 rfl rfl rfl rfl (by first | rfl | (show cKB[_]? = _; assumption)) rfl ?_
              refine w_lload rfl rfl (w_ladd rfl (w_lstore (ls2 := [_, _, _, _, _, _, _, _, _]) rfl rfl rfl (w_aload rfl rfl (w_iload rfl rfl ?_))))
              refine w_call (Or.inr rfl) (hst) (by omega) nof_123 rfl rfl rfl rfl (by first | rfl | (show cKB[_]? = _; assumption)) rfl ?_
              refine w_iconst rfl (w_iadd rfl (w_istore (ls2 := [_, _, _, _, _, _, _, _, _]) rfl rfl rfl (w_aload rfl rfl (w_getR rfl (by first | rfl | assumption) rfl (by first | rfl | assumption) (w_iload rfl rfl (w_laloadV rfl (by first | rfl | assumption) (by omega) (by omega) (x1) (w_lconst rfl ?_)))))))
              refine w_lcmp rfl (by first | assumption | exact i64_0 | (unfold i64 at *; omega)) (by first | assumption | exact i64_0 | (unfold i64 at *; omega)) (fun c58 => ?_) (fun c58 => ?_) (fun c58 => ?_)
              · skip
                refine w_if_lt (tgt := 74) rfl (by first | assumption | exact i32_0 | (unfold i32 at *; omega)) rfl (fun _ => ?_) (fun c => absurd c (by decide))
                refine w_iconst rfl (w_goto (tgt := 79) rfl rfl (w_istore (ls2 := [_, _, _, _, _, _, _, _, _]) rfl rfl rfl (w_iload rfl rfl ?_)))
                refine w_if_ne (tgt := 109) rfl (by first | assumption | exact i32_0 | (unfold i32 at *; omega)) rfl (fun c83 => ?_) (fun c83 => ?_)
                · skip
                  first | exact yes0 | exact yes1
                · skip
                  refine w_lload rfl rfl (w_aload rfl rfl (w_getR rfl (by first | rfl | assumption) rfl (by first | rfl | assumption) (w_iload rfl rfl (w_laloadV rfl (by first | rfl | assumption) (by omega) (by omega) (x1) ?_))))
                  refine w_lcmp rfl (by first | assumption | exact i64_0 | (unfold i64 at *; omega)) (by first | assumption | exact i64_0 | (unfold i64 at *; omega)) (fun c94 => ?_) (fun c94 => ?_) (fun c94 => ?_)
                  · skip
                    refine w_if_ne (tgt := 125) rfl (by first | assumption | exact i32_0 | (unfold i32 at *; omega)) rfl (fun _ => ?_) (fun c => absurd c (by decide))
                    exfalso; omega
                  · skip
                    refine w_if_ne (tgt := 125) rfl (by first | assumption | exact i32_0 | (unfold i32 at *; omega)) rfl (fun _ => ?_) (fun c => absurd c (by decide))
                    exfalso; omega
                  · skip
                    refine w_if_ne (tgt := 125) rfl (by first | assumption | exact i32_0 | (unfold i32 at *; omega)) rfl (fun c => absurd c (by decide)) (fun _ => ?_)
                    refine w_iload rfl rfl (w_aload rfl rfl (w_getR rfl (by first | rfl | assumption) rfl (by first | rfl | assumption) (w_iload rfl rfl (w_ialoadV rfl (by first | rfl | assumption) (by omega) (by omega) (x2) ?_))))
                    refine w_icmp_ge (tgt := 125) rfl (by first | assumption | exact i32_0 | (unfold i32 at *; omega)) (by first | assumption | exact i32_0 | (unfold i32 at *; omega)) rfl (fun c106 => ?_) (fun c106 => ?_)
                    · skip
                      exfalso; omega
                    · skip
                      first | exact yes0 | exact yes1
              · skip
                refine w_if_lt (tgt := 74) rfl (by first | assumption | exact i32_0 | (unfold i32 at *; omega)) rfl (fun c => absurd c (by decide)) (fun _ => ?_)
                refine w_lload rfl rfl (w_aload rfl rfl (w_getR rfl (by first | rfl | assumption) rfl (by first | rfl | assumption) (w_iload rfl rfl (w_laloadV rfl (by first | rfl | assumption) (by omega) (by omega) (x1) ?_))))
                refine w_lcmp rfl (by first | assumption | exact i64_0 | (unfold i64 at *; omega)) (by first | assumption | exact i64_0 | (unfold i64 at *; omega)) (fun c70 => ?_) (fun c70 => ?_) (fun c70 => ?_)
                · skip
                  refine w_if_ge (tgt := 78) rfl (by first | assumption | exact i32_0 | (unfold i32 at *; omega)) rfl (fun c => absurd c (by decide)) (fun _ => ?_)
                  refine w_iconst rfl (w_goto (tgt := 79) rfl rfl (w_istore (ls2 := [_, _, _, _, _, _, _, _, _]) rfl rfl rfl (w_iload rfl rfl ?_)))
                  refine w_if_ne (tgt := 109) rfl (by first | assumption | exact i32_0 | (unfold i32 at *; omega)) rfl (fun c83 => ?_) (fun c83 => ?_)
                  · skip
                    first | exact yes0 | exact yes1
                  · skip
                    refine w_lload rfl rfl (w_aload rfl rfl (w_getR rfl (by first | rfl | assumption) rfl (by first | rfl | assumption) (w_iload rfl rfl (w_laloadV rfl (by first | rfl | assumption) (by omega) (by omega) (x1) ?_))))
                    refine w_lcmp rfl (by first | assumption | exact i64_0 | (unfold i64 at *; omega)) (by first | assumption | exact i64_0 | (unfold i64 at *; omega)) (fun c94 => ?_) (fun c94 => ?_) (fun c94 => ?_)
                    · skip
                      refine w_if_ne (tgt := 125) rfl (by first | assumption | exact i32_0 | (unfold i32 at *; omega)) rfl (fun _ => ?_) (fun c => absurd c (by decide))
                      exfalso; omega
                    · skip
                      refine w_if_ne (tgt := 125) rfl (by first | assumption | exact i32_0 | (unfold i32 at *; omega)) rfl (fun _ => ?_) (fun c => absurd c (by decide))
                      exfalso; omega
                    · skip
                      refine w_if_ne (tgt := 125) rfl (by first | assumption | exact i32_0 | (unfold i32 at *; omega)) rfl (fun c => absurd c (by decide)) (fun _ => ?_)
                      refine w_iload rfl rfl (w_aload rfl rfl (w_getR rfl (by first | rfl | assumption) rfl (by first | rfl | assumption) (w_iload rfl rfl (w_ialoadV rfl (by first | rfl | assumption) (by omega) (by omega) (x2) ?_))))
                      refine w_icmp_ge (tgt := 125) rfl (by first | assumption | exact i32_0 | (unfold i32 at *; omega)) (by first | assumption | exact i32_0 | (unfold i32 at *; omega)) rfl (fun c106 => ?_) (fun c106 => ?_)
                      · skip
                        exfalso; omega
                      · skip
                        first | exact yes0 | exact yes1
                · skip
                  refine w_if_ge (tgt := 78) rfl (by first | assumption | exact i32_0 | (unfold i32 at *; omega)) rfl (fun _ => ?_) (fun c => absurd c (by decide))
                  refine w_iconst rfl (w_istore (ls2 := [_, _, _, _, _, _, _, _, _]) rfl rfl rfl (w_iload rfl rfl ?_))
                  refine w_if_ne (tgt := 109) rfl (by first | assumption | exact i32_0 | (unfold i32 at *; omega)) rfl (fun c83 => ?_) (fun c83 => ?_)
                  · skip
                    first | exact yes0 | exact yes1
                  · skip
                    refine w_lload rfl rfl (w_aload rfl rfl (w_getR rfl (by first | rfl | assumption) rfl (by first | rfl | assumption) (w_iload rfl rfl (w_laloadV rfl (by first | rfl | assumption) (by omega) (by omega) (x1) ?_))))
                    refine w_lcmp rfl (by first | assumption | exact i64_0 | (unfold i64 at *; omega)) (by first | assumption | exact i64_0 | (unfold i64 at *; omega)) (fun c94 => ?_) (fun c94 => ?_) (fun c94 => ?_)
                    · skip
                      refine w_if_ne (tgt := 125) rfl (by first | assumption | exact i32_0 | (unfold i32 at *; omega)) rfl (fun _ => ?_) (fun c => absurd c (by decide))
                      exfalso; omega
                    · skip
                      refine w_if_ne (tgt := 125) rfl (by first | assumption | exact i32_0 | (unfold i32 at *; omega)) rfl (fun _ => ?_) (fun c => absurd c (by decide))
                      exfalso; omega
                    · skip
                      refine w_if_ne (tgt := 125) rfl (by first | assumption | exact i32_0 | (unfold i32 at *; omega)) rfl (fun c => absurd c (by decide)) (fun _ => ?_)
                      refine w_iload rfl rfl (w_aload rfl rfl (w_getR rfl (by first | rfl | assumption) rfl (by first | rfl | assumption) (w_iload rfl rfl (w_ialoadV rfl (by first | rfl | assumption) (by omega) (by omega) (x2) ?_))))
                      refine w_icmp_ge (tgt := 125) rfl (by first | assumption | exact i32_0 | (unfold i32 at *; omega)) (by first | assumption | exact i32_0 | (unfold i32 at *; omega)) rfl (fun c106 => ?_) (fun c106 => ?_)
                      · skip
                        exfalso; omega
                      · skip
                        first | exact yes0 | exact yes1
                · skip
                  refine w_if_ge (tgt := 78) rfl (by first | assumption | exact i32_0 | (unfold i32 at *; omega)) rfl (fun _ => ?_) (fun c => absurd c (by decide))
                  refine w_iconst rfl (w_istore (ls2 := [_, _, _, _, _, _, _, _, _]) rfl rfl rfl (w_iload rfl rfl ?_))
                  refine w_if_ne (tgt := 109) rfl (by first | assumption | exact i32_0 | (unfold i32 at *; omega)) rfl (fun c83 => ?_) (fun c83 => ?_)
                  · skip
                    first | exact yes0 | exact yes1
                  · skip
                    refine w_lload rfl rfl (w_aload rfl rfl (w_getR rfl (by first | rfl | assumption) rfl (by first | rfl | assumption) (w_iload rfl rfl (w_laloadV rfl (by first | rfl | assumption) (by omega) (by omega) (x1) ?_))))
                    refine w_lcmp rfl (by first | assumption | exact i64_0 | (unfold i64 at *; omega)) (by first | assumption | exact i64_0 | (unfold i64 at *; omega)) (fun c94 => ?_) (fun c94 => ?_) (fun c94 => ?_)
                    · skip
                      refine w_if_ne (tgt := 125) rfl (by first | assumption | exact i32_0 | (unfold i32 at *; omega)) rfl (fun _ => ?_) (fun c => absurd c (by decide))
                      exfalso; omega
                    · skip
                      refine w_if_ne (tgt := 125) rfl (by first | assumption | exact i32_0 | (unfold i32 at *; omega)) rfl (fun _ => ?_) (fun c => absurd c (by decide))
                      exfalso; omega
                    · skip
                      refine w_if_ne (tgt := 125) rfl (by first | assumption | exact i32_0 | (unfold i32 at *; omega)) rfl (fun c => absurd c (by decide)) (fun _ => ?_)
                      refine w_iload rfl rfl (w_aload rfl rfl (w_getR rfl (by first | rfl | assumption) rfl (by first | rfl | assumption) (w_iload rfl rfl (w_ialoadV rfl (by first | rfl | assumption) (by omega) (by omega) (x2) ?_))))
                      refine w_icmp_ge (tgt := 125) rfl (by first | assumption | exact i32_0 | (unfold i32 at *; omega)) (by first | assumption | exact i32_0 | (unfold i32 at *; omega)) rfl (fun c106 => ?_) (fun c106 => ?_)
                      · skip
                        exfalso; omega
                      · skip
                        first | exact yes0 | exact yes1
              · skip
                refine w_if_lt (tgt := 74) rfl (by first | assumption | exact i32_0 | (unfold i32 at *; omega)) rfl (fun c => absurd c (by decide)) (fun _ => ?_)
                refine w_lload rfl rfl (w_aload rfl rfl (w_getR rfl (by first | rfl | assumption) rfl (by first | rfl | assumption) (w_iload rfl rfl (w_laloadV rfl (by first | rfl | assumption) (by omega) (by omega) (x1) ?_))))
                refine w_lcmp rfl (by first | assumption | exact i64_0 | (unfold i64 at *; omega)) (by first | assumption | exact i64_0 | (unfold i64 at *; omega)) (fun c70 => ?_) (fun c70 => ?_) (fun c70 => ?_)
                · skip
                  refine w_if_ge (tgt := 78) rfl (by first | assumption | exact i32_0 | (unfold i32 at *; omega)) rfl (fun c => absurd c (by decide)) (fun _ => ?_)
                  refine w_iconst rfl (w_goto (tgt := 79) rfl rfl (w_istore (ls2 := [_, _, _, _, _, _, _, _, _]) rfl rfl rfl (w_iload rfl rfl ?_)))
                  refine w_if_ne (tgt := 109) rfl (by first | assumption | exact i32_0 | (unfold i32 at *; omega)) rfl (fun c83 => ?_) (fun c83 => ?_)
                  · skip
                    first | exact yes0 | exact yes1
                  · skip
                    refine w_lload rfl rfl (w_aload rfl rfl (w_getR rfl (by first | rfl | assumption) rfl (by first | rfl | assumption) (w_iload rfl rfl (w_laloadV rfl (by first | rfl | assumption) (by omega) (by omega) (x1) ?_))))
                    refine w_lcmp rfl (by first | assumption | exact i64_0 | (unfold i64 at *; omega)) (by first | assumption | exact i64_0 | (unfold i64 at *; omega)) (fun c94 => ?_) (fun c94 => ?_) (fun c94 => ?_)
                    · skip
                      refine w_if_ne (tgt := 125) rfl (by first | assumption | exact i32_0 | (unfold i32 at *; omega)) rfl (fun _ => ?_) (fun c => absurd c (by decide))
                      exfalso; omega
                    · skip
                      refine w_if_ne (tgt := 125) rfl (by first | assumption | exact i32_0 | (unfold i32 at *; omega)) rfl (fun _ => ?_) (fun c => absurd c (by decide))
                      exfalso; omega
                    · skip
                      refine w_if_ne (tgt := 125) rfl (by first | assumption | exact i32_0 | (unfold i32 at *; omega)) rfl (fun c => absurd c (by decide)) (fun _ => ?_)
                      refine w_iload rfl rfl (w_aload rfl rfl (w_getR rfl (by first | rfl | assumption) rfl (by first | rfl | assumption) (w_iload rfl rfl (w_ialoadV rfl (by first | rfl | assumption) (by omega) (by omega) (x2) ?_))))
                      refine w_icmp_ge (tgt := 125) rfl (by first | assumption | exact i32_0 | (unfold i32 at *; omega)) (by first | assumption | exact i32_0 | (unfold i32 at *; omega)) rfl (fun c106 => ?_) (fun c106 => ?_)
                      · skip
                        exfalso; omega
                      · skip
                        first | exact yes0 | exact yes1
                · skip
                  refine w_if_ge (tgt := 78) rfl (by first | assumption | exact i32_0 | (unfold i32 at *; omega)) rfl (fun _ => ?_) (fun c => absurd c (by decide))
                  refine w_iconst rfl (w_istore (ls2 := [_, _, _, _, _, _, _, _, _]) rfl rfl rfl (w_iload rfl rfl ?_))
                  refine w_if_ne (tgt := 109) rfl (by first | assumption | exact i32_0 | (unfold i32 at *; omega)) rfl (fun c83 => ?_) (fun c83 => ?_)
                  · skip
                    first | exact yes0 | exact yes1
                  · skip
                    refine w_lload rfl rfl (w_aload rfl rfl (w_getR rfl (by first | rfl | assumption) rfl (by first | rfl | assumption) (w_iload rfl rfl (w_laloadV rfl (by first | rfl | assumption) (by omega) (by omega) (x1) ?_))))
                    refine w_lcmp rfl (by first | assumption | exact i64_0 | (unfold i64 at *; omega)) (by first | assumption | exact i64_0 | (unfold i64 at *; omega)) (fun c94 => ?_) (fun c94 => ?_) (fun c94 => ?_)
                    · skip
                      refine w_if_ne (tgt := 125) rfl (by first | assumption | exact i32_0 | (unfold i32 at *; omega)) rfl (fun _ => ?_) (fun c => absurd c (by decide))
                      exfalso; omega
                    · skip
                      refine w_if_ne (tgt := 125) rfl (by first | assumption | exact i32_0 | (unfold i32 at *; omega)) rfl (fun _ => ?_) (fun c => absurd c (by decide))
                      exfalso; omega
                    · skip
                      refine w_if_ne (tgt := 125) rfl (by first | assumption | exact i32_0 | (unfold i32 at *; omega)) rfl (fun c => absurd c (by decide)) (fun _ => ?_)
                      refine w_iload rfl rfl (w_aload rfl rfl (w_getR rfl (by first | rfl | assumption) rfl (by first | rfl | assumption) (w_iload rfl rfl (w_ialoadV rfl (by first | rfl | assumption) (by omega) (by omega) (x2) ?_))))
                      refine w_icmp_ge (tgt := 125) rfl (by first | assumption | exact i32_0 | (unfold i32 at *; omega)) (by first | assumption | exact i32_0 | (unfold i32 at *; omega)) rfl (fun c106 => ?_) (fun c106 => ?_)
                      · skip
                        exfalso; omega
                      · skip
                        first | exact yes0 | exact yes1
                · skip
                  refine w_if_ge (tgt := 78) rfl (by first | assumption | exact i32_0 | (unfold i32 at *; omega)) rfl (fun _ => ?_) (fun c => absurd c (by decide))
                  refine w_iconst rfl (w_istore (ls2 := [_, _, _, _, _, _, _, _, _]) rfl rfl rfl (w_iload rfl rfl ?_))
                  refine w_if_ne (tgt := 109) rfl (by first | assumption | exact i32_0 | (unfold i32 at *; omega)) rfl (fun c83 => ?_) (fun c83 => ?_)
                  · skip
                    first | exact yes0 | exact yes1
                  · skip
                    refine w_lload rfl rfl (w_aload rfl rfl (w_getR rfl (by first | rfl | assumption) rfl (by first | rfl | assumption) (w_iload rfl rfl (w_laloadV rfl (by first | rfl | assumption) (by omega) (by omega) (x1) ?_))))
                    refine w_lcmp rfl (by first | assumption | exact i64_0 | (unfold i64 at *; omega)) (by first | assumption | exact i64_0 | (unfold i64 at *; omega)) (fun c94 => ?_) (fun c94 => ?_) (fun c94 => ?_)
                    · skip
                      refine w_if_ne (tgt := 125) rfl (by first | assumption | exact i32_0 | (unfold i32 at *; omega)) rfl (fun _ => ?_) (fun c => absurd c (by decide))
                      exfalso; omega
                    · skip
                      refine w_if_ne (tgt := 125) rfl (by first | assumption | exact i32_0 | (unfold i32 at *; omega)) rfl (fun _ => ?_) (fun c => absurd c (by decide))
                      exfalso; omega
                    · skip
                      refine w_if_ne (tgt := 125) rfl (by first | assumption | exact i32_0 | (unfold i32 at *; omega)) rfl (fun c => absurd c (by decide)) (fun _ => ?_)
                      refine w_iload rfl rfl (w_aload rfl rfl (w_getR rfl (by first | rfl | assumption) rfl (by first | rfl | assumption) (w_iload rfl rfl (w_ialoadV rfl (by first | rfl | assumption) (by omega) (by omega) (x2) ?_))))
                      refine w_icmp_ge (tgt := 125) rfl (by first | assumption | exact i32_0 | (unfold i32 at *; omega)) (by first | assumption | exact i32_0 | (unfold i32 at *; omega)) rfl (fun c106 => ?_) (fun c106 => ?_)
                      · skip
                        exfalso; omega
                      · skip
                        first | exact yes0 | exact yes1
            · skip
              exfalso; omega
      · skip
        refine w_if_lt (tgt := 32) rfl (by first | assumption | exact i32_0 | (unfold i32 at *; omega)) rfl (fun c => absurd c (by decide)) (fun _ => ?_)
        refine w_iload rfl rfl ?_
        refine w_if_lt (tgt := 32) rfl (by first | assumption | exact i32_0 | (unfold i32 at *; omega)) rfl (fun c11 => ?_) (fun c11 => ?_)
        · skip
          exfalso; omega
        · skip
          refine w_iload rfl rfl (w_aload rfl rfl (w_getR rfl (by first | rfl | assumption) rfl (by first | rfl | assumption) (w_alen rfl (by first | rfl | assumption) (by decide) (by decide) ?_)))
          refine w_icmp_ge (tgt := 32) rfl (by first | assumption | exact i32_0 | (unfold i32 at *; omega)) (by first | assumption | exact i32_0 | (unfold i32 at *; omega)) rfl (fun c20 => ?_) (fun c20 => ?_)
          · skip
            exfalso; omega
          · skip
            refine w_iload rfl rfl (w_aload rfl rfl (w_getR rfl (by first | rfl | assumption) rfl (by first | rfl | assumption) (w_alen rfl (by first | rfl | assumption) (by decide) (by decide) ?_)))
            refine w_icmp_lt (tgt := 33) rfl (by first | assumption | exact i32_0 | (unfold i32 at *; omega)) (by first | assumption | exact i32_0 | (unfold i32 at *; omega)) rfl (fun c29 => ?_) (fun c29 => ?_)
            · skip
              refine w_aload rfl rfl (w_iload rfl rfl ?_)
              refine w_call (Or.inr rfl) (hfa) (by omega) nof_122 rfl rfl rfl rfl (by first | rfl | (show cKB[_]? = _; assumption)) rfl ?_
              refine w_lload rfl rfl (w_ladd rfl (w_lstore (ls2 := [_, _, _, _, _, _, _, _, _]) rfl rfl rfl (w_aload rfl rfl (w_iload rfl rfl ?_))))
              refine w_call (Or.inr rfl) (hst) (by omega) nof_123 rfl rfl rfl rfl (by first | rfl | (show cKB[_]? = _; assumption)) rfl ?_
              refine w_iconst rfl (w_iadd rfl (w_istore (ls2 := [_, _, _, _, _, _, _, _, _]) rfl rfl rfl (w_aload rfl rfl (w_getR rfl (by first | rfl | assumption) rfl (by first | rfl | assumption) (w_iload rfl rfl (w_laloadV rfl (by first | rfl | assumption) (by omega) (by omega) (x1) (w_lconst rfl ?_)))))))
              refine w_lcmp rfl (by first | assumption | exact i64_0 | (unfold i64 at *; omega)) (by first | assumption | exact i64_0 | (unfold i64 at *; omega)) (fun c58 => ?_) (fun c58 => ?_) (fun c58 => ?_)
              · skip
                refine w_if_lt (tgt := 74) rfl (by first | assumption | exact i32_0 | (unfold i32 at *; omega)) rfl (fun _ => ?_) (fun c => absurd c (by decide))
                refine w_iconst rfl (w_goto (tgt := 79) rfl rfl (w_istore (ls2 := [_, _, _, _, _, _, _, _, _]) rfl rfl rfl (w_iload rfl rfl ?_)))
                refine w_if_ne (tgt := 109) rfl (by first | assumption | exact i32_0 | (unfold i32 at *; omega)) rfl (fun c83 => ?_) (fun c83 => ?_)
                · skip
                  first | exact yes0 | exact yes1
                · skip
                  refine w_lload rfl rfl (w_aload rfl rfl (w_getR rfl (by first | rfl | assumption) rfl (by first | rfl | assumption) (w_iload rfl rfl (w_laloadV rfl (by first | rfl | assumption) (by omega) (by omega) (x1) ?_))))
                  refine w_lcmp rfl (by first | assumption | exact i64_0 | (unfold i64 at *; omega)) (by first | assumption | exact i64_0 | (unfold i64 at *; omega)) (fun c94 => ?_) (fun c94 => ?_) (fun c94 => ?_)
                  · skip
                    refine w_if_ne (tgt := 125) rfl (by first | assumption | exact i32_0 | (unfold i32 at *; omega)) rfl (fun _ => ?_) (fun c => absurd c (by decide))
                    exfalso; omega
                  · skip
                    refine w_if_ne (tgt := 125) rfl (by first | assumption | exact i32_0 | (unfold i32 at *; omega)) rfl (fun _ => ?_) (fun c => absurd c (by decide))
                    exfalso; omega
                  · skip
                    refine w_if_ne (tgt := 125) rfl (by first | assumption | exact i32_0 | (unfold i32 at *; omega)) rfl (fun c => absurd c (by decide)) (fun _ => ?_)
                    refine w_iload rfl rfl (w_aload rfl rfl (w_getR rfl (by first | rfl | assumption) rfl (by first | rfl | assumption) (w_iload rfl rfl (w_ialoadV rfl (by first | rfl | assumption) (by omega) (by omega) (x2) ?_))))
                    refine w_icmp_ge (tgt := 125) rfl (by first | assumption | exact i32_0 | (unfold i32 at *; omega)) (by first | assumption | exact i32_0 | (unfold i32 at *; omega)) rfl (fun c106 => ?_) (fun c106 => ?_)
                    · skip
                      exfalso; omega
                    · skip
                      first | exact yes0 | exact yes1
              · skip
                refine w_if_lt (tgt := 74) rfl (by first | assumption | exact i32_0 | (unfold i32 at *; omega)) rfl (fun c => absurd c (by decide)) (fun _ => ?_)
                refine w_lload rfl rfl (w_aload rfl rfl (w_getR rfl (by first | rfl | assumption) rfl (by first | rfl | assumption) (w_iload rfl rfl (w_laloadV rfl (by first | rfl | assumption) (by omega) (by omega) (x1) ?_))))
                refine w_lcmp rfl (by first | assumption | exact i64_0 | (unfold i64 at *; omega)) (by first | assumption | exact i64_0 | (unfold i64 at *; omega)) (fun c70 => ?_) (fun c70 => ?_) (fun c70 => ?_)
                · skip
                  refine w_if_ge (tgt := 78) rfl (by first | assumption | exact i32_0 | (unfold i32 at *; omega)) rfl (fun c => absurd c (by decide)) (fun _ => ?_)
                  refine w_iconst rfl (w_goto (tgt := 79) rfl rfl (w_istore (ls2 := [_, _, _, _, _, _, _, _, _]) rfl rfl rfl (w_iload rfl rfl ?_)))
                  refine w_if_ne (tgt := 109) rfl (by first | assumption | exact i32_0 | (unfold i32 at *; omega)) rfl (fun c83 => ?_) (fun c83 => ?_)
                  · skip
                    first | exact yes0 | exact yes1
                  · skip
                    refine w_lload rfl rfl (w_aload rfl rfl (w_getR rfl (by first | rfl | assumption) rfl (by first | rfl | assumption) (w_iload rfl rfl (w_laloadV rfl (by first | rfl | assumption) (by omega) (by omega) (x1) ?_))))
                    refine w_lcmp rfl (by first | assumption | exact i64_0 | (unfold i64 at *; omega)) (by first | assumption | exact i64_0 | (unfold i64 at *; omega)) (fun c94 => ?_) (fun c94 => ?_) (fun c94 => ?_)
                    · skip
                      refine w_if_ne (tgt := 125) rfl (by first | assumption | exact i32_0 | (unfold i32 at *; omega)) rfl (fun _ => ?_) (fun c => absurd c (by decide))
                      exfalso; omega
                    · skip
                      refine w_if_ne (tgt := 125) rfl (by first | assumption | exact i32_0 | (unfold i32 at *; omega)) rfl (fun _ => ?_) (fun c => absurd c (by decide))
                      exfalso; omega
                    · skip
                      refine w_if_ne (tgt := 125) rfl (by first | assumption | exact i32_0 | (unfold i32 at *; omega)) rfl (fun c => absurd c (by decide)) (fun _ => ?_)
                      refine w_iload rfl rfl (w_aload rfl rfl (w_getR rfl (by first | rfl | assumption) rfl (by first | rfl | assumption) (w_iload rfl rfl (w_ialoadV rfl (by first | rfl | assumption) (by omega) (by omega) (x2) ?_))))
                      refine w_icmp_ge (tgt := 125) rfl (by first | assumption | exact i32_0 | (unfold i32 at *; omega)) (by first | assumption | exact i32_0 | (unfold i32 at *; omega)) rfl (fun c106 => ?_) (fun c106 => ?_)
                      · skip
                        exfalso; omega
                      · skip
                        first | exact yes0 | exact yes1
                · skip
                  refine w_if_ge (tgt := 78) rfl (by first | assumption | exact i32_0 | (unfold i32 at *; omega)) rfl (fun _ => ?_) (fun c => absurd c (by decide))
                  refine w_iconst rfl (w_istore (ls2 := [_, _, _, _, _, _, _, _, _]) rfl rfl rfl (w_iload rfl rfl ?_))
                  refine w_if_ne (tgt := 109) rfl (by first | assumption | exact i32_0 | (unfold i32 at *; omega)) rfl (fun c83 => ?_) (fun c83 => ?_)
                  · skip
                    first | exact yes0 | exact yes1
                  · skip
                    refine w_lload rfl rfl (w_aload rfl rfl (w_getR rfl (by first | rfl | assumption) rfl (by first | rfl | assumption) (w_iload rfl rfl (w_laloadV rfl (by first | rfl | assumption) (by omega) (by omega) (x1) ?_))))
                    refine w_lcmp rfl (by first | assumption | exact i64_0 | (unfold i64 at *; omega)) (by first | assumption | exact i64_0 | (unfold i64 at *; omega)) (fun c94 => ?_) (fun c94 => ?_) (fun c94 => ?_)
                    · skip
                      refine w_if_ne (tgt := 125) rfl (by first | assumption | exact i32_0 | (unfold i32 at *; omega)) rfl (fun _ => ?_) (fun c => absurd c (by decide))
                      exfalso; omega
                    · skip
                      refine w_if_ne (tgt := 125) rfl (by first | assumption | exact i32_0 | (unfold i32 at *; omega)) rfl (fun _ => ?_) (fun c => absurd c (by decide))
                      exfalso; omega
                    · skip
                      refine w_if_ne (tgt := 125) rfl (by first | assumption | exact i32_0 | (unfold i32 at *; omega)) rfl (fun c => absurd c (by decide)) (fun _ => ?_)
                      refine w_iload rfl rfl (w_aload rfl rfl (w_getR rfl (by first | rfl | assumption) rfl (by first | rfl | assumption) (w_iload rfl rfl (w_ialoadV rfl (by first | rfl | assumption) (by omega) (by omega) (x2) ?_))))
                      refine w_icmp_ge (tgt := 125) rfl (by first | assumption | exact i32_0 | (unfold i32 at *; omega)) (by first | assumption | exact i32_0 | (unfold i32 at *; omega)) rfl (fun c106 => ?_) (fun c106 => ?_)
                      · skip
                        exfalso; omega
                      · skip
                        first | exact yes0 | exact yes1
                · skip
                  refine w_if_ge (tgt := 78) rfl (by first | assumption | exact i32_0 | (unfold i32 at *; omega)) rfl (fun _ => ?_) (fun c => absurd c (by decide))
                  refine w_iconst rfl (w_istore (ls2 := [_, _, _, _, _, _, _, _, _]) rfl rfl rfl (w_iload rfl rfl ?_))
                  refine w_if_ne (tgt := 109) rfl (by first | assumption | exact i32_0 | (unfold i32 at *; omega)) rfl (fun c83 => ?_) (fun c83 => ?_)
                  · skip
                    first | exact yes0 | exact yes1
                  · skip
                    refine w_lload rfl rfl (w_aload rfl rfl (w_getR rfl (by first | rfl | assumption) rfl (by first | rfl | assumption) (w_iload rfl rfl (w_laloadV rfl (by first | rfl | assumption) (by omega) (by omega) (x1) ?_))))
                    refine w_lcmp rfl (by first | assumption | exact i64_0 | (unfold i64 at *; omega)) (by first | assumption | exact i64_0 | (unfold i64 at *; omega)) (fun c94 => ?_) (fun c94 => ?_) (fun c94 => ?_)
                    · skip
                      refine w_if_ne (tgt := 125) rfl (by first | assumption | exact i32_0 | (unfold i32 at *; omega)) rfl (fun _ => ?_) (fun c => absurd c (by decide))
                      exfalso; omega
                    · skip
                      refine w_if_ne (tgt := 125) rfl (by first | assumption | exact i32_0 | (unfold i32 at *; omega)) rfl (fun _ => ?_) (fun c => absurd c (by decide))
                      exfalso; omega
                    · skip
                      refine w_if_ne (tgt := 125) rfl (by first | assumption | exact i32_0 | (unfold i32 at *; omega)) rfl (fun c => absurd c (by decide)) (fun _ => ?_)
                      refine w_iload rfl rfl (w_aload rfl rfl (w_getR rfl (by first | rfl | assumption) rfl (by first | rfl | assumption) (w_iload rfl rfl (w_ialoadV rfl (by first | rfl | assumption) (by omega) (by omega) (x2) ?_))))
                      refine w_icmp_ge (tgt := 125) rfl (by first | assumption | exact i32_0 | (unfold i32 at *; omega)) (by first | assumption | exact i32_0 | (unfold i32 at *; omega)) rfl (fun c106 => ?_) (fun c106 => ?_)
                      · skip
                        exfalso; omega
                      · skip
                        first | exact yes0 | exact yes1
              · skip
                refine w_if_lt (tgt := 74) rfl (by first | assumption | exact i32_0 | (unfold i32 at *; omega)) rfl (fun c => absurd c (by decide)) (fun _ => ?_)
                refine w_lload rfl rfl (w_aload rfl rfl (w_getR rfl (by first | rfl | assumption) rfl (by first | rfl | assumption) (w_iload rfl rfl (w_laloadV rfl (by first | rfl | assumption) (by omega) (by omega) (x1) ?_))))
                refine w_lcmp rfl (by first | assumption | exact i64_0 | (unfold i64 at *; omega)) (by first | assumption | exact i64_0 | (unfold i64 at *; omega)) (fun c70 => ?_) (fun c70 => ?_) (fun c70 => ?_)
                · skip
                  refine w_if_ge (tgt := 78) rfl (by first | assumption | exact i32_0 | (unfold i32 at *; omega)) rfl (fun c => absurd c (by decide)) (fun _ => ?_)
                  refine w_iconst rfl (w_goto (tgt := 79) rfl rfl (w_istore (ls2 := [_, _, _, _, _, _, _, _, _]) rfl rfl rfl (w_iload rfl rfl ?_)))
                  refine w_if_ne (tgt := 109) rfl (by first | assumption | exact i32_0 | (unfold i32 at *; omega)) rfl (fun c83 => ?_) (fun c83 => ?_)
                  · skip
                    first | exact yes0 | exact yes1
                  · skip
                    refine w_lload rfl rfl (w_aload rfl rfl (w_getR rfl (by first | rfl | assumption) rfl (by first | rfl | assumption) (w_iload rfl rfl (w_laloadV rfl (by first | rfl | assumption) (by omega) (by omega) (x1) ?_))))
                    refine w_lcmp rfl (by first | assumption | exact i64_0 | (unfold i64 at *; omega)) (by first | assumption | exact i64_0 | (unfold i64 at *; omega)) (fun c94 => ?_) (fun c94 => ?_) (fun c94 => ?_)
                    · skip
                      refine w_if_ne (tgt := 125) rfl (by first | assumption | exact i32_0 | (unfold i32 at *; omega)) rfl (fun _ => ?_) (fun c => absurd c (by decide))
                      exfalso; omega
                    · skip
                      refine w_if_ne (tgt := 125) rfl (by first | assumption | exact i32_0 | (unfold i32 at *; omega)) rfl (fun _ => ?_) (fun c => absurd c (by decide))
                      exfalso; omega
                    · skip
                      refine w_if_ne (tgt := 125) rfl (by first | assumption | exact i32_0 | (unfold i32 at *; omega)) rfl (fun c => absurd c (by decide)) (fun _ => ?_)
                      refine w_iload rfl rfl (w_aload rfl rfl (w_getR rfl (by first | rfl | assumption) rfl (by first | rfl | assumption) (w_iload rfl rfl (w_ialoadV rfl (by first | rfl | assumption) (by omega) (by omega) (x2) ?_))))
                      refine w_icmp_ge (tgt := 125) rfl (by first | assumption | exact i32_0 | (unfold i32 at *; omega)) (by first | assumption | exact i32_0 | (unfold i32 at *; omega)) rfl (fun c106 => ?_) (fun c106 => ?_)
                      · skip
                        exfalso; omega
                      · skip
                        first | exact yes0 | exact yes1
                · skip
                  refine w_if_ge (tgt := 78) rfl (by first | assumption | exact i32_0 | (unfold i32 at *; omega)) rfl (fun _ => ?_) (fun c => absurd c (by decide))
                  refine w_iconst rfl (w_istore (ls2 := [_, _, _, _, _, _, _, _, _]) rfl rfl rfl (w_iload rfl rfl ?_))
                  refine w_if_ne (tgt := 109) rfl (by first | assumption | exact i32_0 | (unfold i32 at *; omega)) rfl (fun c83 => ?_) (fun c83 => ?_)
                  · skip
                    first | exact yes0 | exact yes1
                  · skip
                    refine w_lload rfl rfl (w_aload rfl rfl (w_getR rfl (by first | rfl | assumption) rfl (by first | rfl | assumption) (w_iload rfl rfl (w_laloadV rfl (by first | rfl | assumption) (by omega) (by omega) (x1) ?_))))
                    refine w_lcmp rfl (by first | assumption | exact i64_0 | (unfold i64 at *; omega)) (by first | assumption | exact i64_0 | (unfold i64 at *; omega)) (fun c94 => ?_) (fun c94 => ?_) (fun c94 => ?_)
                    · skip
                      refine w_if_ne (tgt := 125) rfl (by first | assumption | exact i32_0 | (unfold i32 at *; omega)) rfl (fun _ => ?_) (fun c => absurd c (by decide))
                      exfalso; omega
                    · skip
                      refine w_if_ne (tgt := 125) rfl (by first | assumption | exact i32_0 | (unfold i32 at *; omega)) rfl (fun _ => ?_) (fun c => absurd c (by decide))
                      exfalso; omega
                    · skip
                      refine w_if_ne (tgt := 125) rfl (by first | assumption | exact i32_0 | (unfold i32 at *; omega)) rfl (fun c => absurd c (by decide)) (fun _ => ?_)
                      refine w_iload rfl rfl (w_aload rfl rfl (w_getR rfl (by first | rfl | assumption) rfl (by first | rfl | assumption) (w_iload rfl rfl (w_ialoadV rfl (by first | rfl | assumption) (by omega) (by omega) (x2) ?_))))
                      refine w_icmp_ge (tgt := 125) rfl (by first | assumption | exact i32_0 | (unfold i32 at *; omega)) (by first | assumption | exact i32_0 | (unfold i32 at *; omega)) rfl (fun c106 => ?_) (fun c106 => ?_)
                      · skip
                        exfalso; omega
                      · skip
                        first | exact yes0 | exact yes1
                · skip
                  refine w_if_ge (tgt := 78) rfl (by first | assumption | exact i32_0 | (unfold i32 at *; omega)) rfl (fun _ => ?_) (fun c => absurd c (by decide))
                  refine w_iconst rfl (w_istore (ls2 := [_, _, _, _, _, _, _, _, _]) rfl rfl rfl (w_iload rfl rfl ?_))
                  refine w_if_ne (tgt := 109) rfl (by first | assumption | exact i32_0 | (unfold i32 at *; omega)) rfl (fun c83 => ?_) (fun c83 => ?_)
                  · skip
                    first | exact yes0 | exact yes1
                  · skip
                    refine w_lload rfl rfl (w_aload rfl rfl (w_getR rfl (by first | rfl | assumption) rfl (by first | rfl | assumption) (w_iload rfl rfl (w_laloadV rfl (by first | rfl | assumption) (by omega) (by omega) (x1) ?_))))
                    refine w_lcmp rfl (by first | assumption | exact i64_0 | (unfold i64 at *; omega)) (by first | assumption | exact i64_0 | (unfold i64 at *; omega)) (fun c94 => ?_) (fun c94 => ?_) (fun c94 => ?_)
                    · skip
                      refine w_if_ne (tgt := 125) rfl (by first | assumption | exact i32_0 | (unfold i32 at *; omega)) rfl (fun _ => ?_) (fun c => absurd c (by decide))
                      exfalso; omega
                    · skip
                      refine w_if_ne (tgt := 125) rfl (by first | assumption | exact i32_0 | (unfold i32 at *; omega)) rfl (fun _ => ?_) (fun c => absurd c (by decide))
                      exfalso; omega
                    · skip
                      refine w_if_ne (tgt := 125) rfl (by first | assumption | exact i32_0 | (unfold i32 at *; omega)) rfl (fun c => absurd c (by decide)) (fun _ => ?_)
                      refine w_iload rfl rfl (w_aload rfl rfl (w_getR rfl (by first | rfl | assumption) rfl (by first | rfl | assumption) (w_iload rfl rfl (w_ialoadV rfl (by first | rfl | assumption) (by omega) (by omega) (x2) ?_))))
                      refine w_icmp_ge (tgt := 125) rfl (by first | assumption | exact i32_0 | (unfold i32 at *; omega)) (by first | assumption | exact i32_0 | (unfold i32 at *; omega)) rfl (fun c106 => ?_) (fun c106 => ?_)
                      · skip
                        exfalso; omega
                      · skip
                        first | exact yes0 | exact yes1
            · skip
              exfalso; omega
    · rw [if_neg (fun z => q2 z.2)]
      refine w_aload rfl rfl (w_iload rfl rfl ?_)
      refine w_call (Or.inr rfl) (hfa) (by omega) nof_122 rfl rfl rfl rfl (by first | rfl | (show cKB[_]? = _; assumption)) rfl ?_
      refine w_lconst rfl ?_
      refine w_lcmp rfl (by first | assumption | exact i64_0 | (unfold i64 at *; omega)) (by first | assumption | exact i64_0 | (unfold i64 at *; omega)) (fun c6 => ?_) (fun c6 => ?_) (fun c6 => ?_)
      · skip
        refine w_if_lt (tgt := 32) rfl (by first | assumption | exact i32_0 | (unfold i32 at *; omega)) rfl (fun _ => ?_) (fun c => absurd c (by decide))
        exfalso; omega
      · skip
        refine w_if_lt (tgt := 32) rfl (by first | assumption | exact i32_0 | (unfold i32 at *; omega)) rfl (fun c => absurd c (by decide)) (fun _ => ?_)
        refine w_iload rfl rfl ?_
        refine w_if_lt (tgt := 32) rfl (by first | assumption | exact i32_0 | (unfold i32 at *; omega)) rfl (fun c11 => ?_) (fun c11 => ?_)
        · skip
          exfalso; omega
        · skip
          refine w_iload rfl rfl (w_aload rfl rfl (w_getR rfl (by first | rfl | assumption) rfl (by first | rfl | assumption) (w_alen rfl (by first | rfl | assumption) (by decide) (by decide) ?_)))
          refine w_icmp_ge (tgt := 32) rfl (by first | assumption | exact i32_0 | (unfold i32 at *; omega)) (by first | assumption | exact i32_0 | (unfold i32 at *; omega)) rfl (fun c20 => ?_) (fun c20 => ?_)
          · skip
            exfalso; omega
          · skip
            refine w_iload rfl rfl (w_aload rfl rfl (w_getR rfl (by first | rfl | assumption) rfl (by first | rfl | assumption) (w_alen rfl (by first | rfl | assumption) (by decide) (by decide) ?_)))
            refine w_icmp_lt (tgt := 33) rfl (by first | assumption | exact i32_0 | (unfold i32 at *; omega)) (by first | assumption | exact i32_0 | (unfold i32 at *; omega)) rfl (fun c29 => ?_) (fun c29 => ?_)
            · skip
              refine w_aload rfl rfl (w_iload rfl rfl ?_)
              refine w_call (Or.inr rfl) (hfa) (by omega) nof_122 rfl rfl rfl rfl (by first | rfl | (show cKB[_]? = _; assumption)) rfl ?_
              refine w_lload rfl rfl (w_ladd rfl (w_lstore (ls2 := [_, _, _, _, _, _, _, _, _]) rfl rfl rfl (w_aload rfl rfl (w_iload rfl rfl ?_))))
              refine w_call (Or.inr rfl) (hst) (by omega) nof_123 rfl rfl rfl rfl (by first | rfl | (show cKB[_]? = _; assumption)) rfl ?_
              refine w_iconst rfl (w_iadd rfl (w_istore (ls2 := [_, _, _, _, _, _, _, _, _]) rfl rfl rfl (w_aload rfl rfl (w_getR rfl (by first | rfl | assumption) rfl (by first | rfl | assumption) (w_iload rfl rfl (w_laloadV rfl (by first | rfl | assumption) (by omega) (by omega) (x1) (w_lconst rfl ?_)))))))
              refine w_lcmp rfl (by first | assumption | exact i64_0 | (unfold i64 at *; omega)) (by first | assumption | exact i64_0 | (unfold i64 at *; omega)) (fun c58 => ?_) (fun c58 => ?_) (fun c58 => ?_)
              · skip
                refine w_if_lt (tgt := 74) rfl (by first | assumption | exact i32_0 | (unfold i32 at *; omega)) rfl (fun _ => ?_) (fun c => absurd c (by decide))
                refine w_iconst rfl (w_goto (tgt := 79) rfl rfl (w_istore (ls2 := [_, _, _, _, _, _, _, _, _]) rfl rfl rfl (w_iload rfl rfl ?_)))
                refine w_if_ne (tgt := 109) rfl (by first | assumption | exact i32_0 | (unfold i32 at *; omega)) rfl (fun c83 => ?_) (fun c83 => ?_)
                · skip
                  exfalso; omega
                · skip
                  refine w_lload rfl rfl (w_aload rfl rfl (w_getR rfl (by first | rfl | assumption) rfl (by first | rfl | assumption) (w_iload rfl rfl (w_laloadV rfl (by first | rfl | assumption) (by omega) (by omega) (x1) ?_))))
                  refine w_lcmp rfl (by first | assumption | exact i64_0 | (unfold i64 at *; omega)) (by first | assumption | exact i64_0 | (unfold i64 at *; omega)) (fun c94 => ?_) (fun c94 => ?_) (fun c94 => ?_)
                  · skip
                    refine w_if_ne (tgt := 125) rfl (by first | assumption | exact i32_0 | (unfold i32 at *; omega)) rfl (fun _ => ?_) (fun c => absurd c (by decide))
                    exact w_return rfl ⟨rfl, by exact ⟨h, fun _ _ _ => rfl⟩⟩
                  · skip
                    refine w_if_ne (tgt := 125) rfl (by first | assumption | exact i32_0 | (unfold i32 at *; omega)) rfl (fun _ => ?_) (fun c => absurd c (by decide))
                    exact w_return rfl ⟨rfl, by exact ⟨h, fun _ _ _ => rfl⟩⟩
                  · skip
                    refine w_if_ne (tgt := 125) rfl (by first | assumption | exact i32_0 | (unfold i32 at *; omega)) rfl (fun c => absurd c (by decide)) (fun _ => ?_)
                    refine w_iload rfl rfl (w_aload rfl rfl (w_getR rfl (by first | rfl | assumption) rfl (by first | rfl | assumption) (w_iload rfl rfl (w_ialoadV rfl (by first | rfl | assumption) (by omega) (by omega) (x2) ?_))))
                    refine w_icmp_ge (tgt := 125) rfl (by first | assumption | exact i32_0 | (unfold i32 at *; omega)) (by first | assumption | exact i32_0 | (unfold i32 at *; omega)) rfl (fun c106 => ?_) (fun c106 => ?_)
                    · skip
                      exact w_return rfl ⟨rfl, by exact ⟨h, fun _ _ _ => rfl⟩⟩
                    · skip
                      exfalso; omega
              · skip
                refine w_if_lt (tgt := 74) rfl (by first | assumption | exact i32_0 | (unfold i32 at *; omega)) rfl (fun c => absurd c (by decide)) (fun _ => ?_)
                refine w_lload rfl rfl (w_aload rfl rfl (w_getR rfl (by first | rfl | assumption) rfl (by first | rfl | assumption) (w_iload rfl rfl (w_laloadV rfl (by first | rfl | assumption) (by omega) (by omega) (x1) ?_))))
                refine w_lcmp rfl (by first | assumption | exact i64_0 | (unfold i64 at *; omega)) (by first | assumption | exact i64_0 | (unfold i64 at *; omega)) (fun c70 => ?_) (fun c70 => ?_) (fun c70 => ?_)
                · skip
                  refine w_if_ge (tgt := 78) rfl (by first | assumption | exact i32_0 | (unfold i32 at *; omega)) rfl (fun c => absurd c (by decide)) (fun _ => ?_)
                  refine w_iconst rfl (w_goto (tgt := 79) rfl rfl (w_istore (ls2 := [_, _, _, _, _, _, _, _, _]) rfl rfl rfl (w_iload rfl rfl ?_)))
                  refine w_if_ne (tgt := 109) rfl (by first | assumption | exact i32_0 | (unfold i32 at *; omega)) rfl (fun c83 => ?_) (fun c83 => ?_)
                  · skip
                    exfalso; omega
                  · skip
                    refine w_lload rfl rfl (w_aload rfl rfl (w_getR rfl (by first | rfl | assumption) rfl (by first | rfl | assumption) (w_iload rfl rfl (w_laloadV rfl (by first | rfl | assumption) (by omega) (by omega) (x1) ?_))))
                    refine w_lcmp rfl (by first | assumption | exact i64_0 | (unfold i64 at *; omega)) (by first | assumption | exact i64_0 | (unfold i64 at *; omega)) (fun c94 => ?_) (fun c94 => ?_) (fun c94 => ?_)
                    · skip
                      refine w_if_ne (tgt := 125) rfl (by first | assumption | exact i32_0 | (unfold i32 at *; omega)) rfl (fun _ => ?_) (fun c => absurd c (by decide))
                      exact w_return rfl ⟨rfl, by exact ⟨h, fun _ _ _ => rfl⟩⟩
                    · skip
                      refine w_if_ne (tgt := 125) rfl (by first | assumption | exact i32_0 | (unfold i32 at *; omega)) rfl (fun _ => ?_) (fun c => absurd c (by decide))
                      exact w_return rfl ⟨rfl, by exact ⟨h, fun _ _ _ => rfl⟩⟩
                    · skip
                      refine w_if_ne (tgt := 125) rfl (by first | assumption | exact i32_0 | (unfold i32 at *; omega)) rfl (fun c => absurd c (by decide)) (fun _ => ?_)
                      refine w_iload rfl rfl (w_aload rfl rfl (w_getR rfl (by first | rfl | assumption) rfl (by first | rfl | assumption) (w_iload rfl rfl (w_ialoadV rfl (by first | rfl | assumption) (by omega) (by omega) (x2) ?_))))
                      refine w_icmp_ge (tgt := 125) rfl (by first | assumption | exact i32_0 | (unfold i32 at *; omega)) (by first | assumption | exact i32_0 | (unfold i32 at *; omega)) rfl (fun c106 => ?_) (fun c106 => ?_)
                      · skip
                        exact w_return rfl ⟨rfl, by exact ⟨h, fun _ _ _ => rfl⟩⟩
                      · skip
                        exfalso; omega
                · skip
                  refine w_if_ge (tgt := 78) rfl (by first | assumption | exact i32_0 | (unfold i32 at *; omega)) rfl (fun _ => ?_) (fun c => absurd c (by decide))
                  refine w_iconst rfl (w_istore (ls2 := [_, _, _, _, _, _, _, _, _]) rfl rfl rfl (w_iload rfl rfl ?_))
                  refine w_if_ne (tgt := 109) rfl (by first | assumption | exact i32_0 | (unfold i32 at *; omega)) rfl (fun c83 => ?_) (fun c83 => ?_)
                  · skip
                    exfalso; omega
                  · skip
                    refine w_lload rfl rfl (w_aload rfl rfl (w_getR rfl (by first | rfl | assumption) rfl (by first | rfl | assumption) (w_iload rfl rfl (w_laloadV rfl (by first | rfl | assumption) (by omega) (by omega) (x1) ?_))))
                    refine w_lcmp rfl (by first | assumption | exact i64_0 | (unfold i64 at *; omega)) (by first | assumption | exact i64_0 | (unfold i64 at *; omega)) (fun c94 => ?_) (fun c94 => ?_) (fun c94 => ?_)
                    · skip
                      refine w_if_ne (tgt := 125) rfl (by first | assumption | exact i32_0 | (unfold i32 at *; omega)) rfl (fun _ => ?_) (fun c => absurd c (by decide))
                      exact w_return rfl ⟨rfl, by exact ⟨h, fun _ _ _ => rfl⟩⟩
                    · skip
                      refine w_if_ne (tgt := 125) rfl (by first | assumption | exact i32_0 | (unfold i32 at *; omega)) rfl (fun _ => ?_) (fun c => absurd c (by decide))
                      exact w_return rfl ⟨rfl, by exact ⟨h, fun _ _ _ => rfl⟩⟩
                    · skip
                      refine w_if_ne (tgt := 125) rfl (by first | assumption | exact i32_0 | (unfold i32 at *; omega)) rfl (fun c => absurd c (by decide)) (fun _ => ?_)
                      refine w_iload rfl rfl (w_aload rfl rfl (w_getR rfl (by first | rfl | assumption) rfl (by first | rfl | assumption) (w_iload rfl rfl (w_ialoadV rfl (by first | rfl | assumption) (by omega) (by omega) (x2) ?_))))
                      refine w_icmp_ge (tgt := 125) rfl (by first | assumption | exact i32_0 | (unfold i32 at *; omega)) (by first | assumption | exact i32_0 | (unfold i32 at *; omega)) rfl (fun c106 => ?_) (fun c106 => ?_)
                      · skip
                        exact w_return rfl ⟨rfl, by exact ⟨h, fun _ _ _ => rfl⟩⟩
                      · skip
                        exfalso; omega
                · skip
                  refine w_if_ge (tgt := 78) rfl (by first | assumption | exact i32_0 | (unfold i32 at *; omega)) rfl (fun _ => ?_) (fun c => absurd c (by decide))
                  refine w_iconst rfl (w_istore (ls2 := [_, _, _, _, _, _, _, _, _]) rfl rfl rfl (w_iload rfl rfl ?_))
                  refine w_if_ne (tgt := 109) rfl (by first | assumption | exact i32_0 | (unfold i32 at *; omega)) rfl (fun c83 => ?_) (fun c83 => ?_)
                  · skip
                    exfalso; omega
                  · skip
                    refine w_lload rfl rfl (w_aload rfl rfl (w_getR rfl (by first | rfl | assumption) rfl (by first | rfl | assumption) (w_iload rfl rfl (w_laloadV rfl (by first | rfl | assumption) (by omega) (by omega) (x1) ?_))))
                    refine w_lcmp rfl (by first | assumption | exact i64_0 | (unfold i64 at *; omega)) (by first | assumption | exact i64_0 | (unfold i64 at *; omega)) (fun c94 => ?_) (fun c94 => ?_) (fun c94 => ?_)
                    · skip
                      refine w_if_ne (tgt := 125) rfl (by first | assumption | exact i32_0 | (unfold i32 at *; omega)) rfl (fun _ => ?_) (fun c => absurd c (by decide))
                      exact w_return rfl ⟨rfl, by exact ⟨h, fun _ _ _ => rfl⟩⟩
                    · skip
                      refine w_if_ne (tgt := 125) rfl (by first | assumption | exact i32_0 | (unfold i32 at *; omega)) rfl (fun _ => ?_) (fun c => absurd c (by decide))
                      exact w_return rfl ⟨rfl, by exact ⟨h, fun _ _ _ => rfl⟩⟩
                    · skip
                      refine w_if_ne (tgt := 125) rfl (by first | assumption | exact i32_0 | (unfold i32 at *; omega)) rfl (fun c => absurd c (by decide)) (fun _ => ?_)
                      refine w_iload rfl rfl (w_aload rfl rfl (w_getR rfl (by first | rfl | assumption) rfl (by first | rfl | assumption) (w_iload rfl rfl (w_ialoadV rfl (by first | rfl | assumption) (by omega) (by omega) (x2) ?_))))
                      refine w_icmp_ge (tgt := 125) rfl (by first | assumption | exact i32_0 | (unfold i32 at *; omega)) (by first | assumption | exact i32_0 | (unfold i32 at *; omega)) rfl (fun c106 => ?_) (fun c106 => ?_)
                      · skip
                        exact w_return rfl ⟨rfl, by exact ⟨h, fun _ _ _ => rfl⟩⟩
                      · skip
                        exfalso; omega
              · skip
                refine w_if_lt (tgt := 74) rfl (by first | assumption | exact i32_0 | (unfold i32 at *; omega)) rfl (fun c => absurd c (by decide)) (fun _ => ?_)
                refine w_lload rfl rfl (w_aload rfl rfl (w_getR rfl (by first | rfl | assumption) rfl (by first | rfl | assumption) (w_iload rfl rfl (w_laloadV rfl (by first | rfl | assumption) (by omega) (by omega) (x1) ?_))))
                refine w_lcmp rfl (by first | assumption | exact i64_0 | (unfold i64 at *; omega)) (by first | assumption | exact i64_0 | (unfold i64 at *; omega)) (fun c70 => ?_) (fun c70 => ?_) (fun c70 => ?_)
                · skip
                  refine w_if_ge (tgt := 78) rfl (by first | assumption | exact i32_0 | (unfold i32 at *; omega)) rfl (fun c => absurd c (by decide)) (fun _ => ?_)
                  refine w_iconst rfl (w_goto (tgt := 79) rfl rfl (w_istore (ls2 := [_, _, _, _, _, _, _, _, _]) rfl rfl rfl (w_iload rfl rfl ?_)))
                  refine w_if_ne (tgt := 109) rfl (by first | assumption | exact i32_0 | (unfold i32 at *; omega)) rfl (fun c83 => ?_) (fun c83 => ?_)
                  · skip
                    exfalso; omega
                  · skip
                    refine w_lload rfl rfl (w_aload rfl rfl (w_getR rfl (by first | rfl | assumption) rfl (by first | rfl | assumption) (w_iload rfl rfl (w_laloadV rfl (by first | rfl | assumption) (by omega) (by omega) (x1) ?_))))
                    refine w_lcmp rfl (by first | assumption | exact i64_0 | (unfold i64 at *; omega)) (by first | assumption | exact i64_0 | (unfold i64 at *; omega)) (fun c94 => ?_) (fun c94 => ?_) (fun c94 => ?_)
                    · skip
                      refine w_if_ne (tgt := 125) rfl (by first | assumption | exact i32_0 | (unfold i32 at *; omega)) rfl (fun _ => ?_) (fun c => absurd c (by decide))
                      exact w_return rfl ⟨rfl, by exact ⟨h, fun _ _ _ => rfl⟩⟩
                    · skip
                      refine w_if_ne (tgt := 125) rfl (by first | assumption | exact i32_0 | (unfold i32 at *; omega)) rfl (fun _ => ?_) (fun c => absurd c (by decide))
                      exact w_return rfl ⟨rfl, by exact ⟨h, fun _ _ _ => rfl⟩⟩
                    · skip
                      refine w_if_ne (tgt := 125) rfl (by first | assumption | exact i32_0 | (unfold i32 at *; omega)) rfl (fun c => absurd c (by decide)) (fun _ => ?_)
                      refine w_iload rfl rfl (w_aload rfl rfl (w_getR rfl (by first | rfl | assumption) rfl (by first | rfl | assumption) (w_iload rfl rfl (w_ialoadV rfl (by first | rfl | assumption) (by omega) (by omega) (x2) ?_))))
                      refine w_icmp_ge (tgt := 125) rfl (by first | assumption | exact i32_0 | (unfold i32 at *; omega)) (by first | assumption | exact i32_0 | (unfold i32 at *; omega)) rfl (fun c106 => ?_) (fun c106 => ?_)
                      · skip
                        exact w_return rfl ⟨rfl, by exact ⟨h, fun _ _ _ => rfl⟩⟩
                      · skip
                        exfalso; omega
                · skip
                  refine w_if_ge (tgt := 78) rfl (by first | assumption | exact i32_0 | (unfold i32 at *; omega)) rfl (fun _ => ?_) (fun c => absurd c (by decide))
                  refine w_iconst rfl (w_istore (ls2 := [_, _, _, _, _, _, _, _, _]) rfl rfl rfl (w_iload rfl rfl ?_))
                  refine w_if_ne (tgt := 109) rfl (by first | assumption | exact i32_0 | (unfold i32 at *; omega)) rfl (fun c83 => ?_) (fun c83 => ?_)
                  · skip
                    exfalso; omega
                  · skip
                    refine w_lload rfl rfl (w_aload rfl rfl (w_getR rfl (by first | rfl | assumption) rfl (by first | rfl | assumption) (w_iload rfl rfl (w_laloadV rfl (by first | rfl | assumption) (by omega) (by omega) (x1) ?_))))
                    refine w_lcmp rfl (by first | assumption | exact i64_0 | (unfold i64 at *; omega)) (by first | assumption | exact i64_0 | (unfold i64 at *; omega)) (fun c94 => ?_) (fun c94 => ?_) (fun c94 => ?_)
                    · skip
                      refine w_if_ne (tgt := 125) rfl (by first | assumption | exact i32_0 | (unfold i32 at *; omega)) rfl (fun _ => ?_) (fun c => absurd c (by decide))
                      exact w_return rfl ⟨rfl, by exact ⟨h, fun _ _ _ => rfl⟩⟩
                    · skip
                      refine w_if_ne (tgt := 125) rfl (by first | assumption | exact i32_0 | (unfold i32 at *; omega)) rfl (fun _ => ?_) (fun c => absurd c (by decide))
                      exact w_return rfl ⟨rfl, by exact ⟨h, fun _ _ _ => rfl⟩⟩
                    · skip
                      refine w_if_ne (tgt := 125) rfl (by first | assumption | exact i32_0 | (unfold i32 at *; omega)) rfl (fun c => absurd c (by decide)) (fun _ => ?_)
                      refine w_iload rfl rfl (w_aload rfl rfl (w_getR rfl (by first | rfl | assumption) rfl (by first | rfl | assumption) (w_iload rfl rfl (w_ialoadV rfl (by first | rfl | assumption) (by omega) (by omega) (x2) ?_))))
                      refine w_icmp_ge (tgt := 125) rfl (by first | assumption | exact i32_0 | (unfold i32 at *; omega)) (by first | assumption | exact i32_0 | (unfold i32 at *; omega)) rfl (fun c106 => ?_) (fun c106 => ?_)
                      · skip
                        exact w_return rfl ⟨rfl, by exact ⟨h, fun _ _ _ => rfl⟩⟩
                      · skip
                        exfalso; omega
                · skip
                  refine w_if_ge (tgt := 78) rfl (by first | assumption | exact i32_0 | (unfold i32 at *; omega)) rfl (fun _ => ?_) (fun c => absurd c (by decide))
                  refine w_iconst rfl (w_istore (ls2 := [_, _, _, _, _, _, _, _, _]) rfl rfl rfl (w_iload rfl rfl ?_))
                  refine w_if_ne (tgt := 109) rfl (by first | assumption | exact i32_0 | (unfold i32 at *; omega)) rfl (fun c83 => ?_) (fun c83 => ?_)
                  · skip
                    exfalso; omega
                  · skip
                    refine w_lload rfl rfl (w_aload rfl rfl (w_getR rfl (by first | rfl | assumption) rfl (by first | rfl | assumption) (w_iload rfl rfl (w_laloadV rfl (by first | rfl | assumption) (by omega) (by omega) (x1) ?_))))
                    refine w_lcmp rfl (by first | assumption | exact i64_0 | (unfold i64 at *; omega)) (by first | assumption | exact i64_0 | (unfold i64 at *; omega)) (fun c94 => ?_) (fun c94 => ?_) (fun c94 => ?_)
                    · skip
                      refine w_if_ne (tgt := 125) rfl (by first | assumption | exact i32_0 | (unfold i32 at *; omega)) rfl (fun _ => ?_) (fun c => absurd c (by decide))
                      exact w_return rfl ⟨rfl, by exact ⟨h, fun _ _ _ => rfl⟩⟩
                    · skip
                      refine w_if_ne (tgt := 125) rfl (by first | assumption | exact i32_0 | (unfold i32 at *; omega)) rfl (fun _ => ?_) (fun c => absurd c (by decide))
                      exact w_return rfl ⟨rfl, by exact ⟨h, fun _ _ _ => rfl⟩⟩
                    · skip
                      refine w_if_ne (tgt := 125) rfl (by first | assumption | exact i32_0 | (unfold i32 at *; omega)) rfl (fun c => absurd c (by decide)) (fun _ => ?_)
                      refine w_iload rfl rfl (w_aload rfl rfl (w_getR rfl (by first | rfl | assumption) rfl (by first | rfl | assumption) (w_iload rfl rfl (w_ialoadV rfl (by first | rfl | assumption) (by omega) (by omega) (x2) ?_))))
                      refine w_icmp_ge (tgt := 125) rfl (by first | assumption | exact i32_0 | (unfold i32 at *; omega)) (by first | assumption | exact i32_0 | (unfold i32 at *; omega)) rfl (fun c106 => ?_) (fun c106 => ?_)
                      · skip
                        exact w_return rfl ⟨rfl, by exact ⟨h, fun _ _ _ => rfl⟩⟩
                      · skip
                        exfalso; omega
            · skip
              exfalso; omega
      · skip
        refine w_if_lt (tgt := 32) rfl (by first | assumption | exact i32_0 | (unfold i32 at *; omega)) rfl (fun c => absurd c (by decide)) (fun _ => ?_)
        refine w_iload rfl rfl ?_
        refine w_if_lt (tgt := 32) rfl (by first | assumption | exact i32_0 | (unfold i32 at *; omega)) rfl (fun c11 => ?_) (fun c11 => ?_)
        · skip
          exfalso; omega
        · skip
          refine w_iload rfl rfl (w_aload rfl rfl (w_getR rfl (by first | rfl | assumption) rfl (by first | rfl | assumption) (w_alen rfl (by first | rfl | assumption) (by decide) (by decide) ?_)))
          refine w_icmp_ge (tgt := 32) rfl (by first | assumption | exact i32_0 | (unfold i32 at *; omega)) (by first | assumption | exact i32_0 | (unfold i32 at *; omega)) rfl (fun c20 => ?_) (fun c20 => ?_)
          · skip
            exfalso; omega
          · skip
            refine w_iload rfl rfl (w_aload rfl rfl (w_getR rfl (by first | rfl | assumption) rfl (by first | rfl | assumption) (w_alen rfl (by first | rfl | assumption) (by decide) (by decide) ?_)))
            refine w_icmp_lt (tgt := 33) rfl (by first | assumption | exact i32_0 | (unfold i32 at *; omega)) (by first | assumption | exact i32_0 | (unfold i32 at *; omega)) rfl (fun c29 => ?_) (fun c29 => ?_)
            · skip
              refine w_aload rfl rfl (w_iload rfl rfl ?_)
              refine w_call (Or.inr rfl) (hfa) (by omega) nof_122 rfl rfl rfl rfl (by first | rfl | (show cKB[_]? = _; assumption)) rfl ?_
              refine w_lload rfl rfl (w_ladd rfl (w_lstore (ls2 := [_, _, _, _, _, _, _, _, _]) rfl rfl rfl (w_aload rfl rfl (w_iload rfl rfl ?_))))
              refine w_call (Or.inr rfl) (hst) (by omega) nof_123 rfl rfl rfl rfl (by first | rfl | (show cKB[_]? = _; assumption)) rfl ?_
              refine w_iconst rfl (w_iadd rfl (w_istore (ls2 := [_, _, _, _, _, _, _, _, _]) rfl rfl rfl (w_aload rfl rfl (w_getR rfl (by first | rfl | assumption) rfl (by first | rfl | assumption) (w_iload rfl rfl (w_laloadV rfl (by first | rfl | assumption) (by omega) (by omega) (x1) (w_lconst rfl ?_)))))))
              refine w_lcmp rfl (by first | assumption | exact i64_0 | (unfold i64 at *; omega)) (by first | assumption | exact i64_0 | (unfold i64 at *; omega)) (fun c58 => ?_) (fun c58 => ?_) (fun c58 => ?_)
              · skip
                refine w_if_lt (tgt := 74) rfl (by first | assumption | exact i32_0 | (unfold i32 at *; omega)) rfl (fun _ => ?_) (fun c => absurd c (by decide))
                refine w_iconst rfl (w_goto (tgt := 79) rfl rfl (w_istore (ls2 := [_, _, _, _, _, _, _, _, _]) rfl rfl rfl (w_iload rfl rfl ?_)))
                refine w_if_ne (tgt := 109) rfl (by first | assumption | exact i32_0 | (unfold i32 at *; omega)) rfl (fun c83 => ?_) (fun c83 => ?_)
                · skip
                  exfalso; omega
                · skip
                  refine w_lload rfl rfl (w_aload rfl rfl (w_getR rfl (by first | rfl | assumption) rfl (by first | rfl | assumption) (w_iload rfl rfl (w_laloadV rfl (by first | rfl | assumption) (by omega) (by omega) (x1) ?_))))
                  refine w_lcmp rfl (by first | assumption | exact i64_0 | (unfold i64 at *; omega)) (by first | assumption | exact i64_0 | (unfold i64 at *; omega)) (fun c94 => ?_) (fun c94 => ?_) (fun c94 => ?_)
                  · skip
                    refine w_if_ne (tgt := 125) rfl (by first | assumption | exact i32_0 | (unfold i32 at *; omega)) rfl (fun _ => ?_) (fun c => absurd c (by decide))
                    exact w_return rfl ⟨rfl, by exact ⟨h, fun _ _ _ => rfl⟩⟩
                  · skip
                    refine w_if_ne (tgt := 125) rfl (by first | assumption | exact i32_0 | (unfold i32 at *; omega)) rfl (fun _ => ?_) (fun c => absurd c (by decide))
                    exact w_return rfl ⟨rfl, by exact ⟨h, fun _ _ _ => rfl⟩⟩
                  · skip
                    refine w_if_ne (tgt := 125) rfl (by first | assumption | exact i32_0 | (unfold i32 at *; omega)) rfl (fun c => absurd c (by decide)) (fun _ => ?_)
                    refine w_iload rfl rfl (w_aload rfl rfl (w_getR rfl (by first | rfl | assumption) rfl (by first | rfl | assumption) (w_iload rfl rfl (w_ialoadV rfl (by first | rfl | assumption) (by omega) (by omega) (x2) ?_))))
                    refine w_icmp_ge (tgt := 125) rfl (by first | assumption | exact i32_0 | (unfold i32 at *; omega)) (by first | assumption | exact i32_0 | (unfold i32 at *; omega)) rfl (fun c106 => ?_) (fun c106 => ?_)
                    · skip
                      exact w_return rfl ⟨rfl, by exact ⟨h, fun _ _ _ => rfl⟩⟩
                    · skip
                      exfalso; omega
              · skip
                refine w_if_lt (tgt := 74) rfl (by first | assumption | exact i32_0 | (unfold i32 at *; omega)) rfl (fun c => absurd c (by decide)) (fun _ => ?_)
                refine w_lload rfl rfl (w_aload rfl rfl (w_getR rfl (by first | rfl | assumption) rfl (by first | rfl | assumption) (w_iload rfl rfl (w_laloadV rfl (by first | rfl | assumption) (by omega) (by omega) (x1) ?_))))
                refine w_lcmp rfl (by first | assumption | exact i64_0 | (unfold i64 at *; omega)) (by first | assumption | exact i64_0 | (unfold i64 at *; omega)) (fun c70 => ?_) (fun c70 => ?_) (fun c70 => ?_)
                · skip
                  refine w_if_ge (tgt := 78) rfl (by first | assumption | exact i32_0 | (unfold i32 at *; omega)) rfl (fun c => absurd c (by decide)) (fun _ => ?_)
                  refine w_iconst rfl (w_goto (tgt := 79) rfl rfl (w_istore (ls2 := [_, _, _, _, _, _, _, _, _]) rfl rfl rfl (w_iload rfl rfl ?_)))
                  refine w_if_ne (tgt := 109) rfl (by first | assumption | exact i32_0 | (unfold i32 at *; omega)) rfl (fun c83 => ?_) (fun c83 => ?_)
                  · skip
                    exfalso; omega
                  · skip
                    refine w_lload rfl rfl (w_aload rfl rfl (w_getR rfl (by first | rfl | assumption) rfl (by first | rfl | assumption) (w_iload rfl rfl (w_laloadV rfl (by first | rfl | assumption) (by omega) (by omega) (x1) ?_))))
                    refine w_lcmp rfl (by first | assumption | exact i64_0 | (unfold i64 at *; omega)) (by first | assumption | exact i64_0 | (unfold i64 at *; omega)) (fun c94 => ?_) (fun c94 => ?_) (fun c94 => ?_)
                    · skip
                      refine w_if_ne (tgt := 125) rfl (by first | assumption | exact i32_0 | (unfold i32 at *; omega)) rfl (fun _ => ?_) (fun c => absurd c (by decide))
                      exact w_return rfl ⟨rfl, by exact ⟨h, fun _ _ _ => rfl⟩⟩
                    · skip
                      refine w_if_ne (tgt := 125) rfl (by first | assumption | exact i32_0 | (unfold i32 at *; omega)) rfl (fun _ => ?_) (fun c => absurd c (by decide))
                      exact w_return rfl ⟨rfl, by exact ⟨h, fun _ _ _ => rfl⟩⟩
                    · skip
                      refine w_if_ne (tgt := 125) rfl (by first | assumption | exact i32_0 | (unfold i32 at *; omega)) rfl (fun c => absurd c (by decide)) (fun _ => ?_)
                      refine w_iload rfl rfl (w_aload rfl rfl (w_getR rfl (by first | rfl | assumption) rfl (by first | rfl | assumption) (w_iload rfl rfl (w_ialoadV rfl (by first | rfl | assumption) (by omega) (by omega) (x2) ?_))))
                      refine w_icmp_ge (tgt := 125) rfl (by first | assumption | exact i32_0 | (unfold i32 at *; omega)) (by first | assumption | exact i32_0 | (unfold i32 at *; omega)) rfl (fun c106 => ?_) (fun c106 => ?_)
                      · skip
                        exact w_return rfl ⟨rfl, by exact ⟨h, fun _ _ _ => rfl⟩⟩
                      · skip
                        exfalso; omega
                · skip
                  refine w_if_ge (tgt := 78) rfl (by first | assumption | exact i32_0 | (unfold i32 at *; omega)) rfl (fun _ => ?_) (fun c => absurd c (by decide))
                  refine w_iconst rfl (w_istore (ls2 := [_, _, _, _, _, _, _, _, _]) rfl rfl rfl (w_iload rfl rfl ?_))
                  refine w_if_ne (tgt := 109) rfl (by first | assumption | exact i32_0 | (unfold i32 at *; omega)) rfl (fun c83 => ?_) (fun c83 => ?_)
                  · skip
                    exfalso; omega
                  · skip
                    refine w_lload rfl rfl (w_aload rfl rfl (w_getR rfl (by first | rfl | assumption) rfl (by first | rfl | assumption) (w_iload rfl rfl (w_laloadV rfl (by first | rfl | assumption) (by omega) (by omega) (x1) ?_))))
                    refine w_lcmp rfl (by first | assumption | exact i64_0 | (unfold i64 at *; omega)) (by first | assumption | exact i64_0 | (unfold i64 at *; omega)) (fun c94 => ?_) (fun c94 => ?_) (fun c94 => ?_)
                    · skip
                      refine w_if_ne (tgt := 125) rfl (by first | assumption | exact i32_0 | (unfold i32 at *; omega)) rfl (fun _ => ?_) (fun c => absurd c (by decide))
                      exact w_return rfl ⟨rfl, by exact ⟨h, fun _ _ _ => rfl⟩⟩
                    · skip
                      refine w_if_ne (tgt := 125) rfl (by first | assumption | exact i32_0 | (unfold i32 at *; omega)) rfl (fun _ => ?_) (fun c => absurd c (by decide))
                      exact w_return rfl ⟨rfl, by exact ⟨h, fun _ _ _ => rfl⟩⟩
                    · skip
                      refine w_if_ne (tgt := 125) rfl (by first | assumption | exact i32_0 | (unfold i32 at *; omega)) rfl (fun c => absurd c (by decide)) (fun _ => ?_)
                      refine w_iload rfl rfl (w_aload rfl rfl (w_getR rfl (by first | rfl | assumption) rfl (by first | rfl | assumption) (w_iload rfl rfl (w_ialoadV rfl (by first | rfl | assumption) (by omega) (by omega) (x2) ?_))))
                      refine w_icmp_ge (tgt := 125) rfl (by first | assumption | exact i32_0 | (unfold i32 at *; omega)) (by first | assumption | exact i32_0 | (unfold i32 at *; omega)) rfl (fun c106 => ?_) (fun c106 => ?_)
                      · skip
                        exact w_return rfl ⟨rfl, by exact ⟨h, fun _ _ _ => rfl⟩⟩
                      · skip
                        exfalso; omega
                · skip
                  refine w_if_ge (tgt := 78) rfl (by first | assumption | exact i32_0 | (unfold i32 at *; omega)) rfl (fun _ => ?_) (fun c => absurd c (by decide))
                  refine w_iconst rfl (w_istore (ls2 := [_, _, _, _, _, _, _, _, _]) rfl rfl rfl (w_iload rfl rfl ?_))
                  refine w_if_ne (tgt := 109) rfl (by first | assumption | exact i32_0 | (unfold i32 at *; omega)) rfl (fun c83 => ?_) (fun c83 => ?_)
                  · skip
                    exfalso; omega
                  · skip
                    refine w_lload rfl rfl (w_aload rfl rfl (w_getR rfl (by first | rfl | assumption) rfl (by first | rfl | assumption) (w_iload rfl rfl (w_laloadV rfl (by first | rfl | assumption) (by omega) (by omega) (x1) ?_))))
                    refine w_lcmp rfl (by first | assumption | exact i64_0 | (unfold i64 at *; omega)) (by first | assumption | exact i64_0 | (unfold i64 at *; omega)) (fun c94 => ?_) (fun c94 => ?_) (fun c94 => ?_)
                    · skip
                      refine w_if_ne (tgt := 125) rfl (by first | assumption | exact i32_0 | (unfold i32 at *; omega)) rfl (fun _ => ?_) (fun c => absurd c (by decide))
                      exact w_return rfl ⟨rfl, by exact ⟨h, fun _ _ _ => rfl⟩⟩
                    · skip
                      refine w_if_ne (tgt := 125) rfl (by first | assumption | exact i32_0 | (unfold i32 at *; omega)) rfl (fun _ => ?_) (fun c => absurd c (by decide))
                      exact w_return rfl ⟨rfl, by exact ⟨h, fun _ _ _ => rfl⟩⟩
                    · skip
                      refine w_if_ne (tgt := 125) rfl (by first | assumption | exact i32_0 | (unfold i32 at *; omega)) rfl (fun c => absurd c (by decide)) (fun _ => ?_)
                      refine w_iload rfl rfl (w_aload rfl rfl (w_getR rfl (by first | rfl | assumption) rfl (by first | rfl | assumption) (w_iload rfl rfl (w_ialoadV rfl (by first | rfl | assumption) (by omega) (by omega) (x2) ?_))))
                      refine w_icmp_ge (tgt := 125) rfl (by first | assumption | exact i32_0 | (unfold i32 at *; omega)) (by first | assumption | exact i32_0 | (unfold i32 at *; omega)) rfl (fun c106 => ?_) (fun c106 => ?_)
                      · skip
                        exact w_return rfl ⟨rfl, by exact ⟨h, fun _ _ _ => rfl⟩⟩
                      · skip
                        exfalso; omega
              · skip
                refine w_if_lt (tgt := 74) rfl (by first | assumption | exact i32_0 | (unfold i32 at *; omega)) rfl (fun c => absurd c (by decide)) (fun _ => ?_)
                refine w_lload rfl rfl (w_aload rfl rfl (w_getR rfl (by first | rfl | assumption) rfl (by first | rfl | assumption) (w_iload rfl rfl (w_laloadV rfl (by first | rfl | assumption) (by omega) (by omega) (x1) ?_))))
                refine w_lcmp rfl (by first | assumption | exact i64_0 | (unfold i64 at *; omega)) (by first | assumption | exact i64_0 | (unfold i64 at *; omega)) (fun c70 => ?_) (fun c70 => ?_) (fun c70 => ?_)
                · skip
                  refine w_if_ge (tgt := 78) rfl (by first | assumption | exact i32_0 | (unfold i32 at *; omega)) rfl (fun c => absurd c (by decide)) (fun _ => ?_)
                  refine w_iconst rfl (w_goto (tgt := 79) rfl rfl (w_istore (ls2 := [_, _, _, _, _, _, _, _, _]) rfl rfl rfl (w_iload rfl rfl ?_)))
                  refine w_if_ne (tgt := 109) rfl (by first | assumption | exact i32_0 | (unfold i32 at *; omega)) rfl (fun c83 => ?_) (fun c83 => ?_)
                  · skip
                    exfalso; omega
                  · skip
                    refine w_lload rfl rfl (w_aload rfl rfl (w_getR rfl (by first | rfl | assumption) rfl (by first | rfl | assumption) (w_iload rfl rfl (w_laloadV rfl (by first | rfl | assumption) (by omega) (by omega) (x1) ?_))))
                    refine w_lcmp rfl (by first | assumption | exact i64_0 | (unfold i64 at *; omega)) (by first | assumption | exact i64_0 | (unfold i64 at *; omega)) (fun c94 => ?_) (fun c94 => ?_) (fun c94 => ?_)
                    · skip
                      refine w_if_ne (tgt := 125) rfl (by first | assumption | exact i32_0 | (unfold i32 at *; omega)) rfl (fun _ => ?_) (fun c => absurd c (by decide))
                      exact w_return rfl ⟨rfl, by exact ⟨h, fun _ _ _ => rfl⟩⟩
                    · skip
                      refine w_if_ne (tgt := 125) rfl (by first | assumption | exact i32_0 | (unfold i32 at *; omega)) rfl (fun _ => ?_) (fun c => absurd c (by decide))
                      exact w_return rfl ⟨rfl, by exact ⟨h, fun _ _ _ => rfl⟩⟩
                    · skip
                      refine w_if_ne (tgt := 125) rfl (by first | assumption | exact i32_0 | (unfold i32 at *; omega)) rfl (fun c => absurd c (by decide)) (fun _ => ?_)
                      refine w_iload rfl rfl (w_aload rfl rfl (w_getR rfl (by first | rfl | assumption) rfl (by first | rfl | assumption) (w_iload rfl rfl (w_ialoadV rfl (by first | rfl | assumption) (by omega) (by omega) (x2) ?_))))
                      refine w_icmp_ge (tgt := 125) rfl (by first | assumption | exact i32_0 | (unfold i32 at *; omega)) (by first | assumption | exact i32_0 | (unfold i32 at *; omega)) rfl (fun c106 => ?_) (fun c106 => ?_)
                      · skip
                        exact w_return rfl ⟨rfl, by exact ⟨h, fun _ _ _ => rfl⟩⟩
                      · skip
                        exfalso; omega
                · skip
                  refine w_if_ge (tgt := 78) rfl (by first | assumption | exact i32_0 | (unfold i32 at *; omega)) rfl (fun _ => ?_) (fun c => absurd c (by decide))
                  refine w_iconst rfl (w_istore (ls2 := [_, _, _, _, _, _, _, _, _]) rfl rfl rfl (w_iload rfl rfl ?_))
                  refine w_if_ne (tgt := 109) rfl (by first | assumption | exact i32_0 | (unfold i32 at *; omega)) rfl (fun c83 => ?_) (fun c83 => ?_)
                  · skip
                    exfalso; omega
                  · skip
                    refine w_lload rfl rfl (w_aload rfl rfl (w_getR rfl (by first | rfl | assumption) rfl (by first | rfl | assumption) (w_iload rfl rfl (w_laloadV rfl (by first | rfl | assumption) (by omega) (by omega) (x1) ?_))))
                    refine w_lcmp rfl (by first | assumption | exact i64_0 | (unfold i64 at *; omega)) (by first | assumption | exact i64_0 | (unfold i64 at *; omega)) (fun c94 => ?_) (fun c94 => ?_) (fun c94 => ?_)
                    · skip
                      refine w_if_ne (tgt := 125) rfl (by first | assumption | exact i32_0 | (unfold i32 at *; omega)) rfl (fun _ => ?_) (fun c => absurd c (by decide))
                      exact w_return rfl ⟨rfl, by exact ⟨h, fun _ _ _ => rfl⟩⟩
                    · skip
                      refine w_if_ne (tgt := 125) rfl (by first | assumption | exact i32_0 | (unfold i32 at *; omega)) rfl (fun _ => ?_) (fun c => absurd c (by decide))
                      exact w_return rfl ⟨rfl, by exact ⟨h, fun _ _ _ => rfl⟩⟩
                    · skip
                      refine w_if_ne (tgt := 125) rfl (by first | assumption | exact i32_0 | (unfold i32 at *; omega)) rfl (fun c => absurd c (by decide)) (fun _ => ?_)
                      refine w_iload rfl rfl (w_aload rfl rfl (w_getR rfl (by first | rfl | assumption) rfl (by first | rfl | assumption) (w_iload rfl rfl (w_ialoadV rfl (by first | rfl | assumption) (by omega) (by omega) (x2) ?_))))
                      refine w_icmp_ge (tgt := 125) rfl (by first | assumption | exact i32_0 | (unfold i32 at *; omega)) (by first | assumption | exact i32_0 | (unfold i32 at *; omega)) rfl (fun c106 => ?_) (fun c106 => ?_)
                      · skip
                        exact w_return rfl ⟨rfl, by exact ⟨h, fun _ _ _ => rfl⟩⟩
                      · skip
                        exfalso; omega
                · skip
                  refine w_if_ge (tgt := 78) rfl (by first | assumption | exact i32_0 | (unfold i32 at *; omega)) rfl (fun _ => ?_) (fun c => absurd c (by decide))
                  refine w_iconst rfl (w_istore (ls2 := [_, _, _, _, _, _, _, _, _]) rfl rfl rfl (w_iload rfl rfl ?_))
                  refine w_if_ne (tgt := 109) rfl (by first | assumption | exact i32_0 | (unfold i32 at *; omega)) rfl (fun c83 => ?_) (fun c83 => ?_)
                  · skip
                    exfalso; omega
                  · skip
                    refine w_lload rfl rfl (w_aload rfl rfl (w_getR rfl (by first | rfl | assumption) rfl (by first | rfl | assumption) (w_iload rfl rfl (w_laloadV rfl (by first | rfl | assumption) (by omega) (by omega) (x1) ?_))))
                    refine w_lcmp rfl (by first | assumption | exact i64_0 | (unfold i64 at *; omega)) (by first | assumption | exact i64_0 | (unfold i64 at *; omega)) (fun c94 => ?_) (fun c94 => ?_) (fun c94 => ?_)
                    · skip
                      refine w_if_ne (tgt := 125) rfl (by first | assumption | exact i32_0 | (unfold i32 at *; omega)) rfl (fun _ => ?_) (fun c => absurd c (by decide))
                      exact w_return rfl ⟨rfl, by exact ⟨h, fun _ _ _ => rfl⟩⟩
                    · skip
                      refine w_if_ne (tgt := 125) rfl (by first | assumption | exact i32_0 | (unfold i32 at *; omega)) rfl (fun _ => ?_) (fun c => absurd c (by decide))
                      exact w_return rfl ⟨rfl, by exact ⟨h, fun _ _ _ => rfl⟩⟩
                    · skip
                      refine w_if_ne (tgt := 125) rfl (by first | assumption | exact i32_0 | (unfold i32 at *; omega)) rfl (fun c => absurd c (by decide)) (fun _ => ?_)
                      refine w_iload rfl rfl (w_aload rfl rfl (w_getR rfl (by first | rfl | assumption) rfl (by first | rfl | assumption) (w_iload rfl rfl (w_ialoadV rfl (by first | rfl | assumption) (by omega) (by omega) (x2) ?_))))
                      refine w_icmp_ge (tgt := 125) rfl (by first | assumption | exact i32_0 | (unfold i32 at *; omega)) (by first | assumption | exact i32_0 | (unfold i32 at *; omega)) rfl (fun c106 => ?_) (fun c106 => ?_)
                      · skip
                        exact w_return rfl ⟨rfl, by exact ⟨h, fun _ _ _ => rfl⟩⟩
                      · skip
                        exfalso; omega
            · skip
              exfalso; omega
  · rw [if_neg (fun z => q1 z.1)]
    refine w_aload rfl rfl (w_iload rfl rfl ?_)
    refine w_call (Or.inr rfl) (hfa) (by omega) nof_122 rfl rfl rfl rfl (by first | rfl | (show cKB[_]? = _; assumption)) rfl ?_
    refine w_lconst rfl ?_
    refine w_lcmp rfl (by first | assumption | exact i64_0 | (unfold i64 at *; omega)) (by first | assumption | exact i64_0 | (unfold i64 at *; omega)) (fun c6 => ?_) (fun c6 => ?_) (fun c6 => ?_)
    · skip
      refine w_if_lt (tgt := 32) rfl (by first | assumption | exact i32_0 | (unfold i32 at *; omega)) rfl (fun _ => ?_) (fun c => absurd c (by decide))
      exact w_return rfl ⟨rfl, by exact ⟨h, fun _ _ _ => rfl⟩⟩
    · skip
      refine w_if_lt (tgt := 32) rfl (by first | assumption | exact i32_0 | (unfold i32 at *; omega)) rfl (fun c => absurd c (by decide)) (fun _ => ?_)
      exfalso; omega
    · skip
      refine w_if_lt (tgt := 32) rfl (by first | assumption | exact i32_0 | (unfold i32 at *; omega)) rfl (fun c => absurd c (by decide)) (fun _ => ?_)
      exfalso; omega
def wyK (u : Int) (e : Nat → Int) : Option (Nat × Nat × Int) := if e 5 = -1000000 then none else some ((e 4).toNat, (e 5).toNat, lenU u e)
theorem e_measureFrom {s t a u : Nat} {C : List Pt} {R : List (Nat → Int)} {M : mM} (hs : isS s t) (hC : PtR (s + 1) C M) (hR : edgs s R M) (hok : rowsOK C.length R) (hu5 : M s 5 = (u : Int)) (hu : u ≤ 720720) (ha : a < 16) : EQ 3 120 [vR s, vI a] M (fun r N => r = none ∧ WayR s (rlxI (R.map (wyK u)) (lab0 a) C.length) N ∧ labOK (2 * (R.length * C.length)) (rlxI (R.map (wyK u)) (lab0 a) C.length) ∧ ∀ x k, (x ≠ s + 8 ∧ x ≠ s + 9) → N x k = M x k) := by
  have hss := hs
  obtain ⟨⟨k0, k1, k2, k3, k4, k5⟩, ⟨kE, kF, kS⟩, ht, hpts, -⟩ := hs
  have hpts0 : cKB[s + 1]? = some (0, 5) := hpts.1.1
  have hl30 := hR.2.1
  have hl16 := hC.2.1
  have hlen : (R.map (wyK u)).length = R.length := List.length_map _
  refine q_in (ls := [vR s, vI a, vN, vN]) mq_120 (ml_120 rfl) rfl fun D hD => ?_
  have inner : ∀ (i : Nat) (acc : Lab), i < C.length → labOK (2 * (R.length * i)) acc → (∀ (N : mM) (v : mV), WayR s (rlxK (R.map (wyK u)) acc R.length) N → labOK (2 * (R.length * i) + 2 * R.length) (rlxK (R.map (wyK u)) acc R.length) → (∀ x k, (x ≠ s + 8 ∧ x ≠ s + 9) → N x k = M x k) → Wp mc_120 D 165 [vR s, vI a, vI i, v] [] N (fun r N => r = none ∧ WayR s (rlxI (R.map (wyK u)) (lab0 a) C.length) N ∧ labOK (2 * (R.length * C.length)) (rlxI (R.map (wyK u)) (lab0 a) C.length) ∧ ∀ x k, (x ≠ s + 8 ∧ x ≠ s + 9) → N x k = M x k)) → ∀ (m n : Nat) (N : mM), R.length - n = m → n ≤ R.length → WayR s (rlxK (R.map (wyK u)) acc n) N → labOK (2 * (R.length * i) + 2 * n) (rlxK (R.map (wyK u)) acc n) → (∀ x k, (x ≠ s + 8 ∧ x ≠ s + 9) → N x k = M x k) → Wp mc_120 D 66 [vR s, vI a, vI i, vI n] [] N (fun r N => r = none ∧ WayR s (rlxI (R.map (wyK u)) (lab0 a) C.length) N ∧ labOK (2 * (R.length * C.length)) (rlxI (R.map (wyK u)) (lab0 a) C.length) ∧ ∀ x k, (x ≠ s + 8 ∧ x ≠ s + 9) → N x k = M x k) := by
    intro i acc hi hacc hout m
    induction m with
    | zero =>
      intro n N hm hn hW hX hF
      obtain rfl : n = R.length := by omega
      have hgo := hout N (vI R.length) hW hX hF
      have h4 : N s 4 = (R.length : Int) := by rw [hF s 4 (by omega)]; exact hR.1
      refine w_iload rfl rfl (w_aload rfl rfl (w_getIV rfl (by first | rfl | assumption) (by first | exact Or.inl rfl | exact Or.inr rfl) (h4) ?_))
      refine w_icmp_ge (tgt := 165) rfl (by first | assumption | exact i32_0 | (unfold i32 at *; omega)) (by first | assumption | exact i32_0 | (unfold i32 at *; omega)) rfl (fun c71 => ?_) (fun c71 => ?_)
      · skip
        exact hgo
      · skip
        exfalso; omega
    | succ m ih =>
      intro n N hm hn hW hX hF
      have hnl : n < R.length := by omega
      have hx := edgs_row hss (k := n) (by omega)
      have hxr := hx.1
      have hxe : cKB[s + 10 + n]? = some (0, 0) := hx.2
      have hr : R[n]? = some R[n] := List.getElem?_eq_getElem hnl
      have h4 : N s 4 = (R.length : Int) := by rw [hF s 4 (by omega)]; exact hR.1
      have h5 : N s 5 = (u : Int) := by rw [hF s 5 (by omega)]; exact hu5
      have hE : EdR (s + 10 + n) R[n] N := EdR_fr (hR.2.2 n _ hr) (funext fun k => hF _ k (by omega))
      have ho := hok R[n] (List.getElem_mem hnl)
      have ihn := fun N2 => ih (n + 1) N2 (by omega) (by omega)
      have hun : rlxK (R.map (wyK u)) acc (n + 1) = rlxE (((R.map (wyK u))[n]?).getD none) (rlxK (R.map (wyK u)) acc n) := rfl
      have hKn : ((R.map (wyK u))[n]?).getD none = wyK u R[n] := by rw [List.getElem?_map, hr]; rfl
      rw [hun, hKn] at ihn
      have hcb : 2 * (R.length * i) + 2 * n ≤ 1000 := by
        have : R.length * i ≤ 30 * 15 := Nat.mul_le_mul hl30 (by omega)
        omega
      generalize rlxK (R.map (wyK u)) acc n = X at *
      generalize R[n] = e at *
      by_cases q5 : e 5 = -1000000
      · have hw : wyK u e = none := if_pos q5
        rw [hw] at ihn
        have hgo := ihn N hW (show labOK _ X from fun k => by have := hX k; omega) hF
        refine w_iload rfl rfl (w_aload rfl rfl (w_getIV rfl (by first | rfl | assumption) (by first | exact Or.inl rfl | exact Or.inr rfl) (h4) ?_))
        refine w_icmp_ge (tgt := 165) rfl (by first | assumption | exact i32_0 | (unfold i32 at *; omega)) (by first | assumption | exact i32_0 | (unfold i32 at *; omega)) rfl (fun c71 => ?_) (fun c71 => ?_)
        · skip
          exfalso; omega
        · skip
          refine w_iload rfl rfl (w_aload rfl rfl (w_getR rfl (by first | rfl | assumption) rfl (by first | rfl | assumption | (rw [Int.toNat_natCast]; assumption)) (w_alen rfl (by first | rfl | assumption) (by decide) (by decide) ?_)))
          refine w_icmp_ge (tgt := 165) rfl (by first | assumption | exact i32_0 | (unfold i32 at *; omega)) (by first | assumption | exact i32_0 | (unfold i32 at *; omega)) rfl (fun c80 => ?_) (fun c80 => ?_)
          · skip
            exfalso; omega
          · skip
            refine w_aload rfl rfl (w_getR rfl (by first | rfl | assumption) rfl (by first | rfl | assumption | (rw [Int.toNat_natCast]; assumption)) (w_iload rfl rfl (w_aaload rfl (by first | rfl | assumption) (by first | exact Or.inl rfl | exact Or.inr rfl) (by omega) (by omega) (by first | rfl | assumption | (rw [Int.toNat_natCast]; assumption)) ?_)))
            refine w_call (Or.inr rfl) (e_isBounded0 hx.2 hE q5) (by omega) nof_91 rfl rfl rfl rfl (by first | rfl | (show cKB[_]? = _; assumption)) rfl ?_
            refine w_if_eq (tgt := 159) rfl (by first | assumption | exact i32_0 | (unfold i32 at *; omega)) rfl (fun _ => ?_) (fun c => absurd c (by decide))
            refine w_iinc (ls2 := [_, _, _, _]) rfl rfl rfl (w_goto (tgt := 66) rfl rfl ?_)
            exact hgo
      · have hw : wyK u e = some ((e 4).toNat, (e 5).toNat, lenU u e) := if_neg q5
        rw [hw] at ihn
        obtain ⟨a4, a5, -⟩ := ho.2.2 q5
        have hlb := lenU_le hu ho q5
        have b4 : (e 4).toNat < 16 := by omega
        have b5 : (e 5).toNat < 16 := by omega
        have m4 : N (s + 10 + n) 4 = ((e 4).toNat : Int) := by rw [hE 4 (by decide)]; omega
        have m5 : N (s + 10 + n) 5 = ((e 5).toNat : Int) := by rw [hE 5 (by decide)]; omega
        have hlo := e_lengthOf hss hx.2 hE h5 hu ho q5
        have a5b : 0 ≤ e 5 ∧ e 5 < 16 := by omega
        generalize (e 4).toNat = i4 at *
        generalize (e 5).toNat = i5 at *
        generalize hlz : lenU u e = lz at *
        have s1 := e_shorten (c := 2 * (R.length * i) + 2 * n) hss hW hX (by omega) b4 b5 hlb
        have hX2 := labOK_rlx (a := i4) (b := i5) hX hlb
        have hX3 := labOK_rlx (a := i5) (b := i4) hX2 hlb
        refine w_iload rfl rfl (w_aload rfl rfl (w_getIV rfl (by first | rfl | assumption) (by first | exact Or.inl rfl | exact Or.inr rfl) (h4) ?_))
        refine w_icmp_ge (tgt := 165) rfl (by first | assumption | exact i32_0 | (unfold i32 at *; omega)) (by first | assumption | exact i32_0 | (unfold i32 at *; omega)) rfl (fun c71 => ?_) (fun c71 => ?_)
        · skip
          exfalso; omega
        · skip
          refine w_iload rfl rfl (w_aload rfl rfl (w_getR rfl (by first | rfl | assumption) rfl (by first | rfl | assumption | (rw [Int.toNat_natCast]; assumption)) (w_alen rfl (by first | rfl | assumption) (by decide) (by decide) ?_)))
          refine w_icmp_ge (tgt := 165) rfl (by first | assumption | exact i32_0 | (unfold i32 at *; omega)) (by first | assumption | exact i32_0 | (unfold i32 at *; omega)) rfl (fun c80 => ?_) (fun c80 => ?_)
          · skip
            exfalso; omega
          · skip
            refine w_aload rfl rfl (w_getR rfl (by first | rfl | assumption) rfl (by first | rfl | assumption | (rw [Int.toNat_natCast]; assumption)) (w_iload rfl rfl (w_aaload rfl (by first | rfl | assumption) (by first | exact Or.inl rfl | exact Or.inr rfl) (by omega) (by omega) (by first | rfl | assumption | (rw [Int.toNat_natCast]; assumption)) ?_)))
            refine w_call (Or.inr rfl) (e_isBounded1 hx.2 hE a5b) (by omega) nof_91 rfl rfl rfl rfl (by first | rfl | (show cKB[_]? = _; assumption)) rfl ?_
            refine w_if_eq (tgt := 159) rfl (by first | assumption | exact i32_0 | (unfold i32 at *; omega)) rfl (fun c => absurd c (by decide)) (fun _ => ?_)
            refine w_aload rfl rfl (w_aload rfl rfl (w_getR rfl (by first | rfl | assumption) rfl (by first | rfl | assumption | (rw [Int.toNat_natCast]; assumption)) (w_iload rfl rfl (w_aaload rfl (by first | rfl | assumption) (by first | exact Or.inl rfl | exact Or.inr rfl) (by omega) (by omega) (by first | rfl | assumption | (rw [Int.toNat_natCast]; assumption)) (w_getIV rfl (by first | rfl | assumption) (by first | exact Or.inl rfl | exact Or.inr rfl) (m4) (w_aload rfl rfl (w_getR rfl (by first | rfl | assumption) rfl (by first | rfl | assumption | (rw [Int.toNat_natCast]; assumption)) ?_)))))))
            refine w_iload rfl rfl (w_aaload rfl (by first | rfl | assumption) (by first | exact Or.inl rfl | exact Or.inr rfl) (by omega) (by omega) (by first | rfl | assumption | (rw [Int.toNat_natCast]; assumption)) (w_getIV rfl (by first | rfl | assumption) (by first | exact Or.inl rfl | exact Or.inr rfl) (m5) (w_aload rfl rfl (w_aload rfl rfl (w_getR rfl (by first | rfl | assumption) rfl (by first | rfl | assumption | (rw [Int.toNat_natCast]; assumption)) (w_iload rfl rfl (w_aaload rfl (by first | rfl | assumption) (by first | exact Or.inl rfl | exact Or.inr rfl) (by omega) (by omega) (by first | rfl | assumption | (rw [Int.toNat_natCast]; assumption)) ?_)))))))
            refine w_call (Or.inr rfl) (hlo) (by omega) nof_111 rfl rfl rfl rfl (by first | rfl | (show cKB[_]? = _; assumption)) rfl ?_
            refine w_callQ (Or.inr rfl) (s1) (by omega) nof_121 rfl rfl rfl rfl (by first | rfl | (show cKB[_]? = _; assumption)) (fun r124 M124 hq124 => ?_)
            obtain ⟨rfl, w1, w2⟩ := hq124
            have n4 : M124 (s + 10 + n) 4 = (i4 : Int) := by rw [w2 _ _ (by omega)]; exact m4
            have n5 : M124 (s + 10 + n) 5 = (i5 : Int) := by rw [w2 _ _ (by omega)]; exact m5
            have hE2 : EdR (s + 10 + n) e M124 := EdR_fr hE (funext fun k => w2 _ k (by omega))
            have hlo2 := e_lengthOf hss hx.2 hE2 (by rw [w2 s 5 (by omega)]; exact h5) hu ho q5
            rw [hlz] at hlo2
            have s2 := e_shorten (c := 2 * (R.length * i) + 2 * n + 1) hss w1 hX2 (by omega) b5 b4 hlb
            refine w_aload rfl rfl (w_aload rfl rfl (w_getR rfl (by first | rfl | assumption) rfl (by first | rfl | assumption | (rw [Int.toNat_natCast]; assumption)) (w_iload rfl rfl (w_aaload rfl (by first | rfl | assumption) (by first | exact Or.inl rfl | exact Or.inr rfl) (by omega) (by omega) (by first | rfl | assumption | (rw [Int.toNat_natCast]; assumption)) (w_getIV rfl (by first | rfl | assumption) (by first | exact Or.inl rfl | exact Or.inr rfl) (n5) (w_aload rfl rfl (w_getR rfl (by first | rfl | assumption) rfl (by first | rfl | assumption | (rw [Int.toNat_natCast]; assumption)) ?_)))))))
            refine w_iload rfl rfl (w_aaload rfl (by first | rfl | assumption) (by first | exact Or.inl rfl | exact Or.inr rfl) (by omega) (by omega) (by first | rfl | assumption | (rw [Int.toNat_natCast]; assumption)) (w_getIV rfl (by first | rfl | assumption) (by first | exact Or.inl rfl | exact Or.inr rfl) (n4) (w_aload rfl rfl (w_aload rfl rfl (w_getR rfl (by first | rfl | assumption) rfl (by first | rfl | assumption | (rw [Int.toNat_natCast]; assumption)) (w_iload rfl rfl (w_aaload rfl (by first | rfl | assumption) (by first | exact Or.inl rfl | exact Or.inr rfl) (by omega) (by omega) (by first | rfl | assumption | (rw [Int.toNat_natCast]; assumption)) ?_)))))))
            refine w_call (Or.inr rfl) ((hlo2)) (by omega) nof_111 rfl rfl rfl rfl (by first | rfl | (show cKB[_]? = _; assumption)) rfl ?_
            refine w_callQ (Or.inr rfl) ((s2)) (by omega) nof_121 rfl rfl rfl rfl (by first | rfl | (show cKB[_]? = _; assumption)) (fun r156 M156 hq156 => ?_)
            obtain ⟨rfl, z1, z2⟩ := hq156
            have hgo := ihn M156 z1 hX3 (fun x k hx => by rw [z2 x k hx, w2 x k hx]; exact hF x k hx)
            refine w_iinc (ls2 := [_, _, _, _]) rfl rfl rfl (w_goto (tgt := 66) rfl rfl ?_)
            exact hgo
  have outer : ∀ (m n : Nat) (N : mM) (v : mV), C.length - n = m → n ≤ C.length → WayR s (rlxI (R.map (wyK u)) (lab0 a) n) N → labOK (2 * (R.length * n)) (rlxI (R.map (wyK u)) (lab0 a) n) → (∀ x k, (x ≠ s + 8 ∧ x ≠ s + 9) → N x k = M x k) → Wp mc_120 D 53 [vR s, vI a, vI n, v] [] N (fun r N => r = none ∧ WayR s (rlxI (R.map (wyK u)) (lab0 a) C.length) N ∧ labOK (2 * (R.length * C.length)) (rlxI (R.map (wyK u)) (lab0 a) C.length) ∧ ∀ x k, (x ≠ s + 8 ∧ x ≠ s + 9) → N x k = M x k) := by
    intro m
    induction m with
    | zero =>
      intro n N v hm hn hW hX hF
      obtain rfl : n = C.length := by omega
      have hC5 : N (s + 1) 5 = (C.length : Int) := by rw [hF _ _ (by omega)]; exact hC.1
      refine w_iload rfl rfl (w_aload rfl rfl (w_getR rfl (by first | rfl | assumption) rfl (by first | rfl | assumption) (w_getIV rfl (by first | rfl | assumption) (by first | exact Or.inl rfl | exact Or.inr rfl) (hC5) ?_)))
      refine w_icmp_ge (tgt := 171) rfl (by first | assumption | exact i32_0 | (unfold i32 at *; omega)) (by first | assumption | exact i32_0 | (unfold i32 at *; omega)) rfl (fun c61 => ?_) (fun c61 => ?_)
      · skip
        exact w_return rfl ⟨rfl, by exact ⟨hW, hX, hF⟩⟩
      · skip
        exfalso; omega
    | succ m ih =>
      intro n N v hm hn hW hX hF
      have hC5 : N (s + 1) 5 = (C.length : Int) := by rw [hF _ _ (by omega)]; exact hC.1
      have ihn := fun N2 v => ih (n + 1) N2 v (by omega) (by omega)
      have hun : rlxI (R.map (wyK u)) (lab0 a) (n + 1) = rlxK (R.map (wyK u)) (rlxI (R.map (wyK u)) (lab0 a) n) R.length := by rw [rlxI, hlen]
      rw [hun, Nat.mul_succ R.length n, Nat.mul_add] at ihn
      have hgo := inner n (rlxI (R.map (wyK u)) (lab0 a) n) (by omega) hX (fun N2 v w1 w2 w3 => by
        have hgo := ihn N2 v w1 w2 w3
        refine w_iinc (ls2 := [_, _, _, _]) rfl rfl rfl (w_goto (tgt := 53) rfl rfl ?_)
        exact hgo) R.length 0 N (Nat.sub_zero _) (Nat.zero_le _) hW hX hF
      refine w_iload rfl rfl (w_aload rfl rfl (w_getR rfl (by first | rfl | assumption) rfl (by first | rfl | assumption) (w_getIV rfl (by first | rfl | assumption) (by first | exact Or.inl rfl | exact Or.inr rfl) (hC5) ?_)))
      refine w_icmp_ge (tgt := 171) rfl (by first | assumption | exact i32_0 | (unfold i32 at *; omega)) (by first | assumption | exact i32_0 | (unfold i32 at *; omega)) rfl (fun c61 => ?_) (fun c61 => ?_)
      · skip
        exfalso; omega
      · skip
        refine w_iconst rfl (w_istore (ls2 := [_, _, _, _]) rfl rfl rfl ?_)
        exact hgo
  have fill : ∀ (m n : Nat) (N : mM), 16 - n = m → n ≤ 16 → (∀ k, k < n → N (s + 8) k = (lab0 a).1 k ∧ N (s + 9) k = (lab0 a).2 k) → (∀ x k, (x ≠ s + 8 ∧ x ≠ s + 9) → N x k = M x k) → Wp mc_120 D 2 [vR s, vI a, vI n, vN] [] N (fun r N => r = none ∧ WayR s (rlxI (R.map (wyK u)) (lab0 a) C.length) N ∧ labOK (2 * (R.length * C.length)) (rlxI (R.map (wyK u)) (lab0 a) C.length) ∧ ∀ x k, (x ≠ s + 8 ∧ x ≠ s + 9) → N x k = M x k) := by
    intro m
    induction m with
    | zero =>
      intro n N hm hn hW hF
      obtain rfl : n = 16 := by omega
      have hgo := outer C.length 0 N vN (Nat.sub_zero _) (Nat.zero_le _) hW (fun k => by
        show -1 ≤ (if k = a then (0 : Int) else -1) ∧ (if k = a then (0 : Int) else -1) ≤ ((2 * (R.length * 0) : Nat) : Int) * 4000000000000 ∧ (0 : Int) ≤ 0 ∧ (0 : Int) ≤ ((2 * (R.length * 0) : Nat) : Int)
        split <;> omega) hF
      refine w_iload rfl rfl (w_aload rfl rfl (w_getR rfl (by first | rfl | assumption) rfl (by first | rfl | assumption) (w_alen rfl (by first | rfl | assumption) (by decide) (by decide) ?_)))
      refine w_icmp_ge (tgt := 51) rfl (by first | assumption | exact i32_0 | (unfold i32 at *; omega)) (by first | assumption | exact i32_0 | (unfold i32 at *; omega)) rfl (fun c8 => ?_) (fun c8 => ?_)
      · skip
        refine w_iconst rfl (w_istore (ls2 := [_, _, _, _]) rfl rfl rfl ?_)
        exact hgo
      · skip
        exfalso; omega
    | succ m ih =>
      intro n N hm hn hW hF
      have hgo : ∀ w : Int, w = (if n = a then 0 else -1) → Wp mc_120 D 2 [vR s, vI a, vI ((n : Int) + 1), vN] [] (upI (upI N (s + 8) n w) (s + 9) n 0) (fun r N => r = none ∧ WayR s (rlxI (R.map (wyK u)) (lab0 a) C.length) N ∧ labOK (2 * (R.length * C.length)) (rlxI (R.map (wyK u)) (lab0 a) C.length) ∧ ∀ x k, (x ≠ s + 8 ∧ x ≠ s + 9) → N x k = M x k) := by
        intro w hw
        refine ih (n + 1) _ (by omega) (by omega) (fun k hk => ?_) (fun x k hx => by rw [upI_ne _ _ _ _ hx.2, upI_ne _ _ _ _ hx.1]; exact hF x k hx)
        unfold upI
        by_cases q : k = n
        · rw [if_neg (by omega), if_pos ⟨rfl, q⟩, if_pos ⟨rfl, q⟩, hw, q]; exact ⟨rfl, rfl⟩
        · rw [if_neg (by omega), if_neg (by omega), if_neg (by omega), if_neg (by omega)]; exact hW k (by omega)
      by_cases q : n = a
      · have hgo := hgo 0 (by rw [if_pos q])
        refine w_iload rfl rfl (w_aload rfl rfl (w_getR rfl (by first | rfl | assumption) rfl (by first | rfl | assumption) (w_alen rfl (by first | rfl | assumption) (by decide) (by decide) ?_)))
        refine w_icmp_ge (tgt := 51) rfl (by first | assumption | exact i32_0 | (unfold i32 at *; omega)) (by first | assumption | exact i32_0 | (unfold i32 at *; omega)) rfl (fun c8 => ?_) (fun c8 => ?_)
        · skip
          exfalso; omega
        · skip
          refine w_iload rfl rfl (w_aload rfl rfl (w_getR rfl (by first | rfl | assumption) rfl (by first | rfl | assumption) (w_alen rfl (by first | rfl | assumption) (by decide) (by decide) ?_)))
          refine w_icmp_ge (tgt := 51) rfl (by first | assumption | exact i32_0 | (unfold i32 at *; omega)) (by first | assumption | exact i32_0 | (unfold i32 at *; omega)) rfl (fun c17 => ?_) (fun c17 => ?_)
          · skip
            exfalso; omega
          · skip
            refine w_aload rfl rfl (w_getR rfl (by first | rfl | assumption) rfl (by first | rfl | assumption) (w_iload rfl rfl (w_iload rfl rfl (w_iload rfl rfl ?_))))
            refine w_icmp_ne (tgt := 34) rfl (by first | assumption | exact i32_0 | (unfold i32 at *; omega)) (by first | assumption | exact i32_0 | (unfold i32 at *; omega)) rfl (fun c27 => ?_) (fun c27 => ?_)
            · skip
              exfalso; omega
            · skip
              refine w_lconst rfl (w_goto (tgt := 37) rfl rfl (w_lastore rfl (by first | rfl | assumption) (by omega) (by omega) (w_aload rfl rfl (w_getR rfl (by first | rfl | assumption) rfl (by first | rfl | assumption) (w_iload rfl rfl (w_iconst rfl (w_iastore rfl (by first | rfl | assumption) (by omega) (by omega) ?_)))))))
              refine w_iinc (ls2 := [_, _, _, _]) rfl rfl rfl (w_goto (tgt := 2) rfl rfl ?_)
              exact hgo
      · have hgo := hgo (-1) (by rw [if_neg q])
        refine w_iload rfl rfl (w_aload rfl rfl (w_getR rfl (by first | rfl | assumption) rfl (by first | rfl | assumption) (w_alen rfl (by first | rfl | assumption) (by decide) (by decide) ?_)))
        refine w_icmp_ge (tgt := 51) rfl (by first | assumption | exact i32_0 | (unfold i32 at *; omega)) (by first | assumption | exact i32_0 | (unfold i32 at *; omega)) rfl (fun c8 => ?_) (fun c8 => ?_)
        · skip
          exfalso; omega
        · skip
          refine w_iload rfl rfl (w_aload rfl rfl (w_getR rfl (by first | rfl | assumption) rfl (by first | rfl | assumption) (w_alen rfl (by first | rfl | assumption) (by decide) (by decide) ?_)))
          refine w_icmp_ge (tgt := 51) rfl (by first | assumption | exact i32_0 | (unfold i32 at *; omega)) (by first | assumption | exact i32_0 | (unfold i32 at *; omega)) rfl (fun c17 => ?_) (fun c17 => ?_)
          · skip
            exfalso; omega
          · skip
            refine w_aload rfl rfl (w_getR rfl (by first | rfl | assumption) rfl (by first | rfl | assumption) (w_iload rfl rfl (w_iload rfl rfl (w_iload rfl rfl ?_))))
            refine w_icmp_ne (tgt := 34) rfl (by first | assumption | exact i32_0 | (unfold i32 at *; omega)) (by first | assumption | exact i32_0 | (unfold i32 at *; omega)) rfl (fun c27 => ?_) (fun c27 => ?_)
            · skip
              refine w_lconst rfl (w_lastore rfl (by first | rfl | assumption) (by omega) (by omega) (w_aload rfl rfl (w_getR rfl (by first | rfl | assumption) rfl (by first | rfl | assumption) (w_iload rfl rfl (w_iconst rfl (w_iastore rfl (by first | rfl | assumption) (by omega) (by omega) (w_iinc (ls2 := [_, _, _, _]) rfl rfl rfl ?_)))))))
              refine w_goto (tgt := 2) rfl rfl ?_
              exact hgo
            · skip
              exfalso; omega
  have hgo := fill 16 0 M rfl (by decide) (fun k hk => absurd hk (Nat.not_lt_zero k)) (fun _ _ _ => rfl)
  refine w_iconst rfl (w_istore (ls2 := [_, _, _, _]) rfl rfl rfl ?_)
  exact hgo
