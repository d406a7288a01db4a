/-! ===== unit and bridges ===== -/
def edgs (s : Nat) (R : List (Nat → Int)) (M : mM) : Prop := M s 4 = (R.length : Int) ∧ R.length ≤ 30 ∧ ∀ (k : Nat) (e : Nat → Int), R[k]? = some e → EdR (s + 10 + k) e M
theorem edgs_fr {s : Nat} {R : List (Nat → Int)} {M M1 : mM} (h : edgs s R M) (h4 : M1 s 4 = M s 4) (e : ∀ a, s + 10 ≤ a → a < s + 40 → M1 a = M a) : edgs s R M1 := ⟨by rw [h4]; exact h.1, h.2.1, fun k r hk => EdR_fr (h.2.2 k r hk) (e _ (by omega) (by have := (List.getElem?_eq_some_iff.mp hk).1; have := h.2.1; omega))⟩
/-- of a list of rows: fit, and a bounded one has both ends and a length -/
def rowOK (n : Nat) (e : Nat → Int) : Prop := edOK e ∧ (e 10 = 0 ∨ e 10 = 1) ∧ (e 5 ≠ -1000000 → (0 ≤ e 4 ∧ e 4 < n) ∧ (0 ≤ e 5 ∧ e 5 < n) ∧ (0 ≤ e 8 ∧ e 8 ≤ 4000000) ∧ ∃ d : Nat, e 9 = (d : Int) ∧ 0 < d ∧ d ∣ 720720)
def rowsOK (n : Nat) (R : List (Nat → Int)) : Prop := ∀ e ∈ R, rowOK n e
def unitR (R : List (Nat → Int)) : Nat → Nat
  | 0 => 1
  | n + 1 => match R[n]? with
    | none => unitR R n
    | some e => if e 5 = -1000000 then unitR R n else Nat.lcm (unitR R n) (e 9).toNat
theorem unitR_dvd {m : Nat} {R : List (Nat → Int)} (h : rowsOK m R) : ∀ n, unitR R n ∣ 720720 ∧ 0 < unitR R n
  | 0 => ⟨Nat.one_dvd _, Nat.one_pos⟩
  | n + 1 => by
    have ih := unitR_dvd h n
    unfold unitR
    cases e : R[n]? with
    | none => exact ih
    | some r =>
      dsimp only
      split
      · exact ih
      · next q =>
        obtain ⟨-, -, -, d, hd, hd2, hd3⟩ := (h r (List.mem_of_getElem? e)).2.2 q
        rw [hd, Int.toNat_natCast]
        exact ⟨Nat.lcm_dvd ih.1 hd3, Nat.lcm_pos ih.2 hd2⟩
theorem edgs_row {s t k : Nat} (hs : isS s t) (hk : k < 30) : cRT (s + 7) k = some (s + 10 + k) ∧ isEd (s + 10 + k) := hs.2.2.2.2.2 k hk
theorem e_findUnit {s t m : Nat} {R : List (Nat → Int)} {M : mM} (hs : isS s t) (hR : edgs s R M) (hok : rowsOK m R) : EQ 3 94 [vR s] M (fun r N => r = none ∧ N s 5 = (unitR R R.length : Int) ∧ ∀ a k, (a ≠ s ∨ k ≠ 5) → N a k = M a k) := by
  have hss := hs
  obtain ⟨⟨k0, k1, k2, k3, k4, k5⟩, ⟨kE, -, -⟩, -⟩ := hs
  refine q_in (ls := [vR s, vN, vN]) mq_94 (ml_94 rfl) rfl fun D hD => ?_
  have loop : ∀ (m n : Nat) (N : mM) (v : mV), R.length - n = m → n ≤ R.length → N s 5 = (unitR R n : Int) → (∀ a k, (a ≠ s ∨ k ≠ 5) → N a k = M a k) → Wp mc_94 D 7 [vR s, vI n, v] [] N (fun r N => r = none ∧ N s 5 = (unitR R R.length : Int) ∧ ∀ a k, (a ≠ s ∨ k ≠ 5) → N a k = M a k) := by
    intro m
    induction m with
    | zero =>
      intro n N v hm hn h5 hF
      obtain rfl : n = R.length := by omega
      have h4 : N s 4 = (R.length : Int) := by rw [hF s 4 (by omega)]; exact hR.1
      have := hR.2.1
      refine w_iload rfl rfl (w_aload rfl rfl (w_getIV rfl (by first | rfl | assumption) (by first | exact Or.inl rfl | exact Or.inr rfl) (h4) ?_))
      refine w_icmp_ge (tgt := 80) rfl (by first | assumption | exact i32_0 | (unfold i32 at *; omega)) (by first | assumption | exact i32_0 | (unfold i32 at *; omega)) rfl (fun c12 => ?_) (fun c12 => ?_)
      · skip
        exact w_return rfl ⟨rfl, by exact ⟨h5, hF⟩⟩
      · skip
        exfalso; omega
    | succ m ih =>
      intro n N v hm hn h5 hF
      have hnl : n < R.length := by omega
      have ihn := fun N2 v => ih (n + 1) N2 v (by omega) (by omega)
      have hl30 := hR.2.1
      have h4 : N s 4 = (R.length : Int) := by rw [hF s 4 (by omega)]; exact hR.1
      have hx := edgs_row hss (k := n) (by omega)
      have hxr := hx.1
      have hxe : cKB[s + 10 + n]? = some (0, 0) := hx.2
      have hr : R[n]? = some R[n] := List.getElem?_eq_getElem hnl
      have ho := hok R[n] (List.getElem_mem hnl)
      have hE : EdR (s + 10 + n) R[n] N := EdR_fr (hR.2.2 n _ hr) (funext fun k => hF _ k (by omega))
      have hun : unitR R (n + 1) = if R[n] 5 = -1000000 then unitR R n else Nat.lcm (unitR R n) (R[n] 9).toNat := by
        show (match R[n]? with | none => unitR R n | some e => if e 5 = -1000000 then unitR R n else Nat.lcm (unitR R n) (e 9).toNat) = _
        rw [hr]
      rw [hun] at ihn
      obtain ⟨hu1, hu2⟩ := unitR_dvd hok n
      have hu3 := Nat.le_of_dvd (by decide) hu1
      generalize unitR R n = u at *
      generalize R[n] = e at *
      have h9 := hE 9 (by decide)
      by_cases q5 : e 5 = -1000000
      · rw [if_pos q5] at ihn
        have hgo := fun v => ihn N v h5 hF
        refine w_iload rfl rfl (w_aload rfl rfl (w_getIV rfl (by first | rfl | assumption) (by first | exact Or.inl rfl | exact Or.inr rfl) (h4) ?_))
        refine w_icmp_ge (tgt := 80) rfl (by first | assumption | exact i32_0 | (unfold i32 at *; omega)) (by first | assumption | exact i32_0 | (unfold i32 at *; omega)) rfl (fun c12 => ?_) (fun c12 => ?_)
        · skip
          exfalso; omega
        · skip
          refine w_iload rfl rfl (w_aload rfl rfl (w_getR rfl (by first | rfl | assumption) rfl (by first | rfl | assumption | (rw [Int.toNat_natCast]; assumption)) (w_alen rfl (by first | rfl | assumption) (by decide) (by decide) ?_)))
          refine w_icmp_ge (tgt := 80) rfl (by first | assumption | exact i32_0 | (unfold i32 at *; omega)) (by first | assumption | exact i32_0 | (unfold i32 at *; omega)) rfl (fun c21 => ?_) (fun c21 => ?_)
          · skip
            exfalso; omega
          · skip
            refine w_aload rfl rfl (w_getR rfl (by first | rfl | assumption) rfl (by first | rfl | assumption | (rw [Int.toNat_natCast]; assumption)) (w_iload rfl rfl (w_aaload rfl (by first | rfl | assumption) (by first | exact Or.inl rfl | exact Or.inr rfl) (by omega) (by omega) (by first | rfl | assumption | (rw [Int.toNat_natCast]; assumption)) (w_getI rfl (by first | rfl | assumption) (by first | exact Or.inl rfl | exact Or.inr rfl) (w_istore (ls2 := [_, _, _]) rfl rfl rfl (w_aload rfl rfl (w_getR rfl (by first | rfl | assumption) rfl (by first | rfl | assumption | (rw [Int.toNat_natCast]; assumption)) ?_)))))))
            refine w_iload rfl rfl (w_aaload rfl (by first | rfl | assumption) (by first | exact Or.inl rfl | exact Or.inr rfl) (by omega) (by omega) (by first | rfl | assumption | (rw [Int.toNat_natCast]; assumption)) ?_)
            refine w_call (Or.inr rfl) (e_isBounded0 hx.2 hE q5) (by omega) nof_91 rfl rfl rfl rfl (by first | rfl | (show cKB[_]? = _; assumption)) rfl ?_
            refine w_if_eq (tgt := 74) rfl (by first | assumption | exact i32_0 | (unfold i32 at *; omega)) rfl (fun _ => ?_) (fun c => absurd c (by decide))
            refine w_iinc (ls2 := [_, _, _]) rfl rfl rfl (w_goto (tgt := 7) rfl rfl ?_)
            exact hgo _
      · rw [if_neg q5] at ihn
        obtain ⟨a4, a5, a8, d, hd, hd2, hd3⟩ := ho.2.2 q5
        have o1 := ho.1
        rw [hd] at h9 ihn
        rw [Int.toNat_natCast] at ihn
        have hdle := Nat.le_of_dvd (by decide) hd3
        have a55 := o1.2.2.2.1
        have hdv := e_divisor ((u : Int).tmod (d : Int)) (d : Int) N
        have hmod : (u : Int).tmod (d : Int) = ((u % d : Nat) : Int) := rfl
        have hml := Nat.mod_lt u hd2
        rw [hmod] at hdv
        have hgc : gcd1 ((u % d : Nat) : Int) (d : Int) = Nat.gcd u d := by
          unfold gcd1
          rw [Int.natAbs_natCast, Int.natAbs_natCast]
          have e1 : Nat.gcd (u % d) d = Nat.gcd u d := by rw [← Nat.gcd_rec, Nat.gcd_comm]
          have e2 : 0 < Nat.gcd u d := Nat.gcd_pos_of_pos_right u hd2
          rw [e1]; omega
        rw [hgc] at hdv
        have hgp : 0 < Nat.gcd u d := Nat.gcd_pos_of_pos_right u hd2
        have hgl : Nat.gcd u d ≤ d := Nat.le_of_dvd hd2 (Nat.gcd_dvd_right u d)
        have hlcm : (u : Int) * ((d : Int).tdiv ((Nat.gcd u d : Nat) : Int)) = ((Nat.lcm u d : Nat) : Int) := by
          have e1 : (d : Int).tdiv ((Nat.gcd u d : Nat) : Int) = ((d / Nat.gcd u d : Nat) : Int) := rfl
          rw [e1, ← Int.natCast_mul]
          congr 1
          show _ = u * d / Nat.gcd u d
          rw [Nat.mul_div_assoc u (Nat.gcd_dvd_right u d)]
        have hqi : 0 ≤ (d : Int).tdiv ((Nat.gcd u d : Nat) : Int) ∧ (d : Int).tdiv ((Nat.gcd u d : Nat) : Int) ≤ 720720 := by
          have e1 : (d : Int).tdiv ((Nat.gcd u d : Nat) : Int) = ((d / Nat.gcd u d : Nat) : Int) := rfl
          have := Nat.div_le_self d (Nat.gcd u d)
          rw [e1]
          generalize d / Nat.gcd u d = z at this ⊢
          omega
        have hgo := fun v => ihn (upI N s 5 ((Nat.lcm u d : Nat) : Int)) v (upI_same _ _ _ _) (fun a k ha => by rw [← hF a k ha]; exact if_neg (by omega))
        refine w_iload rfl rfl (w_aload rfl rfl (w_getIV rfl (by first | rfl | assumption) (by first | exact Or.inl rfl | exact Or.inr rfl) (h4) ?_))
        refine w_icmp_ge (tgt := 80) rfl (by first | assumption | exact i32_0 | (unfold i32 at *; omega)) (by first | assumption | exact i32_0 | (unfold i32 at *; omega)) rfl (fun c12 => ?_) (fun c12 => ?_)
        · skip
          exfalso; omega
        · skip
          refine w_iload rfl rfl (w_aload rfl rfl (w_getR rfl (by first | rfl | assumption) rfl (by first | rfl | assumption | (rw [Int.toNat_natCast]; assumption)) (w_alen rfl (by first | rfl | assumption) (by decide) (by decide) ?_)))
          refine w_icmp_ge (tgt := 80) rfl (by first | assumption | exact i32_0 | (unfold i32 at *; omega)) (by first | assumption | exact i32_0 | (unfold i32 at *; omega)) rfl (fun c21 => ?_) (fun c21 => ?_)
          · skip
            exfalso; omega
          · skip
            refine w_aload rfl rfl (w_getR rfl (by first | rfl | assumption) rfl (by first | rfl | assumption | (rw [Int.toNat_natCast]; assumption)) (w_iload rfl rfl (w_aaload rfl (by first | rfl | assumption) (by first | exact Or.inl rfl | exact Or.inr rfl) (by omega) (by omega) (by first | rfl | assumption | (rw [Int.toNat_natCast]; assumption)) (w_getIV rfl (by first | rfl | assumption) (by first | exact Or.inl rfl | exact Or.inr rfl) (h9) (w_istore (ls2 := [_, _, _]) rfl rfl rfl (w_aload rfl rfl (w_getR rfl (by first | rfl | assumption) rfl (by first | rfl | assumption | (rw [Int.toNat_natCast]; assumption)) ?_)))))))
            refine w_iload rfl rfl (w_aaload rfl (by first | rfl | assumption) (by first | exact Or.inl rfl | exact Or.inr rfl) (by omega) (by omega) (by first | rfl | assumption | (rw [Int.toNat_natCast]; assumption)) ?_)
            refine w_call (Or.inr rfl) (e_isBounded1 hx.2 hE (by omega)) (by omega) nof_91 rfl rfl rfl rfl (by first | rfl | (show cKB[_]? = _; assumption)) rfl ?_
            refine w_if_eq (tgt := 74) rfl (by first | assumption | exact i32_0 | (unfold i32 at *; omega)) rfl (fun c => absurd c (by decide)) (fun _ => ?_)
            refine w_iload rfl rfl ?_
            refine w_if_le (tgt := 74) rfl (by first | assumption | exact i32_0 | (unfold i32 at *; omega)) rfl (fun c47 => ?_) (fun c47 => ?_)
            · skip
              refine w_iinc (ls2 := [_, _, _]) rfl rfl rfl (w_goto (tgt := 7) rfl rfl ?_)
              first | (exfalso; omega) | exact hgo _
            · skip
              refine w_aload rfl rfl (w_dup rfl rfl (w_getLV rfl (by first | rfl | assumption) rfl (h5) (w_iload rfl rfl (w_aload rfl rfl (w_getLV rfl (by first | rfl | assumption) rfl (h5) (w_iload rfl rfl (w_i2l rfl (by first | assumption | exact i32_0 | (unfold i32 at *; omega)) ?_)))))))
              refine w_lrem rfl (by first | assumption | exact i64_0 | (unfold i64 at *; omega)) (by first | assumption | exact i64_0 | (unfold i64 at *; omega)) (by first | decide | omega | assumption) ?_
              rw [hmod]
              refine w_l2i rfl (w_iload rfl rfl ?_)
              refine w_call (Or.inl rfl) ((hdv (by omega) (by omega))) (by omega) nof_78 rfl rfl rfl rfl trivial rfl ?_
              refine w_idiv rfl (by first | assumption | exact i32_0 | (unfold i32 at *; omega)) (by first | assumption | exact i32_0 | (unfold i32 at *; omega)) (by first | decide | omega | assumption) (w_i2l rfl (by first | assumption | exact i32_0 | (unfold i32 at *; omega)) (w_lmul rfl ?_))
              rw [hlcm]
              refine w_putL rfl (by first | rfl | assumption) rfl (w_iinc (ls2 := [_, _, _]) rfl rfl rfl (w_goto (tgt := 7) rfl rfl ?_))
              first | (exfalso; omega) | exact hgo _
  have hgo := loop R.length 0 (upI M s 5 1) vN (Nat.sub_zero _) (Nat.zero_le _) (upI_same _ _ _ _) (fun a k ha => if_neg (by omega))
  refine w_aload rfl rfl (w_lconst rfl (w_putL rfl (by first | rfl | assumption) rfl (w_iconst rfl (w_istore (ls2 := [_, _, _]) rfl rfl rfl ?_))))
  exact hgo
/-! bridges -/
def endK (e : Nat → Int) : Option (Nat × Nat) := if e 5 = -1000000 then none else some ((e 4).toNat, (e 5).toNat)
def spr1 (o : Option (Nat × Nat)) (s : Nat) : Nat := match o with
  | none => s
  | some ab => if s &&& (2 ^ ab.1 ||| 2 ^ ab.2) = 0 then s else s ||| (2 ^ ab.1 ||| 2 ^ ab.2)
def sprK (K : List (Option (Nat × Nat))) (j s : Nat) : Nat → Nat
  | 0 => s
  | n + 1 => if n = j then sprK K j s n else spr1 ((K[n]?).getD none) (sprK K j s n)
def sprI (K : List (Option (Nat × Nat))) (j s : Nat) : Nat → Nat
  | 0 => s
  | n + 1 => sprK K j (sprI K j s n) K.length
/-- whether the edge j, from a to b, is a bridge -/
def brK (K : List (Option (Nat × Nat))) (n j : Nat) : Bool := match (K[j]?).getD none with
  | none => false
  | some ab => !(sprI K j (2 ^ ab.1) n).testBit ab.2
theorem spread_K (e : Nat → Int) (s : Nat) : spreadR e s = spr1 (endK e) s := by
  unfold spreadR spr1 endK
  by_cases h : e 5 = -1000000
  · rw [if_pos h, if_pos h]
  · rw [if_neg h, if_neg h]
def KOK (K : List (Option (Nat × Nat))) : Prop := ∀ o ∈ K, ∀ ab, o = some ab → ab.1 < 16 ∧ ab.2 < 16
theorem spr1_lt {o : Option (Nat × Nat)} {s : Nat} (h : ∀ ab, o = some ab → ab.1 < 16 ∧ ab.2 < 16) (hs : s < 2 ^ 16) : spr1 o s < 2 ^ 16 := by
  unfold spr1
  split
  · exact hs
  · next ab =>
    have := h ab rfl
    split
    · exact hs
    · exact Nat.or_lt_two_pow hs (Nat.or_lt_two_pow (Nat.pow_lt_pow_right (by decide) this.1) (Nat.pow_lt_pow_right (by decide) this.2))
theorem KOK_get {K : List (Option (Nat × Nat))} (h : KOK K) (n : Nat) : ∀ ab, (K[n]?).getD none = some ab → ab.1 < 16 ∧ ab.2 < 16 := by
  intro ab e
  cases q : K[n]? with
  | none => rw [q] at e; cases e
  | some o => rw [q] at e; exact h o (List.mem_of_getElem? q) ab e
theorem sprK_lt {K : List (Option (Nat × Nat))} {j s : Nat} (h : KOK K) (hs : s < 2 ^ 16) : ∀ n, sprK K j s n < 2 ^ 16
  | 0 => hs
  | n + 1 => by
    unfold sprK
    split
    · exact sprK_lt h hs n
    · exact spr1_lt (KOK_get h n) (sprK_lt h hs n)
theorem sprI_lt {K : List (Option (Nat × Nat))} {j s : Nat} (h : KOK K) (hs : s < 2 ^ 16) : ∀ n, sprI K j s n < 2 ^ 16
  | 0 => hs
  | n + 1 => sprK_lt h (sprI_lt h hs n) _
theorem KOK_rows {m : Nat} {R : List (Nat → Int)} (h : rowsOK m R) (hm : m ≤ 16) : KOK (R.map endK) := by
  intro o ho ab e
  obtain ⟨r, hr, rfl⟩ := List.mem_map.mp ho
  unfold endK at e
  split at e
  · cases e
  · next q =>
    have := (h r hr).2.2 q
    cases e
    show (r 4).toNat < 16 ∧ (r 5).toNat < 16
    omega
theorem e_hasDetour {s t j : Nat} {C : List Pt} {R : List (Nat → Int)} {M : mM} {r : Nat → Int} (hs : isS s t) (hC : PtR (s + 1) C M) (hR : edgs s R M) (hok : rowsOK C.length R) (hj : R[j]? = some r) (hb : r 5 ≠ -1000000) : E 3 96 [vR s, vR (s + 10 + j)] M (some (vI (if (sprI (R.map endK) j (2 ^ (r 4).toNat) C.length).testBit (r 5).toNat = true then 1 else 0))) M := by
  have hss := hs
  obtain ⟨⟨k0, k1, k2, k3, k4, k5⟩, ⟨kE, -, -⟩, ht, hpts, -⟩ := hs
  have hpts0 : cKB[s + 1]? = some (0, 5) := hpts.1.1
  have hl30 := hR.2.1
  have hl16 := hC.2.1
  have hC5 := hC.1
  have hR4 := hR.1
  have hjl : j < R.length := (List.getElem?_eq_some_iff.mp hj).1
  have hxj := (edgs_row hss (k := j) (by omega)).2
  have hxj0 : cKB[s + 10 + j]? = some (0, 0) := hxj
  have hjb := (List.getElem?_eq_some_iff.mp hxj0).1
  have hEj := hR.2.2 j r hj
  obtain ⟨a4, a5, -⟩ := (hok r (List.mem_of_getElem? hj)).2.2 hb
  have hK := KOK_rows hok hl16
  have b4 : (r 4).toNat < 16 := by omega
  have b5 : (r 5).toNat < 16 := by omega
  have m4 : M (s + 10 + j) 4 = ((r 4).toNat : Int) := by rw [hEj 4 (by decide)]; omega
  have m5 : M (s + 10 + j) 5 = ((r 5).toNat : Int) := by rw [hEj 5 (by decide)]; omega
  generalize (r 4).toNat = a at *
  generalize (r 5).toNat = b at *
  have p4 : 2 ^ a < 2 ^ 16 := Nat.pow_lt_pow_right (by decide) b4
  have e5 := bitI_shl a (by omega)
  have hlen : (R.map endK).length = R.length := List.length_map _
  refine e_in (ls := [vR s, vR (s + 10 + j), vN, vN, vN]) mq_96 (ml_96 rfl) rfl fun D hD => ?_
  have inner : ∀ (i acc : Nat), acc < 2 ^ 16 → (∀ v : mV, Wp mc_96 D 75 [vR s, vR (s + 10 + j), vI (sprK (R.map endK) j acc R.length), vI i, v] [] M (fun q N => q = some (vI (if (sprI (R.map endK) j (2 ^ a) C.length).testBit b = true then 1 else 0)) ∧ N = M)) → ∀ (m n : Nat), R.length - n = m → n ≤ R.length → Wp mc_96 D 23 [vR s, vR (s + 10 + j), vI (sprK (R.map endK) j acc n), vI i, vI n] [] M (fun q N => q = some (vI (if (sprI (R.map endK) j (2 ^ a) C.length).testBit b = true then 1 else 0)) ∧ N = M) := by
    intro i acc hacc hout m
    induction m with
    | zero =>
      intro n hm hn
      obtain rfl : n = R.length := by omega
      refine w_iload rfl rfl (w_aload rfl rfl (w_getIV rfl (by first | rfl | assumption) (by first | exact Or.inl rfl | exact Or.inr rfl) (hR4) ?_))
      refine w_icmp_ge (tgt := 75) rfl (by first | assumption | exact i32_0 | (unfold i32 at *; omega)) (by first | assumption | exact i32_0 | (unfold i32 at *; omega)) rfl (fun c29 => ?_) (fun c29 => ?_)
      · skip
        exact hout _
      · skip
        exfalso; omega
    | succ m ih =>
      intro n hm hn
      have hnl : n < R.length := by omega
      have hx := edgs_row hss (k := n) (by omega)
      have hxr := hx.1
      have hxe : cKB[s + 10 + n]? = some (0, 0) := hx.2
      have hnb := (List.getElem?_eq_some_iff.mp hxe).1
      have hr : R[n]? = some R[n] := List.getElem?_eq_getElem hnl
      have ihn := ih (n + 1) (by omega) (by omega)
      have hun : sprK (R.map endK) j acc (n + 1) = if n = j then sprK (R.map endK) j acc n else spr1 (((R.map endK)[n]?).getD none) (sprK (R.map endK) j acc n) := rfl
      have hKn : ((R.map endK)[n]?).getD none = endK R[n] := by rw [List.getElem?_map, hr]; rfl
      rw [hun, hKn] at ihn
      have hE := hR.2.2 n _ hr
      have hlt := sprK_lt (j := j) hK hacc n
      have ho := hok R[n] (List.getElem_mem hnl)
      have hsp := e_spread (s := sprK (R.map endK) j acc n) hx.2 hE ho.1 hlt (fun z => by have := ho.2.2 z; omega)
      rw [spread_K] at hsp
      by_cases q : n = j
      · rw [if_pos q] at ihn
        refine w_iload rfl rfl (w_aload rfl rfl (w_getIV rfl (by first | rfl | assumption) (by first | exact Or.inl rfl | exact Or.inr rfl) (hR4) ?_))
        refine w_icmp_ge (tgt := 75) rfl (by first | assumption | exact i32_0 | (unfold i32 at *; omega)) (by first | assumption | exact i32_0 | (unfold i32 at *; omega)) rfl (fun c29 => ?_) (fun c29 => ?_)
        · skip
          exfalso; omega
        · skip
          refine w_iload rfl rfl (w_aload rfl rfl (w_getR rfl (by first | rfl | assumption) rfl (by first | rfl | assumption | (rw [Int.toNat_natCast]; assumption)) (w_alen rfl (by first | rfl | assumption) (by decide) (by decide) ?_)))
          refine w_icmp_ge (tgt := 75) rfl (by first | assumption | exact i32_0 | (unfold i32 at *; omega)) (by first | assumption | exact i32_0 | (unfold i32 at *; omega)) rfl (fun c39 => ?_) (fun c39 => ?_)
          · skip
            exfalso; omega
          · skip
            refine w_aload rfl rfl (w_getR rfl (by first | rfl | assumption) rfl (by first | rfl | assumption | (rw [Int.toNat_natCast]; assumption)) (w_iload rfl rfl (w_aaload rfl (by first | rfl | assumption) (by first | exact Or.inl rfl | exact Or.inr rfl) (by omega) (by omega) (by first | rfl | assumption | (rw [Int.toNat_natCast]; assumption)) (w_aload rfl rfl ?_))))
            refine w_acmp (tgt := 57) rfl (by first | decide | assumption) (by first | decide | assumption) rfl (fun c50 => ?_) (fun c50 => ?_)
            · skip
              exfalso; omega
            · skip
              refine w_iload rfl rfl (w_goto (tgt := 68) rfl rfl (w_istore (ls2 := [_, _, _, _, _]) rfl rfl rfl (w_iinc (ls2 := [_, _, _, _, _]) rfl rfl rfl (w_goto (tgt := 23) rfl rfl ?_))))
              exact ihn
      · rw [if_neg q] at ihn
        refine w_iload rfl rfl (w_aload rfl rfl (w_getIV rfl (by first | rfl | assumption) (by first | exact Or.inl rfl | exact Or.inr rfl) (hR4) ?_))
        refine w_icmp_ge (tgt := 75) rfl (by first | assumption | exact i32_0 | (unfold i32 at *; omega)) (by first | assumption | exact i32_0 | (unfold i32 at *; omega)) rfl (fun c29 => ?_) (fun c29 => ?_)
        · skip
          exfalso; omega
        · skip
          refine w_iload rfl rfl (w_aload rfl rfl (w_getR rfl (by first | rfl | assumption) rfl (by first | rfl | assumption | (rw [Int.toNat_natCast]; assumption)) (w_alen rfl (by first | rfl | assumption) (by decide) (by decide) ?_)))
          refine w_icmp_ge (tgt := 75) rfl (by first | assumption | exact i32_0 | (unfold i32 at *; omega)) (by first | assumption | exact i32_0 | (unfold i32 at *; omega)) rfl (fun c39 => ?_) (fun c39 => ?_)
          · skip
            exfalso; omega
          · skip
            refine w_aload rfl rfl (w_getR rfl (by first | rfl | assumption) rfl (by first | rfl | assumption | (rw [Int.toNat_natCast]; assumption)) (w_iload rfl rfl (w_aaload rfl (by first | rfl | assumption) (by first | exact Or.inl rfl | exact Or.inr rfl) (by omega) (by omega) (by first | rfl | assumption | (rw [Int.toNat_natCast]; assumption)) (w_aload rfl rfl ?_))))
            refine w_acmp (tgt := 57) rfl (by first | decide | assumption) (by first | decide | assumption) rfl (fun c50 => ?_) (fun c50 => ?_)
            · skip
              refine w_aload rfl rfl (w_getR rfl (by first | rfl | assumption) rfl (by first | rfl | assumption | (rw [Int.toNat_natCast]; assumption)) (w_iload rfl rfl (w_aaload rfl (by first | rfl | assumption) (by first | exact Or.inl rfl | exact Or.inr rfl) (by omega) (by omega) (by first | rfl | assumption | (rw [Int.toNat_natCast]; assumption)) (w_iload rfl rfl ?_))))
              refine w_call (Or.inr rfl) (hsp) (by omega) nof_97 rfl rfl rfl rfl (by first | rfl | (show cKB[_]? = _; assumption)) rfl ?_
              refine w_istore (ls2 := [_, _, _, _, _]) rfl rfl rfl (w_iinc (ls2 := [_, _, _, _, _]) rfl rfl rfl (w_goto (tgt := 23) rfl rfl ?_))
              exact ihn
            · skip
              exfalso; omega
  have outer : ∀ (m n : Nat) (v : mV), C.length - n = m → n ≤ C.length → Wp mc_96 D 9 [vR s, vR (s + 10 + j), vI (sprI (R.map endK) j (2 ^ a) n), vI n, v] [] M (fun q N => q = some (vI (if (sprI (R.map endK) j (2 ^ a) C.length).testBit b = true then 1 else 0)) ∧ N = M) := by
    intro m
    induction m with
    | zero =>
      intro n v hm hn
      obtain rfl : n = C.length := by omega
      have hlt := sprI_lt (j := j) hK p4 C.length
      generalize sprI (R.map endK) j (2 ^ a) C.length = z at *
      have e86 := bitI_shr (n := z) (p := b) (by omega) (by omega)
      have e88 : bitI (· &&& ·) ((z >>> b : Nat) : Int) 1 = ((z >>> b &&& 1 : Nat) : Int) := bitI_and (a := z >>> b) (b := 1) (by have := Nat.shiftRight_le z b; omega)
      rw [tb_and1] at e88
      by_cases q : z.testBit b = true
      · rw [if_pos q] at e88 ⊢
        have e88 : bitI (· &&& ·) ((z >>> b : Nat) : Int) 1 = 1 := e88
        refine w_iload rfl rfl (w_aload rfl rfl (w_getR rfl (by first | rfl | assumption) rfl (by first | rfl | assumption) (w_getIV rfl (by first | rfl | assumption) (by first | exact Or.inl rfl | exact Or.inr rfl) (hC5) ?_)))
        refine w_icmp_ge (tgt := 81) rfl (by first | assumption | exact i32_0 | (unfold i32 at *; omega)) (by first | assumption | exact i32_0 | (unfold i32 at *; omega)) rfl (fun c17 => ?_) (fun c17 => ?_)
        · skip
          refine w_iload rfl rfl (w_aload rfl rfl (w_getIV rfl (by first | rfl | assumption) (by first | exact Or.inl rfl | exact Or.inr rfl) (m5) (w_ishr rfl (e86) (w_iconst rfl (w_iand rfl (e88) (w_iconst rfl ?_))))))
          refine w_icmp_ne (tgt := 97) rfl (by first | assumption | exact i32_0 | (unfold i32 at *; omega)) (by first | assumption | exact i32_0 | (unfold i32 at *; omega)) rfl (fun c90 => ?_) (fun c90 => ?_)
          · skip
            exfalso; omega
          · skip
            refine w_iconst rfl (w_goto (tgt := 98) rfl rfl ?_)
            exact w_zreturn rfl (by first | exact Or.inl rfl | exact Or.inr rfl | omega | assumption) ⟨by first | rfl | (congr 2; omega), by rfl⟩
        · skip
          exfalso; omega
      · rw [if_neg q] at e88 ⊢
        have e88 : bitI (· &&& ·) ((z >>> b : Nat) : Int) 1 = 0 := e88
        refine w_iload rfl rfl (w_aload rfl rfl (w_getR rfl (by first | rfl | assumption) rfl (by first | rfl | assumption) (w_getIV rfl (by first | rfl | assumption) (by first | exact Or.inl rfl | exact Or.inr rfl) (hC5) ?_)))
        refine w_icmp_ge (tgt := 81) rfl (by first | assumption | exact i32_0 | (unfold i32 at *; omega)) (by first | assumption | exact i32_0 | (unfold i32 at *; omega)) rfl (fun c17 => ?_) (fun c17 => ?_)
        · skip
          refine w_iload rfl rfl (w_aload rfl rfl (w_getIV rfl (by first | rfl | assumption) (by first | exact Or.inl rfl | exact Or.inr rfl) (m5) (w_ishr rfl (e86) (w_iconst rfl (w_iand rfl (e88) (w_iconst rfl ?_))))))
          refine w_icmp_ne (tgt := 97) rfl (by first | assumption | exact i32_0 | (unfold i32 at *; omega)) (by first | assumption | exact i32_0 | (unfold i32 at *; omega)) rfl (fun c90 => ?_) (fun c90 => ?_)
          · skip
            refine w_iconst rfl ?_
            exact w_zreturn rfl (by first | exact Or.inl rfl | exact Or.inr rfl | omega | assumption) ⟨by first | rfl | (congr 2; omega), by rfl⟩
          · skip
            exfalso; omega
        · skip
          exfalso; omega
    | succ m ih =>
      intro n v hm hn
      have ihn := fun v => ih (n + 1) v (by omega) (by omega)
      have hun : sprI (R.map endK) j (2 ^ a) (n + 1) = sprK (R.map endK) j (sprI (R.map endK) j (2 ^ a) n) R.length := by rw [sprI, hlen]
      rw [hun] at ihn
      have hgo := inner n (sprI (R.map endK) j (2 ^ a) n) (sprI_lt hK p4 n) (fun v => by
        have hgo := ihn v
        refine w_iinc (ls2 := [_, _, _, _, _]) rfl rfl rfl (w_goto (tgt := 9) rfl rfl ?_)
        exact hgo) R.length 0 (Nat.sub_zero _) (Nat.zero_le _)
      refine w_iload rfl rfl (w_aload rfl rfl (w_getR rfl (by first | rfl | assumption) rfl (by first | rfl | assumption) (w_getIV rfl (by first | rfl | assumption) (by first | exact Or.inl rfl | exact Or.inr rfl) (hC5) ?_)))
      refine w_icmp_ge (tgt := 81) rfl (by first | assumption | exact i32_0 | (unfold i32 at *; omega)) (by first | assumption | exact i32_0 | (unfold i32 at *; omega)) rfl (fun c17 => ?_) (fun c17 => ?_)
      · skip
        exfalso; omega
      · skip
        refine w_iconst rfl (w_istore (ls2 := [_, _, _, _, _]) rfl rfl rfl ?_)
        exact hgo
  have hgo := outer C.length 0 vN (Nat.sub_zero _) (Nat.zero_le _)
  refine w_iconst rfl (w_aload rfl rfl (w_getIV rfl (by first | rfl | assumption) (by first | exact Or.inl rfl | exact Or.inr rfl) (m4) (w_ishl rfl (e5) (w_istore (ls2 := [_, _, _, _, _]) rfl rfl rfl (w_iconst rfl (w_istore (ls2 := [_, _, _, _, _]) rfl rfl rfl ?_))))))
  exact hgo
