/-! ===== a shape found anew ===== -/
def rowsBr (K : List (Option (Nat × Nat))) (c : Nat) (R : List (Nat → Int)) (n : Nat) : List (Nat → Int) := R.mapIdx fun k e => if k < n then sR e 10 (if brK K c k = true then 1 else 0) else e
theorem endK_10 (e : Nat → Int) (v : Int) : endK (sR e 10 v) = endK e := rfl
theorem rowsBr_get {K : List (Option (Nat × Nat))} {c n k : Nat} {R : List (Nat → Int)} : (rowsBr K c R n)[k]? = (R[k]?).map (fun e => if k < n then sR e 10 (if brK K c k = true then 1 else 0) else e) := List.getElem?_mapIdx
theorem rowsBr_len {K : List (Option (Nat × Nat))} {c n : Nat} {R : List (Nat → Int)} : (rowsBr K c R n).length = R.length := List.length_mapIdx
theorem rowsBr_map {K : List (Option (Nat × Nat))} {c n : Nat} {R : List (Nat → Int)} : (rowsBr K c R n).map endK = R.map endK := by
  refine List.ext_getElem? fun k => ?_
  rw [List.getElem?_map, List.getElem?_map, rowsBr_get]
  cases R[k]? with
  | none => rfl
  | some e =>
    show some (endK (if k < n then sR e 10 (if brK K c k = true then 1 else 0) else e)) = some (endK e)
    split
    · rfl
    · rfl
theorem rowsOK_10 {m : Nat} {e : Nat → Int} {v : Int} (hv : v = 0 ∨ v = 1) (h : rowOK m e) : rowOK m (sR e 10 v) := ⟨h.1, hv, h.2.2⟩
theorem rowsBr_ok {K : List (Option (Nat × Nat))} {m c n : Nat} {R : List (Nat → Int)} (h : rowsOK m R) : rowsOK m (rowsBr K c R n) := by
  intro e he
  obtain ⟨k, hk⟩ := List.getElem?_of_mem he
  rw [rowsBr_get] at hk
  cases q : R[k]? with
  | none => rw [q] at hk; cases hk
  | some r =>
    rw [q] at hk
    have hr := h r (List.mem_of_getElem? q)
    have : (if k < n then sR r 10 (if brK K c k = true then 1 else 0) else r) = e := by injection hk
    rw [← this]
    split
    · exact rowsOK_10 (by split <;> simp) hr
    · exact hr
theorem e_findBridges {s t : Nat} {C : List Pt} {R : List (Nat → Int)} {M : mM} (hs : isS s t) (hC : PtR (s + 1) C M) (hR : edgs s R M) (hok : rowsOK C.length R) : EQ 4 95 [vR s] M (fun r N => r = none ∧ edgs s (rowsBr (R.map endK) C.length R R.length) N ∧ ∀ a k, (a < s + 10 ∨ s + 40 ≤ a) → N a k = M a k) := by
  have hss := hs
  obtain ⟨⟨k0, k1, k2, k3, k4, k5⟩, ⟨kE, -, -⟩, -⟩ := hs
  refine q_in (ls := [vR s, vN]) mq_95 (ml_95 rfl) rfl fun D hD => ?_
  have loop : ∀ (m n : Nat) (N : mM), R.length - n = m → n ≤ R.length → edgs s (rowsBr (R.map endK) C.length R n) N → (∀ a k, (a < s + 10 ∨ s + 40 ≤ a) → N a k = M a k) → Wp mc_95 D 2 [vR s, vI n] [] N (fun r N => r = none ∧ edgs s (rowsBr (R.map endK) C.length R R.length) N ∧ ∀ a k, (a < s + 10 ∨ s + 40 ≤ a) → N a k = M a k) := by
    intro m
    induction m with
    | zero =>
      intro n N hm hn h hF
      obtain rfl : n = R.length := by omega
      have h4 := h.1
      rw [rowsBr_len] at h4
      have := hR.2.1
      refine w_iload rfl rfl (w_aload rfl rfl (w_getIV rfl (by first | rfl | assumption) (by first | exact Or.inl rfl | exact Or.inr rfl) (h4) ?_))
      refine w_icmp_ge (tgt := 64) rfl (by first | assumption | exact i32_0 | (unfold i32 at *; omega)) (by first | assumption | exact i32_0 | (unfold i32 at *; omega)) rfl (fun c7 => ?_) (fun c7 => ?_)
      · skip
        exact w_return rfl ⟨rfl, by exact ⟨h, hF⟩⟩
      · skip
        exfalso; omega
    | succ m ih =>
      intro n N hm hn h hF
      have h4 := h.1
      rw [rowsBr_len] at h4
      have hnl : n < R.length := by omega
      have hl30 := hR.2.1
      have hx := edgs_row hss (k := n) (by omega)
      have hxr := hx.1
      have hxe : cKB[s + 10 + n]? = some (0, 0) := hx.2
      have hr : R[n]? = some R[n] := List.getElem?_eq_getElem hnl
      have hrn : (rowsBr (R.map endK) C.length R n)[n]? = some R[n] := by
        rw [rowsBr_get, hr]
        show some (if n < n then _ else R[n]) = _
        rw [if_neg (Nat.lt_irrefl n)]
      have hokn := rowsBr_ok (K := R.map endK) (c := C.length) (n := n) hok
      have hE := h.2.2 n _ hrn
      have hPt : PtR (s + 1) C N := PtR_fr hC (fun a _ _ k => hF a k (by omega))
      have hdt := fun hb => e_hasDetour hss hPt h hokn hrn hb
      rw [rowsBr_map] at hdt
      have hgo : ∀ v : Int, v = (if brK (R.map endK) C.length n = true then 1 else 0) → Wp mc_95 D 2 [vR s, vI ((n : Int) + 1)] [] (upI N (s + 10 + n) 10 v) (fun r N => r = none ∧ edgs s (rowsBr (R.map endK) C.length R R.length) N ∧ ∀ a k, (a < s + 10 ∨ s + 40 ≤ a) → N a k = M a k) := by
        intro v hv
        refine ih (n + 1) _ (by omega) (by omega) ⟨?_, ?_, fun k e hk => ?_⟩ (fun a k ha => ?_)
        · rw [rowsBr_len, upI_ne _ _ _ _ (by omega)]; exact h4
        · rw [rowsBr_len]; exact hl30
        · rw [rowsBr_get] at hk
          by_cases q : k = n
          · subst q
            rw [hr] at hk
            have e1 : (if k < k + 1 then sR R[k] 10 (if brK (R.map endK) C.length k = true then 1 else 0) else R[k]) = e := by injection hk
            rw [if_pos (Nat.lt_succ_self k), ← hv] at e1
            rw [← e1]
            exact EdR_up hE 10 v
          · refine EdR_fr (h.2.2 k e ?_) (upI_ne _ _ _ _ (by omega))
            rw [rowsBr_get, ← hk]
            cases R[k]? with
            | none => rfl
            | some r =>
              show some _ = some _
              congr 1
              dsimp only
              by_cases z : k < n
              · rw [if_pos z, if_pos (show k < n + 1 by omega)]
              · rw [if_neg z, if_neg (show ¬ k < n + 1 by omega)]
        · rw [upI_ne _ _ _ _ (by omega)]; exact hF a k ha
      have hK : ((R.map endK)[n]?).getD none = endK R[n] := by rw [List.getElem?_map, hr]; rfl
      have hbk : brK (R.map endK) C.length n = match endK R[n] with
        | none => false
        | some ab => !(sprI (R.map endK) n (2 ^ ab.1) C.length).testBit ab.2 := by unfold brK; rw [hK]; rfl
      have ho := hok R[n] (List.getElem_mem hnl)
      generalize R[n] = e at *
      by_cases q5 : e 5 = -1000000
      · have hek : endK e = none := if_pos q5
        rw [hek] at hbk
        have hgo := hgo 0 (by rw [hbk]; rfl)
        refine w_iload rfl rfl (w_aload rfl rfl (w_getIV rfl (by first | rfl | assumption) (by first | exact Or.inl rfl | exact Or.inr rfl) (h4) ?_))
        refine w_icmp_ge (tgt := 64) rfl (by first | assumption | exact i32_0 | (unfold i32 at *; omega)) (by first | assumption | exact i32_0 | (unfold i32 at *; omega)) rfl (fun c7 => ?_) (fun c7 => ?_)
        · skip
          exfalso; omega
        · skip
          refine w_iload rfl rfl (w_aload rfl rfl (w_getR rfl (by first | rfl | assumption) rfl (by first | rfl | assumption | (rw [Int.toNat_natCast]; assumption)) (w_alen rfl (by first | rfl | assumption) (by decide) (by decide) ?_)))
          refine w_icmp_ge (tgt := 64) rfl (by first | assumption | exact i32_0 | (unfold i32 at *; omega)) (by first | assumption | exact i32_0 | (unfold i32 at *; omega)) rfl (fun c16 => ?_) (fun c16 => ?_)
          · skip
            exfalso; omega
          · skip
            refine w_aload rfl rfl (w_getR rfl (by first | rfl | assumption) rfl (by first | rfl | assumption | (rw [Int.toNat_natCast]; assumption)) (w_iload rfl rfl (w_aaload rfl (by first | rfl | assumption) (by first | exact Or.inl rfl | exact Or.inr rfl) (by omega) (by omega) (by first | rfl | assumption | (rw [Int.toNat_natCast]; assumption)) (w_aload rfl rfl (w_getR rfl (by first | rfl | assumption) rfl (by first | rfl | assumption | (rw [Int.toNat_natCast]; assumption)) (w_iload rfl rfl (w_aaload rfl (by first | rfl | assumption) (by first | exact Or.inl rfl | exact Or.inr rfl) (by omega) (by omega) (by first | rfl | assumption | (rw [Int.toNat_natCast]; assumption)) ?_)))))))
            refine w_call (Or.inr rfl) (e_isBounded0 hx.2 hE q5) (by omega) nof_91 rfl rfl rfl rfl (by first | rfl | (show cKB[_]? = _; assumption)) rfl ?_
            refine w_if_eq (tgt := 54) rfl (by first | assumption | exact i32_0 | (unfold i32 at *; omega)) rfl (fun _ => ?_) (fun c => absurd c (by decide))
            refine w_iconst rfl (w_putZ rfl (by first | rfl | assumption) rfl (by first | exact Or.inl rfl | exact Or.inr rfl | omega | assumption) (w_iinc (ls2 := [_, _]) rfl rfl rfl (w_goto (tgt := 2) rfl rfl ?_)))
            exact hgo
      · have hek : endK e = some ((e 4).toNat, (e 5).toNat) := if_neg q5
        rw [hek] at hbk
        have hdt := hdt q5
        have a5 := (ho.2.2 q5).2.1
        have hl16 := hC.2.1
        by_cases qd : (sprI (R.map endK) n (2 ^ (e 4).toNat) C.length).testBit (e 5).toNat = true
        · rw [if_pos qd] at hdt
          have hgo := hgo 0 (by rw [hbk]; simp [qd])
          refine w_iload rfl rfl (w_aload rfl rfl (w_getIV rfl (by first | rfl | assumption) (by first | exact Or.inl rfl | exact Or.inr rfl) (h4) ?_))
          refine w_icmp_ge (tgt := 64) rfl (by first | assumption | exact i32_0 | (unfold i32 at *; omega)) (by first | assumption | exact i32_0 | (unfold i32 at *; omega)) rfl (fun c7 => ?_) (fun c7 => ?_)
          · skip
            exfalso; omega
          · skip
            refine w_iload rfl rfl (w_aload rfl rfl (w_getR rfl (by first | rfl | assumption) rfl (by first | rfl | assumption | (rw [Int.toNat_natCast]; assumption)) (w_alen rfl (by first | rfl | assumption) (by decide) (by decide) ?_)))
            refine w_icmp_ge (tgt := 64) rfl (by first | assumption | exact i32_0 | (unfold i32 at *; omega)) (by first | assumption | exact i32_0 | (unfold i32 at *; omega)) rfl (fun c16 => ?_) (fun c16 => ?_)
            · skip
              exfalso; omega
            · skip
              refine w_aload rfl rfl (w_getR rfl (by first | rfl | assumption) rfl (by first | rfl | assumption | (rw [Int.toNat_natCast]; assumption)) (w_iload rfl rfl (w_aaload rfl (by first | rfl | assumption) (by first | exact Or.inl rfl | exact Or.inr rfl) (by omega) (by omega) (by first | rfl | assumption | (rw [Int.toNat_natCast]; assumption)) (w_aload rfl rfl (w_getR rfl (by first | rfl | assumption) rfl (by first | rfl | assumption | (rw [Int.toNat_natCast]; assumption)) (w_iload rfl rfl (w_aaload rfl (by first | rfl | assumption) (by first | exact Or.inl rfl | exact Or.inr rfl) (by omega) (by omega) (by first | rfl | assumption | (rw [Int.toNat_natCast]; assumption)) ?_)))))))
              refine w_call (Or.inr rfl) (e_isBounded1 hx.2 hE (by omega)) (by omega) nof_91 rfl rfl rfl rfl (by first | rfl | (show cKB[_]? = _; assumption)) rfl ?_
              refine w_if_eq (tgt := 54) rfl (by first | assumption | exact i32_0 | (unfold i32 at *; omega)) rfl (fun c => absurd c (by decide)) (fun _ => ?_)
              refine w_aload rfl rfl (w_aload rfl rfl (w_getR rfl (by first | rfl | assumption) rfl (by first | rfl | assumption | (rw [Int.toNat_natCast]; assumption)) (w_iload rfl rfl (w_aaload rfl (by first | rfl | assumption) (by first | exact Or.inl rfl | exact Or.inr rfl) (by omega) (by omega) (by first | rfl | assumption | (rw [Int.toNat_natCast]; assumption)) ?_))))
              refine w_call (Or.inr rfl) (hdt) (by omega) nof_96 rfl rfl rfl rfl (by first | rfl | (show cKB[_]? = _; assumption)) rfl ?_
              refine w_if_ne (tgt := 54) rfl (by first | assumption | exact i32_0 | (unfold i32 at *; omega)) rfl (fun _ => ?_) (fun c => absurd c (by decide))
              refine w_iconst rfl (w_putZ rfl (by first | rfl | assumption) rfl (by first | exact Or.inl rfl | exact Or.inr rfl | omega | assumption) (w_iinc (ls2 := [_, _]) rfl rfl rfl (w_goto (tgt := 2) rfl rfl ?_)))
              exact hgo
        · rw [if_neg qd] at hdt
          have qd : (sprI (R.map endK) n (2 ^ (e 4).toNat) C.length).testBit (e 5).toNat = false := by cases z : (sprI (R.map endK) n (2 ^ (e 4).toNat) C.length).testBit (e 5).toNat <;> simp_all
          have hgo := hgo 1 (by rw [hbk]; simp [qd])
          refine w_iload rfl rfl (w_aload rfl rfl (w_getIV rfl (by first | rfl | assumption) (by first | exact Or.inl rfl | exact Or.inr rfl) (h4) ?_))
          refine w_icmp_ge (tgt := 64) rfl (by first | assumption | exact i32_0 | (unfold i32 at *; omega)) (by first | assumption | exact i32_0 | (unfold i32 at *; omega)) rfl (fun c7 => ?_) (fun c7 => ?_)
          · skip
            exfalso; omega
          · skip
            refine w_iload rfl rfl (w_aload rfl rfl (w_getR rfl (by first | rfl | assumption) rfl (by first | rfl | assumption | (rw [Int.toNat_natCast]; assumption)) (w_alen rfl (by first | rfl | assumption) (by decide) (by decide) ?_)))
            refine w_icmp_ge (tgt := 64) rfl (by first | assumption | exact i32_0 | (unfold i32 at *; omega)) (by first | assumption | exact i32_0 | (unfold i32 at *; omega)) rfl (fun c16 => ?_) (fun c16 => ?_)
            · skip
              exfalso; omega
            · skip
              refine w_aload rfl rfl (w_getR rfl (by first | rfl | assumption) rfl (by first | rfl | assumption | (rw [Int.toNat_natCast]; assumption)) (w_iload rfl rfl (w_aaload rfl (by first | rfl | assumption) (by first | exact Or.inl rfl | exact Or.inr rfl) (by omega) (by omega) (by first | rfl | assumption | (rw [Int.toNat_natCast]; assumption)) (w_aload rfl rfl (w_getR rfl (by first | rfl | assumption) rfl (by first | rfl | assumption | (rw [Int.toNat_natCast]; assumption)) (w_iload rfl rfl (w_aaload rfl (by first | rfl | assumption) (by first | exact Or.inl rfl | exact Or.inr rfl) (by omega) (by omega) (by first | rfl | assumption | (rw [Int.toNat_natCast]; assumption)) ?_)))))))
              refine w_call (Or.inr rfl) (e_isBounded1 hx.2 hE (by omega)) (by omega) nof_91 rfl rfl rfl rfl (by first | rfl | (show cKB[_]? = _; assumption)) rfl ?_
              refine w_if_eq (tgt := 54) rfl (by first | assumption | exact i32_0 | (unfold i32 at *; omega)) rfl (fun c => absurd c (by decide)) (fun _ => ?_)
              refine w_aload rfl rfl (w_aload rfl rfl (w_getR rfl (by first | rfl | assumption) rfl (by first | rfl | assumption | (rw [Int.toNat_natCast]; assumption)) (w_iload rfl rfl (w_aaload rfl (by first | rfl | assumption) (by first | exact Or.inl rfl | exact Or.inr rfl) (by omega) (by omega) (by first | rfl | assumption | (rw [Int.toNat_natCast]; assumption)) ?_))))
              refine w_call (Or.inr rfl) (hdt) (by omega) nof_96 rfl rfl rfl rfl (by first | rfl | (show cKB[_]? = _; assumption)) rfl ?_
              refine w_if_ne (tgt := 54) rfl (by first | assumption | exact i32_0 | (unfold i32 at *; omega)) rfl (fun c => absurd c (by decide)) (fun _ => ?_)
              refine w_iconst rfl (w_goto (tgt := 55) rfl rfl (w_putZ rfl (by first | rfl | assumption) rfl (by first | exact Or.inl rfl | exact Or.inr rfl | omega | assumption) (w_iinc (ls2 := [_, _]) rfl rfl rfl (w_goto (tgt := 2) rfl rfl ?_))))
              exact hgo
  have hgo := loop R.length 0 M (Nat.sub_zero _) (Nat.zero_le _) (by
    have : rowsBr (R.map endK) C.length R 0 = R := by
      refine List.ext_getElem? fun k => ?_
      rw [rowsBr_get]
      cases R[k]? with
      | none => rfl
      | some r => rfl
    rw [this]; exact hR) (fun _ _ _ => rfl)
  refine w_iconst rfl (w_istore (ls2 := [_, _]) rfl rfl rfl ?_)
  exact hgo
/-! what a shape holds -/
def rowsF0 (f : Cv) : List (Nat → Int) := (elA f (cornF f) 21).map fun pq => rowE f (cornF f) pq.1 pq.2
def KF (f : Cv) : List (Option (Nat × Nat)) := (rowsF0 f).map endK
def rowsF (f : Cv) : List (Nat → Int) := rowsBr (KF f) (cornF f).length (rowsF0 f) (rowsF0 f).length
def unitF (f : Cv) : Nat := unitR (rowsF0 f) (rowsF0 f).length
def ShV (s : Nat) (f : Cv) (M : mM) : Prop := PtR (s + 1) (cornF f) M ∧ edgs s (rowsF f) M ∧ M s 5 = (unitF f : Int)
theorem ShV_fr {s : Nat} {f : Cv} {M M1 : mM} (h : ShV s f M) (e : ∀ a k, s ≤ a → a < s + 40 → (a ≠ s ∨ k = 4 ∨ k = 5) → (a ≠ s + 8 ∧ a ≠ s + 9) → M1 a k = M a k) : ShV s f M1 := ⟨PtR_fr h.1 (fun a q1 q2 k => e a k (by omega) (by omega) (by omega) (by omega)), edgs_fr h.2.1 (e s 4 (by omega) (by omega) (by omega) (by omega)) (fun a q1 q2 => funext fun k => e a k (by omega) (by omega) (by omega) (by omega)), (e s 5 (by omega) (by omega) (by omega) (by omega)).trans h.2.2⟩
theorem elB_mem {f : Cv} {C : List Pt} {p : Nat} {L : List (Nat × Nat)} {pq : Nat × Nat} : ∀ n, n ≤ 21 → pq ∈ elB f C p L n → pq ∈ L ∨ (pq.1 = p ∧ pq.1 < pq.2 ∧ pq.2 < 21 ∧ hasF f pq.1 = true ∧ hasF f pq.2 = true ∧ isE f C pq.1 pq.2 = true)
  | 0, _, h => Or.inl h
  | n + 1, hn, h => by
    unfold elB at h
    split at h
    · next q =>
      rcases List.mem_append.mp h with z | z
      · exact elB_mem n (by omega) z
      · simp at z
        subst z
        exact Or.inr ⟨rfl, q.1, by show n < 21; omega, q.2.1, q.2.2.1, q.2.2.2.2⟩
    · exact elB_mem n (by omega) h
theorem elA_mem {f : Cv} {C : List Pt} {pq : Nat × Nat} : ∀ n, pq ∈ elA f C n → pq.1 < pq.2 ∧ pq.2 < 21 ∧ hasF f pq.1 = true ∧ hasF f pq.2 = true ∧ isE f C pq.1 pq.2 = true
  | 0, h => by cases h
  | n + 1, h => by
    unfold elA at h
    rcases elB_mem 21 (Nat.le_refl _) h with z | z
    · exact elA_mem n z
    · exact z.2
theorem denP_nat (X : Int) : denP X = ((720720 / Int.gcd X 720720 : Nat) : Int) := rfl
theorem rowE_ok {f : Cv} {C : List Pt} {p q : Nat} (hf : Cok 999 f) (hC : C.length ≤ 16) (hp : p < 21) (hq : q < 21) (hg : geoE C (rowN f C p q C.length)) : rowOK C.length (rowE f C p q) := by
  have hi := rowN_ok (C := C) hf hp hq C.length hC
  have hen := rowN_end (f := f) (C := C) (p := p) (q := q) C.length
  unfold rowE
  generalize rowN f C p q C.length = e at *
  split
  · next q5 => exact ⟨hi.1, Or.inl hi.2.1.2.2.2.2.2, fun z => absurd q5 z⟩
  · next q5 =>
    obtain ⟨g1, -, g3⟩ := hg q5
    have q4 := hi.2.2 q5
    generalize lenE C e = l at *
    have hn : 0 ≤ numP l := by
      have h1 := numP_mul l
      have h2 := gcdP_pos l
      rcases Int.lt_or_le (numP l) 0 with z | z
      · have : numP l * (Int.gcd l 720720 : Int) ≤ 0 * (Int.gcd l 720720 : Int) := Int.mul_le_mul_of_nonneg_right (by omega) (by omega)
        omega
      · exact z
    have hok : edOK (sR (sR e 8 (numP l)) 9 (denP l)) := hi.1
    refine ⟨hok, Or.inl hi.2.1.2.2.2.2.2, fun _ => ⟨?_, ?_, ⟨hn, g3⟩, 720720 / Int.gcd l 720720, rfl, ?_, ?_⟩⟩
    · show 0 ≤ e 4 ∧ e 4 < C.length; omega
    · show 0 ≤ e 5 ∧ e 5 < C.length; omega
    · have h1 : Int.gcd l 720720 ∣ 720720 := Int.gcd_dvd_natAbs_right l 720720
      exact Nat.div_pos (Nat.le_of_dvd (by decide) h1) (Int.gcd_pos_of_ne_zero_right l (by decide))
    · exact Nat.div_dvd_of_dvd (Int.gcd_dvd_natAbs_right l 720720)
theorem rowsF0_ok {f : Cv} (hf : Cok 999 f) (hl : (cornF f).length ≤ 16) (hg : geoOK f (cornF f)) : rowsOK (cornF f).length (rowsF0 f) := by
  intro e he
  obtain ⟨pq, hpq, rfl⟩ := List.mem_map.mp he
  obtain ⟨h1, h2, h3, h4, -⟩ := elA_mem 21 hpq
  exact rowE_ok hf hl (by omega) h2 (hg _ _ h1 h3 h4)
theorem rowsF_ok {f : Cv} (hf : Cok 999 f) (hl : (cornF f).length ≤ 16) (hg : geoOK f (cornF f)) : rowsOK (cornF f).length (rowsF f) := rowsBr_ok (rowsF0_ok hf hl hg)
theorem e_refresh {s t : Nat} {f : Cv} {M : mM} (hs : isS s t) (hcu : cur t f M) (hf : Cok 999 f) (hgeo : geoOK f (cornF f)) (h1 : i32 (M s 1)) (h2 : i32 (M t 1)) (hv : M s 1 = M t 1 → ShV s f M) : EQ 7 68 [vR s] M (fun r N => r = none ∧ ShV s f N ∧ N s 1 = M t 1 ∧ ∀ a k, (a < s ∨ s + 40 ≤ a) → N a k = M a k) := by
  have hss := hs
  obtain ⟨⟨k0, k1, k2, k3, k4, k5⟩, ⟨kE, -, -⟩, ht, hpts, hts, -⟩ := hs
  have ht1 := ht.1
  refine q_in (ls := [vR s]) mq_68 (ml_68 rfl) rfl fun D hD => ?_
  by_cases q : M s 1 = M t 1
  · have hV := hv q
    refine w_aload rfl rfl (w_getI rfl (by first | rfl | assumption) (by first | exact Or.inl rfl | exact Or.inr rfl) (w_aload rfl rfl (w_getR rfl (by first | rfl | assumption) rfl (by first | rfl | assumption) (w_getI rfl (by first | rfl | assumption) (by first | exact Or.inl rfl | exact Or.inr rfl) ?_))))
    refine w_icmp_ne (tgt := 15) rfl (by first | assumption | exact i32_0 | (unfold i32 at *; omega)) (by first | assumption | exact i32_0 | (unfold i32 at *; omega)) rfl (fun c11 => ?_) (fun c11 => ?_)
    · skip
      exfalso; omega
    · skip
      exact w_return rfl ⟨rfl, by exact ⟨hV, q, fun _ _ _ => rfl⟩⟩
  · have hc0 : cur t f (upI M s 1 (M t 1)) := cur_fr hcu (fun k => by rw [upI_ne _ _ _ _ (by omega)])
    have hco := e_findCorners hss hc0 hf
    refine w_aload rfl rfl (w_getI rfl (by first | rfl | assumption) (by first | exact Or.inl rfl | exact Or.inr rfl) (w_aload rfl rfl (w_getR rfl (by first | rfl | assumption) rfl (by first | rfl | assumption) (w_getI rfl (by first | rfl | assumption) (by first | exact Or.inl rfl | exact Or.inr rfl) ?_))))
    refine w_icmp_ne (tgt := 15) rfl (by first | assumption | exact i32_0 | (unfold i32 at *; omega)) (by first | assumption | exact i32_0 | (unfold i32 at *; omega)) rfl (fun c11 => ?_) (fun c11 => ?_)
    · skip
      refine w_aload rfl rfl (w_aload rfl rfl (w_getR rfl (by first | rfl | assumption) rfl (by first | rfl | assumption) (w_getI rfl (by first | rfl | assumption) (by first | exact Or.inl rfl | exact Or.inr rfl) (w_putI rfl (by first | rfl | assumption) rfl (w_aload rfl rfl ?_)))))
      refine w_callQ (Or.inr rfl) (hco) (by omega) nof_69 rfl rfl rfl rfl (by first | rfl | (show cKB[_]? = _; assumption)) (fun r27 M27 hq27 => ?_)
      obtain ⟨rfl, a1, a2⟩ := hq27
      have b0 : cur t f M27 := cur_fr hc0 (fun k => by rw [a2 (t + 1) (by omega)])
      have hel := e_findEdges hss b0 hf a1 (celOK_cornF f) hgeo
      refine w_aload rfl rfl ?_
      refine w_callQ (Or.inr rfl) (hel) (by omega) nof_80 rfl rfl rfl rfl (by first | rfl | (show cKB[_]? = _; assumption)) (fun r31 M31 hq31 => ?_)
      obtain ⟨rfl, b1, b2⟩ := hq31
      have hl16 := a1.2.1
      have c1 : PtR (s + 1) (cornF f) M31 := PtR_fr a1 (fun a _ _ k => b2 a k (by omega))
      have c2 : edgs s (rowsF0 f) M31 := ⟨by rw [b1.1]; unfold rowsF0; rw [List.length_map], by unfold rowsF0; rw [List.length_map]; exact b1.2.1, fun k e hk => by
        unfold rowsF0 at hk
        rw [List.getElem?_map] at hk
        cases z : (elA f (cornF f) 21)[k]? with
        | none => rw [z] at hk; cases hk
        | some pq =>
          rw [z] at hk
          have : rowE f (cornF f) pq.1 pq.2 = e := by injection hk
          rw [← this]
          exact b1.2.2 k pq z⟩
      have hok := rowsF0_ok hf hl16 hgeo
      have hun := e_findUnit hss c2 hok
      refine w_aload rfl rfl ?_
      refine w_callQ (Or.inr rfl) (hun) (by omega) nof_94 rfl rfl rfl rfl (by first | rfl | (show cKB[_]? = _; assumption)) (fun r35 M35 hq35 => ?_)
      obtain ⟨rfl, d1, d2⟩ := hq35
      have e1 : PtR (s + 1) (cornF f) M35 := PtR_fr c1 (fun a _ _ k => d2 a k (by omega))
      have e2 : edgs s (rowsF0 f) M35 := edgs_fr c2 (d2 s 4 (by omega)) (fun a _ _ => funext fun k => d2 a k (by omega))
      have hbr := e_findBridges hss e1 e2 hok
      refine w_aload rfl rfl ?_
      refine w_callQ (Or.inr rfl) (hbr) (by omega) nof_95 rfl rfl rfl rfl (by first | rfl | (show cKB[_]? = _; assumption)) (fun r39 M39 hq39 => ?_)
      obtain ⟨rfl, g1, g2⟩ := hq39
      exact w_return rfl ⟨rfl, by exact ⟨⟨PtR_fr e1 (fun a _ _ k => g2 a k (by omega)), g1, by rw [g2 s 5 (by omega)]; exact d1⟩, by rw [g2 s 1 (by omega), d2 s 1 (by omega), b2 s 1 (by omega), a2 s (by omega)]; exact upI_same _ _ _ _, fun a k ha => by rw [g2 a k (by omega), d2 a k (by omega), b2 a k (by omega), a2 a (by omega)]; exact if_neg (by omega)⟩⟩
    · exfalso; omega
