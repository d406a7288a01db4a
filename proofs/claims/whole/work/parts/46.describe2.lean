/-! ===== an edge described: the method ===== -/
theorem cellAt_eq {C : List Pt} {k : Nat} {P : Pt} (hk : C[k]? = some P) : cellAt C k = P.2.2.toNat := by unfold cellAt; rw [hk]; rfl
theorem ptAt_eq {C : List Pt} {k : Int} (h0 : 0 ≤ k) (h1 : k < C.length) : C[k.toNat]? = some (ptAt C k) := by
  unfold ptAt
  have : k.toNat < C.length := by omega
  rw [List.getElem?_eq_getElem this]; rfl
def DeQ (f : Cv) (C : List Pt) (p q c : Nat) (M : mM) : mP := fun r M1 => r = some (vI (if isE f C p q = true then 1 else 0)) ∧ EdR c (rowE f C p q) M1 ∧ ∀ a, a ≠ c → M1 a = M a
/-- ends are corners -/
theorem rowN_end {f : Cv} {C : List Pt} {p q : Nat} : ∀ k, (rowN f C p q k 4 = -1000000 ∨ (0 ≤ rowN f C p q k 4 ∧ rowN f C p q k 4 < k)) ∧ (rowN f C p q k 5 = -1000000 ∨ (0 ≤ rowN f C p q k 5 ∧ rowN f C p q k 5 < k))
  | 0 => ⟨Or.inl rfl, Or.inl rfl⟩
  | k + 1 => by
    have ih := rowN_end (f := f) (C := C) (p := p) (q := q) k
    have hE : ∀ b, (enR (rowN f C p q k) k b 4 = -1000000 ∨ (0 ≤ enR (rowN f C p q k) k b 4 ∧ enR (rowN f C p q k) k b 4 < ((k + 1 : Nat) : Int))) ∧ (enR (rowN f C p q k) k b 5 = -1000000 ∨ (0 ≤ enR (rowN f C p q k) k b 5 ∧ enR (rowN f C p q k) k b 5 < ((k + 1 : Nat) : Int))) := by
      intro b
      generalize rowN f C p q k = e at ih
      unfold enR
      split
      · split <;> (simp [sR]; omega)
      · simp [sR]; omega
    have hr : rowN f C p q (k + 1) = match sdE (cellAt C k) p q with
      | some b => enR (rowN f C p q k) k b
      | none => rowN f C p q k := rfl
    rw [hr]
    cases sdE (cellAt C k) p q with
    | some b => exact hE b
    | none =>
      show (rowN f C p q k 4 = -1000000 ∨ (0 ≤ rowN f C p q k 4 ∧ rowN f C p q k 4 < ((k + 1 : Nat) : Int))) ∧ (rowN f C p q k 5 = -1000000 ∨ (0 ≤ rowN f C p q k 5 ∧ rowN f C p q k 5 < ((k + 1 : Nat) : Int)))
      omega
theorem e_describe {s t c p q : Nat} {f : Cv} {C : List Pt} {M : mM} (hs : isS s t) (hcu : cur t f M) (hf : Cok 999 f) (hC : PtR (s + 1) C M) (hcel : celOK C) (hgeo : geoOK f C) (hc : isEd c) (hcs : s + 10 ≤ c) (hpq : p < q) (hp : hasF f p = true) (hq : hasF f q = true) : EQ 5 81 [vR s, vR c, vI p, vI q] M (DeQ f C p q c M) := by
  have hss := hs
  have hc0 : cKB[c]? = some (0, 0) := hc
  obtain ⟨⟨k0, k1, k2, k3, k4, k5⟩, -, ht, hpts, hts, -⟩ := hs
  have hpts0 : cKB[s + 1]? = some (0, 5) := hpts.1.1
  have ht0 := ht.1
  have fp := hasF_some hp
  have fq := hasF_some hq
  have gp := hf p _ fp
  have gq := hf q _ fq
  have vq := e_at_s ht hcu gq.1 fq
  have vp := e_at_s ht hcu gp.1 fp
  have hC5 := hC.1
  have hlen := hC.2.1
  have hbe := e_become (M := M) (rise := cv f q - cv f p) hc gp.1 gq.1
  refine q_in (ls := [vR s, vR c, vI p, vI q, vN, vN]) mq_81 (ml_81 rfl) rfl fun D hD => ?_
  have hcN : ∀ N : mM, (∀ a, a ≠ c → N a = M a) → cur t f N ∧ PtR (s + 1) C N := fun N h => ⟨cur_fr hcu (fun k => by rw [h (t + 1) (by omega)]), PtR_fr hC (fun a _ _ k => by rw [h a (by omega)])⟩
  have tail : ∀ (N : mM) (v : mV), EdR c (rowE f C p q) N → (∀ a, a ≠ c → N a = M a) → Wp mc_81 D 100 [vR s, vR c, vI p, vI q, vI C.length, v] [] N (DeQ f C p q c M) := by
    intro N v hE hF
    obtain ⟨w1, w2⟩ := hcN N hF
    have h4 : N c 4 = rowN f C p q C.length 4 := (hE 4 (by decide)).trans (rowE_4 f C p q)
    have hri := rowN_ok (C := C) hf gp.1 gq.1 C.length hlen
    have h4b := hri.1.2.2.1
    have hlen2 := w2.1
    by_cases q4 : rowN f C p q C.length 4 = -1000000
    · by_cases q0 : C.length = 0
      · have hro : rowE f C p q = rowN f C p q C.length := by
          unfold rowE
          rw [if_pos]
          have := rowN_end (f := f) (C := C) (p := p) (q := q) C.length
          omega
        have hwl := e_isWholeLine (M := N) hss w1 hf hc hE gp.1 gq.1 (by rw [hro]; exact hri.2.1.1) (by rw [hro]; exact hri.2.1.2.1) (by rw [hro]; exact hri.2.1.2.2.1)
        have hi : isE f C p q = wholeL f p q := by
          unfold isE
          rw [decide_eq_true q4, decide_eq_true q0]; simp
        by_cases qw : wholeL f p q = true
        · rw [if_pos qw] at hwl
          have hfin : DeQ f C p q c M (some (vI 1)) N := ⟨by rw [hi, if_pos qw], hE, hF⟩
          refine w_aload rfl rfl (w_getIV rfl (by first | rfl | assumption) (by first | exact Or.inl rfl | exact Or.inr rfl) (h4) (w_iconst rfl ?_))
          refine w_icmp_ne (tgt := 127) rfl (by first | assumption | exact i32_0 | (unfold i32 at *; omega)) (by first | assumption | exact i32_0 | (unfold i32 at *; omega)) rfl (fun c106 => ?_) (fun c106 => ?_)
          · exfalso; omega
          · skip
            refine w_aload rfl rfl (w_getR rfl (by first | rfl | assumption) rfl (by first | rfl | assumption) (w_getIV rfl (by first | rfl | assumption) (by first | exact Or.inl rfl | exact Or.inr rfl) (hlen2) ?_))
            refine w_if_ne (tgt := 131) rfl (by first | assumption | exact i32_0 | (unfold i32 at *; omega)) rfl (fun c116 => ?_) (fun c116 => ?_)
            · exfalso; omega
            · skip
              refine w_aload rfl rfl (w_aload rfl rfl ?_)
              refine w_call (Or.inr rfl) (hwl) (by omega) nof_93 rfl rfl rfl rfl (by first | rfl | (show cKB[_]? = _; assumption)) rfl ?_
              refine w_if_eq (tgt := 131) rfl (by first | assumption | exact i32_0 | (unfold i32 at *; omega)) rfl (fun c => absurd c (by decide)) (fun _ => ?_)
              refine w_iconst rfl (w_goto (tgt := 132) rfl rfl ?_)
              exact w_zreturn rfl (by first | exact Or.inl rfl | exact Or.inr rfl | omega | assumption) ⟨by exact hfin.1, by exact hfin.2⟩
        · rw [if_neg qw] at hwl
          have hfin : DeQ f C p q c M (some (vI 0)) N := ⟨by rw [hi, if_neg qw], hE, hF⟩
          refine w_aload rfl rfl (w_getIV rfl (by first | rfl | assumption) (by first | exact Or.inl rfl | exact Or.inr rfl) (h4) (w_iconst rfl ?_))
          refine w_icmp_ne (tgt := 127) rfl (by first | assumption | exact i32_0 | (unfold i32 at *; omega)) (by first | assumption | exact i32_0 | (unfold i32 at *; omega)) rfl (fun c106 => ?_) (fun c106 => ?_)
          · exfalso; omega
          · skip
            refine w_aload rfl rfl (w_getR rfl (by first | rfl | assumption) rfl (by first | rfl | assumption) (w_getIV rfl (by first | rfl | assumption) (by first | exact Or.inl rfl | exact Or.inr rfl) (hlen2) ?_))
            refine w_if_ne (tgt := 131) rfl (by first | assumption | exact i32_0 | (unfold i32 at *; omega)) rfl (fun c116 => ?_) (fun c116 => ?_)
            · exfalso; omega
            · skip
              refine w_aload rfl rfl (w_aload rfl rfl ?_)
              refine w_call (Or.inr rfl) (hwl) (by omega) nof_93 rfl rfl rfl rfl (by first | rfl | (show cKB[_]? = _; assumption)) rfl ?_
              refine w_if_eq (tgt := 131) rfl (by first | assumption | exact i32_0 | (unfold i32 at *; omega)) rfl (fun _ => ?_) (fun c => absurd c (by decide))
              refine w_iconst rfl ?_
              exact w_zreturn rfl (by first | exact Or.inl rfl | exact Or.inr rfl | omega | assumption) ⟨by exact hfin.1, by exact hfin.2⟩
      · have hi : isE f C p q = false := by
          unfold isE
          rw [decide_eq_true q4, decide_eq_false q0]; rfl
        have hfin : DeQ f C p q c M (some (vI 0)) N := ⟨by rw [hi]; rfl, hE, hF⟩
        refine w_aload rfl rfl (w_getIV rfl (by first | rfl | assumption) (by first | exact Or.inl rfl | exact Or.inr rfl) (h4) (w_iconst rfl ?_))
        refine w_icmp_ne (tgt := 127) rfl (by first | assumption | exact i32_0 | (unfold i32 at *; omega)) (by first | assumption | exact i32_0 | (unfold i32 at *; omega)) rfl (fun c106 => ?_) (fun c106 => ?_)
        · skip
          exfalso; omega
        · skip
          refine w_aload rfl rfl (w_getR rfl (by first | rfl | assumption) rfl (by first | rfl | assumption) (w_getIV rfl (by first | rfl | assumption) (by first | exact Or.inl rfl | exact Or.inr rfl) (hlen2) ?_))
          refine w_if_ne (tgt := 131) rfl (by first | assumption | exact i32_0 | (unfold i32 at *; omega)) rfl (fun c116 => ?_) (fun c116 => ?_)
          · skip
            refine w_iconst rfl ?_
            exact w_zreturn rfl (by first | exact Or.inl rfl | exact Or.inr rfl | omega | assumption) ⟨by exact hfin.1, by exact hfin.2⟩
          · skip
            exfalso; omega
    · have hi : isE f C p q = true := by
        unfold isE
        rw [decide_eq_false q4]; rfl
      have hfin : DeQ f C p q c M (some (vI 1)) N := ⟨by rw [hi]; rfl, hE, hF⟩
      refine w_aload rfl rfl (w_getIV rfl (by first | rfl | assumption) (by first | exact Or.inl rfl | exact Or.inr rfl) (h4) (w_iconst rfl ?_))
      refine w_icmp_ne (tgt := 127) rfl (by first | assumption | exact i32_0 | (unfold i32 at *; omega)) (by first | assumption | exact i32_0 | (unfold i32 at *; omega)) rfl (fun c106 => ?_) (fun c106 => ?_)
      · skip
        refine w_iconst rfl (w_goto (tgt := 132) rfl rfl ?_)
        exact w_zreturn rfl (by first | exact Or.inl rfl | exact Or.inr rfl | omega | assumption) ⟨by exact hfin.1, by exact hfin.2⟩
      · skip
        exfalso; omega
  have meet : ∀ (N : mM) (v : mV), EdR c (rowN f C p q C.length) N → (∀ a, a ≠ c → N a = M a) → Wp mc_81 D 92 [vR s, vR c, vI p, vI q, vI C.length, v] [] N (DeQ f C p q c M) := by
    intro N v hE hF
    obtain ⟨w1, w2⟩ := hcN N hF
    have hri := rowN_ok (C := C) hf gp.1 gq.1 C.length hlen
    have hge := hgeo p q hpq hp hq
    have hen := rowN_end (f := f) (C := C) (p := p) (q := q) C.length
    have hre : rowE f C p q = if rowN f C p q C.length 5 = -1000000 then rowN f C p q C.length else sR (sR (rowN f C p q C.length) 8 (numP (lenE C (rowN f C p q C.length)))) 9 (denP (lenE C (rowN f C p q C.length))) := rfl
    generalize rowN f C p q C.length = e at *
    by_cases q5 : e 5 = -1000000
    · rw [if_pos q5] at hre
      have hgo := tail N v (by rw [hre]; exact hE) hF
      refine w_aload rfl rfl (w_aload rfl rfl (w_getR rfl (by first | rfl | assumption) rfl (by first | rfl | assumption) ?_))
      refine w_call (Or.inr rfl) (e_measure0 hc hE q5 ) (by omega) nof_90 rfl rfl rfl rfl (by first | rfl | (show cKB[_]? = _; assumption)) rfl ?_
      exact hgo
    · rw [if_neg q5] at hre
      obtain ⟨g1, g2, -⟩ := hge q5
      have q4 := hri.2.2 q5
      have a4 : e 4 = ((e 4).toNat : Int) := by omega
      have a5 : e 5 = ((e 5).toNat : Int) := by omega
      have p4 := ptAt_eq (C := C) (k := e 4) (by omega) (by omega)
      have p5 := ptAt_eq (C := C) (k := e 5) (by omega) (by omega)
      have hgo := tail (upI (upI N c 8 (numP (lenE C e))) c 9 (denP (lenE C e))) v (by rw [hre]; exact EdR_up (EdR_up hE 8 _) 9 _) (fun a ha => by rw [upI_ne _ _ _ _ ha, upI_ne _ _ _ _ ha]; exact hF a ha)
      have hme : E 3 90 [vR c, vR (s + 1)] N none (upI (upI N c 8 (numP (lenE C e))) c 9 (denP (lenE C e))) := by
        rcases g2 with ⟨z1, z2⟩ | ⟨z1, z2, z3⟩
        · exact e_measureX hc hE hri.1 hpts w2 a4 a5 p4 p5 z1 g1 z2
        · exact e_measureY hc hE hri.1 hpts w2 a4 a5 p4 p5 z1 z2 g1 z3
      refine w_aload rfl rfl (w_aload rfl rfl (w_getR rfl (by first | rfl | assumption) rfl (by first | rfl | assumption) ?_))
      refine w_call (Or.inr rfl) ((hme)) (by omega) nof_90 rfl rfl rfl rfl (by first | rfl | (show cKB[_]? = _; assumption)) rfl ?_
      exact hgo
  have loop : ∀ (n k : Nat) (N : mM) (v : mV), C.length - k = n → k ≤ C.length → EdR c (rowN f C p q k) N → (∀ a, a ≠ c → N a = M a) → Wp mc_81 D 26 [vR s, vR c, vI p, vI q, vI k, v] [] N (DeQ f C p q c M) := by
    intro n
    induction n with
    | zero =>
      intro k N v hn hk hE hF
      obtain rfl : k = C.length := by omega
      obtain ⟨w1, w2⟩ := hcN N hF
      have hlen2 := w2.1
      have hgo := meet N v hE hF
      refine w_iload rfl rfl (w_aload rfl rfl (w_getR rfl (by first | rfl | assumption) rfl (by first | rfl | assumption) (w_getIV rfl (by first | rfl | assumption) (by first | exact Or.inl rfl | exact Or.inr rfl) (hlen2) ?_)))
      refine w_icmp_ge (tgt := 92) rfl (by first | assumption | exact i32_0 | (unfold i32 at *; omega)) (by first | assumption | exact i32_0 | (unfold i32 at *; omega)) rfl (fun c35 => ?_) (fun c35 => ?_)
      · skip
        exact hgo
      · skip
        exfalso; omega
    | succ n ih =>
      intro k N v hn hk hE hF
      obtain ⟨w1, w2⟩ := hcN N hF
      have hlen2 := w2.1
      have hkl : k < C.length := by omega
      have hP : C[k]? = some C[k] := List.getElem?_eq_getElem hkl
      have hma := e_markAt hpts w2 hP
      obtain ⟨m, hm, hm2⟩ := hcel C[k] (List.getElem_mem hkl)
      have hcell : cellAt C k = m := by rw [cellAt_eq hP, hm2]; omega
      rw [hm2] at hma
      have hri := rowN_ok (C := C) hf gp.1 gq.1 k (by omega)
      have hh := e_hside m p q N (by omega) (by omega) (by omega)
      have hg := e_hside m q p N (by omega) (by omega) (by omega)
      have hsd := sdE_hs (s := m) (p := p) (q := q)
      by_cases h1 : hside m p q = true
      · rw [if_pos h1] at hh
        have hrow : rowN f C p q (k + 1) = enR (rowN f C p q k) k true := by
          show (match sdE (cellAt C k) p q with | some b => enR (rowN f C p q k) k b | none => rowN f C p q k) = _
          rw [hcell, hsd.1.mpr h1]
        have hen := e_endAt (M := N) (k := (k : Int)) (left := true) hc hE hri.1
        have ihn := fun N2 v => ih (k + 1) N2 v (by omega) (by omega)
        rw [hrow] at ihn
        have hen : EQ 2 89 [vR c, vI k, vI 1] N (fun r M1 => r = none ∧ EdR c (enR (rowN f C p q k) k true) M1 ∧ ∀ a, a ≠ c → M1 a = N a) := hen
        refine w_iload rfl rfl (w_aload rfl rfl (w_getR rfl (by first | rfl | assumption) rfl (by first | rfl | assumption) (w_getIV rfl (by first | rfl | assumption) (by first | exact Or.inl rfl | exact Or.inr rfl) (hlen2) ?_)))
        refine w_icmp_ge (tgt := 92) rfl (by first | assumption | exact i32_0 | (unfold i32 at *; omega)) (by first | assumption | exact i32_0 | (unfold i32 at *; omega)) rfl (fun c35 => ?_) (fun c35 => ?_)
        · skip
          exfalso; omega
        · skip
          refine w_aload rfl rfl (w_getR rfl (by first | rfl | assumption) rfl (by first | rfl | assumption) (w_iload rfl rfl ?_))
          refine w_call (Or.inr rfl) (hma) (by omega) nof_86 rfl rfl rfl rfl (by first | rfl | (show cKB[_]? = _; assumption)) rfl ?_
          refine w_istore (ls2 := [_, _, _, _, _, _]) rfl rfl rfl (w_iload rfl rfl (w_iload rfl rfl (w_iload rfl rfl ?_)))
          refine w_call (Or.inl rfl) ((hh)) (by omega) nof_87 rfl rfl rfl rfl trivial rfl ?_
          refine w_if_eq (tgt := 69) rfl (by first | assumption | exact i32_0 | (unfold i32 at *; omega)) rfl (fun c => absurd c (by decide)) (fun _ => ?_)
          refine w_aload rfl rfl (w_iload rfl rfl (w_iconst rfl ?_))
          refine w_callQ (Or.inr rfl) (hen) (by omega) nof_89 rfl rfl rfl rfl (by first | rfl | (show cKB[_]? = _; assumption)) (fun r63 M63 hq63 => ?_)
          obtain ⟨rfl, z1, z2⟩ := hq63
          refine w_goto (tgt := 86) rfl rfl (w_iinc (ls2 := [_, _, _, _, _, _]) rfl rfl rfl (w_goto (tgt := 26) rfl rfl ?_))
          exact ihn _ _ z1 (fun a ha => (z2 a ha).trans (hF a ha))
      · rw [if_neg h1] at hh
        have h1 : hside m p q = false := by cases z : hside m p q <;> simp_all
        by_cases h2 : hside m q p = true
        · rw [if_pos h2] at hg
          have hrow : rowN f C p q (k + 1) = enR (rowN f C p q k) k false := by
            show (match sdE (cellAt C k) p q with | some b => enR (rowN f C p q k) k b | none => rowN f C p q k) = _
            rw [hcell, hsd.2.1.mpr ⟨h1, h2⟩]
          have hen := e_endAt (M := N) (k := (k : Int)) (left := false) hc hE hri.1
          have ihn := fun N2 v => ih (k + 1) N2 v (by omega) (by omega)
          rw [hrow] at ihn
          have hen : EQ 2 89 [vR c, vI k, vI 0] N (fun r M1 => r = none ∧ EdR c (enR (rowN f C p q k) k false) M1 ∧ ∀ a, a ≠ c → M1 a = N a) := hen
          refine w_iload rfl rfl (w_aload rfl rfl (w_getR rfl (by first | rfl | assumption) rfl (by first | rfl | assumption) (w_getIV rfl (by first | rfl | assumption) (by first | exact Or.inl rfl | exact Or.inr rfl) (hlen2) ?_)))
          refine w_icmp_ge (tgt := 92) rfl (by first | assumption | exact i32_0 | (unfold i32 at *; omega)) (by first | assumption | exact i32_0 | (unfold i32 at *; omega)) rfl (fun c35 => ?_) (fun c35 => ?_)
          · skip
            exfalso; omega
          · skip
            refine w_aload rfl rfl (w_getR rfl (by first | rfl | assumption) rfl (by first | rfl | assumption) (w_iload rfl rfl ?_))
            refine w_call (Or.inr rfl) (hma) (by omega) nof_86 rfl rfl rfl rfl (by first | rfl | (show cKB[_]? = _; assumption)) rfl ?_
            refine w_istore (ls2 := [_, _, _, _, _, _]) rfl rfl rfl (w_iload rfl rfl (w_iload rfl rfl (w_iload rfl rfl ?_)))
            refine w_call (Or.inl rfl) ((hh)) (by omega) nof_87 rfl rfl rfl rfl trivial rfl ?_
            refine w_if_eq (tgt := 69) rfl (by first | assumption | exact i32_0 | (unfold i32 at *; omega)) rfl (fun _ => ?_) (fun c => absurd c (by decide))
            refine w_iload rfl rfl (w_iload rfl rfl (w_iload rfl rfl ?_))
            refine w_call (Or.inl rfl) ((hg)) (by omega) nof_87 rfl rfl rfl rfl trivial rfl ?_
            refine w_if_eq (tgt := 86) rfl (by first | assumption | exact i32_0 | (unfold i32 at *; omega)) rfl (fun c => absurd c (by decide)) (fun _ => ?_)
            refine w_aload rfl rfl (w_iload rfl rfl (w_iconst rfl ?_))
            refine w_callQ (Or.inr rfl) (hen) (by omega) nof_89 rfl rfl rfl rfl (by first | rfl | (show cKB[_]? = _; assumption)) (fun r83 M83 hq83 => ?_)
            obtain ⟨rfl, z1, z2⟩ := hq83
            refine w_iinc (ls2 := [_, _, _, _, _, _]) rfl rfl rfl (w_goto (tgt := 26) rfl rfl ?_)
            exact ihn _ _ z1 (fun a ha => (z2 a ha).trans (hF a ha))
        · rw [if_neg h2] at hg
          have h2 : hside m q p = false := by cases z : hside m q p <;> simp_all
          have hrow : rowN f C p q (k + 1) = rowN f C p q k := by
            show (match sdE (cellAt C k) p q with | some b => enR (rowN f C p q k) k b | none => rowN f C p q k) = _
            rw [hcell, hsd.2.2.mpr ⟨h1, h2⟩]
          have ihn := fun N2 v => ih (k + 1) N2 v (by omega) (by omega)
          rw [hrow] at ihn
          refine w_iload rfl rfl (w_aload rfl rfl (w_getR rfl (by first | rfl | assumption) rfl (by first | rfl | assumption) (w_getIV rfl (by first | rfl | assumption) (by first | exact Or.inl rfl | exact Or.inr rfl) (hlen2) ?_)))
          refine w_icmp_ge (tgt := 92) rfl (by first | assumption | exact i32_0 | (unfold i32 at *; omega)) (by first | assumption | exact i32_0 | (unfold i32 at *; omega)) rfl (fun c35 => ?_) (fun c35 => ?_)
          · skip
            exfalso; omega
          · skip
            refine w_aload rfl rfl (w_getR rfl (by first | rfl | assumption) rfl (by first | rfl | assumption) (w_iload rfl rfl ?_))
            refine w_call (Or.inr rfl) (hma) (by omega) nof_86 rfl rfl rfl rfl (by first | rfl | (show cKB[_]? = _; assumption)) rfl ?_
            refine w_istore (ls2 := [_, _, _, _, _, _]) rfl rfl rfl (w_iload rfl rfl (w_iload rfl rfl (w_iload rfl rfl ?_)))
            refine w_call (Or.inl rfl) ((hh)) (by omega) nof_87 rfl rfl rfl rfl trivial rfl ?_
            refine w_if_eq (tgt := 69) rfl (by first | assumption | exact i32_0 | (unfold i32 at *; omega)) rfl (fun _ => ?_) (fun c => absurd c (by decide))
            refine w_iload rfl rfl (w_iload rfl rfl (w_iload rfl rfl ?_))
            refine w_call (Or.inl rfl) ((hg)) (by omega) nof_87 rfl rfl rfl rfl trivial rfl ?_
            refine w_if_eq (tgt := 86) rfl (by first | assumption | exact i32_0 | (unfold i32 at *; omega)) rfl (fun _ => ?_) (fun c => absurd c (by decide))
            refine w_iinc (ls2 := [_, _, _, _, _, _]) rfl rfl rfl (w_goto (tgt := 26) rfl rfl ?_)
            exact ihn _ _ hE hF
  refine w_aload rfl rfl (w_iload rfl rfl (w_iload rfl rfl (w_aload rfl rfl (w_getR rfl (by first | rfl | assumption) rfl (by first | rfl | assumption) (w_iload rfl rfl ?_)))))
  refine w_call (Or.inr rfl) (vq) (by omega) nof_31 rfl rfl rfl rfl (by first | rfl | (show cKB[_]? = _; assumption)) rfl ?_
  refine w_aload rfl rfl (w_getR rfl (by first | rfl | assumption) rfl (by first | rfl | assumption) (w_iload rfl rfl ?_))
  refine w_call (Or.inr rfl) (vp) (by omega) nof_31 rfl rfl rfl rfl (by first | rfl | (show cKB[_]? = _; assumption)) rfl ?_
  refine w_isub rfl ?_
  refine w_callQ (Or.inr rfl) (hbe) (by omega) nof_82 rfl rfl rfl rfl (by first | rfl | (show cKB[_]? = _; assumption)) (fun r20 M20 hq20 => ?_)
  obtain ⟨rfl, z1, z2⟩ := hq20
  refine w_iconst rfl (w_istore (ls2 := [_, _, _, _, _, _]) rfl rfl rfl ?_)
  exact loop C.length 0 _ _ (Nat.sub_zero _) (Nat.zero_le _) z1 z2
/-! ===== all edges ===== -/
def elB (f : Cv) (C : List Pt) (p : Nat) (L : List (Nat × Nat)) : Nat → List (Nat × Nat)
  | 0 => L
  | n + 1 => if p < n ∧ hasF f p = true ∧ hasF f n = true ∧ (elB f C p L n).length < 30 ∧ isE f C p n = true then elB f C p L n ++ [(p, n)] else elB f C p L n
def elA (f : Cv) (C : List Pt) : Nat → List (Nat × Nat)
  | 0 => []
  | n + 1 => elB f C n (elA f C n) 21
theorem elB_lo (f : Cv) (C : List Pt) (p : Nat) (L : List (Nat × Nat)) : ∀ n, n ≤ p + 1 → elB f C p L n = L
  | 0, _ => rfl
  | n + 1, h => by unfold elB; rw [if_neg (by omega)]; exact elB_lo f C p L n (by omega)
/-- the rows of the edges found -/
def ElR (s : Nat) (f : Cv) (C : List Pt) (L : List (Nat × Nat)) (N : mM) : Prop := N s 4 = (L.length : Int) ∧ L.length ≤ 30 ∧ ∀ (k : Nat) (pq : Nat × Nat), L[k]? = some pq → EdR (s + 10 + k) (rowE f C pq.1 pq.2) N
def ElQ (s : Nat) (f : Cv) (C : List Pt) (L : List (Nat × Nat)) (M : mM) : mP := fun r N => r = none ∧ ElR s f C L N ∧ ∀ a k, (a < s ∨ s + 40 ≤ a ∨ (a = s ∧ k ≠ 4) ∨ (s < a ∧ a < s + 10)) → N a k = M a k
theorem e_findEdges {s t : Nat} {f : Cv} {C : List Pt} {M : mM} (hs : isS s t) (hcu : cur t f M) (hf : Cok 999 f) (hC : PtR (s + 1) C M) (hcel : celOK C) (hgeo : geoOK f C) : EQ 6 80 [vR s] M (ElQ s f C (elA f C 21) M) := by
  have hss := hs
  obtain ⟨⟨k0, k1, k2, k3, k4, k5⟩, ⟨kE, -, -⟩, ht, hpts, hts, hed⟩ := hs
  have ht0 := ht.1
  refine q_in (ls := [vR s, vN, vN]) mq_80 (ml_80 rfl) rfl fun D hD => ?_
  have hcN : ∀ N : mM, (∀ a k, (a < s ∨ s + 40 ≤ a ∨ (a = s ∧ k ≠ 4) ∨ (s < a ∧ a < s + 10)) → N a k = M a k) → cur t f N ∧ PtR (s + 1) C N := fun N h => ⟨cur_fr hcu (fun k => h (t + 1) k (by omega)), PtR_fr hC (fun a _ _ k => h a k (by omega))⟩
  have loopB : ∀ (p : Nat) (acc : List (Nat × Nat)), p < 21 → (∀ N : mM, ElR s f C (elB f C p acc 21) N → (∀ a k, (a < s ∨ s + 40 ≤ a ∨ (a = s ∧ k ≠ 4) ∨ (s < a ∧ a < s + 10)) → N a k = M a k) → Wp mc_80 D 91 [vR s, vI p, vI (21 : Nat)] [] N (ElQ s f C (elA f C 21) M)) → ∀ (m n : Nat) (N : mM), 21 - n = m → p < n → n ≤ 21 → ElR s f C (elB f C p acc n) N → (∀ a k, (a < s ∨ s + 40 ≤ a ∨ (a = s ∧ k ≠ 4) ∨ (s < a ∧ a < s + 10)) → N a k = M a k) → Wp mc_80 D 17 [vR s, vI p, vI n] [] N (ElQ s f C (elA f C 21) M) := by
    intro p acc hp21 hout m
    induction m with
    | zero =>
      intro n N hm hpn hn hL hF
      obtain rfl : n = 21 := by omega
      have hgo := hout N hL hF
      refine w_iload rfl rfl (w_iconst rfl ?_)
      refine w_icmp_ge (tgt := 91) rfl (by first | assumption | exact i32_0 | (unfold i32 at *; omega)) (by first | assumption | exact i32_0 | (unfold i32 at *; omega)) rfl (fun c20 => ?_) (fun c20 => ?_)
      · skip
        exact hgo
      · skip
        exfalso; omega
    | succ m ih =>
      intro n N hm hpn hn hL hF
      obtain ⟨w1, w2⟩ := hcN N hF
      have ihn := fun N2 => ih (n + 1) N2 (by omega) (by omega) (by omega)
      have hunf : elB f C p acc (n + 1) = if p < n ∧ hasF f p = true ∧ hasF f n = true ∧ (elB f C p acc n).length < 30 ∧ isE f C p n = true then elB f C p acc n ++ [(p, n)] else elB f C p acc n := rfl
      rw [hunf] at ihn
      have xa := e_hasX ht w1 hf (k := p) (by omega)
      have xb := e_hasX ht w1 hf (k := n) (by omega)
      have hL4 := hL.1
      have hL30 := hL.2.1
      by_cases qa : hasF f p = true
      · rw [if_pos qa] at xa
        by_cases qb : hasF f n = true
        · rw [if_pos qb] at xb
          by_cases ql : (elB f C p acc n).length < 30
          · have hx := hed (elB f C p acc n).length ql
            have hxr := hx.1
            have hde := e_describe (c := s + 10 + (elB f C p acc n).length) hss w1 hf w2 hcel hgeo hx.2 (by omega) hpn qa qb
            generalize hL0 : elB f C p acc n = L at *
            by_cases qe : isE f C p n = true
            · rw [if_pos ⟨hpn, qa, qb, ql, qe⟩] at ihn
              have hfin : ∀ N2 : mM, EdR (s + 10 + L.length) (rowE f C p n) N2 → (∀ a, a ≠ s + 10 + L.length → N2 a = N a) → Wp mc_80 D 17 [vR s, vI p, vI ((n + 1 : Nat) : Int)] [] (upI N2 s 4 ((L.length : Int) + 1)) (ElQ s f C (elA f C 21) M) := by
                intro N2 z1 z2
                refine ihn _ ⟨?_, ?_, fun k pq hk => ?_⟩ (fun a k ha => ?_)
                · rw [upI_same, List.length_append]; rfl
                · rw [List.length_append]; show L.length + 1 ≤ 30; omega
                · refine EdR_fr ?_ (upI_ne _ _ _ _ (by omega))
                  rcases Nat.lt_or_ge k L.length with q | q
                  · rw [List.getElem?_append_left q] at hk
                    exact EdR_fr (hL.2.2 k pq hk) (z2 _ (by omega))
                  · rw [List.getElem?_append_right q] at hk
                    have : k - L.length < 1 := (List.getElem?_eq_some_iff.mp hk).1
                    obtain rfl : k = L.length := by omega
                    rw [Nat.sub_self] at hk
                    cases hk
                    exact z1
                · rw [← hF a k ha]
                  by_cases hsa : a = s
                  · subst hsa
                    rw [show upI N2 a 4 ((L.length : Int) + 1) a k = N2 a k from if_neg (by omega), z2 a (by omega)]
                  · rw [upI_ne _ _ _ _ hsa, z2 a (by omega)]
              have e77 : ∀ N2 : mM, (∀ a, a ≠ s + 10 + L.length → N2 a = N a) → N2 s 4 = (L.length : Int) := fun N2 z => by rw [z s (by omega)]; exact hL4
              refine w_iload rfl rfl (w_iconst rfl ?_)
              refine w_icmp_ge (tgt := 91) rfl (by first | assumption | exact i32_0 | (unfold i32 at *; omega)) (by first | assumption | exact i32_0 | (unfold i32 at *; omega)) rfl (fun c20 => ?_) (fun c20 => ?_)
              · skip
                exfalso; omega
              · skip
                refine w_aload rfl rfl (w_getR rfl (by first | rfl | assumption) rfl (by first | rfl | assumption | (rw [Int.toNat_natCast]; assumption)) (w_iload rfl rfl ?_))
                refine w_call (Or.inr rfl) ((xa)) (by omega) nof_30 rfl rfl rfl rfl (by first | rfl | (show cKB[_]? = _; assumption)) rfl ?_
                refine w_if_eq (tgt := 85) rfl (by first | assumption | exact i32_0 | (unfold i32 at *; omega)) rfl (fun c => absurd c (by decide)) (fun _ => ?_)
                refine w_aload rfl rfl (w_getR rfl (by first | rfl | assumption) rfl (by first | rfl | assumption | (rw [Int.toNat_natCast]; assumption)) (w_iload rfl rfl ?_))
                refine w_call (Or.inr rfl) ((xb)) (by omega) nof_30 rfl rfl rfl rfl (by first | rfl | (show cKB[_]? = _; assumption)) rfl ?_
                refine w_if_eq (tgt := 85) rfl (by first | assumption | exact i32_0 | (unfold i32 at *; omega)) rfl (fun c => absurd c (by decide)) (fun _ => ?_)
                refine w_aload rfl rfl (w_getIV rfl (by first | rfl | assumption) (by first | exact Or.inl rfl | exact Or.inr rfl) (hL4) (w_aload rfl rfl (w_getR rfl (by first | rfl | assumption) rfl (by first | rfl | assumption | (rw [Int.toNat_natCast]; assumption)) (w_alen rfl (by first | rfl | assumption) (by decide) (by decide) ?_))))
                refine w_icmp_ge (tgt := 85) rfl (by first | assumption | exact i32_0 | (unfold i32 at *; omega)) (by first | assumption | exact i32_0 | (unfold i32 at *; omega)) rfl (fun c54 => ?_) (fun c54 => ?_)
                · skip
                  refine w_iinc (ls2 := [_, _, _]) rfl rfl rfl (w_goto (tgt := 17) rfl rfl ?_)
                  first | (exfalso; omega) | exact hfin M69 z1 z2
                · skip
                  refine w_aload rfl rfl (w_aload rfl rfl (w_getR rfl (by first | rfl | assumption) rfl (by first | rfl | assumption | (rw [Int.toNat_natCast]; assumption)) (w_aload rfl rfl (w_getIV rfl (by first | rfl | assumption) (by first | exact Or.inl rfl | exact Or.inr rfl) (hL4) (w_aaload rfl (by first | rfl | assumption) (by first | exact Or.inl rfl | exact Or.inr rfl) (by omega) (by omega) (by first | rfl | assumption | (rw [Int.toNat_natCast]; assumption)) (w_iload rfl rfl (w_iload rfl rfl ?_)))))))
                  refine w_callQ (Or.inr rfl) (hde) (by omega) nof_81 rfl rfl rfl rfl (by first | rfl | (show cKB[_]? = _; assumption)) (fun r69 M69 hq69 => ?_)
                  obtain ⟨rfl, z1, z2⟩ := hq69
                  rw [if_pos qe]
                  have e77 := e77 M69 z2
                  refine w_if_eq (tgt := 85) rfl (by first | assumption | exact i32_0 | (unfold i32 at *; omega)) rfl (fun c => absurd c (by decide)) (fun _ => ?_)
                  refine w_aload rfl rfl (w_dup rfl rfl (w_getIV rfl (by first | rfl | assumption) (by first | exact Or.inl rfl | exact Or.inr rfl) (e77) (w_iconst rfl (w_iadd rfl (w_putI rfl (by first | rfl | assumption) rfl (w_iinc (ls2 := [_, _, _]) rfl rfl rfl (w_goto (tgt := 17) rfl rfl ?_)))))))
                  first | (exfalso; omega) | exact hfin M69 z1 z2
            · rw [if_neg (fun z => qe z.2.2.2.2)] at ihn
              have hfin : ∀ N2 : mM, (∀ a, a ≠ s + 10 + L.length → N2 a = N a) → Wp mc_80 D 17 [vR s, vI p, vI ((n + 1 : Nat) : Int)] [] N2 (ElQ s f C (elA f C 21) M) := by
                intro N2 z2
                refine ihn _ ⟨?_, hL30, fun k pq hk => ?_⟩ (fun a k ha => ?_)
                · rw [z2 s (by omega)]; exact hL4
                · have hkl := (List.getElem?_eq_some_iff.mp hk).1
                  exact EdR_fr (hL.2.2 k pq hk) (z2 _ (by omega))
                · rw [← hF a k ha, z2 a (by omega)]
              refine w_iload rfl rfl (w_iconst rfl ?_)
              refine w_icmp_ge (tgt := 91) rfl (by first | assumption | exact i32_0 | (unfold i32 at *; omega)) (by first | assumption | exact i32_0 | (unfold i32 at *; omega)) rfl (fun c20 => ?_) (fun c20 => ?_)
              · skip
                exfalso; omega
              · skip
                refine w_aload rfl rfl (w_getR rfl (by first | rfl | assumption) rfl (by first | rfl | assumption | (rw [Int.toNat_natCast]; assumption)) (w_iload rfl rfl ?_))
                refine w_call (Or.inr rfl) ((xa)) (by omega) nof_30 rfl rfl rfl rfl (by first | rfl | (show cKB[_]? = _; assumption)) rfl ?_
                refine w_if_eq (tgt := 85) rfl (by first | assumption | exact i32_0 | (unfold i32 at *; omega)) rfl (fun c => absurd c (by decide)) (fun _ => ?_)
                refine w_aload rfl rfl (w_getR rfl (by first | rfl | assumption) rfl (by first | rfl | assumption | (rw [Int.toNat_natCast]; assumption)) (w_iload rfl rfl ?_))
                refine w_call (Or.inr rfl) ((xb)) (by omega) nof_30 rfl rfl rfl rfl (by first | rfl | (show cKB[_]? = _; assumption)) rfl ?_
                refine w_if_eq (tgt := 85) rfl (by first | assumption | exact i32_0 | (unfold i32 at *; omega)) rfl (fun c => absurd c (by decide)) (fun _ => ?_)
                refine w_aload rfl rfl (w_getIV rfl (by first | rfl | assumption) (by first | exact Or.inl rfl | exact Or.inr rfl) (hL4) (w_aload rfl rfl (w_getR rfl (by first | rfl | assumption) rfl (by first | rfl | assumption | (rw [Int.toNat_natCast]; assumption)) (w_alen rfl (by first | rfl | assumption) (by decide) (by decide) ?_))))
                refine w_icmp_ge (tgt := 85) rfl (by first | assumption | exact i32_0 | (unfold i32 at *; omega)) (by first | assumption | exact i32_0 | (unfold i32 at *; omega)) rfl (fun c54 => ?_) (fun c54 => ?_)
                · skip
                  refine w_iinc (ls2 := [_, _, _]) rfl rfl rfl (w_goto (tgt := 17) rfl rfl ?_)
                  first | (exfalso; omega) | exact hfin M69 z2
                · skip
                  refine w_aload rfl rfl (w_aload rfl rfl (w_getR rfl (by first | rfl | assumption) rfl (by first | rfl | assumption | (rw [Int.toNat_natCast]; assumption)) (w_aload rfl rfl (w_getIV rfl (by first | rfl | assumption) (by first | exact Or.inl rfl | exact Or.inr rfl) (hL4) (w_aaload rfl (by first | rfl | assumption) (by first | exact Or.inl rfl | exact Or.inr rfl) (by omega) (by omega) (by first | rfl | assumption | (rw [Int.toNat_natCast]; assumption)) (w_iload rfl rfl (w_iload rfl rfl ?_)))))))
                  refine w_callQ (Or.inr rfl) (hde) (by omega) nof_81 rfl rfl rfl rfl (by first | rfl | (show cKB[_]? = _; assumption)) (fun r69 M69 hq69 => ?_)
                  obtain ⟨rfl, z1, z2⟩ := hq69
                  rw [if_neg qe]
                  refine w_if_eq (tgt := 85) rfl (by first | assumption | exact i32_0 | (unfold i32 at *; omega)) rfl (fun _ => ?_) (fun c => absurd c (by decide))
                  refine w_iinc (ls2 := [_, _, _]) rfl rfl rfl (w_goto (tgt := 17) rfl rfl ?_)
                  first | (exfalso; omega) | exact hfin M69 z2
          · rw [if_neg (fun z => ql z.2.2.2.1)] at ihn
            have hgo := ihn N hL hF
            refine w_iload rfl rfl (w_iconst rfl ?_)
            refine w_icmp_ge (tgt := 91) rfl (by first | assumption | exact i32_0 | (unfold i32 at *; omega)) (by first | assumption | exact i32_0 | (unfold i32 at *; omega)) rfl (fun c20 => ?_) (fun c20 => ?_)
            · skip
              exfalso; omega
            · skip
              refine w_aload rfl rfl (w_getR rfl (by first | rfl | assumption) rfl (by first | rfl | assumption) (w_iload rfl rfl ?_))
              refine w_call (Or.inr rfl) ((xa)) (by omega) nof_30 rfl rfl rfl rfl (by first | rfl | (show cKB[_]? = _; assumption)) rfl ?_
              refine w_if_eq (tgt := 85) rfl (by first | assumption | exact i32_0 | (unfold i32 at *; omega)) rfl (fun c => absurd c (by decide)) (fun _ => ?_)
              refine w_aload rfl rfl (w_getR rfl (by first | rfl | assumption) rfl (by first | rfl | assumption) (w_iload rfl rfl ?_))
              refine w_call (Or.inr rfl) ((xb)) (by omega) nof_30 rfl rfl rfl rfl (by first | rfl | (show cKB[_]? = _; assumption)) rfl ?_
              refine w_if_eq (tgt := 85) rfl (by first | assumption | exact i32_0 | (unfold i32 at *; omega)) rfl (fun c => absurd c (by decide)) (fun _ => ?_)
              refine w_aload rfl rfl (w_getIV rfl (by first | rfl | assumption) (by first | exact Or.inl rfl | exact Or.inr rfl) (hL4) (w_aload rfl rfl (w_getR rfl (by first | rfl | assumption) rfl (by first | rfl | assumption) (w_alen rfl (by first | rfl | assumption) (by decide) (by decide) ?_))))
              refine w_icmp_ge (tgt := 85) rfl (by first | assumption | exact i32_0 | (unfold i32 at *; omega)) (by first | assumption | exact i32_0 | (unfold i32 at *; omega)) rfl (fun c54 => ?_) (fun c54 => ?_)
              · skip
                refine w_iinc (ls2 := [_, _, _]) rfl rfl rfl (w_goto (tgt := 17) rfl rfl ?_)
                exact hgo
              · skip
                exfalso; omega
        · rw [if_neg qb] at xb
          rw [if_neg (fun z => qb z.2.2.1)] at ihn
          have hgo := ihn N hL hF
          refine w_iload rfl rfl (w_iconst rfl ?_)
          refine w_icmp_ge (tgt := 91) rfl (by first | assumption | exact i32_0 | (unfold i32 at *; omega)) (by first | assumption | exact i32_0 | (unfold i32 at *; omega)) rfl (fun c20 => ?_) (fun c20 => ?_)
          · skip
            exfalso; omega
          · skip
            refine w_aload rfl rfl (w_getR rfl (by first | rfl | assumption) rfl (by first | rfl | assumption) (w_iload rfl rfl ?_))
            refine w_call (Or.inr rfl) ((xa)) (by omega) nof_30 rfl rfl rfl rfl (by first | rfl | (show cKB[_]? = _; assumption)) rfl ?_
            refine w_if_eq (tgt := 85) rfl (by first | assumption | exact i32_0 | (unfold i32 at *; omega)) rfl (fun c => absurd c (by decide)) (fun _ => ?_)
            refine w_aload rfl rfl (w_getR rfl (by first | rfl | assumption) rfl (by first | rfl | assumption) (w_iload rfl rfl ?_))
            refine w_call (Or.inr rfl) ((xb)) (by omega) nof_30 rfl rfl rfl rfl (by first | rfl | (show cKB[_]? = _; assumption)) rfl ?_
            refine w_if_eq (tgt := 85) rfl (by first | assumption | exact i32_0 | (unfold i32 at *; omega)) rfl (fun _ => ?_) (fun c => absurd c (by decide))
            refine w_iinc (ls2 := [_, _, _]) rfl rfl rfl (w_goto (tgt := 17) rfl rfl ?_)
            exact hgo
      · rw [if_neg qa] at xa
        rw [if_neg (fun z => qa z.2.1)] at ihn
        have hgo := ihn N hL hF
        refine w_iload rfl rfl (w_iconst rfl ?_)
        refine w_icmp_ge (tgt := 91) rfl (by first | assumption | exact i32_0 | (unfold i32 at *; omega)) (by first | assumption | exact i32_0 | (unfold i32 at *; omega)) rfl (fun c20 => ?_) (fun c20 => ?_)
        · skip
          exfalso; omega
        · skip
          refine w_aload rfl rfl (w_getR rfl (by first | rfl | assumption) rfl (by first | rfl | assumption) (w_iload rfl rfl ?_))
          refine w_call (Or.inr rfl) ((xa)) (by omega) nof_30 rfl rfl rfl rfl (by first | rfl | (show cKB[_]? = _; assumption)) rfl ?_
          refine w_if_eq (tgt := 85) rfl (by first | assumption | exact i32_0 | (unfold i32 at *; omega)) rfl (fun _ => ?_) (fun c => absurd c (by decide))
          refine w_iinc (ls2 := [_, _, _]) rfl rfl rfl (w_goto (tgt := 17) rfl rfl ?_)
          exact hgo
  have loopA : ∀ (m n : Nat) (N : mM) (v : mV), 21 - n = m → n ≤ 21 → ElR s f C (elA f C n) N → (∀ a k, (a < s ∨ s + 40 ≤ a ∨ (a = s ∧ k ≠ 4) ∨ (s < a ∧ a < s + 10)) → N a k = M a k) → Wp mc_80 D 7 [vR s, vI n, v] [] N (ElQ s f C (elA f C 21) M) := by
    intro m
    induction m with
    | zero =>
      intro n N v hm hn hL hF
      obtain rfl : n = 21 := by omega
      refine w_iload rfl rfl (w_iconst rfl ?_)
      refine w_icmp_ge (tgt := 97) rfl (by first | assumption | exact i32_0 | (unfold i32 at *; omega)) (by first | assumption | exact i32_0 | (unfold i32 at *; omega)) rfl (fun c10 => ?_) (fun c10 => ?_)
      · skip
        exact w_return rfl ⟨rfl, by exact ⟨hL, hF⟩⟩
      · skip
        exfalso; omega
    | succ m ih =>
      intro n N v hm hn hL hF
      have ihn := fun N2 v => ih (n + 1) N2 v (by omega) (by omega)
      have hgo := loopB n (elA f C n) (by omega) (fun N2 w1 w2 => by
        have hgo := ihn N2 (vI (21 : Nat)) w1 w2
        refine w_iinc (ls2 := [_, _, _]) rfl rfl rfl (w_goto (tgt := 7) rfl rfl ?_)
        exact hgo) (21 - (n + 1)) (n + 1) N rfl (by omega) (by omega) (by rw [elB_lo f C n _ (n + 1) (by omega)]; exact hL) hF
      refine w_iload rfl rfl (w_iconst rfl ?_)
      refine w_icmp_ge (tgt := 97) rfl (by first | assumption | exact i32_0 | (unfold i32 at *; omega)) (by first | assumption | exact i32_0 | (unfold i32 at *; omega)) rfl (fun c10 => ?_) (fun c10 => ?_)
      · skip
        exfalso; omega
      · skip
        refine w_iload rfl rfl (w_iconst rfl (w_iadd rfl (w_istore (ls2 := [_, _, _]) rfl rfl rfl ?_)))
        exact hgo
  have hgo := loopA 21 0 (upI M s 4 0) vN rfl (by omega) ⟨upI_same _ _ _ _, Nat.zero_le _, fun k pq h => by simp [elA] at h⟩ (fun a k ha => if_neg (by omega))
  refine w_aload rfl rfl (w_iconst rfl (w_putI rfl (by first | rfl | assumption) rfl (w_iconst rfl (w_istore (ls2 := [_, _, _]) rfl rfl rfl ?_))))
  exact hgo
