/-! ===== a term read by the model ===== -/
def TmF (M N : mM) : Prop := (∀ a, a ≠ 155 → a ≠ 156 → N a = M a) ∧ ∀ k, (k < 5 ∨ 16 < k ∨ k = 8) → N 155 k = M 155 k
theorem TmF_rfl (M : mM) : TmF M M := ⟨fun _ _ _ => rfl, fun _ _ => rfl⟩
theorem TmF_tr {M N O : mM} (h : TmF M N) (h2 : TmF N O) : TmF M O := ⟨fun a a1 a2 => (h2.1 a a1 a2).trans (h.1 a a1 a2), fun k hk => (h2.2 k hk).trans (h.2 k hk)⟩
theorem TmF_of {M N : mM} (h : PaF M N) : TmF M N := ⟨fun a a1 _ => h.1 a a1, fun k hk => h.2 k (by omega)⟩
/-- the rows: untouched, or written -/
def rowsQ (d : Int) (F G : Cv) (M N : mM) : Prop := (d = 0 → N 156 = M 156) ∧ (d = 1 → mrow 0 F G N ∧ ∀ k, 50 ≤ k → N 156 k = M 156 k)
def freshR (r : Nat → Int) : Prop := r 7 = 0 ∧ r 8 = 0 ∧ r 9 = 0 ∧ r 10 = 0 ∧ r 11 = 0 ∧ r 12 = 0 ∧ r 13 = 0
theorem freshR_new (r : Nat → Int) (k v : Int) : freshR (sR (rdNew r) 1 v) := ⟨rfl, rfl, rfl, rfl, rfl, rfl, rfl⟩
theorem accF_5 {r : Nat → Int} {kd dd nn : Int} {f g : Cv} (h : r 1 = 5) : accF kd dd nn r f g = folF kd r f g := by
  unfold accF
  rw [if_neg (by omega), if_neg (by omega), if_neg (by omega), if_neg (by omega), if_neg (by omega)]
theorem folF_no {l : List Int} {r : Nat → Int} {f g : Cv} (h : endB l r = false) : folF (tKind l) r f g = none := by
  have h := of_decide_eq_false h
  unfold folF
  by_cases k43 : tKind l = 43
  · rw [if_pos k43, if_neg (by omega)]
  · rw [if_neg k43, if_neg (by omega), if_neg (by omega)]
theorem mv_lowC {h : Cv} {p k : Nat} {v : Int} (hv : v < 5000) : mv (lowC h p v) k = if k = p ∧ v < mv h p then v else mv h k := by
  unfold mv lowC
  cases e : h p with
  | none =>
    show ((upF h p (some v)) k).getD 5000 = if k = p ∧ v < 5000 then v else (h k).getD 5000
    unfold upF
    by_cases q : k = p
    · rw [if_pos q, if_pos ⟨q, hv⟩]; rfl
    · rw [if_neg q, if_neg (fun z => q z.1)]
  | some c =>
    show ((if v < c then upF h p (some v) else h) k).getD 5000 = if k = p ∧ v < c then v else (h k).getD 5000
    by_cases z : v < c
    · rw [if_pos z]
      unfold upF
      by_cases q : k = p
      · rw [if_pos q, if_pos ⟨q, z⟩]; rfl
      · rw [if_neg q, if_neg (fun z => q z.1)]
    · rw [if_neg z, if_neg (fun y => z y.2)]
def TeQ (b l : List Int) (r : Nat → Int) (d : Int) (F G : Cv) (M : mM) : mP := fun q N => ∃ (m : List Int) (s : Nat → Int), PosM b m N ∧ TmF M N ∧ (N 155 7 = M 155 7 ∧ N 155 9 = M 155 9) ∧ m.length ≤ l.length ∧
  ((q = some (vI 0) ∧ (d = 0 → N 156 = M 156) ∧ ∀ f g, rn b l r f g = Sum.inl ((b.length - m.length : Nat) : Int)) ∨
   (q = some (vI 1) ∧ RdI s ∧ s 1 = 5 ∧ same4 s r ∧ (tKind m = 257 ∨ tKind m = 44 ∨ (tKind m = 59 ∧ s 5 < 24)) ∧ m.length < l.length ∧ rowsQ d (folL s F G).1 (folL s F G).2 M N ∧ ∀ f g, rn b l r f g = rn b m s f g))
theorem m_readsTerm {b l : List Int} {M : mM} {r : Nat → Int} {d : Int} {F G : Cv} (h : PosM b l M) (hi : RdI r) (h1 : r 1 = 2) (hz : freshR r) (f7 : M 155 7 = r 5) (f9 : M 155 9 = r 6) (hd8 : M 155 8 = d) (hd : d = 0 ∨ d = 1) (hR : d = 1 → mrow 0 F G M ∧ Cok 999 F ∧ Cok 999 G) : EQ 6 158 [vR 155] M (TeQ b l r d F G M) := by
  obtain ⟨z7, z8, z9, z10, z11, z12, z13⟩ := hz
  refine q_in (ls := [vR 155, vN, vN]) mq_158 (ml_158 rfl) rfl fun D hD => ?_
  -- the term taken
  have take : ∀ (m : List Int) (s : Nat → Int) (N : mM), PosM b m N → PaF M N → FldM 0 s N → RdI s → s 1 = 5 → same4 s r → endB m s = true → ¬ hereB m 43 = true → m.length < l.length → (∀ f g, rn b l r f g = rn b m s f g) → Wp mc_158 D 95 [vR 155, vI 1, vN] [] N (TeQ b l r d F G M) := by
    intro m s N hP hF hS his hs1 hsa hen hno hlt hrun
    have hen := of_decide_eq_true hen
    have kp := here_kind (l := m) (c := 43) (by decide) (by decide) (by decide)
    have hk : tKind m = 257 ∨ tKind m = 44 ∨ (tKind m = 59 ∧ s 5 < 24) := by
      have : tKind m ≠ 43 := fun z => hno (kp.mpr z)
      omega
    have n8 : N 155 8 = d := by rw [hF.2 8 (by omega)]; exact hd8
    have n7 : N 155 7 = M 155 7 := hF.2 7 (by omega)
    have n9 : N 155 9 = M 155 9 := hF.2 9 (by omega)
    rcases hd with rfl | rfl
    · have hfin : TeQ b l r 0 F G M (some (vI 1)) N := ⟨m, s, hP, TmF_of hF, ⟨n7, n9⟩, Nat.le_of_lt hlt, Or.inr ⟨rfl, his, hs1, hsa, hk, hlt, ⟨fun _ => hF.1 156 (by decide), fun z => absurd z (by decide)⟩, hrun⟩⟩
      refine w_iload rfl rfl ?_
      refine w_if_eq (tgt := 158) rfl (by first | assumption | exact i32_0 | (unfold i32 at *; omega)) rfl (fun c => absurd c (by decide)) (fun _ => ?_)
      refine w_aload rfl rfl (w_getIV rfl (by first | rfl | assumption) (by first | exact Or.inl rfl | exact Or.inr rfl) (n8) ?_)
      refine w_if_eq (tgt := 158) rfl (by first | assumption | exact i32_0 | (unfold i32 at *; omega)) rfl (fun _ => ?_) (fun c => absurd c (by decide))
      exact w_iload rfl rfl (w_zreturn rfl (Or.inr rfl) hfin)
    · obtain ⟨hr, cF, cG⟩ := hR rfl
      obtain ⟨⟨a10, a11, a12, a13⟩, ⟨a14, a15, a16⟩, a7, a9⟩ := hS
      obtain ⟨⟨i7, i8, i78⟩, i10, ⟨-, -, -, -, -, i6⟩, i9, -⟩ := id his
      have hpl : (5 * s 7 + s 8).toNat < 21 := by omega
      have s6 : s 6 = 0 ∨ s 6 = 1 := i6
      have hr2 : mrow 0 F G N := mrow_fr hr (fun k _ _ => by rw [hF.1 156 (by decide)])
      have hix : (25 * s 6 + 5 * s 7 + s 8).toNat = 25 * (s 6).toNat + (5 * s 7 + s 8).toNat := by omega
      have hx : N 156 ((25 * s 6 + 5 * s 7 + s 8).toNat) = mv (selF (s 6) F G) (5 * s 7 + s 8).toNat := by
        rw [hix]
        rcases s6 with z | z
        · rw [z]; exact hr2.1 _ (by omega)
        · rw [z]; exact hr2.2 _ (by omega)
      have cS : Cok 999 (selF (s 6) F G) := Cok_sel cF cG
      have hml := mv_le cS (5 * s 7 + s 8).toNat
      -- the rows then
      have hrow : ∀ v : Int, v = (if s 9 < mv (selF (s 6) F G) (5 * s 7 + s 8).toNat then s 9 else mv (selF (s 6) F G) (5 * s 7 + s 8).toNat) → TeQ b l r 1 F G M (some (vI 1)) (upI N 156 (25 * s 6 + 5 * s 7 + s 8).toNat v) := by
        intro v hv
        refine ⟨m, s, PosM_fr hP (by rw [upI_ne _ _ _ _ (by decide)]) (by rw [upI_ne _ _ _ _ (by decide)]) (by rw [upI_ne _ _ _ _ (by decide)]) (fun k => by rw [upI_ne _ _ _ _ (by decide)]), TmF_tr (TmF_of hF) ⟨fun a a1 a2 => upI_ne _ _ _ _ a2, fun k _ => by rw [upI_ne _ _ _ _ (by decide)]⟩, ⟨by rw [upI_ne _ _ _ _ (by decide)]; exact n7, by rw [upI_ne _ _ _ _ (by decide)]; exact n9⟩, Nat.le_of_lt hlt, Or.inr ⟨rfl, his, hs1, hsa, hk, hlt, ⟨fun z => absurd z (by decide), fun _ => ⟨?_, fun k hk => ?_⟩⟩, hrun⟩⟩
        · unfold folL
          rcases s6 with z | z
          · rw [z] at hix hv ⊢
            rw [if_pos rfl, if_pos rfl]
            have hv : v = (if s 9 < mv F (5 * s 7 + s 8).toNat then s 9 else mv F (5 * s 7 + s 8).toNat) := hv
            refine ⟨fun p hp => ?_, fun p hp => ?_⟩
            · show upI N 156 (25 * 0 + 5 * s 7 + s 8).toNat v 156 (0 + p) = mv (lowC F (5 * s 7 + s 8).toNat (s 9)) p
              rw [mv_lowC (by omega), hix]
              unfold upI
              by_cases q : p = (5 * s 7 + s 8).toNat
              · rw [if_pos ⟨rfl, by omega⟩, hv, q]
                by_cases y : s 9 < mv F (5 * s 7 + s 8).toNat
                · rw [if_pos y, if_pos ⟨rfl, y⟩]
                · rw [if_neg y, if_neg (fun x => y x.2)]
              · rw [if_neg (by omega), if_neg (fun x => q x.1)]; exact hr2.1 p hp
            · rw [show upI N 156 (25 * 0 + 5 * s 7 + s 8).toNat v 156 (0 + 25 + p) = N 156 (0 + 25 + p) from if_neg (by omega)]
              exact hr2.2 p hp
          · rw [z] at hix hv ⊢
            rw [if_neg (by decide), if_neg (by decide)]
            have hv : v = (if s 9 < mv G (5 * s 7 + s 8).toNat then s 9 else mv G (5 * s 7 + s 8).toNat) := hv
            refine ⟨fun p hp => ?_, fun p hp => ?_⟩
            · rw [show upI N 156 (25 * 1 + 5 * s 7 + s 8).toNat v 156 (0 + p) = N 156 (0 + p) from if_neg (by omega)]
              exact hr2.1 p hp
            · show upI N 156 (25 * 1 + 5 * s 7 + s 8).toNat v 156 (0 + 25 + p) = mv (lowC G (5 * s 7 + s 8).toNat (s 9)) p
              rw [mv_lowC (by omega), hix]
              unfold upI
              by_cases q : p = (5 * s 7 + s 8).toNat
              · rw [if_pos ⟨rfl, by omega⟩, hv, q]
                by_cases y : s 9 < mv G (5 * s 7 + s 8).toNat
                · rw [if_pos y, if_pos ⟨rfl, y⟩]
                · rw [if_neg y, if_neg (fun x => y x.2)]
              · rw [if_neg (by omega), if_neg (fun x => q x.1)]; exact hr2.2 p hp
        · rw [show upI N 156 (25 * s 6 + 5 * s 7 + s 8).toNat v 156 k = N 156 k from if_neg (by omega), hF.1 156 (by decide)]
      generalize hmx : mv (selF (s 6) F G) (5 * s 7 + s 8).toNat = x at *
      by_cases y : s 9 < x
      · have hfin := hrow (s 9) (by rw [if_pos y])
        refine w_iload rfl rfl ?_
        refine w_if_eq (tgt := 158) rfl (by first | assumption | exact i32_0 | (unfold i32 at *; omega)) rfl (fun c => absurd c (by decide)) (fun _ => ?_)
        refine w_aload rfl rfl (w_getIV rfl (by first | rfl | assumption) (by first | exact Or.inl rfl | exact Or.inr rfl) (n8) ?_)
        refine w_if_eq (tgt := 158) rfl (by first | assumption | exact i32_0 | (unfold i32 at *; omega)) rfl (fun c => absurd c (by decide)) (fun _ => ?_)
        refine w_iconst rfl (w_aload rfl rfl (w_getIV rfl (by first | rfl | assumption) (by first | exact Or.inl rfl | exact Or.inr rfl) (a9) (w_imul rfl (w_iconst rfl (w_aload rfl rfl (w_getIV rfl (by first | rfl | assumption) (by first | exact Or.inl rfl | exact Or.inr rfl) (a12) (w_imul rfl ?_)))))))
        refine w_iadd rfl (w_aload rfl rfl (w_getIV rfl (by first | rfl | assumption) (by first | exact Or.inl rfl | exact Or.inr rfl) (a14) (w_iadd rfl (w_istore (ls2 := [_, _, _]) rfl rfl rfl (w_aload rfl rfl (w_getR rfl (by first | rfl | assumption) rfl (by first | rfl | assumption) (w_iload rfl rfl ?_)))))))
        refine w_aload rfl rfl (w_getIV rfl (by first | rfl | assumption) (by first | exact Or.inl rfl | exact Or.inr rfl) (a10) (w_aload rfl rfl (w_getR rfl (by first | rfl | assumption) rfl (by first | rfl | assumption) (w_iload rfl rfl (w_ialoadV rfl (by first | rfl | assumption) (by omega) (by omega) (hx) ?_)))))
        refine w_icmp_ge (tgt := 151) rfl (by first | assumption | exact i32_0 | (unfold i32 at *; omega)) (by first | assumption | exact i32_0 | (unfold i32 at *; omega)) rfl (fun c141 => ?_) (fun c141 => ?_)
        · exfalso; omega
        · skip
          refine w_aload rfl rfl (w_getIV rfl (by first | rfl | assumption) (by first | exact Or.inl rfl | exact Or.inr rfl) (a10) (w_goto (tgt := 157) rfl rfl (w_iastore rfl (by first | rfl | assumption) (by omega) (by omega) ?_)))
          exact w_iload rfl rfl (w_zreturn rfl (Or.inr rfl) hfin)
      · have hfin := hrow x (by rw [if_neg y])
        refine w_iload rfl rfl ?_
        refine w_if_eq (tgt := 158) rfl (by first | assumption | exact i32_0 | (unfold i32 at *; omega)) rfl (fun c => absurd c (by decide)) (fun _ => ?_)
        refine w_aload rfl rfl (w_getIV rfl (by first | rfl | assumption) (by first | exact Or.inl rfl | exact Or.inr rfl) (n8) ?_)
        refine w_if_eq (tgt := 158) rfl (by first | assumption | exact i32_0 | (unfold i32 at *; omega)) rfl (fun c => absurd c (by decide)) (fun _ => ?_)
        refine w_iconst rfl (w_aload rfl rfl (w_getIV rfl (by first | rfl | assumption) (by first | exact Or.inl rfl | exact Or.inr rfl) (a9) (w_imul rfl (w_iconst rfl (w_aload rfl rfl (w_getIV rfl (by first | rfl | assumption) (by first | exact Or.inl rfl | exact Or.inr rfl) (a12) (w_imul rfl ?_)))))))
        refine w_iadd rfl (w_aload rfl rfl (w_getIV rfl (by first | rfl | assumption) (by first | exact Or.inl rfl | exact Or.inr rfl) (a14) (w_iadd rfl (w_istore (ls2 := [_, _, _]) rfl rfl rfl (w_aload rfl rfl (w_getR rfl (by first | rfl | assumption) rfl (by first | rfl | assumption) (w_iload rfl rfl ?_)))))))
        refine w_aload rfl rfl (w_getIV rfl (by first | rfl | assumption) (by first | exact Or.inl rfl | exact Or.inr rfl) (a10) (w_aload rfl rfl (w_getR rfl (by first | rfl | assumption) rfl (by first | rfl | assumption) (w_iload rfl rfl (w_ialoadV rfl (by first | rfl | assumption) (by omega) (by omega) (hx) ?_)))))
        refine w_icmp_ge (tgt := 151) rfl (by first | assumption | exact i32_0 | (unfold i32 at *; omega)) (by first | assumption | exact i32_0 | (unfold i32 at *; omega)) rfl (fun c141 => ?_) (fun c141 => ?_)
        · skip
          refine w_aload rfl rfl (w_getR rfl (by first | rfl | assumption) rfl (by first | rfl | assumption) (w_iload rfl rfl (w_ialoadV rfl (by first | rfl | assumption) (by omega) (by omega) (hx) (w_iastore rfl (by first | rfl | assumption) (by omega) (by omega) ?_))))
          exact w_iload rfl rfl (w_zreturn rfl (Or.inr rfl) hfin)
        · exfalso; omega
  -- a fault
  have bad : ∀ (m : List Int) (N : mM), PosM b m N → PaF M N → m.length ≤ l.length → (∀ f g, rn b l r f g = Sum.inl ((b.length - m.length : Nat) : Int)) → Wp mc_158 D 55 [vR 155, vI 0, vN] [] N (TeQ b l r d F G M) := by
    intro m N hP hF hml hrun
    have hfin : TeQ b l r d F G M (some (vI 0)) N := ⟨m, r, hP, TmF_of hF, ⟨hF.2 7 (by omega), hF.2 9 (by omega)⟩, hml, Or.inl ⟨rfl, fun _ => hF.1 156 (by decide), hrun⟩⟩
    refine w_iload rfl rfl ?_
    refine w_if_eq (tgt := 95) rfl (by first | assumption | exact i32_0 | (unfold i32 at *; omega)) rfl (fun _ => ?_) (fun c => absurd c (by decide))
    refine w_iload rfl rfl ?_
    refine w_if_eq (tgt := 158) rfl (by first | assumption | exact i32_0 | (unfold i32 at *; omega)) rfl (fun _ => ?_) (fun c => absurd c (by decide))
    exact w_iload rfl rfl (w_zreturn rfl (Or.inl rfl) hfin)
  -- from part to part
  have loop : ∀ (c : Nat) (m : List Int) (s : Nat → Int) (N : mM), m.length ≤ c → PosM b m N → PaF M N → FldM 0 s N → RdI s → s 1 = 5 → same4 s r → endB m s = true → m.length < l.length → (∀ f g, rn b l r f g = rn b m s f g) → Wp mc_158 D 55 [vR 155, vI 1, vN] [] N (TeQ b l r d F G M) := by
    intro c
    induction c with
    | zero =>
      intro m s N hmc hP hF hS his hs1 hsa hen hlt hrun
      have hm0 : m = [] := List.length_eq_zero_iff.mp (by omega)
      have hno : ¬ hereB m 43 = true := by rw [hm0]; decide
      have hgo := take m s N hP hF hS his hs1 hsa hen hno hlt hrun
      have hmi := m_isHere hP (c := 43) (by decide)
      rw [if_neg hno] at hmi
      refine w_iload rfl rfl ?_
      refine w_if_eq (tgt := 95) rfl (by first | assumption | exact i32_0 | (unfold i32 at *; omega)) rfl (fun c => absurd c (by decide)) (fun _ => ?_)
      refine w_aload rfl rfl (w_iconst rfl ?_)
      refine w_call (Or.inr rfl) ((hmi)) (by omega) nof_157 rfl rfl rfl rfl (by first | rfl | (show cKB[_]? = _; assumption)) rfl ?_
      refine w_if_eq (tgt := 95) rfl (by first | assumption | exact i32_0 | (unfold i32 at *; omega)) rfl (fun _ => ?_) (fun c => absurd c (by decide))
      exact hgo
    | succ c ih =>
      intro m s N hmc hP hF hS his hs1 hsa hen hlt hrun
      have hmi := m_isHere hP (c := 43) (by decide)
      by_cases hpl : hereB m 43 = true
      · rw [if_pos hpl] at hmi
        have k43 := (here_kind (l := m) (c := 43) (by decide) (by decide) (by decide)).mp hpl
        have hm := here_ne hpl
        have hml := nxt_len hm
        have hs10 : s 10 < 3 := by have := of_decide_eq_true hen; omega
        have hrun2 : ∀ f g, rn b l r f g = rn b (nxt m) (sR s 1 2) f g := fun f g => by
          rw [hrun f g]
          have : accF (tKind m) (dgs m).length (num3 (dgs m)) s f g = some (sR s 1 2, f, g) := by
            rw [accF_5 hs1]
            unfold folF
            rw [if_pos k43, if_pos hs10]
          exact rn_some hP.2.1.2 hm this
        have hi2 : RdI (sR s 1 2) := by unfold RdI at his ⊢; simp [sR]; omega
        have hnx := m_next hP
        have cont : ∀ O : mM, PosM b (nxt m) O → (∀ a, a ≠ 155 → O a = N a) → (∀ k, k ≠ 5 → k ≠ 6 → O 155 k = N 155 k) → Wp mc_158 D 72 [vR 155, vI 1, vN] [] O (TeQ b l r d F G M) := by
          intro O w1 w2 w3
          have hPO : PaF M O := PaF_tr hF ⟨w2, fun k hk => w3 k (by omega) (by omega)⟩
          have hFO : FldM 0 (sR s 1 2) O := FldM_fr hS w3
          have hpt := m_readsPart w1 hFO hi2 rfl
          have after : ∀ (q : Option mV) (P : mM), PtQ b (nxt m) (sR s 1 2) O q P → (q = some (vI 0) ∧ Wp mc_158 D 55 [vR 155, vI 0, vN] [] P (TeQ b l r d F G M)) ∨ (q = some (vI 1) ∧ ∃ (m2 : List Int) (s2 : Nat → Int), PosM b m2 P ∧ FldM 0 s2 P ∧ RdI s2 ∧ ((endB m2 s2 = false ∧ Wp mc_158 D 55 [vR 155, vI 0, vN] [] P (TeQ b l r d F G M)) ∨ (endB m2 s2 = true ∧ Wp mc_158 D 55 [vR 155, vI 1, vN] [] P (TeQ b l r d F G M)))) := by
            rintro q P ⟨m2, s2, p1, p2, p3, (⟨rfl, p5⟩ | ⟨rfl, p5, p6, p7, p8, p9, p10⟩)⟩
            · exact Or.inl ⟨rfl, bad m2 P p1 (PaF_tr hPO p2) (by omega) (fun f g => by rw [hrun2 f g, p5 f g])⟩
            · refine Or.inr ⟨rfl, m2, s2, p1, p5, p6, ?_⟩
              have hrun3 : ∀ f g, rn b l r f g = rn b m2 s2 f g := fun f g => by rw [hrun2 f g, p10 f g]
              cases e : endB m2 s2 with
              | false => exact Or.inl ⟨rfl, bad m2 P p1 (PaF_tr hPO p2) (by omega) (fun f g => by rw [hrun3 f g]; exact rn_none p1.2.1.2 (by rw [accF_5 p7]; exact folF_no e))⟩
              | true => exact Or.inr ⟨rfl, ih m2 s2 P (by omega) p1 (PaF_tr hPO p2) p5 p6 p7 ⟨p8.1.trans hsa.1, p8.2.1.trans hsa.2.1, p8.2.2.1.trans hsa.2.2.1, p8.2.2.2.trans hsa.2.2.2⟩ e (by omega) hrun3⟩
          have fin0 : ∀ P : mM, Wp mc_158 D 55 [vR 155, vI 0, vN] [] P (TeQ b l r d F G M) → Wp mc_158 D 90 [vR 155, vI 1, vN] [] P (TeQ b l r d F G M) := by
            intro P hgo
            refine w_iconst rfl (w_istore (ls2 := [_, _, _]) rfl rfl rfl (w_goto (tgt := 55) rfl rfl ?_))
            exact hgo
          have fin1 : ∀ P : mM, Wp mc_158 D 55 [vR 155, vI 1, vN] [] P (TeQ b l r d F G M) → Wp mc_158 D 86 [vR 155, vI 1, vN] [] P (TeQ b l r d F G M) := by
            intro P hgo
            refine w_iconst rfl (w_goto (tgt := 91) rfl rfl (w_istore (ls2 := [_, _, _]) rfl rfl rfl (w_goto (tgt := 55) rfl rfl ?_)))
            exact hgo
          have behind : ∀ (q : Option mV) (P : mM), PtQ b (nxt m) (sR s 1 2) O q P → ∃ v : Int, q = some (vI v) ∧ Wp mc_158 D 76 [vR 155, vI 1, vN] [vI v] P (TeQ b l r d F G M) := by
            intro q P hq
            rcases after q P hq with ⟨rfl, hgo⟩ | ⟨rfl, m2, s2, p1, p2, p3, hgo⟩
            · have hgo := fin0 P hgo
              refine ⟨0, rfl, ?_⟩
              refine w_if_eq (tgt := 90) rfl (by first | assumption | exact i32_0 | (unfold i32 at *; omega)) rfl (fun _ => ?_) (fun c => absurd c (by decide))
              exact hgo
            · have hen2 := m_ends p1 p2 p3
              refine ⟨1, rfl, ?_⟩
              rcases hgo with ⟨e, hgo⟩ | ⟨e, hgo⟩
              · rw [e, if_neg (by decide)] at hen2
                have hgo := fin0 P hgo
                refine w_if_eq (tgt := 90) rfl (by first | assumption | exact i32_0 | (unfold i32 at *; omega)) rfl (fun c => absurd c (by decide)) (fun _ => ?_)
                refine w_aload rfl rfl ?_
                refine w_call (Or.inr rfl) ((hen2)) (by omega) nof_162 rfl rfl rfl rfl (by first | rfl | (show cKB[_]? = _; assumption)) rfl ?_
                refine w_if_eq (tgt := 90) rfl (by first | assumption | exact i32_0 | (unfold i32 at *; omega)) rfl (fun _ => ?_) (fun c => absurd c (by decide))
                exact hgo
              · rw [e, if_pos rfl] at hen2
                have hgo := fin1 P hgo
                refine w_if_eq (tgt := 90) rfl (by first | assumption | exact i32_0 | (unfold i32 at *; omega)) rfl (fun c => absurd c (by decide)) (fun _ => ?_)
                refine w_aload rfl rfl ?_
                refine w_call (Or.inr rfl) ((hen2)) (by omega) nof_162 rfl rfl rfl rfl (by first | rfl | (show cKB[_]? = _; assumption)) rfl ?_
                refine w_if_eq (tgt := 90) rfl (by first | assumption | exact i32_0 | (unfold i32 at *; omega)) rfl (fun c => absurd c (by decide)) (fun _ => ?_)
                exact hgo
          refine w_aload rfl rfl ?_
          refine w_callQ (Or.inr rfl) (hpt) (by omega) nof_159 rfl rfl rfl rfl (by first | rfl | (show cKB[_]? = _; assumption)) (fun r73 M73 hq73 => ?_)
          obtain ⟨v, rfl, hgo⟩ := behind _ _ hq73
          exact hgo
        refine w_iload rfl rfl ?_
        refine w_if_eq (tgt := 95) rfl (by first | assumption | exact i32_0 | (unfold i32 at *; omega)) rfl (fun c => absurd c (by decide)) (fun _ => ?_)
        refine w_aload rfl rfl (w_iconst rfl ?_)
        refine w_call (Or.inr rfl) ((hmi)) (by omega) nof_157 rfl rfl rfl rfl (by first | rfl | (show cKB[_]? = _; assumption)) rfl ?_
        refine w_if_eq (tgt := 95) rfl (by first | assumption | exact i32_0 | (unfold i32 at *; omega)) rfl (fun c => absurd c (by decide)) (fun _ => ?_)
        refine w_aload rfl rfl ?_
        refine w_callQ (Or.inr rfl) (hnx) (by omega) nof_154 rfl rfl rfl rfl (by first | rfl | (show cKB[_]? = _; assumption)) (fun r69 M69 hq69 => ?_)
        obtain ⟨rfl, w1, w2, w3⟩ := hq69
        exact cont _ w1 w2 w3
      · rw [if_neg hpl] at hmi
        have hgo := take m s N hP hF hS his hs1 hsa hen hpl hlt hrun
        refine w_iload rfl rfl ?_
        refine w_if_eq (tgt := 95) rfl (by first | assumption | exact i32_0 | (unfold i32 at *; omega)) rfl (fun c => absurd c (by decide)) (fun _ => ?_)
        refine w_aload rfl rfl (w_iconst rfl ?_)
        refine w_call (Or.inr rfl) ((hmi)) (by omega) nof_157 rfl rfl rfl rfl (by first | rfl | (show cKB[_]? = _; assumption)) rfl ?_
        refine w_if_eq (tgt := 95) rfl (by first | assumption | exact i32_0 | (unfold i32 at *; omega)) rfl (fun _ => ?_) (fun c => absurd c (by decide))
        exact hgo
  -- the first part
  have hP0 : PosM b l (upI (upI (upI (upI (upI (upI (upI M 155 11 0) 155 13 0) 155 15 0) 155 10 0) 155 12 0) 155 14 0) 155 16 0) := PosM_fr h (by simp [upI]) (by simp [upI]) (by simp [upI]) (fun k => by simp [upI])
  have hF0 : FldM 0 r (upI (upI (upI (upI (upI (upI (upI M 155 11 0) 155 13 0) 155 15 0) 155 10 0) 155 12 0) 155 14 0) 155 16 0) := by
    unfold FldM; simp [upI, z7, z8, z9, z10, z11, z12, z13, f7, f9]
  have hPa0 : PaF M (upI (upI (upI (upI (upI (upI (upI M 155 11 0) 155 13 0) 155 15 0) 155 10 0) 155 12 0) 155 14 0) 155 16 0) := ⟨fun a ha => by simp only [upI_ne _ _ _ _ ha], fun k hk => by
    have e11 : k ≠ 11 := by omega
    have e13 : k ≠ 13 := by omega
    have e15 : k ≠ 15 := by omega
    have e10 : k ≠ 10 := by omega
    have e12 : k ≠ 12 := by omega
    have e14 : k ≠ 14 := by omega
    have e16 : k ≠ 16 := by omega
    simp [upI, e11, e13, e15, e10, e12, e14, e16]⟩
  generalize hM0 : upI (upI (upI (upI (upI (upI (upI M 155 11 0) 155 13 0) 155 15 0) 155 10 0) 155 12 0) 155 14 0) 155 16 0 = M0 at *
  have hpt := m_readsPart hP0 hF0 hi h1
  have fin0 : ∀ P : mM, Wp mc_158 D 55 [vR 155, vI 0, vN] [] P (TeQ b l r d F G M) → Wp mc_158 D 53 [vR 155, vN, vN] [] P (TeQ b l r d F G M) := by
    intro P hgo
    refine w_iconst rfl (w_istore (ls2 := [_, _, _]) rfl rfl rfl ?_)
    exact hgo
  have fin1 : ∀ P : mM, Wp mc_158 D 55 [vR 155, vI 1, vN] [] P (TeQ b l r d F G M) → Wp mc_158 D 49 [vR 155, vN, vN] [] P (TeQ b l r d F G M) := by
    intro P hgo
    refine w_iconst rfl (w_goto (tgt := 54) rfl rfl (w_istore (ls2 := [_, _, _]) rfl rfl rfl ?_))
    exact hgo
  have behind : ∀ (q : Option mV) (P : mM), PtQ b l r M0 q P → ∃ v : Int, q = some (vI v) ∧ Wp mc_158 D 39 [vR 155, vN, vN] [vI v] P (TeQ b l r d F G M) := by
    rintro q P ⟨m2, s2, p1, p2, p3, (⟨rfl, p5⟩ | ⟨rfl, p5, p6, p7, p8, p9, p10⟩)⟩
    · have hgo := fin0 P (bad m2 P p1 (PaF_tr hPa0 p2) p3 p5)
      refine ⟨0, rfl, ?_⟩
      refine w_if_eq (tgt := 53) rfl (by first | assumption | exact i32_0 | (unfold i32 at *; omega)) rfl (fun _ => ?_) (fun c => absurd c (by decide))
      exact hgo
    · have hen2 := m_ends p1 p5 p6
      refine ⟨1, rfl, ?_⟩
      cases e : endB m2 s2 with
      | false =>
        rw [e, if_neg (by decide)] at hen2
        have hgo := fin0 P (bad m2 P p1 (PaF_tr hPa0 p2) p3 (fun f g => by rw [p10 f g]; exact rn_none p1.2.1.2 (by rw [accF_5 p7]; exact folF_no e)))
        refine w_if_eq (tgt := 53) rfl (by first | assumption | exact i32_0 | (unfold i32 at *; omega)) rfl (fun c => absurd c (by decide)) (fun _ => ?_)
        refine w_aload rfl rfl ?_
        refine w_call (Or.inr rfl) ((hen2)) (by omega) nof_162 rfl rfl rfl rfl (by first | rfl | (show cKB[_]? = _; assumption)) rfl ?_
        refine w_if_eq (tgt := 53) rfl (by first | assumption | exact i32_0 | (unfold i32 at *; omega)) rfl (fun _ => ?_) (fun c => absurd c (by decide))
        exact hgo
      | true =>
        rw [e, if_pos rfl] at hen2
        have hgo := fin1 P (loop m2.length m2 s2 P (Nat.le_refl _) p1 (PaF_tr hPa0 p2) p5 p6 p7 p8 e p9 p10)
        refine w_if_eq (tgt := 53) rfl (by first | assumption | exact i32_0 | (unfold i32 at *; omega)) rfl (fun c => absurd c (by decide)) (fun _ => ?_)
        refine w_aload rfl rfl ?_
        refine w_call (Or.inr rfl) ((hen2)) (by omega) nof_162 rfl rfl rfl rfl (by first | rfl | (show cKB[_]? = _; assumption)) rfl ?_
        refine w_if_eq (tgt := 53) rfl (by first | assumption | exact i32_0 | (unfold i32 at *; omega)) rfl (fun c => absurd c (by decide)) (fun _ => ?_)
        exact hgo
  refine w_aload rfl rfl (w_iconst rfl (w_putZ rfl (by first | rfl | assumption) rfl (by first | exact Or.inl rfl | exact Or.inr rfl | omega | assumption) (w_aload rfl rfl (w_iconst rfl (w_putZ rfl (by first | rfl | assumption) rfl (by first | exact Or.inl rfl | exact Or.inr rfl | omega | assumption) (w_aload rfl rfl (w_iconst rfl ?_)))))))
  refine w_putZ rfl (by first | rfl | assumption) rfl (by first | exact Or.inl rfl | exact Or.inr rfl | omega | assumption) (w_aload rfl rfl (w_iconst rfl (w_putI rfl (by first | rfl | assumption) rfl (w_aload rfl rfl (w_iconst rfl (w_putI rfl (by first | rfl | assumption) rfl (w_aload rfl rfl ?_)))))))
  refine w_iconst rfl (w_putI rfl (by first | rfl | assumption) rfl (w_aload rfl rfl (w_iconst rfl (w_putI rfl (by first | rfl | assumption) rfl ?_))))
  rw [hM0]
  refine w_aload rfl rfl ?_
  refine w_callQ (Or.inr rfl) (hpt) (by omega) nof_159 rfl rfl rfl rfl (by first | rfl | (show cKB[_]? = _; assumption)) (fun r36 M36 hq36 => ?_)
  obtain ⟨v, rfl, hgo⟩ := behind _ _ hq36
  exact hgo
