/-! ===== the model's times ===== -/
def canI (o : Option Cv) : Int := if o.isSome = true then 1 else 0
/-- the product so far -/
def thenO (o : Option Cv) (M : mM) : Prop := ∀ h, o = some h → thenR h M
theorem mv_low {h : Cv} {p k : Nat} {v : Int} (hv : v < 5000) (hh : Cok 1998 h) : mv (lowF h p v) k = if k = p ∧ v < mv h p then v else mv h k := by
  unfold mv
  rw [lowF_at]
  by_cases q : k = p
  · rw [if_pos q, q]
    cases e : h p with
    | none => rw [if_pos ⟨rfl, hv⟩]; rfl
    | some c =>
      show min c v = if p = p ∧ v < c then v else c
      by_cases z : v < c
      · rw [if_pos ⟨rfl, z⟩]; omega
      · rw [if_neg (fun y => z y.2)]; omega
  · rw [if_neg q, if_neg (fun z => q z.1)]
theorem pl_add {p q : Nat} : (0 ≤ pi p + pi q ∧ 0 ≤ pj p + pj q ∧ pi p + pi q ≤ 4 ∧ pj p + pj q ≤ 4 - (pi p + pi q)) ↔ pi p + pi q + (pj p + pj q) ≤ 4 := by
  unfold pi pj; omega
theorem mo_times {s : Sta} {M : mM} {a : Int} (c : MI s M) (ha : i32 a) : EQ 12 182 [vR 155, vI a] M (MoQ M (dTimes a s).1 (dTimes a s).2) := by
  refine q_in (ls := [vR 155, vI a, vN, vN, vN, vN]) mq_182 (ml_182 rfl) rfl fun D hD => ?_
  unfold dTimes
  by_cases q : isCu a = true
  · rw [if_pos q]
    have q := isCu_iff.mp q
    obtain ⟨a, rfl⟩ : ∃ z : Nat, a = (z : Int) := ⟨a.toNat, by omega⟩
    have ha2 : a < 2 := by omega
    have hf := c.2.1.2.1
    have hg := c.2.1.2.2
    have hr0 := c.2.1.1
    generalize hF : s.2.1 = f at *
    generalize hGg : s.2.2.1 = g at *
    have tf := m_terms (a := 0) (by decide) hr0.1 hf
    have tg := m_terms (a := 1) (by decide) hr0.2 hg
    have lf := cntF_le f
    have lg := cntF_le g
    -- the end
    have finish : ∀ (o : Option Cv) (N : mM) (w1 w2 w3 : mV), (∀ h, o = some h → Cok 999 h) → thenO o N → (∀ b, b ≠ 175 → N b = M b) → Wp mc_182 D 224 [vR 155, vI a, vI (canI o), w1, w2, w3] [] N (MoQ M (match o with | none => (-1000003, s) | some h => (((cntF h : Nat) : Int), setS a h (remS s))).1 (match o with | none => (-1000003, s) | some h => (((cntF h : Nat) : Int), setS a h (remS s))).2) := by
      intro o N w1 w2 w3 ho ht hN
      obtain ⟨cN, fN⟩ := MI_175 c hN
      cases o with
      | none =>
        have e : canI (none : Option Cv) = 0 := rfl
        rw [e]
        refine w_iload rfl rfl ?_
        refine w_if_eq (tgt := 236) rfl (by first | assumption | exact i32_0 | (unfold i32 at *; omega)) rfl (fun _ => ?_) (fun c => absurd c (by decide))
        refine w_iconst rfl ?_
        exact w_ireturn rfl ⟨by first | rfl | (congr 2; omega), by exact ⟨cN, fN⟩⟩
      | some h =>
        have e : canI (some h) = 1 := rfl
        rw [e]
        have hbe := m_becomes ha2 cN (ht h rfl) (ho h rfl)
        refine w_iload rfl rfl ?_
        refine w_if_eq (tgt := 236) rfl (by first | assumption | exact i32_0 | (unfold i32 at *; omega)) rfl (fun c => absurd c (by decide)) (fun _ => ?_)
        refine w_aload rfl rfl (w_iload rfl rfl ?_)
        refine w_callQ (Or.inr rfl) (hbe) (by omega) nof_180 rfl rfl rfl rfl (by first | rfl | (show cKB[_]? = _; assumption)) (fun r230 M230 hq230 => ?_)
        obtain ⟨rfl, w1, w2⟩ := hq230
        refine w_goto (tgt := 238) rfl rfl ?_
        exact w_ireturn rfl ⟨by first | rfl | (congr 2; omega), by exact ⟨w1, mFr_tr fN w2⟩⟩
    -- the check of the range
    have check : ∀ (o : Option Cv) (w2 w3 : mV), (∀ h, o = some h → Cok 1998 h) → ∀ (z n : Nat) (N : mM), 25 - n = z → n ≤ 25 → thenO o N → (∀ b, b ≠ 175 → N b = M b) → Wp mc_182 D 178 [vR 155, vI a, vI (match o with | none => 0 | some h => if rangeF h n = true then 1 else 0), vI n, w2, w3] [] N (MoQ M (match (match o with | none => none | some h => if rangeF h 21 = true then some h else none : Option Cv) with | none => (-1000003, s) | some h => (((cntF h : Nat) : Int), setS a h (remS s))).1 (match (match o with | none => none | some h => if rangeF h 21 = true then some h else none : Option Cv) with | none => (-1000003, s) | some h => (((cntF h : Nat) : Int), setS a h (remS s))).2) := by
      intro o w2 w3 ho z
      induction z with
      | zero =>
        intro n N hz hn ht hN
        obtain rfl : n = 25 := by omega
        cases o with
        | none =>
          have hgo := finish none N (vI (25 : Nat)) w2 w3 (fun h z => by cases z) (fun h z => by cases z) hN
          show Wp mc_182 D 178 [vR 155, vI a, vI 0, vI (25 : Nat), w2, w3] [] N _
          refine w_iload rfl rfl (w_iconst rfl ?_)
          refine w_icmp_ge (tgt := 224) rfl (by first | assumption | exact i32_0 | (unfold i32 at *; omega)) (by first | assumption | exact i32_0 | (unfold i32 at *; omega)) rfl (fun c181 => ?_) (fun c181 => ?_)
          · skip
            exact hgo
          · skip
            exfalso; omega
        | some h =>
          have hB := ho h rfl
          by_cases hr : rangeF h 25 = true
          · have hr21 : rangeF h 21 = true := (rangeF_iff 21).mpr fun k cc hk hkc => (rangeF_iff 25).mp hr k cc (by omega) hkc
            have hgo := finish (some h) N (vI (25 : Nat)) w2 w3 (fun h2 z => by cases z; exact Cok_range hB hr21) (fun h2 z => by cases z; exact ht h rfl) hN
            show Wp mc_182 D 178 [vR 155, vI a, vI (if rangeF h 25 = true then 1 else 0), vI (25 : Nat), w2, w3] [] N (MoQ M (match (if rangeF h 21 = true then some h else none : Option Cv) with | none => (-1000003, s) | some h => (((cntF h : Nat) : Int), setS a h (remS s))).1 (match (if rangeF h 21 = true then some h else none : Option Cv) with | none => (-1000003, s) | some h => (((cntF h : Nat) : Int), setS a h (remS s))).2)
            rw [if_pos hr, if_pos hr21]
            refine w_iload rfl rfl (w_iconst rfl ?_)
            refine w_icmp_ge (tgt := 224) rfl (by first | assumption | exact i32_0 | (unfold i32 at *; omega)) (by first | assumption | exact i32_0 | (unfold i32 at *; omega)) rfl (fun c181 => ?_) (fun c181 => ?_)
            · skip
              exact hgo
            · skip
              exfalso; omega
          · have hr21 : ¬ rangeF h 21 = true := fun z => hr ((rangeF_iff 25).mpr fun k cc hk hkc => (rangeF_iff 21).mp z k cc (hB k cc hkc).1 hkc)
            have hgo := finish none N (vI (25 : Nat)) w2 w3 (fun h z => by cases z) (fun h z => by cases z) hN
            show Wp mc_182 D 178 [vR 155, vI a, vI (if rangeF h 25 = true then 1 else 0), vI (25 : Nat), w2, w3] [] N (MoQ M (match (if rangeF h 21 = true then some h else none : Option Cv) with | none => (-1000003, s) | some h => (((cntF h : Nat) : Int), setS a h (remS s))).1 (match (if rangeF h 21 = true then some h else none : Option Cv) with | none => (-1000003, s) | some h => (((cntF h : Nat) : Int), setS a h (remS s))).2)
            rw [if_neg hr, if_neg hr21]
            refine w_iload rfl rfl (w_iconst rfl ?_)
            refine w_icmp_ge (tgt := 224) rfl (by first | assumption | exact i32_0 | (unfold i32 at *; omega)) (by first | assumption | exact i32_0 | (unfold i32 at *; omega)) rfl (fun c181 => ?_) (fun c181 => ?_)
            · skip
              exact hgo
            · skip
              exfalso; omega
      | succ z ih =>
        intro n N hz hn ht hN
        have ihn := ih (n + 1) N (by omega) (by omega) ht hN
        cases o with
        | none =>
          have ihn : Wp mc_182 D 178 [vR 155, vI a, vI 0, vI ((n + 1 : Nat) : Int), w2, w3] [] N _ := ihn
          show Wp mc_182 D 178 [vR 155, vI a, vI 0, vI n, w2, w3] [] N _
          refine w_iload rfl rfl (w_iconst rfl ?_)
          refine w_icmp_ge (tgt := 224) rfl (by first | assumption | exact i32_0 | (unfold i32 at *; omega)) (by first | assumption | exact i32_0 | (unfold i32 at *; omega)) rfl (fun c181 => ?_) (fun c181 => ?_)
          · skip
            exfalso; omega
          · skip
            refine w_iload rfl rfl ?_
            refine w_if_eq (tgt := 216) rfl (by first | assumption | exact i32_0 | (unfold i32 at *; omega)) rfl (fun _ => ?_) (fun c => absurd c (by decide))
            refine w_iconst rfl (w_istore (ls2 := [_, _, _, _, _, _]) rfl rfl rfl (w_iinc (ls2 := [_, _, _, _, _, _]) rfl rfl rfl (w_goto (tgt := 178) rfl rfl ?_)))
            exact ihn
        | some h =>
          have ihn : Wp mc_182 D 178 [vR 155, vI a, vI (if rangeF h (n + 1) = true then 1 else 0), vI ((n + 1 : Nat) : Int), w2, w3] [] N _ := ihn
          show Wp mc_182 D 178 [vR 155, vI a, vI (if rangeF h n = true then 1 else 0), vI n, w2, w3] [] N _
          have hx : N 175 n = mv h n := ht h rfl n (by omega)
          by_cases hr : rangeF h n = true
          · rw [if_pos hr]
            cases e : h n with
            | none =>
              have hv : mv h n = 5000 := by unfold mv; rw [e]; rfl
              have hrn : rangeF h (n + 1) = true := by rw [rangeF, e, hr]; rfl
              rw [if_pos hrn] at ihn
              rw [hv] at hx
              refine w_iload rfl rfl (w_iconst rfl ?_)
              refine w_icmp_ge (tgt := 224) rfl (by first | assumption | exact i32_0 | (unfold i32 at *; omega)) (by first | assumption | exact i32_0 | (unfold i32 at *; omega)) rfl (fun c181 => ?_) (fun c181 => ?_)
              · skip
                exfalso; omega
              · skip
                refine w_iload rfl rfl ?_
                refine w_if_eq (tgt := 216) rfl (by first | assumption | exact i32_0 | (unfold i32 at *; omega)) rfl (fun c => absurd c (by decide)) (fun _ => ?_)
                refine w_aload rfl rfl (w_getR rfl (by first | rfl | assumption) rfl (by first | rfl | assumption) (w_iload rfl rfl (w_ialoadV rfl (by first | rfl | assumption) (by omega) (by omega) (hx) (w_iconst rfl ?_))))
                refine w_icmp_eq (tgt := 212) rfl (by first | assumption | exact i32_0 | (unfold i32 at *; omega)) (by first | assumption | exact i32_0 | (unfold i32 at *; omega)) rfl (fun c197 => ?_) (fun c197 => ?_)
                · skip
                  refine w_iconst rfl (w_goto (tgt := 217) rfl rfl (w_istore (ls2 := [_, _, _, _, _, _]) rfl rfl rfl (w_iinc (ls2 := [_, _, _, _, _, _]) rfl rfl rfl (w_goto (tgt := 178) rfl rfl ?_))))
                  exact ihn
                · skip
                  exfalso; omega
            | some v =>
              have hv : mv h n = v := by unfold mv; rw [e]; rfl
              have hvB := (ho h rfl n v e).2.2
              have hrn : rangeF h (n + 1) = (decide (-999 ≤ v) && decide (v ≤ 999)) := by rw [rangeF, e, hr]; rfl
              rw [hv] at hx
              by_cases hvr : -999 ≤ v ∧ v ≤ 999
              · rw [if_pos (by rw [hrn, decide_eq_true hvr.1, decide_eq_true hvr.2]; rfl)] at ihn
                refine w_iload rfl rfl (w_iconst rfl ?_)
                refine w_icmp_ge (tgt := 224) rfl (by first | assumption | exact i32_0 | (unfold i32 at *; omega)) (by first | assumption | exact i32_0 | (unfold i32 at *; omega)) rfl (fun c181 => ?_) (fun c181 => ?_)
                · skip
                  exfalso; omega
                · skip
                  refine w_iload rfl rfl ?_
                  refine w_if_eq (tgt := 216) rfl (by first | assumption | exact i32_0 | (unfold i32 at *; omega)) rfl (fun c => absurd c (by decide)) (fun _ => ?_)
                  refine w_aload rfl rfl (w_getR rfl (by first | rfl | assumption) rfl (by first | rfl | assumption) (w_iload rfl rfl (w_ialoadV rfl (by first | rfl | assumption) (by omega) (by omega) (hx) (w_iconst rfl ?_))))
                  refine w_icmp_eq (tgt := 212) rfl (by first | assumption | exact i32_0 | (unfold i32 at *; omega)) (by first | assumption | exact i32_0 | (unfold i32 at *; omega)) rfl (fun c197 => ?_) (fun c197 => ?_)
                  · exfalso; omega
                  · skip
                    refine w_aload rfl rfl (w_getR rfl (by first | rfl | assumption) rfl (by first | rfl | assumption) (w_iload rfl rfl (w_ialoadV rfl (by first | rfl | assumption) (by omega) (by omega) (hx) ?_)))
                    refine w_call (Or.inl rfl) (m_isTerm1 N hvr) (by omega) nof_174 rfl rfl rfl rfl trivial rfl ?_
                    refine w_if_eq (tgt := 216) rfl (by first | assumption | exact i32_0 | (unfold i32 at *; omega)) rfl (fun c => absurd c (by decide)) (fun _ => ?_)
                    refine w_iconst rfl (w_goto (tgt := 217) rfl rfl (w_istore (ls2 := [_, _, _, _, _, _]) rfl rfl rfl (w_iinc (ls2 := [_, _, _, _, _, _]) rfl rfl rfl (w_goto (tgt := 178) rfl rfl ?_))))
                    exact ihn
              · rw [if_neg (by rw [hrn, Bool.and_eq_true, decide_eq_true_eq, decide_eq_true_eq]; exact hvr)] at ihn
                refine w_iload rfl rfl (w_iconst rfl ?_)
                refine w_icmp_ge (tgt := 224) rfl (by first | assumption | exact i32_0 | (unfold i32 at *; omega)) (by first | assumption | exact i32_0 | (unfold i32 at *; omega)) rfl (fun c181 => ?_) (fun c181 => ?_)
                · skip
                  exfalso; omega
                · skip
                  refine w_iload rfl rfl ?_
                  refine w_if_eq (tgt := 216) rfl (by first | assumption | exact i32_0 | (unfold i32 at *; omega)) rfl (fun c => absurd c (by decide)) (fun _ => ?_)
                  refine w_aload rfl rfl (w_getR rfl (by first | rfl | assumption) rfl (by first | rfl | assumption) (w_iload rfl rfl (w_ialoadV rfl (by first | rfl | assumption) (by omega) (by omega) (hx) (w_iconst rfl ?_))))
                  refine w_icmp_eq (tgt := 212) rfl (by first | assumption | exact i32_0 | (unfold i32 at *; omega)) (by first | assumption | exact i32_0 | (unfold i32 at *; omega)) rfl (fun c197 => ?_) (fun c197 => ?_)
                  · exfalso; omega
                  · skip
                    refine w_aload rfl rfl (w_getR rfl (by first | rfl | assumption) rfl (by first | rfl | assumption) (w_iload rfl rfl (w_ialoadV rfl (by first | rfl | assumption) (by omega) (by omega) (hx) ?_)))
                    refine w_call (Or.inl rfl) (m_isTerm0 N (by unfold i32; omega) hvr) (by omega) nof_174 rfl rfl rfl rfl trivial rfl ?_
                    refine w_if_eq (tgt := 216) rfl (by first | assumption | exact i32_0 | (unfold i32 at *; omega)) rfl (fun _ => ?_) (fun c => absurd c (by decide))
                    refine w_iconst rfl (w_istore (ls2 := [_, _, _, _, _, _]) rfl rfl rfl (w_iinc (ls2 := [_, _, _, _, _, _]) rfl rfl rfl (w_goto (tgt := 178) rfl rfl ?_)))
                    exact ihn
          · have hrn : ¬ rangeF h (n + 1) = true := fun z => hr (by rw [rangeF, Bool.and_eq_true] at z; exact z.1)
            rw [if_neg hrn] at ihn
            rw [if_neg hr]
            refine w_iload rfl rfl (w_iconst rfl ?_)
            refine w_icmp_ge (tgt := 224) rfl (by first | assumption | exact i32_0 | (unfold i32 at *; omega)) (by first | assumption | exact i32_0 | (unfold i32 at *; omega)) rfl (fun c181 => ?_) (fun c181 => ?_)
            · skip
              exfalso; omega
            · skip
              refine w_iload rfl rfl ?_
              refine w_if_eq (tgt := 216) rfl (by first | assumption | exact i32_0 | (unfold i32 at *; omega)) rfl (fun _ => ?_) (fun c => absurd c (by decide))
              refine w_iconst rfl (w_istore (ls2 := [_, _, _, _, _, _]) rfl rfl rfl (w_iinc (ls2 := [_, _, _, _, _, _]) rfl rfl rfl (w_goto (tgt := 178) rfl rfl ?_)))
              exact ihn
    -- one place of the first curve with those of the second
    have hTarget : ∀ Q : mP, True := fun _ => trivial
    generalize hQ : (MoQ M (match timesF f g with | none => (-1000003, s) | some h => (((cntF h : Nat) : Int), setS a h (remS s))).1 (match timesF f g with | none => (-1000003, s) | some h => (((cntF h : Nat) : Int), setS a h (remS s))).2) = Q
    have inner : ∀ (p : Nat) (h0 : Cv) (v : Int), p < 25 → f p = some v → Cok 1998 h0 → (∀ (N : mM) (w w5 : mV), thenO (prB g p v h0 25) N → (∀ b, b ≠ 175 → N b = M b) → Wp mc_182 D 170 [vR 155, vI a, vI (canI (prB g p v h0 25)), vI p, w, w5] [] N Q) → ∀ (z n : Nat) (N : mM) (w5 : mV), 25 - n = z → n ≤ 25 → thenO (prB g p v h0 n) N → (∀ b, b ≠ 175 → N b = M b) → Wp mc_182 D 66 [vR 155, vI a, vI (canI (prB g p v h0 n)), vI p, vI n, w5] [] N Q := by
      intro p h0 v hp hfp hh0 hout z
      have hpb := hf p v hfp
      have hfh : hasF f p = true := by unfold hasF; rw [hfp]; rfl
      induction z with
      | zero =>
        intro n N w5 hz hn ht hN
        obtain rfl : n = 25 := by omega
        have hgo := hout N (vI (25 : Nat)) w5 ht hN
        refine w_iload rfl rfl (w_iconst rfl ?_)
        refine w_icmp_ge (tgt := 170) rfl (by first | assumption | exact i32_0 | (unfold i32 at *; omega)) (by first | assumption | exact i32_0 | (unfold i32 at *; omega)) rfl (fun c70 => ?_) (fun c70 => ?_)
        · skip
          exact hgo
        · skip
          exfalso; omega
      | succ z ih =>
        intro n N w5 hz hn ht hN
        have ihn := fun N w5 => ih (n + 1) N w5 (by omega) (by omega)
        cases e : prB g p v h0 n with
        | none =>
          have e25 : prB g p v h0 25 = none := by have := prB_none e (25 - n); rwa [show n + (25 - n) = 25 by omega] at this
          rw [e25] at hout
          have hgo := hout N (vI n) w5 (fun h z => by cases z) hN
          have c0 : canI (none : Option Cv) = 0 := rfl
          rw [c0] at hgo ⊢
          refine w_iload rfl rfl (w_iconst rfl ?_)
          refine w_icmp_ge (tgt := 170) rfl (by first | assumption | exact i32_0 | (unfold i32 at *; omega)) (by first | assumption | exact i32_0 | (unfold i32 at *; omega)) rfl (fun c70 => ?_) (fun c70 => ?_)
          · skip
            first | exact hgo | (exfalso; omega)
          · skip
            refine w_iload rfl rfl ?_
            refine w_if_eq (tgt := 170) rfl (by first | assumption | exact i32_0 | (unfold i32 at *; omega)) rfl (fun _ => ?_) (fun c => absurd c (by decide))
            first | exact hgo | (exfalso; omega)
        | some h =>
          have c1 : canI (some h) = 1 := rfl
          rw [c1]
          rw [e] at ht
          have hB : Cok 1998 h := by
            rcases Nat.lt_or_ge n 21 with y | y
            · exact Cok_prB (f := f) hg (a := p) (ca := v) (by omega) hpb.2.2 hh0 n h (by omega) e
            · have e21 : prB g p v h0 21 = some h := by
                have hs : ∀ m, 21 ≤ m → prB g p v h0 (m + 1) = prB g p v h0 m := fun m hm => by
                  rw [prB]
                  cases z : prB g p v h0 m with
                  | none => rfl
                  | some h' => dsimp only; rw [f_hi hg hm]
                have h4 : n = 21 ∨ n = 22 ∨ n = 23 ∨ n = 24 := by omega
                rcases h4 with rfl | rfl | rfl | rfl
                · exact e
                · rw [← hs 21 (by decide)]; exact e
                · rw [← hs 21 (by decide), ← hs 22 (by decide)]; exact e
                · rw [← hs 21 (by decide), ← hs 22 (by decide), ← hs 23 (by decide)]; exact e
              exact Cok_prB (f := f) hg (a := p) (ca := v) (by omega) hpb.2.2 hh0 21 h (Nat.le_refl _) e21
          have hcf : mcur (25 * 0) f N := mcur_fr hr0.1 (fun k _ _ => by rw [hN 156 (by decide)])
          have hcg : mcur (25 * 1) g N := mcur_fr hr0.2 (fun k _ _ => by rw [hN 156 (by decide)])
          cases eg : hasF g n with
          | false =>
            have hn0 : g n = none := by
              cases z : g n with
              | none => rfl
              | some v => unfold hasF at eg; rw [z] at eg; cases eg
            have hun : prB g p v h0 (n + 1) = some h := by rw [prB, e]; dsimp only; rw [hn0]
            rw [hun, c1] at ihn
            have hgo := ihn N w5 ht hN
            refine w_iload rfl rfl (w_iconst rfl ?_)
            refine w_icmp_ge (tgt := 170) rfl (by first | assumption | exact i32_0 | (unfold i32 at *; omega)) (by first | assumption | exact i32_0 | (unfold i32 at *; omega)) rfl (fun c70 => ?_) (fun c70 => ?_)
            · skip
              exfalso; omega
            · skip
              refine w_iload rfl rfl ?_
              refine w_if_eq (tgt := 170) rfl (by first | assumption | exact i32_0 | (unfold i32 at *; omega)) rfl (fun c => absurd c (by decide)) (fun _ => ?_)
              refine w_aload rfl rfl (w_iconst rfl (w_iload rfl rfl ?_))
              refine w_call (Or.inr rfl) (m_has1 (by decide) hcf hf (by omega) hfh) (by omega) nof_167 rfl rfl rfl rfl (by first | rfl | (show cKB[_]? = _; assumption)) rfl ?_
              refine w_if_eq (tgt := 164) rfl (by first | assumption | exact i32_0 | (unfold i32 at *; omega)) rfl (fun c => absurd c (by decide)) (fun _ => ?_)
              refine w_aload rfl rfl (w_iconst rfl (w_iload rfl rfl ?_))
              refine w_call (Or.inr rfl) (m_has0 (by decide) hcg hg (by omega) eg) (by omega) nof_167 rfl rfl rfl rfl (by first | rfl | (show cKB[_]? = _; assumption)) rfl ?_
              refine w_if_eq (tgt := 164) rfl (by first | assumption | exact i32_0 | (unfold i32 at *; omega)) rfl (fun _ => ?_) (fun c => absurd c (by decide))
              refine w_iinc (ls2 := [_, _, _, _, _, _]) rfl rfl rfl (w_goto (tgt := 66) rfl rfl ?_)
              exact hgo
          | true =>
            have hgs := hasF_some eg
            have hgb := hg n _ hgs
            have d1 : (p : Int).tdiv 5 + (n : Int).tdiv 5 = pi p + pi n := rfl
            have d2 : (p : Int).tmod 5 + (n : Int).tmod 5 = pj p + pj n := rfl
            have hun : prB g p v h0 (n + 1) = if pi p + pi n + (pj p + pj n) ≤ 4 then some (lowF h (p + n) (v + cv g n)) else none := by rw [prB, e]; dsimp only; rw [hgs]
            have x1 : N 156 p = v := by rw [hN 156 (by decide)]; have := hr0.1 p hp; rw [Nat.zero_add] at this; rw [this]; unfold mv; rw [hfp]; rfl
            have x2 : N 156 ((25 + (n : Int)).toNat) = cv g n := by rw [hN 156 (by decide), show (25 + (n : Int)).toNat = 0 + 25 + n by omega, hr0.2 n (by omega), mv_some eg]
            have b1 := pi_le hp
            have b2 := pi_le (p := n) (by omega)
            have b3 := pj_le p
            have b4 := pj_le n
            by_cases hpl : pi p + pi n + (pj p + pj n) ≤ 4
            · rw [hun, if_pos hpl] at ihn
              have ci : canI (some (lowF h (p + n) (v + cv g n))) = 1 := rfl
              rw [ci] at ihn
              have hsum := pl_sum hpb.1 hgb.1 hpl
              have ht0 := ht h rfl
              have x3 : N 175 (((p : Int) + (n : Int)).toNat) = mv h (p + n) := by rw [show ((p : Int) + (n : Int)).toNat = p + n by omega]; exact ht0 _ (by omega)
              have hml : -1998 ≤ mv h (p + n) ∧ mv h (p + n) ≤ 5000 := by
                unfold mv
                cases z : h (p + n) with
                | none => exact ⟨by decide, by decide⟩
                | some c => have := (hB _ c z).2.2; show -1998 ≤ c ∧ c ≤ 5000; omega
              have ip := m_isPlace1 N (i := pi p + pi n) (j := pj p + pj n) (pl_add.mpr hpl)
              have e1 : ((p : Int) + (n : Int)).toNat = p + n := by omega
              by_cases hlt : v + cv g n < mv h (p + n)
              · have hgo := ihn (upI N 175 (p + n) (v + cv g n)) (vI (v + cv g n)) (fun h2 z => by
                  cases z
                  intro k hk
                  rw [mv_low (by omega) hB]
                  unfold upI
                  by_cases y : k = p + n
                  · rw [if_pos ⟨rfl, y⟩, if_pos ⟨y, by rw [← y] at hlt; rw [y] at hlt; exact hlt⟩]
                  · rw [if_neg (fun z => y z.2), if_neg (fun z => y z.1)]; exact ht0 k hk) (fun b hb => by rw [upI_ne _ _ _ _ hb]; exact hN b hb)
                refine w_iload rfl rfl (w_iconst rfl ?_)
                refine w_icmp_ge (tgt := 170) rfl (by first | assumption | exact i32_0 | (unfold i32 at *; omega)) (by first | assumption | exact i32_0 | (unfold i32 at *; omega)) rfl (fun c70 => ?_) (fun c70 => ?_)
                · skip
                  exfalso; omega
                · skip
                  refine w_iload rfl rfl ?_
                  refine w_if_eq (tgt := 170) rfl (by first | assumption | exact i32_0 | (unfold i32 at *; omega)) rfl (fun c => absurd c (by decide)) (fun _ => ?_)
                  refine w_aload rfl rfl (w_iconst rfl (w_iload rfl rfl ?_))
                  refine w_call (Or.inr rfl) (m_has1 (by decide) hcf hf (by omega) hfh) (by omega) nof_167 rfl rfl rfl rfl (by first | rfl | (show cKB[_]? = _; assumption)) rfl ?_
                  refine w_if_eq (tgt := 164) rfl (by first | assumption | exact i32_0 | (unfold i32 at *; omega)) rfl (fun c => absurd c (by decide)) (fun _ => ?_)
                  refine w_aload rfl rfl (w_iconst rfl (w_iload rfl rfl ?_))
                  refine w_call (Or.inr rfl) (m_has1 (by decide) hcg hg (by omega) eg) (by omega) nof_167 rfl rfl rfl rfl (by first | rfl | (show cKB[_]? = _; assumption)) rfl ?_
                  refine w_if_eq (tgt := 164) rfl (by first | assumption | exact i32_0 | (unfold i32 at *; omega)) rfl (fun c => absurd c (by decide)) (fun _ => ?_)
                  refine w_iload rfl rfl (w_iconst rfl (w_idiv rfl (by first | assumption | exact i32_0 | (unfold i32 at *; omega)) (by first | assumption | exact i32_0 | (unfold i32 at *; omega)) (by first | decide | omega | assumption) (w_iload rfl rfl (w_iconst rfl (w_idiv rfl (by first | assumption | exact i32_0 | (unfold i32 at *; omega)) (by first | assumption | exact i32_0 | (unfold i32 at *; omega)) (by first | decide | omega | assumption) (w_iadd rfl (w_iload rfl rfl ?_)))))))
                  refine w_iconst rfl (w_irem rfl (by first | assumption | exact i32_0 | (unfold i32 at *; omega)) (by first | assumption | exact i32_0 | (unfold i32 at *; omega)) (by first | decide | omega | assumption) (w_iload rfl rfl (w_iconst rfl (w_irem rfl (by first | assumption | exact i32_0 | (unfold i32 at *; omega)) (by first | assumption | exact i32_0 | (unfold i32 at *; omega)) (by first | decide | omega | assumption) (w_iadd rfl ?_)))))
                  rw [d1, d2]
                  refine w_call (Or.inl rfl) ((ip)) (by omega) nof_166 rfl rfl rfl rfl trivial rfl ?_
                  refine w_istore (ls2 := [_, _, _, _, _, _]) rfl rfl rfl (w_aload rfl rfl (w_getR rfl (by first | rfl | assumption) rfl (by first | rfl | assumption) (w_iload rfl rfl (w_ialoadV rfl (by first | rfl | assumption) (by omega) (by omega) (x1) (w_aload rfl rfl (w_getR rfl (by first | rfl | assumption) rfl (by first | rfl | assumption) (w_iconst rfl ?_)))))))
                  refine w_iload rfl rfl (w_iadd rfl (w_ialoadV rfl (by first | rfl | assumption) (by omega) (by omega) (x2) (w_iadd rfl (w_istore (ls2 := [_, _, _, _, _, _]) rfl rfl rfl (w_iload rfl rfl ?_)))))
                  refine w_if_eq (tgt := 164) rfl (by first | assumption | exact i32_0 | (unfold i32 at *; omega)) rfl (fun c => absurd c (by decide)) (fun _ => ?_)
                  refine w_iload rfl rfl (w_aload rfl rfl (w_getR rfl (by first | rfl | assumption) rfl (by first | rfl | assumption) (w_iload rfl rfl (w_iload rfl rfl (w_iadd rfl (w_ialoadV rfl (by first | rfl | assumption) (by omega) (by omega) (x3) ?_))))))
                  refine w_icmp_ge (tgt := 164) rfl (by first | assumption | exact i32_0 | (unfold i32 at *; omega)) (by first | assumption | exact i32_0 | (unfold i32 at *; omega)) rfl (fun c150 => ?_) (fun c150 => ?_)
                  · exfalso; omega
                  · skip
                    refine w_aload rfl rfl (w_getR rfl (by first | rfl | assumption) rfl (by first | rfl | assumption) (w_iload rfl rfl (w_iload rfl rfl (w_iadd rfl (w_iload rfl rfl (w_iastore rfl (by first | rfl | assumption) (by omega) (by omega) (w_iinc (ls2 := [_, _, _, _, _, _]) rfl rfl rfl ?_)))))))
                    refine w_goto (tgt := 66) rfl rfl ?_
                    rw [e1]
                    exact hgo
              · have hgo := ihn N (vI (v + cv g n)) (fun h2 z => by
                  cases z
                  intro k hk
                  rw [mv_low (by omega) hB]
                  rw [if_neg (fun z => hlt (by rw [← z.1]; rw [z.1]; exact z.2))]
                  exact ht0 k hk) hN
                refine w_iload rfl rfl (w_iconst rfl ?_)
                refine w_icmp_ge (tgt := 170) rfl (by first | assumption | exact i32_0 | (unfold i32 at *; omega)) (by first | assumption | exact i32_0 | (unfold i32 at *; omega)) rfl (fun c70 => ?_) (fun c70 => ?_)
                · skip
                  exfalso; omega
                · skip
                  refine w_iload rfl rfl ?_
                  refine w_if_eq (tgt := 170) rfl (by first | assumption | exact i32_0 | (unfold i32 at *; omega)) rfl (fun c => absurd c (by decide)) (fun _ => ?_)
                  refine w_aload rfl rfl (w_iconst rfl (w_iload rfl rfl ?_))
                  refine w_call (Or.inr rfl) (m_has1 (by decide) hcf hf (by omega) hfh) (by omega) nof_167 rfl rfl rfl rfl (by first | rfl | (show cKB[_]? = _; assumption)) rfl ?_
                  refine w_if_eq (tgt := 164) rfl (by first | assumption | exact i32_0 | (unfold i32 at *; omega)) rfl (fun c => absurd c (by decide)) (fun _ => ?_)
                  refine w_aload rfl rfl (w_iconst rfl (w_iload rfl rfl ?_))
                  refine w_call (Or.inr rfl) (m_has1 (by decide) hcg hg (by omega) eg) (by omega) nof_167 rfl rfl rfl rfl (by first | rfl | (show cKB[_]? = _; assumption)) rfl ?_
                  refine w_if_eq (tgt := 164) rfl (by first | assumption | exact i32_0 | (unfold i32 at *; omega)) rfl (fun c => absurd c (by decide)) (fun _ => ?_)
                  refine w_iload rfl rfl (w_iconst rfl (w_idiv rfl (by first | assumption | exact i32_0 | (unfold i32 at *; omega)) (by first | assumption | exact i32_0 | (unfold i32 at *; omega)) (by first | decide | omega | assumption) (w_iload rfl rfl (w_iconst rfl (w_idiv rfl (by first | assumption | exact i32_0 | (unfold i32 at *; omega)) (by first | assumption | exact i32_0 | (unfold i32 at *; omega)) (by first | decide | omega | assumption) (w_iadd rfl (w_iload rfl rfl ?_)))))))
                  refine w_iconst rfl (w_irem rfl (by first | assumption | exact i32_0 | (unfold i32 at *; omega)) (by first | assumption | exact i32_0 | (unfold i32 at *; omega)) (by first | decide | omega | assumption) (w_iload rfl rfl (w_iconst rfl (w_irem rfl (by first | assumption | exact i32_0 | (unfold i32 at *; omega)) (by first | assumption | exact i32_0 | (unfold i32 at *; omega)) (by first | decide | omega | assumption) (w_iadd rfl ?_)))))
                  rw [d1, d2]
                  refine w_call (Or.inl rfl) ((ip)) (by omega) nof_166 rfl rfl rfl rfl trivial rfl ?_
                  refine w_istore (ls2 := [_, _, _, _, _, _]) rfl rfl rfl (w_aload rfl rfl (w_getR rfl (by first | rfl | assumption) rfl (by first | rfl | assumption) (w_iload rfl rfl (w_ialoadV rfl (by first | rfl | assumption) (by omega) (by omega) (x1) (w_aload rfl rfl (w_getR rfl (by first | rfl | assumption) rfl (by first | rfl | assumption) (w_iconst rfl ?_)))))))
                  refine w_iload rfl rfl (w_iadd rfl (w_ialoadV rfl (by first | rfl | assumption) (by omega) (by omega) (x2) (w_iadd rfl (w_istore (ls2 := [_, _, _, _, _, _]) rfl rfl rfl (w_iload rfl rfl ?_)))))
                  refine w_if_eq (tgt := 164) rfl (by first | assumption | exact i32_0 | (unfold i32 at *; omega)) rfl (fun c => absurd c (by decide)) (fun _ => ?_)
                  refine w_iload rfl rfl (w_aload rfl rfl (w_getR rfl (by first | rfl | assumption) rfl (by first | rfl | assumption) (w_iload rfl rfl (w_iload rfl rfl (w_iadd rfl (w_ialoadV rfl (by first | rfl | assumption) (by omega) (by omega) (x3) ?_))))))
                  refine w_icmp_ge (tgt := 164) rfl (by first | assumption | exact i32_0 | (unfold i32 at *; omega)) (by first | assumption | exact i32_0 | (unfold i32 at *; omega)) rfl (fun c150 => ?_) (fun c150 => ?_)
                  · skip
                    refine w_iinc (ls2 := [_, _, _, _, _, _]) rfl rfl rfl (w_goto (tgt := 66) rfl rfl ?_)
                    exact hgo
                  · exfalso; omega
            · rw [hun, if_neg hpl] at ihn
              have ci : canI (none : Option Cv) = 0 := rfl
              rw [ci] at ihn
              have hgo := ihn N (vI (v + cv g n)) (fun h2 z => by cases z) hN
              have ip := m_isPlace0 N (i := pi p + pi n) (j := pj p + pj n) (by unfold i32; omega) (by unfold i32; omega) (fun z => hpl (pl_add.mp z))
              refine w_iload rfl rfl (w_iconst rfl ?_)
              refine w_icmp_ge (tgt := 170) rfl (by first | assumption | exact i32_0 | (unfold i32 at *; omega)) (by first | assumption | exact i32_0 | (unfold i32 at *; omega)) rfl (fun c70 => ?_) (fun c70 => ?_)
              · skip
                exfalso; omega
              · skip
                refine w_iload rfl rfl ?_
                refine w_if_eq (tgt := 170) rfl (by first | assumption | exact i32_0 | (unfold i32 at *; omega)) rfl (fun c => absurd c (by decide)) (fun _ => ?_)
                refine w_aload rfl rfl (w_iconst rfl (w_iload rfl rfl ?_))
                refine w_call (Or.inr rfl) (m_has1 (by decide) hcf hf (by omega) hfh) (by omega) nof_167 rfl rfl rfl rfl (by first | rfl | (show cKB[_]? = _; assumption)) rfl ?_
                refine w_if_eq (tgt := 164) rfl (by first | assumption | exact i32_0 | (unfold i32 at *; omega)) rfl (fun c => absurd c (by decide)) (fun _ => ?_)
                refine w_aload rfl rfl (w_iconst rfl (w_iload rfl rfl ?_))
                refine w_call (Or.inr rfl) (m_has1 (by decide) hcg hg (by omega) eg) (by omega) nof_167 rfl rfl rfl rfl (by first | rfl | (show cKB[_]? = _; assumption)) rfl ?_
                refine w_if_eq (tgt := 164) rfl (by first | assumption | exact i32_0 | (unfold i32 at *; omega)) rfl (fun c => absurd c (by decide)) (fun _ => ?_)
                refine w_iload rfl rfl (w_iconst rfl (w_idiv rfl (by first | assumption | exact i32_0 | (unfold i32 at *; omega)) (by first | assumption | exact i32_0 | (unfold i32 at *; omega)) (by first | decide | omega | assumption) (w_iload rfl rfl (w_iconst rfl (w_idiv rfl (by first | assumption | exact i32_0 | (unfold i32 at *; omega)) (by first | assumption | exact i32_0 | (unfold i32 at *; omega)) (by first | decide | omega | assumption) (w_iadd rfl (w_iload rfl rfl ?_)))))))
                refine w_iconst rfl (w_irem rfl (by first | assumption | exact i32_0 | (unfold i32 at *; omega)) (by first | assumption | exact i32_0 | (unfold i32 at *; omega)) (by first | decide | omega | assumption) (w_iload rfl rfl (w_iconst rfl (w_irem rfl (by first | assumption | exact i32_0 | (unfold i32 at *; omega)) (by first | assumption | exact i32_0 | (unfold i32 at *; omega)) (by first | decide | omega | assumption) (w_iadd rfl ?_)))))
                rw [d1, d2]
                refine w_call (Or.inl rfl) ((ip)) (by omega) nof_166 rfl rfl rfl rfl trivial rfl ?_
                refine w_istore (ls2 := [_, _, _, _, _, _]) rfl rfl rfl (w_aload rfl rfl (w_getR rfl (by first | rfl | assumption) rfl (by first | rfl | assumption) (w_iload rfl rfl (w_ialoadV rfl (by first | rfl | assumption) (by omega) (by omega) (x1) (w_aload rfl rfl (w_getR rfl (by first | rfl | assumption) rfl (by first | rfl | assumption) (w_iconst rfl ?_)))))))
                refine w_iload rfl rfl (w_iadd rfl (w_ialoadV rfl (by first | rfl | assumption) (by omega) (by omega) (x2) (w_iadd rfl (w_istore (ls2 := [_, _, _, _, _, _]) rfl rfl rfl (w_iload rfl rfl ?_)))))
                refine w_if_eq (tgt := 164) rfl (by first | assumption | exact i32_0 | (unfold i32 at *; omega)) rfl (fun _ => ?_) (fun c => absurd c (by decide))
                refine w_iinc (ls2 := [_, _, _, _, _, _]) rfl rfl rfl (w_goto (tgt := 66) rfl rfl ?_)
                exact hgo
    -- a place of the first curve without a term, or a product that is off already
    have idle : ∀ (p : Nat) (cn : Int), p < 25 → (cn = 0 ∨ (cn = 1 ∧ f p = none)) → ∀ (N : mM), (∀ b, b ≠ 175 → N b = M b) → (∀ (w w5 : mV), Wp mc_182 D 170 [vR 155, vI a, vI cn, vI p, w, w5] [] N Q) → ∀ (z n : Nat) (w5 : mV), 25 - n = z → n ≤ 25 → Wp mc_182 D 66 [vR 155, vI a, vI cn, vI p, vI n, w5] [] N Q := by
      intro p cn hp hcn N hN hout z
      induction z with
      | zero =>
        intro n w5 hz hn
        obtain rfl : n = 25 := by omega
        have hgo := hout (vI (25 : Nat)) w5
        refine w_iload rfl rfl (w_iconst rfl ?_)
        refine w_icmp_ge (tgt := 170) rfl (by first | assumption | exact i32_0 | (unfold i32 at *; omega)) (by first | assumption | exact i32_0 | (unfold i32 at *; omega)) rfl (fun c70 => ?_) (fun c70 => ?_)
        · skip
          exact hgo
        · skip
          exfalso; omega
      | succ z ih =>
        intro n w5 hz hn
        have ihn := ih (n + 1) w5 (by omega) (by omega)
        rcases hcn with rfl | ⟨rfl, hfp⟩
        · have hgo := hout (vI n) w5
          refine w_iload rfl rfl (w_iconst rfl ?_)
          refine w_icmp_ge (tgt := 170) rfl (by first | assumption | exact i32_0 | (unfold i32 at *; omega)) (by first | assumption | exact i32_0 | (unfold i32 at *; omega)) rfl (fun c70 => ?_) (fun c70 => ?_)
          · skip
            first | exact hgo | (exfalso; omega)
          · skip
            refine w_iload rfl rfl ?_
            refine w_if_eq (tgt := 170) rfl (by first | assumption | exact i32_0 | (unfold i32 at *; omega)) rfl (fun _ => ?_) (fun c => absurd c (by decide))
            first | exact hgo | (exfalso; omega)
        · have hcf : mcur (25 * 0) f N := mcur_fr hr0.1 (fun k _ _ => by rw [hN 156 (by decide)])
          have hfh : hasF f p = false := by unfold hasF; rw [hfp]; rfl
          refine w_iload rfl rfl (w_iconst rfl ?_)
          refine w_icmp_ge (tgt := 170) rfl (by first | assumption | exact i32_0 | (unfold i32 at *; omega)) (by first | assumption | exact i32_0 | (unfold i32 at *; omega)) rfl (fun c70 => ?_) (fun c70 => ?_)
          · skip
            exfalso; omega
          · skip
            refine w_iload rfl rfl ?_
            refine w_if_eq (tgt := 170) rfl (by first | assumption | exact i32_0 | (unfold i32 at *; omega)) rfl (fun c => absurd c (by decide)) (fun _ => ?_)
            refine w_aload rfl rfl (w_iconst rfl (w_iload rfl rfl ?_))
            refine w_call (Or.inr rfl) (m_has0 (by decide) hcf hf (by omega) hfh) (by omega) nof_167 rfl rfl rfl rfl (by first | rfl | (show cKB[_]? = _; assumption)) rfl ?_
            refine w_if_eq (tgt := 164) rfl (by first | assumption | exact i32_0 | (unfold i32 at *; omega)) rfl (fun _ => ?_) (fun c => absurd c (by decide))
            refine w_iinc (ls2 := [_, _, _, _, _, _]) rfl rfl rfl (w_goto (tgt := 66) rfl rfl ?_)
            exact ihn
    have hs25 : ∀ m, 21 ≤ m → prA f g (m + 1) = prA f g m := fun m hm => by
      rw [prA]
      cases z : prA f g m with
      | none => rfl
      | some h' => dsimp only; rw [f_hi hf hm]
    have hA25 : prA f g 25 = prA f g 21 := by rw [hs25 24 (by decide), hs25 23 (by decide), hs25 22 (by decide), hs25 21 (by decide)]
    have hB25 : ∀ p v h0, prB g p v h0 25 = prB g p v h0 21 := fun p v h0 => by
      have hs : ∀ m, 21 ≤ m → prB g p v h0 (m + 1) = prB g p v h0 m := fun m hm => by
        rw [prB]
        cases z : prB g p v h0 m with
        | none => rfl
        | some h' => dsimp only; rw [f_hi hg hm]
      rw [hs 24 (by decide), hs 23 (by decide), hs 22 (by decide), hs 21 (by decide)]
    have hBn : ∀ n h, n ≤ 25 → prA f g n = some h → Cok 1998 h := by
      intro n h hn e
      rcases Nat.lt_or_ge n 22 with y | y
      · exact Cok_prA hf hg n h (by omega) e
      · have h4 : n = 22 ∨ n = 23 ∨ n = 24 ∨ n = 25 := by omega
        refine Cok_prA hf hg 21 h (Nat.le_refl _) ?_
        rcases h4 with rfl | rfl | rfl | rfl
        · rw [← hs25 21 (by decide)]; exact e
        · rw [← hs25 21 (by decide), ← hs25 22 (by decide)]; exact e
        · rw [← hs25 21 (by decide), ← hs25 22 (by decide), ← hs25 23 (by decide)]; exact e
        · rw [← hA25]; exact e
    -- all places, b tells whether both curves have terms
    have outer : ∀ (b : Bool), b = !decide (cntF f = 0 ∨ cntF g = 0) → ∀ (z n : Nat) (N : mM) (w w5 : mV), 25 - n = z → n ≤ 25 → thenO (if b = true then prA f g n else none) N → (∀ c, c ≠ 175 → N c = M c) → Wp mc_182 D 57 [vR 155, vI a, vI (canI (if b = true then prA f g n else none)), vI n, w, w5] [] N Q := by
      intro b hb z
      induction z with
      | zero =>
        intro n N w w5 hz hn ht hN
        obtain rfl : n = 25 := by omega
        have hgo := check (if b = true then prA f g 25 else none) w w5 (fun h e => by
          split at e
          · exact hBn 25 h (Nat.le_refl _) e
          · cases e) 25 0 N rfl (by decide) ht hN
        have hcan : (match (if b = true then prA f g 25 else none : Option Cv) with | none => (0 : Int) | some h => if rangeF h 0 = true then 1 else 0) = canI (if b = true then prA f g 25 else none) := by
          cases (if b = true then prA f g 25 else none : Option Cv) <;> rfl
        have htm : (match (if b = true then prA f g 25 else none : Option Cv) with | none => none | some h => if rangeF h 21 = true then some h else none : Option Cv) = timesF f g := by
          unfold timesF
          rw [hA25, hb]
          by_cases y : cntF f = 0 ∨ cntF g = 0
          · rw [decide_eq_true y, if_pos y]; rfl
          · rw [decide_eq_false y, if_neg y]
            show (match prA f g 21 with | none => none | some h => if rangeF h 21 = true then some h else none : Option Cv) = _
            cases prA f g 21 <;> rfl
        rw [hcan, htm, hQ] at hgo
        refine w_iload rfl rfl (w_iconst rfl ?_)
        refine w_icmp_ge (tgt := 176) rfl (by first | assumption | exact i32_0 | (unfold i32 at *; omega)) (by first | assumption | exact i32_0 | (unfold i32 at *; omega)) rfl (fun c60 => ?_) (fun c60 => ?_)
        · skip
          refine w_iconst rfl (w_istore (ls2 := [_, _, _, _, _, _]) rfl rfl rfl ?_)
          exact hgo
        · skip
          exfalso; omega
      | succ z ih =>
        intro n N w w5 hz hn ht hN
        have ihn := fun N w w5 => ih (n + 1) N w w5 (by omega) (by omega)
        cases b with
        | false =>
          have hgo := idle n 0 (by omega) (Or.inl rfl) N hN (fun w w5 => by
            have hgo := ihn N w w5 (fun h z => by cases z) hN
            have hgo : Wp mc_182 D 57 [vR 155, vI a, vI 0, vI ((n + 1 : Nat) : Int), w, w5] [] N Q := hgo
            refine w_iinc (ls2 := [_, _, _, _, _, _]) rfl rfl rfl (w_goto (tgt := 57) rfl rfl ?_)
            exact hgo) 25 0 w5 rfl (by decide)
          show Wp mc_182 D 57 [vR 155, vI a, vI 0, vI n, w, w5] [] N Q
          refine w_iload rfl rfl (w_iconst rfl ?_)
          refine w_icmp_ge (tgt := 176) rfl (by first | assumption | exact i32_0 | (unfold i32 at *; omega)) (by first | assumption | exact i32_0 | (unfold i32 at *; omega)) rfl (fun c60 => ?_) (fun c60 => ?_)
          · skip
            exfalso; omega
          · skip
            refine w_iconst rfl (w_istore (ls2 := [_, _, _, _, _, _]) rfl rfl rfl ?_)
            exact hgo
        | true =>
          have ht : thenO (prA f g n) N := ht
          have ihn : ∀ (N : mM) (w w5 : mV), thenO (prA f g (n + 1)) N → (∀ c, c ≠ 175 → N c = M c) → Wp mc_182 D 57 [vR 155, vI a, vI (canI (prA f g (n + 1))), vI ((n + 1 : Nat) : Int), w, w5] [] N Q := ihn
          show Wp mc_182 D 57 [vR 155, vI a, vI (canI (prA f g n)), vI n, w, w5] [] N Q
          cases e : prA f g n with
          | none =>
            have e2 : prA f g (n + 1) = none := by rw [prA, e]
            rw [e2] at ihn
            have hgo := idle n 0 (by omega) (Or.inl rfl) N hN (fun w w5 => by
              have hgo : Wp mc_182 D 57 [vR 155, vI a, vI 0, vI ((n + 1 : Nat) : Int), w, w5] [] N Q := ihn N w w5 (fun h z => by cases z) hN
              refine w_iinc (ls2 := [_, _, _, _, _, _]) rfl rfl rfl (w_goto (tgt := 57) rfl rfl ?_)
              exact hgo) 25 0 w5 rfl (by decide)
            show Wp mc_182 D 57 [vR 155, vI a, vI 0, vI n, w, w5] [] N Q
            refine w_iload rfl rfl (w_iconst rfl ?_)
            refine w_icmp_ge (tgt := 176) rfl (by first | assumption | exact i32_0 | (unfold i32 at *; omega)) (by first | assumption | exact i32_0 | (unfold i32 at *; omega)) rfl (fun c60 => ?_) (fun c60 => ?_)
            · skip
              exfalso; omega
            · skip
              refine w_iconst rfl (w_istore (ls2 := [_, _, _, _, _, _]) rfl rfl rfl ?_)
              exact hgo
          | some h =>
            rw [e] at ht
            have hBh := hBn n h (by omega) e
            show Wp mc_182 D 57 [vR 155, vI a, vI 1, vI n, w, w5] [] N Q
            cases ef : f n with
            | none =>
              have e2 : prA f g (n + 1) = some h := by rw [prA, e]; dsimp only; rw [ef]
              rw [e2] at ihn
              have hgo := idle n 1 (by omega) (Or.inr ⟨rfl, ef⟩) N hN (fun w w5 => by
                have hgo : Wp mc_182 D 57 [vR 155, vI a, vI 1, vI ((n + 1 : Nat) : Int), w, w5] [] N Q := ihn N w w5 ht hN
                refine w_iinc (ls2 := [_, _, _, _, _, _]) rfl rfl rfl (w_goto (tgt := 57) rfl rfl ?_)
                exact hgo) 25 0 w5 rfl (by decide)
              refine w_iload rfl rfl (w_iconst rfl ?_)
              refine w_icmp_ge (tgt := 176) rfl (by first | assumption | exact i32_0 | (unfold i32 at *; omega)) (by first | assumption | exact i32_0 | (unfold i32 at *; omega)) rfl (fun c60 => ?_) (fun c60 => ?_)
              · skip
                exfalso; omega
              · skip
                refine w_iconst rfl (w_istore (ls2 := [_, _, _, _, _, _]) rfl rfl rfl ?_)
                exact hgo
            | some v =>
              have e2 : prA f g (n + 1) = prB g n v h 21 := by rw [prA, e]; dsimp only; rw [ef]
              rw [e2, ← hB25] at ihn
              have hgo := inner n h v (by omega) ef hBh (fun N2 w w5 ht2 hN2 => by
                have hgo := ihn N2 w w5 ht2 hN2
                refine w_iinc (ls2 := [_, _, _, _, _, _]) rfl rfl rfl (w_goto (tgt := 57) rfl rfl ?_)
                exact hgo) 25 0 N w5 rfl (by decide) ht hN
              have hgo : Wp mc_182 D 66 [vR 155, vI a, vI 1, vI n, vI 0, w5] [] N Q := hgo
              refine w_iload rfl rfl (w_iconst rfl ?_)
              refine w_icmp_ge (tgt := 176) rfl (by first | assumption | exact i32_0 | (unfold i32 at *; omega)) (by first | assumption | exact i32_0 | (unfold i32 at *; omega)) rfl (fun c60 => ?_) (fun c60 => ?_)
              · skip
                exfalso; omega
              · skip
                refine w_iconst rfl (w_istore (ls2 := [_, _, _, _, _, _]) rfl rfl rfl ?_)
                exact hgo
    -- the array emptied
    have fill : ∀ (b : Bool), b = !decide (cntF f = 0 ∨ cntF g = 0) → ∀ (z n : Nat) (N : mM), 25 - n = z → n ≤ 25 → (∀ p, p < n → N 175 p = 5000) → (∀ c, c ≠ 175 → N c = M c) → Wp mc_182 D 34 [vR 155, vI a, vI (if b = true then 1 else 0), vI n, vN, vN] [] N Q := by
      intro b hb z
      induction z with
      | zero =>
        intro n N hz hn h1 hN
        obtain rfl : n = 25 := by omega
        have hgo := outer b hb 25 0 N vN vN rfl (by decide) (fun h e => by
          intro p hp
          cases b with
          | true => cases e; exact h1 p hp
          | false => cases e) hN
        have hcan : canI (if b = true then prA f g 0 else none) = if b = true then 1 else 0 := by cases b <;> rfl
        rw [hcan] at hgo
        refine w_iload rfl rfl (w_iconst rfl ?_)
        refine w_icmp_ge (tgt := 55) rfl (by first | assumption | exact i32_0 | (unfold i32 at *; omega)) (by first | assumption | exact i32_0 | (unfold i32 at *; omega)) rfl (fun c37 => ?_) (fun c37 => ?_)
        · skip
          refine w_iconst rfl (w_istore (ls2 := [_, _, _, _, _, _]) rfl rfl rfl ?_)
          exact hgo
        · skip
          exfalso; omega
      | succ z ih =>
        intro n N hz hn h1 hN
        have hgo := ih (n + 1) (upI N 175 n 5000) (by omega) (by omega) (fun k hk => by
          unfold upI
          by_cases y : k = n
          · rw [if_pos ⟨rfl, y⟩]
          · rw [if_neg (fun z => y z.2)]; exact h1 k (by omega)) (fun c hc => by rw [upI_ne _ _ _ _ hc]; exact hN c hc)
        refine w_iload rfl rfl (w_iconst rfl ?_)
        refine w_icmp_ge (tgt := 55) rfl (by first | assumption | exact i32_0 | (unfold i32 at *; omega)) (by first | assumption | exact i32_0 | (unfold i32 at *; omega)) rfl (fun c37 => ?_) (fun c37 => ?_)
        · skip
          exfalso; omega
        · skip
          refine w_aload rfl rfl (w_getR rfl (by first | rfl | assumption) rfl (by first | rfl | assumption) (w_iload rfl rfl (w_iconst rfl (w_iastore rfl (by first | rfl | assumption) (by omega) (by omega) (w_iinc (ls2 := [_, _, _, _, _, _]) rfl rfl rfl (w_goto (tgt := 34) rfl rfl ?_))))))
          exact hgo
    by_cases y : cntF f = 0 ∨ cntF g = 0
    · have hgo := fill false (by rw [decide_eq_true y]; rfl) 25 0 M rfl (by decide) (fun k hk => absurd hk (Nat.not_lt_zero k)) (fun _ _ => rfl)
      have hgo : Wp mc_182 D 34 [vR 155, vI a, vI 0, vI 0, vN, vN] [] M Q := hgo
      refine w_iload rfl rfl ?_
      refine w_call (Or.inl rfl) (m_isCurve1 M q) (by omega) nof_165 rfl rfl rfl rfl trivial rfl ?_
      refine w_if_ne (tgt := 10) rfl (by first | assumption | exact i32_0 | (unfold i32 at *; omega)) rfl (fun _ => ?_) (fun c => absurd c (by decide))
      refine w_aload rfl rfl (w_iconst rfl ?_)
      refine w_call (Or.inr rfl) ((tf)) (by omega) nof_169 rfl rfl rfl rfl (by first | rfl | (show cKB[_]? = _; assumption)) rfl ?_
      refine w_if_le (tgt := 30) rfl (by first | assumption | exact i32_0 | (unfold i32 at *; omega)) rfl (fun c15 => ?_) (fun c15 => ?_)
      · skip
        refine w_iconst rfl (w_istore (ls2 := [_, _, _, _, _, _]) rfl rfl rfl (w_iconst rfl (w_istore (ls2 := [_, _, _, _, _, _]) rfl rfl rfl ?_)))
        exact hgo
      · skip
        refine w_aload rfl rfl (w_iconst rfl ?_)
        refine w_call (Or.inr rfl) ((tg)) (by omega) nof_169 rfl rfl rfl rfl (by first | rfl | (show cKB[_]? = _; assumption)) rfl ?_
        refine w_if_le (tgt := 30) rfl (by first | assumption | exact i32_0 | (unfold i32 at *; omega)) rfl (fun c23 => ?_) (fun c23 => ?_)
        · skip
          refine w_iconst rfl (w_istore (ls2 := [_, _, _, _, _, _]) rfl rfl rfl (w_iconst rfl (w_istore (ls2 := [_, _, _, _, _, _]) rfl rfl rfl ?_)))
          exact hgo
        · skip
          exfalso; omega
    · have hgo := fill true (by rw [decide_eq_false y]; rfl) 25 0 M rfl (by decide) (fun k hk => absurd hk (Nat.not_lt_zero k)) (fun _ _ => rfl)
      have hgo : Wp mc_182 D 34 [vR 155, vI a, vI 1, vI 0, vN, vN] [] M Q := hgo
      refine w_iload rfl rfl ?_
      refine w_call (Or.inl rfl) (m_isCurve1 M q) (by omega) nof_165 rfl rfl rfl rfl trivial rfl ?_
      refine w_if_ne (tgt := 10) rfl (by first | assumption | exact i32_0 | (unfold i32 at *; omega)) rfl (fun _ => ?_) (fun c => absurd c (by decide))
      refine w_aload rfl rfl (w_iconst rfl ?_)
      refine w_call (Or.inr rfl) ((tf)) (by omega) nof_169 rfl rfl rfl rfl (by first | rfl | (show cKB[_]? = _; assumption)) rfl ?_
      refine w_if_le (tgt := 30) rfl (by first | assumption | exact i32_0 | (unfold i32 at *; omega)) rfl (fun c15 => ?_) (fun c15 => ?_)
      · skip
        exfalso; omega
      · skip
        refine w_aload rfl rfl (w_iconst rfl ?_)
        refine w_call (Or.inr rfl) ((tg)) (by omega) nof_169 rfl rfl rfl rfl (by first | rfl | (show cKB[_]? = _; assumption)) rfl ?_
        refine w_if_le (tgt := 30) rfl (by first | assumption | exact i32_0 | (unfold i32 at *; omega)) rfl (fun c23 => ?_) (fun c23 => ?_)
        · skip
          exfalso; omega
        · skip
          refine w_iconst rfl (w_goto (tgt := 31) rfl rfl (w_istore (ls2 := [_, _, _, _, _, _]) rfl rfl rfl (w_iconst rfl (w_istore (ls2 := [_, _, _, _, _, _]) rfl rfl rfl ?_))))
          exact hgo
  · rw [if_neg q]
    have q : ¬ (a = 0 ∨ a = 1) := fun z => q (isCu_iff.mpr z)
    refine w_iload rfl rfl ?_
    refine w_call (Or.inl rfl) (m_isCurve0 M ha q) (by omega) nof_165 rfl rfl rfl rfl trivial rfl ?_
    refine w_if_ne (tgt := 10) rfl (by first | assumption | exact i32_0 | (unfold i32 at *; omega)) rfl (fun c => absurd c (by decide)) (fun _ => ?_)
    refine w_iconst rfl ?_
    exact w_ireturn rfl ⟨by first | rfl | (congr 2; omega), by exact MI_same c⟩
