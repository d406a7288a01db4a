def joinF (f g : Cv) : Cv := fun p => match f p, g p with
  | none, o => o
  | some a, none => some a
  | some a, some b => some (min a b)
/-- a lower c taken at a place -/
def lowF (h : Cv) (p : Nat) (v : Int) : Cv := match h p with
  | none => upF h p (some v)
  | some c => if v < c then upF h p (some v) else h
theorem e_low {t p : Nat} {h : Cv} {M : mM} {v B : Int} (ht : isT t) (hc : cur t h M) (hB : B < 900000) (hf : Cok B h) (hv : i32 v) (hp : p < 21) : EQ 3 29 [vR t, vI p, vI v] M (fun r M1 => r = none ∧ cur t (lowF h p v) M1 ∧ M t 1 ≤ M1 t 1 ∧ M1 t 1 ≤ M t 1 + 1 ∧ ∀ a, a ≠ t → a ≠ t + 1 → ∀ k, M1 a k = M a k) := by
  have hset : cur t (upF h p (some v)) (setM t p v M) ∧ M t 1 ≤ setM t p v M t 1 ∧ setM t p v M t 1 ≤ M t 1 + 1 ∧ ∀ a, a ≠ t → a ≠ t + 1 → ∀ k, setM t p v M a k = M a k := by
    have := Tw_set (t := t) (p := p) (o := some v) hc
    exact ⟨this.1, by have := this.2.1; simp only [Option.getD_some] at this; omega, this.2.2.1, this.2.2.2⟩
  cases hfp : h p with
  | none =>
    exact (e_lower_set ht hc hB hf hv hp (fun c hc => by rw [hfp] at hc; cases hc)).q ⟨rfl, by unfold lowF; rw [hfp]; exact hset⟩
  | some c =>
    by_cases q : v < c
    · exact (e_lower_set ht hc hB hf hv hp (fun c2 hc => by rw [hfp] at hc; cases hc; exact q)).q ⟨rfl, by unfold lowF; rw [hfp]; dsimp only; rw [if_pos q]; exact hset⟩
    · exact (e_lower_not ht hc hB hf hv hfp (by omega)).q ⟨rfl, by unfold lowF; rw [hfp]; dsimp only; rw [if_neg q]; exact ⟨hc, by omega, by omega, fun _ _ _ _ => rfl⟩⟩
theorem lowF_at {h : Cv} {p k : Nat} {v : Int} : lowF h p v k = if k = p then (match h p with
    | none => some v
    | some c => some (min c v)) else h k := by
  unfold lowF
  cases hp : h p with
  | none =>
    dsimp only
    unfold upF
    by_cases q : k = p
    · rw [if_pos q]
    · rw [if_neg q]
  | some c =>
    dsimp only
    by_cases q : k = p
    · rw [if_pos q]
      split
      · unfold upF; rw [if_pos q, show min c v = v by omega]
      · rw [q, hp, show min c v = c by omega]
    · rw [if_neg q]
      split
      · unfold upF; rw [if_neg q]
      · rfl
theorem Cok_low {B : Int} {h : Cv} {p : Nat} {v : Int} (hh : Cok B h) (hp : p < 21) (hpl : p / 5 + p % 5 ≤ 4) (hv : -B ≤ v ∧ v ≤ B) : Cok B (lowF h p v) := by
  intro k c hk
  rw [lowF_at] at hk
  by_cases q : k = p
  · rw [if_pos q] at hk
    subst q
    cases hp2 : h k with
    | none => rw [hp2] at hk; cases hk; exact ⟨hp, hpl, hv⟩
    | some c2 =>
      rw [hp2] at hk
      have := hh k c2 hp2
      have e : c = min c2 v := (Option.some.inj hk).symm
      exact ⟨hp, hpl, by omega, by omega⟩
  · rw [if_neg q] at hk; exact hh k c hk
theorem Cok_join {B : Int} {f g : Cv} (hf : Cok B f) (hg : Cok B g) : Cok B (joinF f g) := by
  intro k c hk
  unfold joinF at hk
  cases h1 : f k with
  | none => rw [h1] at hk; exact hg k c hk
  | some a =>
    rw [h1] at hk
    cases h2 : g k with
    | none => rw [h2] at hk; cases hk; exact hf k c h1
    | some b =>
      rw [h2] at hk
      have a1 := hf k a h1
      have b1 := hg k b h2
      have e : c = min a b := (Option.some.inj hk).symm
      exact ⟨a1.1, a1.2.1, by omega, by omega⟩
theorem e_joined {t o q : Nat} {f g : Cv} {M : mM} (ht : isT t) (ho : isT o) (hq : isT q) (hto : t ≠ o) (hto2 : t ≠ o + 1) (hot : o ≠ t + 1) (htq : t ≠ q) (htq2 : t ≠ q + 1) (hqt : q ≠ t + 1) (hc : cur o f M) (hc2 : cur q g M) (hf : Cok 999 f) (hg : Cok 999 g) :
    EQ 4 58 [vR t, vR o, vR q] M (fun r M1 => r = none ∧ Tw t (joinF f g) 30 M M1) := by
  obtain ⟨ht1, ht2, ht3⟩ := id ht
  have ho1 := ho.1
  have hq1 := hq.1
  refine q_in (ls := [vR t, vR o, vR q, vN]) mq_58 (ml_58 rfl) rfl fun D hD => ?_
  have loop : ∀ (n k : Nat) (N : mM), 21 - k = n → k ≤ 21 → Tw t (fun p => if p < k then joinF f g p else f p) (1 + k) M N → Wp mc_58 D 7 [vR t, vR o, vR q, vI k] [] N (fun r M1 => r = none ∧ Tw t (joinF f g) 30 M M1) := by
    intro n
    induction n with
    | zero =>
      intro k N hn hk hi
      obtain rfl : k = 21 := by omega
      have hfin : Tw t (joinF f g) 30 M N := (hi.cg fun p hp => if_pos hp).le (by omega)
      refine w_iload rfl rfl (w_iconst rfl ?_)
      refine w_icmp_ge (tgt := 37) rfl (by first | assumption | exact i32_0 | (unfold i32 at *; omega)) (by first | assumption | exact i32_0 | (unfold i32 at *; omega)) rfl (fun c10 => ?_) (fun c10 => ?_)
      · skip
        exact w_return rfl ⟨rfl, by exact hfin⟩
      · skip
        exfalso; omega
    | succ n ih =>
      intro k N hn hk hi
      have hk2 : k < 21 := by omega
      have hco : cur q g N := cur_fr hc2 (fun j => hi.2.2.2 (q + 1) (by omega) (by omega) j)
      have hstep : ∀ p, p ≠ k → (if p < k then joinF f g p else f p) = (if p < k + 1 then joinF f g p else f p) := fun p hne => by
        by_cases q2 : p < k
        · rw [if_pos q2, if_pos (by omega)]
        · rw [if_neg q2, if_neg (by omega)]
      have hmix : Cok 999 (fun p => if p < k then joinF f g p else f p) := fun p c h => by
        dsimp only at h
        by_cases q2 : p < k
        · rw [if_pos q2] at h; exact Cok_join hf hg p c h
        · rw [if_neg q2] at h; exact hf p c h
      cases hgk : g k with
      | none =>
        have ih2 := ih (k + 1) N (by omega) (by omega) ((hi.cg fun p hp => by
          by_cases e : p = k
          · subst e; rw [if_neg (by omega), if_pos (by omega)]; unfold joinF; rw [hgk]; cases f p <;> rfl
          · exact hstep p e).le (by omega))
        refine w_iload rfl rfl (w_iconst rfl ?_)
        refine w_icmp_ge (tgt := 37) rfl (by first | assumption | exact i32_0 | (unfold i32 at *; omega)) (by first | assumption | exact i32_0 | (unfold i32 at *; omega)) rfl (fun c10 => ?_) (fun c10 => ?_)
        · skip
          exfalso; omega
        · skip
          refine w_aload rfl rfl (w_iload rfl rfl ?_)
          refine w_call (Or.inr rfl) (e_has0 hq hco (by omega) hgk) (by omega) nof_30 rfl rfl rfl rfl (by first | rfl | (show cKB[_]? = _; assumption)) rfl ?_
          refine w_if_eq (tgt := 31) rfl (by first | assumption | exact i32_0 | (unfold i32 at *; omega)) rfl (fun _ => ?_) (fun c => absurd c (by decide))
          refine w_iinc (ls2 := [_, _, _, _]) rfl rfl rfl (w_goto (tgt := 7) rfl rfl ?_)
          exact ih2
      | some c =>
        have hcb := hg k c hgk
        refine w_iload rfl rfl (w_iconst rfl ?_)
        refine w_icmp_ge (tgt := 37) rfl (by first | assumption | exact i32_0 | (unfold i32 at *; omega)) (by first | assumption | exact i32_0 | (unfold i32 at *; omega)) rfl (fun c10 => ?_) (fun c10 => ?_)
        · skip
          exfalso; omega
        · skip
          refine w_aload rfl rfl (w_iload rfl rfl ?_)
          refine w_call (Or.inr rfl) (e_has1 hq hco (by decide) hg hgk) (by omega) nof_30 rfl rfl rfl rfl (by first | rfl | (show cKB[_]? = _; assumption)) rfl ?_
          refine w_if_eq (tgt := 31) rfl (by first | assumption | exact i32_0 | (unfold i32 at *; omega)) rfl (fun c => absurd c (by decide)) (fun _ => ?_)
          refine w_aload rfl rfl (w_iload rfl rfl (w_aload rfl rfl (w_iload rfl rfl ?_)))
          refine w_call (Or.inr rfl) (e_at_s hq hco hk2 hgk) (by omega) nof_31 rfl rfl rfl rfl (by first | rfl | (show cKB[_]? = _; assumption)) rfl ?_
          refine w_callQ (Or.inr rfl) (e_low (h := fun p => if p < k then joinF f g p else f p) ht hi.1 (by decide) hmix (by unfold i32; omega) hk2) (by omega) nof_29 rfl rfl rfl rfl (by first | rfl | (show cKB[_]? = _; assumption)) (fun r28 M28 hq28 => ?_)
          obtain ⟨rfl, q1, q2, q3, q4⟩ := hq28
          refine w_iinc (ls2 := [_, _, _, _]) rfl rfl rfl (w_goto (tgt := 7) rfl rfl ?_)
          refine ih (k + 1) _ (by omega) (by omega) ⟨fun p hp => ?_, ?_, ?_, fun a a1 a2 j => (q4 a a1 a2 j).trans (hi.2.2.2 a a1 a2 j)⟩
          · rw [q1 p hp, lowF_at]
            dsimp only
            by_cases e : p = k
            · subst e
              rw [if_pos rfl, if_neg (Nat.lt_irrefl p), if_pos (Nat.lt_succ_self p)]
              unfold joinF
              rw [hgk]
              cases f p <;> rfl
            · rw [if_neg e, hstep p e]
          · have := hi.2.1; omega
          · have := hi.2.2.1; omega
  refine w_aload rfl rfl (w_aload rfl rfl ?_)
  refine w_callQ (Or.inr rfl) (e_take ht ho hto hto2 hot hc) (by omega) nof_34 rfl rfl rfl rfl (by first | rfl | (show cKB[_]? = _; assumption)) (fun r2 M2 hq2 => ?_)
  obtain ⟨rfl, hw⟩ := hq2
  refine w_iconst rfl (w_istore (ls2 := [_, _, _, _]) rfl rfl rfl ?_)
  exact loop 21 0 _ rfl (by omega) (hw.cg fun p hp => (if_neg (by omega)).symm)
/-- the product, term by term; none where a sum is no place -/
def prB (g : Cv) (a : Nat) (ca : Int) (acc : Cv) : Nat → Option Cv
  | 0 => some acc
  | n + 1 => match prB g a ca acc n with
    | none => none
    | some h => match g n with
      | none => some h
      | some cb => if pi a + pi n + (pj a + pj n) ≤ 4 then some (lowF h (a + n) (ca + cb)) else none
def prA (f g : Cv) : Nat → Option Cv
  | 0 => some fun _ => none
  | n + 1 => match prA f g n with
    | none => none
    | some h => match f n with
      | none => some h
      | some ca => prB g n ca h 21
theorem pl_sum {a b : Nat} (ha : a < 21) (hb : b < 21) (h : pi a + pi b + (pj a + pj b) ≤ 4) : a + b < 21 ∧ (a + b) / 5 + (a + b) % 5 ≤ 4 := by
  unfold pi pj at h
  omega
theorem Cok_prB {f g : Cv} {a : Nat} {ca : Int} {acc : Cv} (hg : Cok 999 g) (ha : a < 21) (hca : -999 ≤ ca ∧ ca ≤ 999) (hacc : Cok 1998 acc) : ∀ (n : Nat) (h : Cv), n ≤ 21 → prB g a ca acc n = some h → Cok 1998 h
  | 0, h, _, e => by cases e; exact hacc
  | n + 1, h, hn, e => by
    unfold prB at e
    cases h1 : prB g a ca acc n with
    | none => rw [h1] at e; cases e
    | some h2 =>
      rw [h1] at e
      have ih := Cok_prB (f := f) hg ha hca hacc n h2 (by omega) h1
      dsimp only at e
      cases h3 : g n with
      | none => rw [h3] at e; cases e; exact ih
      | some cb =>
        rw [h3] at e
        dsimp only at e
        have := hg n cb h3
        split at e
        · next hp =>
          cases e
          have hs := pl_sum ha (by omega) hp
          exact Cok_low ih hs.1 hs.2 (by omega)
        · cases e
theorem Cok_prA {f g : Cv} (hf : Cok 999 f) (hg : Cok 999 g) : ∀ (n : Nat) (h : Cv), n ≤ 21 → prA f g n = some h → Cok 1998 h
  | 0, h, _, e => by cases e; intro p c hp; cases hp
  | n + 1, h, hn, e => by
    unfold prA at e
    cases h1 : prA f g n with
    | none => rw [h1] at e; cases e
    | some h2 =>
      rw [h1] at e
      have ih := Cok_prA hf hg n h2 (by omega) h1
      dsimp only at e
      cases h3 : f n with
      | none => rw [h3] at e; cases e; exact ih
      | some ca =>
        rw [h3] at e
        exact Cok_prB (f := f) hg (by omega) (hf n ca h3).2.2 ih 21 h (by omega) e
theorem prB_none {g : Cv} {a : Nat} {ca : Int} {acc : Cv} {n : Nat} (h : prB g a ca acc n = none) : ∀ m, prB g a ca acc (n + m) = none
  | 0 => h
  | m + 1 => by rw [← Nat.add_assoc, prB, prB_none h m]
theorem prA_none {f g : Cv} {n : Nat} (h : prA f g n = none) : ∀ m, prA f g (n + m) = none
  | 0 => h
  | m + 1 => by rw [← Nat.add_assoc, prA, prA_none h m]
theorem e_product {t o q : Nat} {f g : Cv} {M : mM} (ht : isT t) (ho : isT o) (hq : isT q) (hto : t ≠ o) (hto2 : t ≠ o + 1) (hot : o ≠ t + 1) (htq : t ≠ q) (htq2 : t ≠ q + 1) (hqt : q ≠ t + 1) (hc : cur o f M) (hc2 : cur q g M) (hf : Cok 999 f) (hg : Cok 999 g) :
    EQ 4 60 [vR t, vR o, vR q] M (fun r M1 => (match prA f g 21 with
      | none => r = some (vI 0)
      | some h => r = some (vI 1) ∧ cur t h M1) ∧ ∀ a, a ≠ t → a ≠ t + 1 → ∀ k, M1 a k = M a k) := by
  obtain ⟨ht1, ht2, ht3⟩ := id ht
  have ho1 := ho.1
  have hq1 := hq.1
  refine q_in (ls := [vR t, vR o, vR q, vN, vN]) mq_60 (ml_60 rfl) rfl fun D hD => ?_
  generalize hQ : (fun (r : Option mV) (M1 : mM) => (match prA f g 21 with
      | none => r = some (vI 0)
      | some h => r = some (vI 1) ∧ cur t h M1) ∧ ∀ a, a ≠ t → a ≠ t + 1 → ∀ k, M1 a k = M a k) = Q
  have hfin0 : ∀ N : mM, prA f g 21 = none → (∀ a, a ≠ t → a ≠ t + 1 → ∀ k, N a k = M a k) → Q (some (vI 0)) N := fun N h1 h2 => by
    subst hQ; rw [h1]; exact ⟨rfl, h2⟩
  have hfin1 : ∀ (N : mM) (h : Cv), prA f g 21 = some h → cur t h N → (∀ a, a ≠ t → a ≠ t + 1 → ∀ k, N a k = M a k) → Q (some (vI 1)) N := fun N h h1 h2 h3 => by
    subst hQ; rw [h1]; exact ⟨⟨rfl, h2⟩, h3⟩
  have inner : ∀ (a : Nat) (ca : Int) (h0 : Cv), a < 21 → f a = some ca → prA f g a = some h0 → (∀ (N : mM) (h : Cv) (v4 : mV), prB g a ca h0 21 = some h → cur t h N → (∀ x, x ≠ t → x ≠ t + 1 → ∀ k, N x k = M x k) → Wp mc_60 D 89 [vR t, vR o, vR q, vI a, v4] [] N Q) → ∀ (m b : Nat) (N : mM) (h : Cv), 21 - b = m → b ≤ 21 → prB g a ca h0 b = some h → cur t h N → (∀ x, x ≠ t → x ≠ t + 1 → ∀ k, N x k = M x k) → Wp mc_60 D 15 [vR t, vR o, vR q, vI a, vI b] [] N Q := by
    intro a ca h0 ha hfa hpa hout m
    have a1 := hf a ca hfa
    induction m with
    | zero =>
      intro b N h hm hb hp hcu hfr
      obtain rfl : b = 21 := by omega
      refine w_iload rfl rfl (w_iconst rfl ?_)
      refine w_icmp_ge (tgt := 89) rfl (by first | assumption | exact i32_0 | (unfold i32 at *; omega)) (by first | assumption | exact i32_0 | (unfold i32 at *; omega)) rfl (fun c19 => ?_) (fun c19 => ?_)
      · skip
        exact hout N h _ hp hcu hfr
      · skip
        exfalso; omega
    | succ m ih =>
      intro b N h hm hb hp hcu hfr
      have hb2 : b < 21 := by omega
      have hco : cur o f N := cur_fr hc (fun j => hfr (o + 1) (by omega) (by omega) j)
      have hcq : cur q g N := cur_fr hc2 (fun j => hfr (q + 1) (by omega) (by omega) j)
      cases hgb : g b with
      | none =>
        have ih2 := ih (b + 1) N h (by omega) (by omega) (by rw [prB, hp, hgb]) hcu hfr
        refine w_iload rfl rfl (w_iconst rfl ?_)
        refine w_icmp_ge (tgt := 89) rfl (by first | assumption | exact i32_0 | (unfold i32 at *; omega)) (by first | assumption | exact i32_0 | (unfold i32 at *; omega)) rfl (fun c19 => ?_) (fun c19 => ?_)
        · skip
          exfalso; omega
        · skip
          refine w_aload rfl rfl (w_iload rfl rfl ?_)
          refine w_call (Or.inr rfl) (e_has1 ho hco (by decide) hf hfa) (by omega) nof_30 rfl rfl rfl rfl (by first | rfl | (show cKB[_]? = _; assumption)) rfl ?_
          refine w_if_eq (tgt := 83) rfl (by first | assumption | exact i32_0 | (unfold i32 at *; omega)) rfl (fun c => absurd c (by decide)) (fun _ => ?_)
          refine w_aload rfl rfl (w_iload rfl rfl ?_)
          refine w_call (Or.inr rfl) (e_has0 hq hcq (by omega) hgb) (by omega) nof_30 rfl rfl rfl rfl (by first | rfl | (show cKB[_]? = _; assumption)) rfl ?_
          refine w_if_eq (tgt := 83) rfl (by first | assumption | exact i32_0 | (unfold i32 at *; omega)) rfl (fun _ => ?_) (fun c => absurd c (by decide))
          refine w_iinc (ls2 := [_, _, _, _, _]) rfl rfl rfl (w_goto (tgt := 15) rfl rfl ?_)
          exact ih2
      | some cb =>
        have b1 := hg b cb hgb
        have hpi := pi_le (p := a) (by omega); have hpj := pj_le a; have hqi := pi_le (p := b) (by omega); have hqj := pj_le b
        have hh := Cok_prB (f := f) hg ha a1.2.2 (Cok_prA hf hg a h0 (by omega) hpa) b h (by omega) hp
        have hpl := e_isPlace (pi a + pi b) (pj a + pj b) N (by unfold i32; omega) (by unfold i32; omega)
        by_cases hs : pi a + pi b + (pj a + pj b) ≤ 4
        · rw [if_pos ⟨by omega, by omega, by omega, by omega⟩] at hpl
          have hs2 := pl_sum ha hb2 hs
          refine w_iload rfl rfl (w_iconst rfl ?_)
          refine w_icmp_ge (tgt := 89) rfl (by first | assumption | exact i32_0 | (unfold i32 at *; omega)) (by first | assumption | exact i32_0 | (unfold i32 at *; omega)) rfl (fun c19 => ?_) (fun c19 => ?_)
          · skip
            exfalso; omega
          · skip
            refine w_aload rfl rfl (w_iload rfl rfl ?_)
            refine w_call (Or.inr rfl) (e_has1 ho hco (by decide) hf hfa) (by omega) nof_30 rfl rfl rfl rfl (by first | rfl | (show cKB[_]? = _; assumption)) rfl ?_
            refine w_if_eq (tgt := 83) rfl (by first | assumption | exact i32_0 | (unfold i32 at *; omega)) rfl (fun c => absurd c (by decide)) (fun _ => ?_)
            refine w_aload rfl rfl (w_iload rfl rfl ?_)
            refine w_call (Or.inr rfl) (e_has1 hq hcq (by decide) hg hgb) (by omega) nof_30 rfl rfl rfl rfl (by first | rfl | (show cKB[_]? = _; assumption)) rfl ?_
            refine w_if_eq (tgt := 83) rfl (by first | assumption | exact i32_0 | (unfold i32 at *; omega)) rfl (fun c => absurd c (by decide)) (fun _ => ?_)
            refine w_iload rfl rfl (w_iconst rfl (w_idiv rfl (by first | assumption | exact i32_0 | (unfold i32 at *; omega)) (by first | assumption | exact i32_0 | (unfold i32 at *; omega)) (by first | decide | omega | assumption) (w_iload rfl rfl (w_iconst rfl (w_idiv rfl (by first | assumption | exact i32_0 | (unfold i32 at *; omega)) (by first | assumption | exact i32_0 | (unfold i32 at *; omega)) (by first | decide | omega | assumption) (w_iadd rfl (w_iload rfl rfl ?_)))))))
            refine w_iconst rfl (w_irem rfl (by first | assumption | exact i32_0 | (unfold i32 at *; omega)) (by first | assumption | exact i32_0 | (unfold i32 at *; omega)) (by first | decide | omega | assumption) (w_iload rfl rfl (w_iconst rfl (w_irem rfl (by first | assumption | exact i32_0 | (unfold i32 at *; omega)) (by first | assumption | exact i32_0 | (unfold i32 at *; omega)) (by first | decide | omega | assumption) (w_iadd rfl ?_)))))
            refine w_call (Or.inl rfl) (hpl) (by omega) nof_38 rfl rfl rfl rfl trivial rfl ?_
            refine w_if_ne (tgt := 63) rfl (by first | assumption | exact i32_0 | (unfold i32 at *; omega)) rfl (fun _ => ?_) (fun c => absurd c (by decide))
            refine w_aload rfl rfl (w_iload rfl rfl (w_iload rfl rfl (w_iadd rfl (w_aload rfl rfl (w_iload rfl rfl ?_)))))
            refine w_call (Or.inr rfl) (e_at_s ho hco ha hfa) (by omega) nof_31 rfl rfl rfl rfl (by first | rfl | (show cKB[_]? = _; assumption)) rfl ?_
            refine w_aload rfl rfl (w_iload rfl rfl ?_)
            refine w_call (Or.inr rfl) (e_at_s hq hcq hb2 hgb) (by omega) nof_31 rfl rfl rfl rfl (by first | rfl | (show cKB[_]? = _; assumption)) rfl ?_
            refine w_iadd rfl ?_
            refine w_callQ (Or.inr rfl) (e_low (p := a + b) ht hcu (by decide) hh (by unfold i32; omega) hs2.1) (by omega) nof_29 rfl rfl rfl rfl (by first | rfl | (show cKB[_]? = _; assumption)) (fun r80 M80 hq80 => ?_)
            obtain ⟨rfl, q1, q2, q3, q4⟩ := hq80
            refine w_iinc (ls2 := [_, _, _, _, _]) rfl rfl rfl (w_goto (tgt := 15) rfl rfl ?_)
            exact ih (b + 1) _ (lowF h (a + b) (ca + cb)) (by omega) (by omega) (by rw [prB, hp, hgb]; exact if_pos hs) q1 (fun x x1 x2 j => (q4 x x1 x2 j).trans (hfr x x1 x2 j))
        · rw [if_neg (fun z => hs (by omega))] at hpl
          have hnone : prA f g 21 = none := by
            have e1 : prB g a ca h0 (b + 1) = none := by rw [prB, hp, hgb]; exact if_neg hs
            have e2 := prB_none e1 (21 - (b + 1))
            rw [show b + 1 + (21 - (b + 1)) = 21 by omega] at e2
            have e3 : prA f g (a + 1) = none := by rw [prA, hpa, hfa]; exact e2
            have e4 := prA_none e3 (21 - (a + 1))
            rwa [show a + 1 + (21 - (a + 1)) = 21 by omega] at e4
          refine w_iload rfl rfl (w_iconst rfl ?_)
          refine w_icmp_ge (tgt := 89) rfl (by first | assumption | exact i32_0 | (unfold i32 at *; omega)) (by first | assumption | exact i32_0 | (unfold i32 at *; omega)) rfl (fun c19 => ?_) (fun c19 => ?_)
          · skip
            exfalso; omega
          · skip
            refine w_aload rfl rfl (w_iload rfl rfl ?_)
            refine w_call (Or.inr rfl) (e_has1 ho hco (by decide) hf hfa) (by omega) nof_30 rfl rfl rfl rfl (by first | rfl | (show cKB[_]? = _; assumption)) rfl ?_
            refine w_if_eq (tgt := 83) rfl (by first | assumption | exact i32_0 | (unfold i32 at *; omega)) rfl (fun c => absurd c (by decide)) (fun _ => ?_)
            refine w_aload rfl rfl (w_iload rfl rfl ?_)
            refine w_call (Or.inr rfl) (e_has1 hq hcq (by decide) hg hgb) (by omega) nof_30 rfl rfl rfl rfl (by first | rfl | (show cKB[_]? = _; assumption)) rfl ?_
            refine w_if_eq (tgt := 83) rfl (by first | assumption | exact i32_0 | (unfold i32 at *; omega)) rfl (fun c => absurd c (by decide)) (fun _ => ?_)
            refine w_iload rfl rfl (w_iconst rfl (w_idiv rfl (by first | assumption | exact i32_0 | (unfold i32 at *; omega)) (by first | assumption | exact i32_0 | (unfold i32 at *; omega)) (by first | decide | omega | assumption) (w_iload rfl rfl (w_iconst rfl (w_idiv rfl (by first | assumption | exact i32_0 | (unfold i32 at *; omega)) (by first | assumption | exact i32_0 | (unfold i32 at *; omega)) (by first | decide | omega | assumption) (w_iadd rfl (w_iload rfl rfl ?_)))))))
            refine w_iconst rfl (w_irem rfl (by first | assumption | exact i32_0 | (unfold i32 at *; omega)) (by first | assumption | exact i32_0 | (unfold i32 at *; omega)) (by first | decide | omega | assumption) (w_iload rfl rfl (w_iconst rfl (w_irem rfl (by first | assumption | exact i32_0 | (unfold i32 at *; omega)) (by first | assumption | exact i32_0 | (unfold i32 at *; omega)) (by first | decide | omega | assumption) (w_iadd rfl ?_)))))
            refine w_call (Or.inl rfl) (hpl) (by omega) nof_38 rfl rfl rfl rfl trivial rfl ?_
            refine w_if_ne (tgt := 63) rfl (by first | assumption | exact i32_0 | (unfold i32 at *; omega)) rfl (fun c => absurd c (by decide)) (fun _ => ?_)
            refine w_iconst rfl ?_
            exact w_zreturn rfl (Or.inl rfl) (hfin0 N hnone hfr)
  have none_b : ∀ (a : Nat) (h0 : Cv), a < 21 → f a = none → (∀ (N : mM) (v4 : mV), cur t h0 N → (∀ x, x ≠ t → x ≠ t + 1 → ∀ k, N x k = M x k) → Wp mc_60 D 89 [vR t, vR o, vR q, vI a, v4] [] N Q) → ∀ (m b : Nat) (N : mM), 21 - b = m → b ≤ 21 → cur t h0 N → (∀ x, x ≠ t → x ≠ t + 1 → ∀ k, N x k = M x k) → Wp mc_60 D 15 [vR t, vR o, vR q, vI a, vI b] [] N Q := by
    intro a h0 ha hfa hout m
    induction m with
    | zero =>
      intro b N hm hb hcu hfr
      obtain rfl : b = 21 := by omega
      refine w_iload rfl rfl (w_iconst rfl ?_)
      refine w_icmp_ge (tgt := 89) rfl (by first | assumption | exact i32_0 | (unfold i32 at *; omega)) (by first | assumption | exact i32_0 | (unfold i32 at *; omega)) rfl (fun c19 => ?_) (fun c19 => ?_)
      · skip
        exact hout N _ hcu hfr
      · skip
        exfalso; omega
    | succ m ih =>
      intro b N hm hb hcu hfr
      have hco : cur o f N := cur_fr hc (fun j => hfr (o + 1) (by omega) (by omega) j)
      have ih2 := ih (b + 1) N (by omega) (by omega) hcu hfr
      refine w_iload rfl rfl (w_iconst rfl ?_)
      refine w_icmp_ge (tgt := 89) rfl (by first | assumption | exact i32_0 | (unfold i32 at *; omega)) (by first | assumption | exact i32_0 | (unfold i32 at *; omega)) rfl (fun c19 => ?_) (fun c19 => ?_)
      · skip
        exfalso; omega
      · skip
        refine w_aload rfl rfl (w_iload rfl rfl ?_)
        refine w_call (Or.inr rfl) (e_has0 ho hco (by omega) hfa) (by omega) nof_30 rfl rfl rfl rfl (by first | rfl | (show cKB[_]? = _; assumption)) rfl ?_
        refine w_if_eq (tgt := 83) rfl (by first | assumption | exact i32_0 | (unfold i32 at *; omega)) rfl (fun _ => ?_) (fun c => absurd c (by decide))
        refine w_iinc (ls2 := [_, _, _, _, _]) rfl rfl rfl (w_goto (tgt := 15) rfl rfl ?_)
        exact ih2
  have outer : ∀ (m a : Nat) (N : mM) (h : Cv) (v4 : mV), 21 - a = m → a ≤ 21 → prA f g a = some h → cur t h N → (∀ x, x ≠ t → x ≠ t + 1 → ∀ k, N x k = M x k) → Wp mc_60 D 6 [vR t, vR o, vR q, vI a, v4] [] N Q := by
    intro m
    induction m with
    | zero =>
      intro a N h v4 hm ha hp hcu hfr
      obtain rfl : a = 21 := by omega
      refine w_iload rfl rfl (w_iconst rfl ?_)
      refine w_icmp_ge (tgt := 95) rfl (by first | assumption | exact i32_0 | (unfold i32 at *; omega)) (by first | assumption | exact i32_0 | (unfold i32 at *; omega)) rfl (fun c9 => ?_) (fun c9 => ?_)
      · skip
        refine w_iconst rfl ?_
        exact w_zreturn rfl (Or.inr rfl) (hfin1 N h hp hcu hfr)
      · skip
        exfalso; omega
    | succ m ih =>
      intro a N h v4 hm ha hp hcu hfr
      cases hfa : f a with
      | none =>
        have hb := none_b a h (by omega) hfa (fun N v4 h1 h2 => by
          have ih2 := ih (a + 1) N h v4 (by omega) (by omega) (by rw [prA, hp, hfa]) h1 h2
          refine w_iinc (ls2 := [_, _, _, _, _]) rfl rfl rfl (w_goto (tgt := 6) rfl rfl ?_)
          exact ih2) 21 0 N rfl (by omega) hcu hfr
        refine w_iload rfl rfl (w_iconst rfl ?_)
        refine w_icmp_ge (tgt := 95) rfl (by first | assumption | exact i32_0 | (unfold i32 at *; omega)) (by first | assumption | exact i32_0 | (unfold i32 at *; omega)) rfl (fun c9 => ?_) (fun c9 => ?_)
        · skip
          exfalso; omega
        · skip
          refine w_iconst rfl (w_istore (ls2 := [_, _, _, _, _]) rfl rfl rfl ?_)
          exact hb
      | some ca =>
        have hb := inner a ca h (by omega) hfa hp (fun N h2 v4 h1 h3 h4 => by
          have ih2 := ih (a + 1) N h2 v4 (by omega) (by omega) (by rw [prA, hp, hfa]; exact h1) h3 h4
          refine w_iinc (ls2 := [_, _, _, _, _]) rfl rfl rfl (w_goto (tgt := 6) rfl rfl ?_)
          exact ih2) 21 0 N h rfl (by omega) rfl hcu hfr
        refine w_iload rfl rfl (w_iconst rfl ?_)
        refine w_icmp_ge (tgt := 95) rfl (by first | assumption | exact i32_0 | (unfold i32 at *; omega)) (by first | assumption | exact i32_0 | (unfold i32 at *; omega)) rfl (fun c9 => ?_) (fun c9 => ?_)
        · skip
          exfalso; omega
        · skip
          refine w_iconst rfl (w_istore (ls2 := [_, _, _, _, _]) rfl rfl rfl ?_)
          exact hb
  refine w_aload rfl rfl ?_
  refine w_callQ (Or.inr rfl) (e_clear ht) (by omega) nof_5 rfl rfl rfl rfl (by first | rfl | (show cKB[_]? = _; assumption)) (fun r1 M1 hq1 => ?_)
  obtain ⟨rfl, hw⟩ := hq1
  refine w_iconst rfl (w_istore (ls2 := [_, _, _, _, _]) rfl rfl rfl ?_)
  exact outer 21 0 _ (fun _ => none) _ rfl (by omega) rfl hw.1 hw.2.2.2
