/-! ===== how high a term may stand ===== -/
theorem ediv_le {x y B : Int} (hy : 0 < y) (hx : -B ≤ x ∧ x ≤ B) : -B ≤ x / y ∧ x / y ≤ B := by
  have hB : 0 ≤ B := by omega
  have h1 : B * 1 ≤ B * y := Int.mul_le_mul_of_nonneg_left (by omega) hB
  constructor
  · apply Int.le_ediv_of_mul_le hy
    rw [Int.neg_mul]; omega
  · have : x / y < B + 1 := Int.ediv_lt_of_lt_mul hy (by rw [Int.add_mul]; omega)
    omega
theorem segF_le {p a b : Nat} {ca cb : Int} (hp : p < 25) (ha : a < 25) (hb : b < 25) (h1 : -999 ≤ ca ∧ ca ≤ 999) (h2 : -999 ≤ cb ∧ cb ≤ 999) : -100000 ≤ segF p a b ca cb ∧ segF p a b ca cb ≤ 100000 := by
  unfold segF
  split
  · next h =>
    have m1 := mul_le (d := ca) (c := (b : Int) - (p : Int)) (A := 999) (B := 30) h1 (by omega)
    have m2 := mul_le (d := cb) (c := (p : Int) - (a : Int)) (A := 999) (B := 30) h2 (by omega)
    have := ediv_le (x := ca * ((b : Int) - (p : Int)) + cb * ((p : Int) - (a : Int)) - 1) (y := (b : Int) - (a : Int)) (B := 100000) (by omega) (by omega)
    exact this
  · omega
theorem triF_le {p a b e : Nat} {ca cb ce : Int} (hp : p < 25) (ha : a < 25) (hb : b < 25) (he : e < 25) (h1 : -999 ≤ ca ∧ ca ≤ 999) (h2 : -999 ≤ cb ∧ cb ≤ 999) (h3 : -999 ≤ ce ∧ ce ≤ 999) : -1000000 ≤ triF p a b e ca cb ce ∧ triF p a b e ca cb ce ≤ 1000000 := by
  have w1 := turn_le a ha b hb e he
  have w2 := turn_le p hp b hb e he
  have w3 := turn_le a ha p hp e he
  have w4 := turn_le a ha b hb p hp
  unfold triF
  dsimp only
  generalize turn a b e = W at *
  generalize turn p b e = A at *
  generalize turn a p e = B at *
  generalize turn a b p = C at *
  by_cases hw : W < 0
  · rw [if_pos hw]
    split
    · omega
    · have m1 := mul_le (d := ca) (c := -1 * A) (A := 999) (B := 64) h1 (by omega)
      have m2 := mul_le (d := cb) (c := -1 * B) (A := 999) (B := 64) h2 (by omega)
      have m3 := mul_le (d := ce) (c := -1 * C) (A := 999) (B := 64) h3 (by omega)
      exact ediv_le (by omega) (by omega)
  · rw [if_neg hw]
    split
    · omega
    · have m1 := mul_le (d := ca) (c := 1 * A) (A := 999) (B := 64) h1 (by omega)
      have m2 := mul_le (d := cb) (c := 1 * B) (A := 999) (B := 64) h2 (by omega)
      have m3 := mul_le (d := ce) (c := 1 * C) (A := 999) (B := 64) h3 (by omega)
      exact ediv_le (by omega) (by omega)
/-- over the third places b + 1 .. b + n -/
def hiD (f : Cv) (p a b : Nat) (ca cb : Int) (acc : Int) : Nat → Int
  | 0 => acc
  | n + 1 => match f (b + 1 + n) with
    | none => hiD f p a b ca cb acc n
    | some ce => if b + 1 + n = p then hiD f p a b ca cb acc n else min (hiD f p a b ca cb acc n) (triF p a b (b + 1 + n) ca cb ce)
def hiB (f : Cv) (p a : Nat) (ca : Int) (acc : Int) : Nat → Int
  | 0 => acc
  | n + 1 => match f (a + 1 + n) with
    | none => hiB f p a ca acc n
    | some cb => if a + 1 + n = p then hiB f p a ca acc n else hiD f p a (a + 1 + n) ca cb (min (hiB f p a ca acc n) (segF p a (a + 1 + n) ca cb)) (20 - (a + 1 + n))
def hiA (f : Cv) (p : Nat) : Nat → Int
  | 0 => 999
  | n + 1 => match f n with
    | none => hiA f p n
    | some ca => if n = p then hiA f p n else hiB f p n ca (hiA f p n) (20 - n)
theorem hiD_le {f : Cv} {p a b : Nat} {ca cb acc : Int} (hf : Cok 999 f) (hp : p < 25) (ha : a < 21) (hb : b < 21) (h1 : -999 ≤ ca ∧ ca ≤ 999) (h2 : -999 ≤ cb ∧ cb ≤ 999) (h0 : -1000000 ≤ acc ∧ acc ≤ 999) : ∀ n, -1000000 ≤ hiD f p a b ca cb acc n ∧ hiD f p a b ca cb acc n ≤ 999
  | 0 => h0
  | n + 1 => by
    have ih := hiD_le (acc := acc) hf hp ha hb h1 h2 h0 n
    unfold hiD
    cases hfe : f (b + 1 + n) with
    | none => exact ih
    | some ce =>
      have := hf _ _ hfe
      have h3 := triF_le (ca := ca) (cb := cb) (ce := ce) hp (a := a) (b := b) (e := b + 1 + n) (by omega) (by omega) (by omega) h1 h2 this.2.2
      dsimp only
      split <;> omega
theorem hiB_le {f : Cv} {p a : Nat} {ca acc : Int} (hf : Cok 999 f) (hp : p < 25) (ha : a < 21) (h1 : -999 ≤ ca ∧ ca ≤ 999) (h0 : -1000000 ≤ acc ∧ acc ≤ 999) : ∀ n, -1000000 ≤ hiB f p a ca acc n ∧ hiB f p a ca acc n ≤ 999
  | 0 => h0
  | n + 1 => by
    have ih := hiB_le (acc := acc) hf hp ha h1 h0 n
    unfold hiB
    cases hfb : f (a + 1 + n) with
    | none => exact ih
    | some cb =>
      have := hf _ _ hfb
      have h3 := segF_le (ca := ca) (cb := cb) hp (a := a) (b := a + 1 + n) (by omega) (by omega) h1 this.2.2
      dsimp only
      split
      · exact ih
      · exact hiD_le hf hp ha this.1 h1 this.2.2 (by omega) _
theorem hiA_le {f : Cv} {p : Nat} (hf : Cok 999 f) (hp : p < 25) : ∀ n, -1000000 ≤ hiA f p n ∧ hiA f p n ≤ 999
  | 0 => by simp [hiA]
  | n + 1 => by
    have ih := hiA_le hf hp n
    unfold hiA
    cases hfa : f n with
    | none => exact ih
    | some ca =>
      have := hf _ _ hfa
      dsimp only
      split
      · exact ih
      · exact hiB_le hf hp this.1 this.2.2 ih _
theorem e_highest {t p : Nat} {f : Cv} {M : mM} (ht : isT t) (hc : cur t f M) (hf : Cok 999 f) (hp : p < 25) : E 4 114 [vR t, vI p] M (some (vI (hiA f p 21))) M := by
  have ht1 := ht.1
  refine e_in (ls := [vR t, vI p, vN, vN, vN, vN]) mq_114 (ml_114 rfl) rfl fun D hD => ?_
  have loopD : ∀ (a b : Nat) (ca cb acc : Int), f a = some ca → f b = some cb → a < b → -1000000 ≤ acc ∧ acc ≤ 999 → (∀ v5, Wp mc_114 D 114 [vR t, vI p, vI (hiD f p a b ca cb acc (20 - b)), vI a, vI b, v5] [] M (fun r1 M2 => r1 = some (vI (hiA f p 21)) ∧ M2 = M)) → ∀ (m n : Nat), 20 - b - n = m → n ≤ 20 - b → Wp mc_114 D 71 [vR t, vI p, vI (hiD f p a b ca cb acc n), vI a, vI b, vI ((b : Int) + 1 + (n : Int))] [] M (fun r1 M2 => r1 = some (vI (hiA f p 21)) ∧ M2 = M) := by
    intro a b ca cb acc ha hb hab h0 hout m
    have a1 := hf a ca ha
    have b1 := hf b cb hb
    induction m with
    | zero =>
      intro n hm hn
      obtain rfl : n = 20 - b := by omega
      refine w_iload rfl rfl (w_iconst rfl ?_)
      refine w_icmp_ge (tgt := 114) rfl (by first | assumption | exact i32_0 | (unfold i32 at *; omega)) (by first | assumption | exact i32_0 | (unfold i32 at *; omega)) rfl (fun c75 => ?_) (fun c75 => ?_)
      · skip
        exact hout _
      · skip
        exfalso; omega
    | succ m ih =>
      intro n hm hn
      have ihn := ih (n + 1) (by omega) (by omega)
      have hv : (b : Int) + 1 + (n : Int) = ((b + 1 + n : Nat) : Int) := by omega
      have hl := hiD_le (acc := acc) hf hp a1.1 b1.1 a1.2.2 b1.2.2 h0 n
      rw [show (b : Int) + 1 + ((n + 1 : Nat) : Int) = ((b + 1 + n : Nat) : Int) + 1 by omega] at ihn
      rw [hv]
      cases hfe : f (b + 1 + n) with
      | none =>
        have e : hiD f p a b ca cb acc (n + 1) = hiD f p a b ca cb acc n := by rw [hiD, hfe]
        rw [e] at ihn
        refine w_iload rfl rfl (w_iconst rfl ?_)
        refine w_icmp_ge (tgt := 114) rfl (by first | assumption | exact i32_0 | (unfold i32 at *; omega)) (by first | assumption | exact i32_0 | (unfold i32 at *; omega)) rfl (fun c75 => ?_) (fun c75 => ?_)
        · skip
          exfalso; omega
        · skip
          refine w_iload rfl rfl (w_iload rfl rfl ?_)
          refine w_icmp_eq (tgt := 108) rfl (by first | assumption | exact i32_0 | (unfold i32 at *; omega)) (by first | assumption | exact i32_0 | (unfold i32 at *; omega)) rfl (fun c81 => ?_) (fun c81 => ?_)
          · skip
            refine w_iinc (ls2 := [_, _, _, _, _, _]) rfl rfl rfl (w_goto (tgt := 71) rfl rfl ?_)
            exact ihn
          · skip
            refine w_aload rfl rfl (w_iload rfl rfl ?_)
            refine w_call (Or.inr rfl) (e_has0 ht hc (by omega) hfe) (by omega) nof_30 rfl rfl rfl rfl (by first | rfl | (show cKB[_]? = _; assumption)) rfl ?_
            refine w_if_eq (tgt := 108) rfl (by first | assumption | exact i32_0 | (unfold i32 at *; omega)) rfl (fun _ => ?_) (fun c => absurd c (by decide))
            refine w_iinc (ls2 := [_, _, _, _, _, _]) rfl rfl rfl (w_goto (tgt := 71) rfl rfl ?_)
            exact ihn
      | some ce =>
        have c1 := hf _ _ hfe
        by_cases hq : b + 1 + n = p
        · have e : hiD f p a b ca cb acc (n + 1) = hiD f p a b ca cb acc n := by rw [hiD, hfe]; exact if_pos hq
          rw [e] at ihn
          refine w_iload rfl rfl (w_iconst rfl ?_)
          refine w_icmp_ge (tgt := 114) rfl (by first | assumption | exact i32_0 | (unfold i32 at *; omega)) (by first | assumption | exact i32_0 | (unfold i32 at *; omega)) rfl (fun c75 => ?_) (fun c75 => ?_)
          · skip
            exfalso; omega
          · skip
            refine w_iload rfl rfl (w_iload rfl rfl ?_)
            refine w_icmp_eq (tgt := 108) rfl (by first | assumption | exact i32_0 | (unfold i32 at *; omega)) (by first | assumption | exact i32_0 | (unfold i32 at *; omega)) rfl (fun c81 => ?_) (fun c81 => ?_)
            · skip
              refine w_iinc (ls2 := [_, _, _, _, _, _]) rfl rfl rfl (w_goto (tgt := 71) rfl rfl ?_)
              exact ihn
            · skip
              exfalso; omega
        · have e : hiD f p a b ca cb acc (n + 1) = min (hiD f p a b ca cb acc n) (triF p a b (b + 1 + n) ca cb ce) := by rw [hiD, hfe]; exact if_neg hq
          rw [e] at ihn
          have h3 := triF_le (ca := ca) (cb := cb) (ce := ce) hp (a := a) (b := b) (e := b + 1 + n) (by omega) (by omega) (by omega) a1.2.2 b1.2.2 c1.2.2
          refine w_iload rfl rfl (w_iconst rfl ?_)
          refine w_icmp_ge (tgt := 114) rfl (by first | assumption | exact i32_0 | (unfold i32 at *; omega)) (by first | assumption | exact i32_0 | (unfold i32 at *; omega)) rfl (fun c75 => ?_) (fun c75 => ?_)
          · skip
            exfalso; omega
          · skip
            refine w_iload rfl rfl (w_iload rfl rfl ?_)
            refine w_icmp_eq (tgt := 108) rfl (by first | assumption | exact i32_0 | (unfold i32 at *; omega)) (by first | assumption | exact i32_0 | (unfold i32 at *; omega)) rfl (fun c81 => ?_) (fun c81 => ?_)
            · skip
              refine w_iinc (ls2 := [_, _, _, _, _, _]) rfl rfl rfl (w_goto (tgt := 71) rfl rfl ?_)
              first | exact ihn | (exfalso; omega)
            · skip
              refine w_aload rfl rfl (w_iload rfl rfl ?_)
              refine w_call (Or.inr rfl) (e_has1 ht hc (by decide) hf hfe) (by omega) nof_30 rfl rfl rfl rfl (by first | rfl | (show cKB[_]? = _; assumption)) rfl ?_
              refine w_if_eq (tgt := 108) rfl (by first | assumption | exact i32_0 | (unfold i32 at *; omega)) rfl (fun c => absurd c (by decide)) (fun _ => ?_)
              refine w_iload rfl rfl (w_aload rfl rfl (w_iload rfl rfl (w_iload rfl rfl (w_iload rfl rfl (w_iload rfl rfl ?_)))))
              refine w_call (Or.inr rfl) (e_triF ht hc hf hp ha hb hfe) (by omega) nof_118 rfl rfl rfl rfl (by first | rfl | (show cKB[_]? = _; assumption)) rfl ?_
              refine w_call (Or.inl rfl) (e_min _ _ M (by unfold i32; omega) (by unfold i32; omega)) (by omega) nof_46 rfl rfl rfl rfl trivial rfl ?_
              refine w_istore (ls2 := [_, _, _, _, _, _]) rfl rfl rfl (w_iinc (ls2 := [_, _, _, _, _, _]) rfl rfl rfl (w_goto (tgt := 71) rfl rfl ?_))
              first | exact ihn | (exfalso; omega)
  have loopB : ∀ (a : Nat) (acc : Int), a < 21 → -1000000 ≤ acc ∧ acc ≤ 999 → (∀ v4 v5, Wp mc_114 D 120 [vR t, vI p, vI (match f a with
      | none => acc
      | some ca => if a = p then acc else hiB f p a ca acc (20 - a)), vI a, v4, v5] [] M (fun r1 M2 => r1 = some (vI (hiA f p 21)) ∧ M2 = M)) → ∀ (m n : Nat) (v5 : mV), 20 - a - n = m → n ≤ 20 - a → Wp mc_114 D 17 [vR t, vI p, vI (match f a with
      | none => acc
      | some ca => if a = p then acc else hiB f p a ca acc n), vI a, vI ((a : Int) + 1 + (n : Int)), v5] [] M (fun r1 M2 => r1 = some (vI (hiA f p 21)) ∧ M2 = M) := by
    intro a acc ha21 h0 hout m
    induction m with
    | zero =>
      intro n v5 hm hn
      obtain rfl : n = 20 - a := by omega
      refine w_iload rfl rfl (w_iconst rfl ?_)
      refine w_icmp_ge (tgt := 120) rfl (by first | assumption | exact i32_0 | (unfold i32 at *; omega)) (by first | assumption | exact i32_0 | (unfold i32 at *; omega)) rfl (fun c21 => ?_) (fun c21 => ?_)
      · skip
        exact hout _ _
      · skip
        exfalso; omega
    | succ m ih =>
      intro n v5 hm hn
      have ihn := fun v5 => ih (n + 1) v5 (by omega) (by omega)
      have hv : (a : Int) + 1 + (n : Int) = ((a + 1 + n : Nat) : Int) := by omega
      rw [show (a : Int) + 1 + ((n + 1 : Nat) : Int) = ((a + 1 + n : Nat) : Int) + 1 by omega] at ihn
      rw [hv]
      cases hfa : f a with
      | none =>
        rw [hfa] at ihn
        by_cases qa : a = p
        · skip
          refine w_iload rfl rfl (w_iconst rfl ?_)
          refine w_icmp_ge (tgt := 120) rfl (by first | assumption | exact i32_0 | (unfold i32 at *; omega)) (by first | assumption | exact i32_0 | (unfold i32 at *; omega)) rfl (fun c21 => ?_) (fun c21 => ?_)
          · skip
            exfalso; omega
          · skip
            refine w_iload rfl rfl (w_iload rfl rfl ?_)
            refine w_icmp_eq (tgt := 114) rfl (by first | assumption | exact i32_0 | (unfold i32 at *; omega)) (by first | assumption | exact i32_0 | (unfold i32 at *; omega)) rfl (fun c26 => ?_) (fun c26 => ?_)
            · skip
              refine w_iinc (ls2 := [_, _, _, _, _, _]) rfl rfl rfl (w_goto (tgt := 17) rfl rfl ?_)
              exact ihn _
            · skip
              exfalso; omega
        · by_cases qb : a + 1 + n = p
          · skip
            refine w_iload rfl rfl (w_iconst rfl ?_)
            refine w_icmp_ge (tgt := 120) rfl (by first | assumption | exact i32_0 | (unfold i32 at *; omega)) (by first | assumption | exact i32_0 | (unfold i32 at *; omega)) rfl (fun c21 => ?_) (fun c21 => ?_)
            · skip
              exfalso; omega
            · skip
              refine w_iload rfl rfl (w_iload rfl rfl ?_)
              refine w_icmp_eq (tgt := 114) rfl (by first | assumption | exact i32_0 | (unfold i32 at *; omega)) (by first | assumption | exact i32_0 | (unfold i32 at *; omega)) rfl (fun c26 => ?_) (fun c26 => ?_)
              · skip
                refine w_iinc (ls2 := [_, _, _, _, _, _]) rfl rfl rfl (w_goto (tgt := 17) rfl rfl ?_)
                first | exact ihn _ | (exfalso; omega)
              · skip
                refine w_iload rfl rfl (w_iload rfl rfl ?_)
                refine w_icmp_eq (tgt := 114) rfl (by first | assumption | exact i32_0 | (unfold i32 at *; omega)) (by first | assumption | exact i32_0 | (unfold i32 at *; omega)) rfl (fun c32 => ?_) (fun c32 => ?_)
                · skip
                  refine w_iinc (ls2 := [_, _, _, _, _, _]) rfl rfl rfl (w_goto (tgt := 17) rfl rfl ?_)
                  first | exact ihn _ | (exfalso; omega)
                · skip
                  exfalso; omega
          · skip
            refine w_iload rfl rfl (w_iconst rfl ?_)
            refine w_icmp_ge (tgt := 120) rfl (by first | assumption | exact i32_0 | (unfold i32 at *; omega)) (by first | assumption | exact i32_0 | (unfold i32 at *; omega)) rfl (fun c21 => ?_) (fun c21 => ?_)
            · skip
              exfalso; omega
            · skip
              refine w_iload rfl rfl (w_iload rfl rfl ?_)
              refine w_icmp_eq (tgt := 114) rfl (by first | assumption | exact i32_0 | (unfold i32 at *; omega)) (by first | assumption | exact i32_0 | (unfold i32 at *; omega)) rfl (fun c26 => ?_) (fun c26 => ?_)
              · skip
                refine w_iinc (ls2 := [_, _, _, _, _, _]) rfl rfl rfl (w_goto (tgt := 17) rfl rfl ?_)
                first | exact ihn _ | (exfalso; omega)
              · skip
                refine w_iload rfl rfl (w_iload rfl rfl ?_)
                refine w_icmp_eq (tgt := 114) rfl (by first | assumption | exact i32_0 | (unfold i32 at *; omega)) (by first | assumption | exact i32_0 | (unfold i32 at *; omega)) rfl (fun c32 => ?_) (fun c32 => ?_)
                · skip
                  refine w_iinc (ls2 := [_, _, _, _, _, _]) rfl rfl rfl (w_goto (tgt := 17) rfl rfl ?_)
                  first | exact ihn _ | (exfalso; omega)
                · skip
                  refine w_aload rfl rfl (w_iload rfl rfl ?_)
                  refine w_call (Or.inr rfl) (e_has0 ht hc (by omega) hfa) (by omega) nof_30 rfl rfl rfl rfl (by first | rfl | (show cKB[_]? = _; assumption)) rfl ?_
                  refine w_if_eq (tgt := 114) rfl (by first | assumption | exact i32_0 | (unfold i32 at *; omega)) rfl (fun _ => ?_) (fun c => absurd c (by decide))
                  refine w_iinc (ls2 := [_, _, _, _, _, _]) rfl rfl rfl (w_goto (tgt := 17) rfl rfl ?_)
                  first | exact ihn _ | (exfalso; omega)
      | some ca =>
        rw [hfa] at ihn
        have a1 := hf a ca hfa
        dsimp only at ihn ⊢
        by_cases qa : a = p
        · rw [if_pos qa] at ihn ⊢
          refine w_iload rfl rfl (w_iconst rfl ?_)
          refine w_icmp_ge (tgt := 120) rfl (by first | assumption | exact i32_0 | (unfold i32 at *; omega)) (by first | assumption | exact i32_0 | (unfold i32 at *; omega)) rfl (fun c21 => ?_) (fun c21 => ?_)
          · skip
            exfalso; omega
          · skip
            refine w_iload rfl rfl (w_iload rfl rfl ?_)
            refine w_icmp_eq (tgt := 114) rfl (by first | assumption | exact i32_0 | (unfold i32 at *; omega)) (by first | assumption | exact i32_0 | (unfold i32 at *; omega)) rfl (fun c26 => ?_) (fun c26 => ?_)
            · skip
              refine w_iinc (ls2 := [_, _, _, _, _, _]) rfl rfl rfl (w_goto (tgt := 17) rfl rfl ?_)
              exact ihn _
            · skip
              exfalso; omega
        · rw [if_neg qa] at ihn ⊢
          have hl := hiB_le (acc := acc) hf hp ha21 a1.2.2 h0 n
          cases hfb : f (a + 1 + n) with
          | none =>
            have e : hiB f p a ca acc (n + 1) = hiB f p a ca acc n := by rw [hiB, hfb]
            rw [e] at ihn
            by_cases qb : a + 1 + n = p
            · skip
              refine w_iload rfl rfl (w_iconst rfl ?_)
              refine w_icmp_ge (tgt := 120) rfl (by first | assumption | exact i32_0 | (unfold i32 at *; omega)) (by first | assumption | exact i32_0 | (unfold i32 at *; omega)) rfl (fun c21 => ?_) (fun c21 => ?_)
              · skip
                exfalso; omega
              · skip
                refine w_iload rfl rfl (w_iload rfl rfl ?_)
                refine w_icmp_eq (tgt := 114) rfl (by first | assumption | exact i32_0 | (unfold i32 at *; omega)) (by first | assumption | exact i32_0 | (unfold i32 at *; omega)) rfl (fun c26 => ?_) (fun c26 => ?_)
                · skip
                  refine w_iinc (ls2 := [_, _, _, _, _, _]) rfl rfl rfl (w_goto (tgt := 17) rfl rfl ?_)
                  first | exact ihn _ | (exfalso; omega)
                · skip
                  refine w_iload rfl rfl (w_iload rfl rfl ?_)
                  refine w_icmp_eq (tgt := 114) rfl (by first | assumption | exact i32_0 | (unfold i32 at *; omega)) (by first | assumption | exact i32_0 | (unfold i32 at *; omega)) rfl (fun c32 => ?_) (fun c32 => ?_)
                  · skip
                    refine w_iinc (ls2 := [_, _, _, _, _, _]) rfl rfl rfl (w_goto (tgt := 17) rfl rfl ?_)
                    first | exact ihn _ | (exfalso; omega)
                  · skip
                    exfalso; omega
            · skip
              refine w_iload rfl rfl (w_iconst rfl ?_)
              refine w_icmp_ge (tgt := 120) rfl (by first | assumption | exact i32_0 | (unfold i32 at *; omega)) (by first | assumption | exact i32_0 | (unfold i32 at *; omega)) rfl (fun c21 => ?_) (fun c21 => ?_)
              · skip
                exfalso; omega
              · skip
                refine w_iload rfl rfl (w_iload rfl rfl ?_)
                refine w_icmp_eq (tgt := 114) rfl (by first | assumption | exact i32_0 | (unfold i32 at *; omega)) (by first | assumption | exact i32_0 | (unfold i32 at *; omega)) rfl (fun c26 => ?_) (fun c26 => ?_)
                · skip
                  refine w_iinc (ls2 := [_, _, _, _, _, _]) rfl rfl rfl (w_goto (tgt := 17) rfl rfl ?_)
                  first | exact ihn _ | (exfalso; omega)
                · skip
                  refine w_iload rfl rfl (w_iload rfl rfl ?_)
                  refine w_icmp_eq (tgt := 114) rfl (by first | assumption | exact i32_0 | (unfold i32 at *; omega)) (by first | assumption | exact i32_0 | (unfold i32 at *; omega)) rfl (fun c32 => ?_) (fun c32 => ?_)
                  · skip
                    refine w_iinc (ls2 := [_, _, _, _, _, _]) rfl rfl rfl (w_goto (tgt := 17) rfl rfl ?_)
                    first | exact ihn _ | (exfalso; omega)
                  · skip
                    refine w_aload rfl rfl (w_iload rfl rfl ?_)
                    refine w_call (Or.inr rfl) (e_has1 ht hc (by decide) hf hfa) (by omega) nof_30 rfl rfl rfl rfl (by first | rfl | (show cKB[_]? = _; assumption)) rfl ?_
                    refine w_if_eq (tgt := 114) rfl (by first | assumption | exact i32_0 | (unfold i32 at *; omega)) rfl (fun c => absurd c (by decide)) (fun _ => ?_)
                    refine w_aload rfl rfl (w_iload rfl rfl ?_)
                    refine w_call (Or.inr rfl) (e_has0 ht hc (by omega) hfb) (by omega) nof_30 rfl rfl rfl rfl (by first | rfl | (show cKB[_]? = _; assumption)) rfl ?_
                    refine w_if_eq (tgt := 114) rfl (by first | assumption | exact i32_0 | (unfold i32 at *; omega)) rfl (fun _ => ?_) (fun c => absurd c (by decide))
                    refine w_iinc (ls2 := [_, _, _, _, _, _]) rfl rfl rfl (w_goto (tgt := 17) rfl rfl ?_)
                    first | exact ihn _ | (exfalso; omega)
          | some cb =>
            have b1 := hf _ _ hfb
            by_cases qb : a + 1 + n = p
            · have e : hiB f p a ca acc (n + 1) = hiB f p a ca acc n := by rw [hiB, hfb]; exact if_pos qb
              rw [e] at ihn
              refine w_iload rfl rfl (w_iconst rfl ?_)
              refine w_icmp_ge (tgt := 120) rfl (by first | assumption | exact i32_0 | (unfold i32 at *; omega)) (by first | assumption | exact i32_0 | (unfold i32 at *; omega)) rfl (fun c21 => ?_) (fun c21 => ?_)
              · skip
                exfalso; omega
              · skip
                refine w_iload rfl rfl (w_iload rfl rfl ?_)
                refine w_icmp_eq (tgt := 114) rfl (by first | assumption | exact i32_0 | (unfold i32 at *; omega)) (by first | assumption | exact i32_0 | (unfold i32 at *; omega)) rfl (fun c26 => ?_) (fun c26 => ?_)
                · skip
                  refine w_iinc (ls2 := [_, _, _, _, _, _]) rfl rfl rfl (w_goto (tgt := 17) rfl rfl ?_)
                  first | exact ihn _ | (exfalso; omega)
                · skip
                  refine w_iload rfl rfl (w_iload rfl rfl ?_)
                  refine w_icmp_eq (tgt := 114) rfl (by first | assumption | exact i32_0 | (unfold i32 at *; omega)) (by first | assumption | exact i32_0 | (unfold i32 at *; omega)) rfl (fun c32 => ?_) (fun c32 => ?_)
                  · skip
                    refine w_iinc (ls2 := [_, _, _, _, _, _]) rfl rfl rfl (w_goto (tgt := 17) rfl rfl ?_)
                    first | exact ihn _ | (exfalso; omega)
                  · skip
                    exfalso; omega
            · have e : hiB f p a ca acc (n + 1) = hiD f p a (a + 1 + n) ca cb (min (hiB f p a ca acc n) (segF p a (a + 1 + n) ca cb)) (20 - (a + 1 + n)) := by rw [hiB, hfb]; exact if_neg qb
              rw [e] at ihn
              have h3 := segF_le (ca := ca) (cb := cb) hp (a := a) (b := a + 1 + n) (by omega) (by omega) a1.2.2 b1.2.2
              have hd := loopD a (a + 1 + n) ca cb (min (hiB f p a ca acc n) (segF p a (a + 1 + n) ca cb)) hfa hfb (by omega) (by omega) (fun v5 => by
                refine w_iinc (ls2 := [_, _, _, _, _, _]) rfl rfl rfl (w_goto (tgt := 17) rfl rfl ?_)
                exact ihn _) (20 - (a + 1 + n)) 0 rfl (by omega)
              rw [hiD, show (((a + 1 + n : Nat) : Int) + 1 + ((0 : Nat) : Int)) = ((a + 1 + n : Nat) : Int) + 1 by omega] at hd
              refine w_iload rfl rfl (w_iconst rfl ?_)
              refine w_icmp_ge (tgt := 120) rfl (by first | assumption | exact i32_0 | (unfold i32 at *; omega)) (by first | assumption | exact i32_0 | (unfold i32 at *; omega)) rfl (fun c21 => ?_) (fun c21 => ?_)
              · skip
                exfalso; omega
              · skip
                refine w_iload rfl rfl (w_iload rfl rfl ?_)
                refine w_icmp_eq (tgt := 114) rfl (by first | assumption | exact i32_0 | (unfold i32 at *; omega)) (by first | assumption | exact i32_0 | (unfold i32 at *; omega)) rfl (fun c26 => ?_) (fun c26 => ?_)
                · skip
                  exfalso; omega
                · skip
                  refine w_iload rfl rfl (w_iload rfl rfl ?_)
                  refine w_icmp_eq (tgt := 114) rfl (by first | assumption | exact i32_0 | (unfold i32 at *; omega)) (by first | assumption | exact i32_0 | (unfold i32 at *; omega)) rfl (fun c32 => ?_) (fun c32 => ?_)
                  · skip
                    exfalso; omega
                  · skip
                    refine w_aload rfl rfl (w_iload rfl rfl ?_)
                    refine w_call (Or.inr rfl) (e_has1 ht hc (by decide) hf hfa) (by omega) nof_30 rfl rfl rfl rfl (by first | rfl | (show cKB[_]? = _; assumption)) rfl ?_
                    refine w_if_eq (tgt := 114) rfl (by first | assumption | exact i32_0 | (unfold i32 at *; omega)) rfl (fun c => absurd c (by decide)) (fun _ => ?_)
                    refine w_aload rfl rfl (w_iload rfl rfl ?_)
                    refine w_call (Or.inr rfl) (e_has1 ht hc (by decide) hf hfb) (by omega) nof_30 rfl rfl rfl rfl (by first | rfl | (show cKB[_]? = _; assumption)) rfl ?_
                    refine w_if_eq (tgt := 114) rfl (by first | assumption | exact i32_0 | (unfold i32 at *; omega)) rfl (fun c => absurd c (by decide)) (fun _ => ?_)
                    refine w_iload rfl rfl (w_aload rfl rfl (w_iload rfl rfl (w_iload rfl rfl (w_iload rfl rfl ?_))))
                    refine w_call (Or.inr rfl) (e_segF ht hc hf hp hfa hfb) (by omega) nof_115 rfl rfl rfl rfl (by first | rfl | (show cKB[_]? = _; assumption)) rfl ?_
                    refine w_call (Or.inl rfl) (e_min _ _ M (by unfold i32; omega) (by unfold i32; omega)) (by omega) nof_46 rfl rfl rfl rfl trivial rfl ?_
                    refine w_istore (ls2 := [_, _, _, _, _, _]) rfl rfl rfl (w_iload rfl rfl (w_iconst rfl (w_iadd rfl (w_istore (ls2 := [_, _, _, _, _, _]) rfl rfl rfl ?_))))
                    exact hd
  have loopA : ∀ (m a : Nat) (v4 v5 : mV), 21 - a = m → a ≤ 21 → Wp mc_114 D 6 [vR t, vI p, vI (hiA f p a), vI a, v4, v5] [] M (fun r1 M2 => r1 = some (vI (hiA f p 21)) ∧ M2 = M) := by
    intro m
    induction m with
    | zero =>
      intro a v4 v5 hm ha
      obtain rfl : a = 21 := by omega
      refine w_iload rfl rfl (w_iconst rfl ?_)
      refine w_icmp_ge (tgt := 126) rfl (by first | assumption | exact i32_0 | (unfold i32 at *; omega)) (by first | assumption | exact i32_0 | (unfold i32 at *; omega)) rfl (fun c9 => ?_) (fun c9 => ?_)
      · skip
        refine w_iload rfl rfl ?_
        exact w_ireturn rfl ⟨by first | rfl | (congr 2; omega), by rfl⟩
      · skip
        exfalso; omega
    | succ m ih =>
      intro a v4 v5 hm ha
      have hl := hiA_le hf hp a
      have hb := loopB a (hiA f p a) (by omega) hl (fun v4 v5 => by
        have ih2 := ih (a + 1) v4 v5 (by omega) (by omega)
        have e : hiA f p (a + 1) = (match f a with
          | none => hiA f p a
          | some ca => if a = p then hiA f p a else hiB f p a ca (hiA f p a) (20 - a)) := by rw [hiA]
        rw [← e]
        refine w_iinc (ls2 := [_, _, _, _, _, _]) rfl rfl rfl (w_goto (tgt := 6) rfl rfl ?_)
        exact ih2) (20 - a) 0 v5 rfl (by omega)
      have e0 : (match f a with
          | none => hiA f p a
          | some ca => if a = p then hiA f p a else hiB f p a ca (hiA f p a) 0) = hiA f p a := by
        cases f a with
        | none => rfl
        | some ca => dsimp only; split <;> rfl
      rw [e0, show ((a : Int) + 1 + ((0 : Nat) : Int)) = (a : Int) + 1 by omega] at hb
      refine w_iload rfl rfl (w_iconst rfl ?_)
      refine w_icmp_ge (tgt := 126) rfl (by first | assumption | exact i32_0 | (unfold i32 at *; omega)) (by first | assumption | exact i32_0 | (unfold i32 at *; omega)) rfl (fun c9 => ?_) (fun c9 => ?_)
      · skip
        exfalso; omega
      · skip
        refine w_iload rfl rfl (w_iconst rfl (w_iadd rfl (w_istore (ls2 := [_, _, _, _, _, _]) rfl rfl rfl ?_)))
        exact hb
  refine w_iconst rfl (w_istore (ls2 := [_, _, _, _, _, _]) rfl rfl rfl (w_iconst rfl (w_istore (ls2 := [_, _, _, _, _, _]) rfl rfl rfl ?_)))
  exact loopA 21 0 _ _ rfl (by omega)
