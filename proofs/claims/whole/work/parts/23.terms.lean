/-! ===== one polynomial ===== -/
abbrev Cv : Type := Nat → Option Int
/-- a polynomial: terms at places alone, their c within a bound -/
def Cok (B : Int) (f : Cv) : Prop := ∀ p c, f p = some c → p < 21 ∧ p / 5 + p % 5 ≤ 4 ∧ -B ≤ c ∧ c ≤ B
def isT (t : Nat) : Prop := cKB[t]? = some (0, 8) ∧ cKB[t + 1]? = some (1, 21) ∧ cRT t 0 = some (t + 1)
def cur (t : Nat) (f : Cv) (M : mM) : Prop := ∀ k, k < 21 → M (t + 1) k = (f k).getD (-1000000)
theorem cur_n {t k : Nat} {f : Cv} {M : mM} (h : cur t f M) (hk : k < 21) (hf : f k = none) : M (t + 1) k = -1000000 := by rw [h k hk, hf]; rfl
theorem cur_s {t k : Nat} {f : Cv} {M : mM} {c : Int} (h : cur t f M) (hk : k < 21) (hf : f k = some c) : M (t + 1) k = c := by rw [h k hk, hf]; rfl
theorem Cok_le {A B : Int} {f : Cv} (h : Cok A f) (hAB : A ≤ B) : Cok B f := fun p c hp => by
  have := h p c hp
  omega
/-- t's terms are written: f stands there then, its count of changes has risen -/
def Tw (t : Nat) (f : Cv) (n : Int) (M M1 : mM) : Prop := cur t f M1 ∧ M t 1 + 1 ≤ M1 t 1 ∧ M1 t 1 ≤ M t 1 + n ∧ ∀ a, a ≠ t → a ≠ t + 1 → ∀ k, M1 a k = M a k
theorem cur_fr {t : Nat} {f : Cv} {M M1 : mM} (h : cur t f M) (e : ∀ k, M1 (t + 1) k = M (t + 1) k) : cur t f M1 := fun k hk => by rw [e, h k hk]
theorem e_at_n {t k : Nat} {f : Cv} {M : mM} (ht : isT t) (hc : cur t f M) (hk : k < 1000) (hf : f k = none) : E 1 31 [vR t, vI k] M (some (vI (-1000000))) M := by
  obtain ⟨ht1, ht2, ht3⟩ := ht
  refine e_in (ls := [vR t, vI k]) mq_31 (ml_31 rfl) rfl fun D hD => ?_
  by_cases h : k < 21
  · skip
    refine w_iload rfl rfl ?_
    refine w_if_lt rfl (by first | assumption | exact i32_0 | (unfold i32 at *; omega)) rfl (fun c1 => ?_) (fun c1 => ?_)
    · skip
      refine w_iconst rfl ?_
      exact w_ireturn rfl ⟨by first | rfl | (congr 2; omega), by rfl⟩
    · skip
      refine w_iload rfl rfl (w_aload rfl rfl (w_getR rfl (by first | rfl | assumption) rfl (by first | rfl | assumption) (w_alen rfl (by first | rfl | assumption) (by decide) (by decide) ?_)))
      refine w_icmp_ge rfl (by first | assumption | exact i32_0 | (unfold i32 at *; omega)) (by first | assumption | exact i32_0 | (unfold i32 at *; omega)) rfl (fun c10 => ?_) (fun c10 => ?_)
      · skip
        refine w_iconst rfl ?_
        exact w_ireturn rfl ⟨by first | rfl | (congr 2; omega), by rfl⟩
      · skip
        refine w_aload rfl rfl (w_getR rfl (by first | rfl | assumption) rfl (by first | rfl | assumption) (w_iload rfl rfl (w_ialoadV rfl (by first | rfl | assumption) (by omega) (by omega) (cur_n hc h hf) (w_goto rfl rfl ?_))))
        exact w_ireturn rfl ⟨by first | rfl | (congr 2; omega), by rfl⟩
  · skip
    refine w_iload rfl rfl ?_
    refine w_if_lt rfl (by first | assumption | exact i32_0 | (unfold i32 at *; omega)) rfl (fun c1 => ?_) (fun c1 => ?_)
    · skip
      refine w_iconst rfl ?_
      exact w_ireturn rfl ⟨by first | rfl | (congr 2; omega), by rfl⟩
    · skip
      refine w_iload rfl rfl (w_aload rfl rfl (w_getR rfl (by first | rfl | assumption) rfl (by first | rfl | assumption) (w_alen rfl (by first | rfl | assumption) (by decide) (by decide) ?_)))
      refine w_icmp_ge rfl (by first | assumption | exact i32_0 | (unfold i32 at *; omega)) (by first | assumption | exact i32_0 | (unfold i32 at *; omega)) rfl (fun c10 => ?_) (fun c10 => ?_)
      · skip
        refine w_iconst rfl ?_
        exact w_ireturn rfl ⟨by first | rfl | (congr 2; omega), by rfl⟩
      · skip
        exfalso; omega
theorem e_at_s {t k : Nat} {f : Cv} {M : mM} {c : Int} (ht : isT t) (hc : cur t f M) (hk : k < 21) (hf : f k = some c) : E 1 31 [vR t, vI k] M (some (vI c)) M := by
  obtain ⟨ht1, ht2, ht3⟩ := ht
  refine e_in (ls := [vR t, vI k]) mq_31 (ml_31 rfl) rfl fun D hD => ?_
  refine w_iload rfl rfl ?_
  refine w_if_lt rfl (by first | assumption | exact i32_0 | (unfold i32 at *; omega)) rfl (fun c1 => ?_) (fun c1 => ?_)
  · skip
    exfalso; omega
  · skip
    refine w_iload rfl rfl (w_aload rfl rfl (w_getR rfl (by first | rfl | assumption) rfl (by first | rfl | assumption) (w_alen rfl (by first | rfl | assumption) (by decide) (by decide) ?_)))
    refine w_icmp_ge rfl (by first | assumption | exact i32_0 | (unfold i32 at *; omega)) (by first | assumption | exact i32_0 | (unfold i32 at *; omega)) rfl (fun c10 => ?_) (fun c10 => ?_)
    · skip
      exfalso; omega
    · skip
      refine w_aload rfl rfl (w_getR rfl (by first | rfl | assumption) rfl (by first | rfl | assumption) (w_iload rfl rfl (w_ialoadV rfl (by first | rfl | assumption) (by omega) (by omega) (cur_s hc hk hf) (w_goto rfl rfl ?_))))
      exact w_ireturn rfl ⟨by first | rfl | (congr 2; omega), by rfl⟩
theorem e_has0 {t k : Nat} {f : Cv} {M : mM} (ht : isT t) (hc : cur t f M) (hk : k < 1000) (hf : f k = none) : E 2 30 [vR t, vI k] M (some (vI 0)) M := by
  have ht1 := ht.1
  refine e_in (ls := [vR t, vI k]) mq_30 (ml_30 rfl) rfl fun D hD => ?_
  refine w_aload rfl rfl (w_iload rfl rfl ?_)
  refine w_call (Or.inr rfl) (e_at_n ht hc hk hf) (by omega) nof_31 rfl rfl rfl rfl (by first | rfl | (show cKB[_]? = _; assumption)) rfl ?_
  refine w_iconst rfl ?_
  refine w_icmp_eq rfl (by first | assumption | exact i32_0 | (unfold i32 at *; omega)) (by first | assumption | exact i32_0 | (unfold i32 at *; omega)) rfl (fun c7 => ?_) (fun c7 => ?_)
  · skip
    refine w_iconst rfl ?_
    exact w_zreturn rfl (by first | exact Or.inl rfl | exact Or.inr rfl | omega | assumption) ⟨by first | rfl | (congr 2; omega), by rfl⟩
  · skip
    exact absurd rfl c7
theorem e_has1 {t k : Nat} {f : Cv} {M : mM} {c B : Int} (ht : isT t) (hc : cur t f M) (hB : B < 900000) (hk : Cok B f) (hf : f k = some c) : E 2 30 [vR t, vI k] M (some (vI 1)) M := by
  have ht1 := ht.1
  have hh := hk k c hf
  refine e_in (ls := [vR t, vI k]) mq_30 (ml_30 rfl) rfl fun D hD => ?_
  refine w_aload rfl rfl (w_iload rfl rfl ?_)
  refine w_call (Or.inr rfl) (e_at_s ht hc hh.1 hf) (by omega) nof_31 rfl rfl rfl rfl (by first | rfl | (show cKB[_]? = _; assumption)) rfl ?_
  refine w_iconst rfl ?_
  refine w_icmp_eq rfl (by first | assumption | exact i32_0 | (unfold i32 at *; omega)) (by first | assumption | exact i32_0 | (unfold i32 at *; omega)) rfl (fun c7 => ?_) (fun c7 => ?_)
  · skip
    exfalso; omega
  · skip
    refine w_iconst rfl (w_goto rfl rfl ?_)
    exact w_zreturn rfl (by first | exact Or.inl rfl | exact Or.inr rfl | omega | assumption) ⟨by first | rfl | (congr 2; omega), by rfl⟩
def setM (t p : Nat) (v : Int) (M : mM) : mM := upI (upI M (t + 1) p v) t 1 (M t 1 + 1)
def upF (f : Cv) (p : Nat) (o : Option Int) : Cv := fun k => if k = p then o else f k
theorem Tw_set {t p : Nat} {f : Cv} {M : mM} {o : Option Int} (h : cur t f M) : Tw t (upF f p o) 1 M (setM t p (o.getD (-1000000)) M) := by
  refine ⟨fun k hk => ?_, ?_, ?_, fun a h1 h2 k => ?_⟩
  · unfold setM upI upF
    rw [if_neg (by omega)]
    by_cases q : k = p
    · rw [if_pos ⟨rfl, q⟩, if_pos q]
    · rw [if_neg (fun z => q z.2), if_neg q, h k hk]
  · unfold setM upI; rw [if_pos ⟨rfl, rfl⟩]; omega
  · unfold setM upI; rw [if_pos ⟨rfl, rfl⟩]; omega
  · unfold setM upI; rw [if_neg (fun z => h1 z.1), if_neg (fun z => h2 z.1)]
theorem e_set {t p : Nat} {M : mM} {v : Int} (ht : isT t) (hp : p < 21) : E 1 32 [vR t, vI p, vI v] M none (setM t p v M) := by
  obtain ⟨ht1, ht2, ht3⟩ := ht
  have hne : ∀ x, upI M (t + 1) p x t 1 = M t 1 := fun x => if_neg (fun q => by omega)
  refine e_in (ls := [vR t, vI p, vI v]) mq_32 (ml_32 rfl) rfl fun D hD => ?_
  refine w_iload rfl rfl ?_
  refine w_if_lt rfl (by first | assumption | exact i32_0 | (unfold i32 at *; omega)) rfl (fun c1 => ?_) (fun c1 => ?_)
  · skip
    exact w_return rfl ⟨rfl, by first | rfl | (exfalso; omega)⟩
  · skip
    refine w_iload rfl rfl (w_aload rfl rfl (w_getR rfl (by first | rfl | assumption) rfl (by first | rfl | assumption) (w_alen rfl (by first | rfl | assumption) (by decide) (by decide) ?_)))
    refine w_icmp_ge rfl (by first | assumption | exact i32_0 | (unfold i32 at *; omega)) (by first | assumption | exact i32_0 | (unfold i32 at *; omega)) rfl (fun c10 => ?_) (fun c10 => ?_)
    · skip
      exact w_return rfl ⟨rfl, by first | rfl | (exfalso; omega)⟩
    · skip
      refine w_aload rfl rfl (w_getR rfl (by first | rfl | assumption) rfl (by first | rfl | assumption) (w_iload rfl rfl (w_iload rfl rfl (w_iastore rfl (by first | rfl | assumption) (by omega) (by omega) (w_aload rfl rfl (w_dup rfl rfl (w_getIV rfl (by first | rfl | assumption) (by first | exact Or.inl rfl | exact Or.inr rfl) (hne v) ?_)))))))
      refine w_iconst rfl (w_iadd rfl (w_putI rfl (by first | rfl | assumption) rfl ?_))
      exact w_return rfl ⟨rfl, by first | rfl | (exfalso; omega)⟩
theorem e_clear {t : Nat} {M : mM} (ht : isT t) : EQ 1 5 [vR t] M (fun r M1 => r = none ∧ Tw t (fun _ => none) 1 M M1) := by
  obtain ⟨ht1, ht2, ht3⟩ := ht
  refine q_in (ls := [vR t, vN]) mq_5 (ml_5 rfl) rfl fun D hD => ?_
  have loop : ∀ (n k : Nat) (N : mM), 21 - k = n → k ≤ 21 → (∀ j, j < k → N (t + 1) j = -1000000) → (∀ a, a ≠ t + 1 → ∀ j, N a j = M a j) → Wp mc_5 D 2 [vR t, vI k] [] N (fun r M1 => r = none ∧ Tw t (fun _ => none) 1 M M1) := by
    intro n
    induction n with
    | zero =>
      intro k N hn hk h1 h2
      obtain rfl : k = 21 := by omega
      have e1 := h2 t (by omega) 1
      have hfin : Tw t (fun _ => none) 1 M (upI N t 1 (M t 1 + 1)) := by
        refine ⟨fun k hk => ?_, ?_, ?_, fun a q1 q2 k => ?_⟩
        · rw [show upI N t 1 (M t 1 + 1) (t + 1) k = N (t + 1) k from if_neg (fun q => by omega)]; exact h1 k hk
        · rw [upI_same]; omega
        · rw [upI_same]; omega
        · rw [show upI N t 1 (M t 1 + 1) a k = N a k from if_neg (fun q => q1 q.1)]; exact h2 a q2 k
      refine w_iload rfl rfl (w_aload rfl rfl (w_getR rfl (by first | rfl | assumption) rfl (by first | rfl | assumption) (w_alen rfl (by first | rfl | assumption) (by decide) (by decide) ?_)))
      refine w_icmp_ge rfl (by first | assumption | exact i32_0 | (unfold i32 at *; omega)) (by first | assumption | exact i32_0 | (unfold i32 at *; omega)) rfl (fun c8 => ?_) (fun c8 => ?_)
      · skip
        refine w_aload rfl rfl (w_dup rfl rfl (w_getIV rfl (by first | rfl | assumption) (by first | exact Or.inl rfl | exact Or.inr rfl) (e1) (w_iconst rfl (w_iadd rfl (w_putI rfl (by first | rfl | assumption) rfl ?_)))))
        exact w_return rfl ⟨rfl, by exact hfin⟩
      · skip
        exfalso; omega
    | succ n ih =>
      intro k N hn hk h1 h2
      have ih2 := ih (k + 1) (upI N (t + 1) k (-1000000)) (by omega) (by omega) (fun j hj => by
        unfold upI
        by_cases q : j = k
        · rw [if_pos ⟨rfl, q⟩]
        · rw [if_neg (fun z => q z.2)]; exact h1 j (by omega)) (fun a ha j => by
        rw [show upI N (t + 1) k (-1000000) a j = N a j from if_neg (fun q => ha q.1)]; exact h2 a ha j)
      refine w_iload rfl rfl (w_aload rfl rfl (w_getR rfl (by first | rfl | assumption) rfl (by first | rfl | assumption) (w_alen rfl (by first | rfl | assumption) (by decide) (by decide) ?_)))
      refine w_icmp_ge rfl (by first | assumption | exact i32_0 | (unfold i32 at *; omega)) (by first | assumption | exact i32_0 | (unfold i32 at *; omega)) rfl (fun c8 => ?_) (fun c8 => ?_)
      · skip
        exfalso; omega
      · skip
        refine w_aload rfl rfl (w_getR rfl (by first | rfl | assumption) rfl (by first | rfl | assumption) (w_iload rfl rfl (w_iconst rfl (w_iastore rfl (by first | rfl | assumption) (by omega) (by omega) (w_iinc rfl rfl rfl (w_goto rfl rfl ?_))))))
        exact ih2
  refine w_iconst rfl (w_istore rfl rfl rfl ?_)
  exact loop 21 0 M rfl (by omega) (fun j hj => absurd hj (Nat.not_lt_zero j)) (fun _ _ _ => rfl)
theorem e_take {t o : Nat} {g : Cv} {M : mM} (ht : isT t) (ho : isT o) (hto : t ≠ o) (hto2 : t ≠ o + 1) (hot : o ≠ t + 1) (hg : cur o g M) : EQ 1 34 [vR t, vR o] M (fun r M1 => r = none ∧ Tw t g 1 M M1) := by
  obtain ⟨ht1, ht2, ht3⟩ := ht
  obtain ⟨ho1, ho2, ho3⟩ := ho
  refine q_in (ls := [vR t, vR o, vN]) mq_34 (ml_34 rfl) rfl fun D hD => ?_
  have loop : ∀ (n k : Nat) (N : mM), 21 - k = n → k ≤ 21 → (∀ j, j < k → N (t + 1) j = (g j).getD (-1000000)) → (∀ a, a ≠ t + 1 → ∀ j, N a j = M a j) → Wp mc_34 D 2 [vR t, vR o, vI k] [] N (fun r M1 => r = none ∧ Tw t g 1 M M1) := by
    intro n
    induction n with
    | zero =>
      intro k N hn hk h1 h2
      obtain rfl : k = 21 := by omega
      have e1 := h2 t (by omega) 1
      have hfin : Tw t g 1 M (upI N t 1 (M t 1 + 1)) := by
        refine ⟨fun k hk => ?_, ?_, ?_, fun a q1 q2 k => ?_⟩
        · rw [show upI N t 1 (M t 1 + 1) (t + 1) k = N (t + 1) k from if_neg (fun q => by omega)]; exact h1 k hk
        · rw [upI_same]; omega
        · rw [upI_same]; omega
        · rw [show upI N t 1 (M t 1 + 1) a k = N a k from if_neg (fun q => q1 q.1)]; exact h2 a q2 k
      refine w_iload rfl rfl (w_aload rfl rfl (w_getR rfl (by first | rfl | assumption) rfl (by first | rfl | assumption) (w_alen rfl (by first | rfl | assumption) (by decide) (by decide) ?_)))
      refine w_icmp_ge rfl (by first | assumption | exact i32_0 | (unfold i32 at *; omega)) (by first | assumption | exact i32_0 | (unfold i32 at *; omega)) rfl (fun c8 => ?_) (fun c8 => ?_)
      · skip
        refine w_aload rfl rfl (w_dup rfl rfl (w_getIV rfl (by first | rfl | assumption) (by first | exact Or.inl rfl | exact Or.inr rfl) (e1) (w_iconst rfl (w_iadd rfl (w_putI rfl (by first | rfl | assumption) rfl ?_)))))
        exact w_return rfl ⟨rfl, by exact hfin⟩
      · skip
        exfalso; omega
    | succ n ih =>
      intro k N hn hk h1 h2
      have e3 : N (o + 1) k = (g k).getD (-1000000) := by rw [h2 (o + 1) (by omega) k]; exact hg k (by omega)
      have ih2 := ih (k + 1) (upI N (t + 1) k ((g k).getD (-1000000))) (by omega) (by omega) (fun j hj => by
        unfold upI
        by_cases q : j = k
        · rw [if_pos ⟨rfl, q⟩, q]
        · rw [if_neg (fun z => q z.2)]; exact h1 j (by omega)) (fun a ha j => by
        rw [show upI N (t + 1) k ((g k).getD (-1000000)) a j = N a j from if_neg (fun q => ha q.1)]; exact h2 a ha j)
      refine w_iload rfl rfl (w_aload rfl rfl (w_getR rfl (by first | rfl | assumption) rfl (by first | rfl | assumption) (w_alen rfl (by first | rfl | assumption) (by decide) (by decide) ?_)))
      refine w_icmp_ge rfl (by first | assumption | exact i32_0 | (unfold i32 at *; omega)) (by first | assumption | exact i32_0 | (unfold i32 at *; omega)) rfl (fun c8 => ?_) (fun c8 => ?_)
      · skip
        exfalso; omega
      · skip
        refine w_iload rfl rfl (w_aload rfl rfl (w_getR rfl (by first | rfl | assumption) rfl (by first | rfl | assumption) (w_alen rfl (by first | rfl | assumption) (by decide) (by decide) ?_)))
        refine w_icmp_ge rfl (by first | assumption | exact i32_0 | (unfold i32 at *; omega)) (by first | assumption | exact i32_0 | (unfold i32 at *; omega)) rfl (fun c17 => ?_) (fun c17 => ?_)
        · skip
          exfalso; omega
        · skip
          refine w_aload rfl rfl (w_getR rfl (by first | rfl | assumption) rfl (by first | rfl | assumption) (w_iload rfl rfl (w_aload rfl rfl (w_getR rfl (by first | rfl | assumption) rfl (by first | rfl | assumption) (w_iload rfl rfl (w_ialoadV rfl (by first | rfl | assumption) (by omega) (by omega) (e3) (w_iastore rfl (by first | rfl | assumption) (by omega) (by omega) ?_)))))))
          refine w_iinc rfl rfl rfl (w_goto rfl rfl ?_)
          exact ih2
  refine w_iconst rfl (w_istore rfl rfl rfl ?_)
  exact loop 21 0 M rfl (by omega) (fun j hj => absurd hj (Nat.not_lt_zero j)) (fun _ _ _ => rfl)
