/-! ===== the model's bars ===== -/
def baR (o : Option Int) (M : mM) : Prop := (o = none → M 155 39 = 0) ∧ ∀ b, o = some b → (M 155 39 = 1 ∧ M 155 38 = b) ∧ -1000000000000 ≤ b ∧ b ≤ 1000000000000
def loO (o : Option Int) (c : Int) : Prop := ∀ b, o = some b → c * 720720 < b
def brF (M N : mM) : Prop := (∀ b, b ≠ 155 → N b = M b) ∧ ∀ j, j ≠ 38 → j ≠ 39 → N 155 j = M 155 j
theorem brF_tr {M N O : mM} (h : brF M N) (h2 : brF N O) : brF M O := ⟨fun b q => (h2.1 b q).trans (h.1 b q), fun j q1 q2 => (h2.2 j q1 q2).trans (h.2 j q1 q2)⟩
theorem brF_rfl (M : mM) : brF M M := ⟨fun _ _ => rfl, fun _ _ _ => rfl⟩
theorem m_bars {o : Option Int} {x : Int} {M : mM} (h : baR o M) (hx : -1000000000000 ≤ x ∧ x ≤ 1000000000000) : EQ 1 226 [vR 155, vL x] M (fun z N => z = none ∧ ∃ o', baR o' N ∧ (∀ c, loO o' c ↔ loO o c ∧ c * 720720 < x) ∧ brF M N) := by
  have hfr : ∀ v, brF M (upI (upI M 155 38 v) 155 39 1) := fun v => ⟨fun b hb => by funext k; rw [upI_ne _ _ _ _ (by omega), upI_ne _ _ _ _ (by omega)], fun j h1 h2 => by
    unfold upI
    rw [if_neg (by omega), if_neg (by omega)]⟩
  have hba : ∀ v, -1000000000000 ≤ v ∧ v ≤ 1000000000000 → baR (some v) (upI (upI M 155 38 v) 155 39 1) := fun v hv => ⟨fun z => absurd z (by simp), fun b hb => by
    cases hb
    exact ⟨⟨rfl, rfl⟩, hv⟩⟩
  refine q_in (ls := [vR 155, vL x, vN]) mq_226 (ml_226 rfl) rfl fun D hD => ?_
  generalize hPost : (fun (z : Option mV) (N : mM) => z = none ∧ ∃ o', baR o' N ∧ (∀ c, loO o' c ↔ loO o c ∧ c * 720720 < x) ∧ brF M N) = Post
  cases o with
  | none =>
    have h39 := h.1 rfl
    have hgo : Post none (upI (upI M 155 38 x) 155 39 1) := by
      rw [← hPost]
      refine ⟨rfl, some x, hba x hx, fun c => ?_, hfr x⟩
      constructor
      · intro z
        exact ⟨fun b hb => absurd hb (by simp), z x rfl⟩
      · rintro ⟨-, z⟩ b hb
        cases hb
        exact z
    clear hPost
    refine w_aload rfl rfl (w_aload rfl rfl (w_getIV rfl (by first | rfl | assumption) (by first | exact Or.inl rfl | exact Or.inr rfl) (h39) ?_))
    refine w_if_eq (tgt := 17) rfl (by first | assumption | exact i32_0 | (unfold i32 at *; omega)) rfl (fun _ => ?_) (fun c => absurd c (by decide))
    refine w_lload rfl rfl (w_goto (tgt := 25) rfl rfl (w_putL rfl (by first | rfl | assumption) rfl (w_aload rfl rfl (w_iconst rfl (w_putZ rfl (by first | rfl | assumption) rfl (by first | exact Or.inl rfl | exact Or.inr rfl | omega | assumption) ?_)))))
    exact w_return rfl hgo
  | some b =>
    obtain ⟨⟨h39, h38⟩, hb⟩ := h.2 b rfl
    by_cases q : x < b
    · have hgo : Post none (upI (upI M 155 38 x) 155 39 1) := by
        rw [← hPost]
        refine ⟨rfl, some x, hba x hx, fun c => ?_, hfr x⟩
        constructor
        · intro z
          have := z x rfl
          exact ⟨fun y hy => by (cases hy; omega), this⟩
        · rintro ⟨-, z⟩ y hy
          cases hy
          exact z
      clear hPost
      refine w_aload rfl rfl (w_aload rfl rfl (w_getIV rfl (by first | rfl | assumption) (by first | exact Or.inl rfl | exact Or.inr rfl) (h39) ?_))
      refine w_if_eq (tgt := 17) rfl (by first | assumption | exact i32_0 | (unfold i32 at *; omega)) rfl (fun c => absurd c (by decide)) (fun _ => ?_)
      refine w_lload rfl rfl (w_aload rfl rfl (w_getLV rfl (by first | rfl | assumption) rfl (h38) ?_))
      refine w_lcmp rfl (by first | assumption | exact i64_0 | (unfold i64 at *; omega)) (by first | assumption | exact i64_0 | (unfold i64 at *; omega)) (fun c13 => ?_) (fun c13 => ?_) (fun c13 => ?_)
      · skip
        refine w_if_ge (tgt := 21) rfl (by first | assumption | exact i32_0 | (unfold i32 at *; omega)) rfl (fun c => absurd c (by decide)) (fun _ => ?_)
        refine w_lload rfl rfl (w_goto (tgt := 25) rfl rfl (w_putL rfl (by first | rfl | assumption) rfl (w_aload rfl rfl (w_iconst rfl (w_putZ rfl (by first | rfl | assumption) rfl (by first | exact Or.inl rfl | exact Or.inr rfl | omega | assumption) ?_)))))
        exact w_return rfl hgo
      · skip
        refine w_if_ge (tgt := 21) rfl (by first | assumption | exact i32_0 | (unfold i32 at *; omega)) rfl (fun _ => ?_) (fun c => absurd c (by decide))
        exfalso; omega
      · skip
        refine w_if_ge (tgt := 21) rfl (by first | assumption | exact i32_0 | (unfold i32 at *; omega)) rfl (fun _ => ?_) (fun c => absurd c (by decide))
        exfalso; omega
    · have hgo : Post none (upI (upI M 155 38 b) 155 39 1) := by
        rw [← hPost]
        refine ⟨rfl, some b, hba b hb, fun c => ?_, hfr b⟩
        constructor
        · intro z
          have := z b rfl
          exact ⟨fun y hy => by (cases hy; exact this), by omega⟩
        · rintro ⟨z, -⟩
          exact z
      clear hPost
      refine w_aload rfl rfl (w_aload rfl rfl (w_getIV rfl (by first | rfl | assumption) (by first | exact Or.inl rfl | exact Or.inr rfl) (h39) ?_))
      refine w_if_eq (tgt := 17) rfl (by first | assumption | exact i32_0 | (unfold i32 at *; omega)) rfl (fun c => absurd c (by decide)) (fun _ => ?_)
      refine w_lload rfl rfl (w_aload rfl rfl (w_getLV rfl (by first | rfl | assumption) rfl (h38) ?_))
      refine w_lcmp rfl (by first | assumption | exact i64_0 | (unfold i64 at *; omega)) (by first | assumption | exact i64_0 | (unfold i64 at *; omega)) (fun c13 => ?_) (fun c13 => ?_) (fun c13 => ?_)
      · skip
        refine w_if_ge (tgt := 21) rfl (by first | assumption | exact i32_0 | (unfold i32 at *; omega)) rfl (fun c => absurd c (by decide)) (fun _ => ?_)
        exfalso; omega
      · skip
        refine w_if_ge (tgt := 21) rfl (by first | assumption | exact i32_0 | (unfold i32 at *; omega)) rfl (fun _ => ?_) (fun c => absurd c (by decide))
        refine w_aload rfl rfl (w_getLV rfl (by first | rfl | assumption) rfl (h38) (w_putL rfl (by first | rfl | assumption) rfl (w_aload rfl rfl (w_iconst rfl (w_putZ rfl (by first | rfl | assumption) rfl (by first | exact Or.inl rfl | exact Or.inr rfl | omega | assumption) ?_)))))
        exact w_return rfl hgo
      · skip
        refine w_if_ge (tgt := 21) rfl (by first | assumption | exact i32_0 | (unfold i32 at *; omega)) rfl (fun _ => ?_) (fun c => absurd c (by decide))
        refine w_aload rfl rfl (w_getLV rfl (by first | rfl | assumption) rfl (h38) (w_putL rfl (by first | rfl | assumption) rfl (w_aload rfl rfl (w_iconst rfl (w_putZ rfl (by first | rfl | assumption) rfl (by first | exact Or.inl rfl | exact Or.inr rfl | omega | assumption) ?_)))))
        exact w_return rfl hgo
