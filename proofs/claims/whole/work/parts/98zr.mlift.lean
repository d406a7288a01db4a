/-! ===== the model's lift ===== -/
theorem lf_H {H : Int} {o : Option Int} (hH : ∀ c : Int, c ≤ H ↔ c ≤ 999 ∧ loO o c) : (o = none → H = 999) ∧ ∀ b, o = some b → H ≤ 999 ∧ H * 720720 < b ∧ (H = 999 ∨ b ≤ (H + 1) * 720720) := by
  constructor
  · intro h
    have a := (hH 999).mpr ⟨Int.le_refl _, fun b hb => by rw [h] at hb; cases hb⟩
    have b := ((hH H).mp (Int.le_refl _)).1
    omega
  · intro b hb
    have a := (hH H).mp (Int.le_refl _)
    refine ⟨a.1, a.2 b hb, ?_⟩
    by_cases z : H = 999
    · exact Or.inl z
    · refine Or.inr ?_
      rcases Int.lt_or_le ((H + 1) * 720720) b with y | y
      · have := (hH (H + 1)).mpr ⟨by omega, fun x hx => by rw [hb] at hx; cases hx; exact y⟩
        omega
      · exact y
theorem mo_lift {s : Sta} {M : mM} {a i j : Int} (c : MI s M) (ha : i32 a) (hi : i32 i) (hj : i32 j) : EQ 12 224 [vR 155, vI a, vI i, vI j] M (MoQ M (dLift a i j s) s) := by
  refine q_in (ls := [vR 155, vI a, vI i, vI j, vN, vN, vN]) mq_224 (ml_224 rfl) rfl fun D hD => ?_
  unfold dLift
  by_cases q : isCu a = true
  · rw [if_pos q]
    have q := isCu_iff.mp q
    obtain ⟨A, rfl⟩ : ∃ z : Nat, a = (z : Int) := ⟨a.toNat, by omega⟩
    have hA : A < 2 := by omega
    by_cases qp : isPlB i j = true
    · rw [if_pos qp]
      have qp := isPlB_iff.mp qp
      obtain ⟨e1, e2, e3⟩ := plN_ok qp
      have hf : Cok 999 (selF A s.2.1 s.2.2.1) := Cok_sel (a := A) c.2.1.2.1 c.2.1.2.2
      have hcM := mcur_sel hA c.2.1.1
      generalize hh : selF A s.2.1 s.2.2.1 = f at *
      have hpq : 0 ≤ i ∧ 0 ≤ j ∧ i ≤ 4 ∧ j ≤ 4 - i := qp
      generalize plN i j = k at *
      have hH := lfq hf (pl_mem k e2 e3)
      have hHle := hiA_le hf (p := k) (by omega) 21
      generalize hiA f k 21 = H at *
      generalize hPost : MoQ M (if H < -999 then -1000000 else H) s = Post
      have hcN : ∀ N, brF M N → mcur (25 * A) f N := fun N z => mcur_fr hcM (fun x _ _ => by rw [z.1 156 (by decide)])
      have hfin : ∀ r N, brF M N → r = (if H < -999 then -1000000 else H) → Post (some (vI r)) N := by
        intro r N z1 z2
        rw [← hPost, z2]
        exact ⟨rfl, MI_fr c (fun x hx => z1.2 x (by omega) (by omega)) (fun b hb => z1.1 b (by omega)), fun b hb => z1.1 b (by omega)⟩
      -- the end
      have hend : ∀ (N : mM) (o : Option Int) (w5 w6 : mV), brF M N → baR o N → (∀ c : Int, c ≤ H ↔ c ≤ 999 ∧ loO o c) → Wp mc_224 D 113 [vR 155, vI A, vI i, vI j, vI k, w5, w6] [] N Post := by
        intro N o w5 w6 hF hb hI
        obtain ⟨l1, l2⟩ := lf_H hI
        clear hI hPost hH
        cases o with
        | none =>
          have h39 := hb.1 rfl
          have hz := l1 rfl
          have hgo := hfin 999 N hF (by rw [hz]; rfl)
          clear hfin
          refine w_aload rfl rfl (w_getIV rfl (by first | rfl | assumption) (by first | exact Or.inl rfl | exact Or.inr rfl) (h39) ?_)
          refine w_if_ne (tgt := 124) rfl (by first | assumption | exact i32_0 | (unfold i32 at *; omega)) rfl (fun c => absurd c (by decide)) (fun _ => ?_)
          refine w_iconst rfl ?_
          exact w_ireturn rfl hgo
        | some b =>
          obtain ⟨⟨h39, h38⟩, b1, b2⟩ := hb.2 b rfl
          obtain ⟨m1, m2, m3⟩ := l2 b rfl
          by_cases hb0 : 0 < b
          · have ht : (b - 1).tdiv 720720 = (b - 1) / 720720 := Int.tdiv_eq_ediv_of_nonneg (by omega)
            have hz : (999 < (b - 1) / 720720 → H = 999) ∧ ((b - 1) / 720720 ≤ 999 → H = (b - 1) / 720720) := by omega
            have hzz : 0 ≤ (b - 1) / 720720 ∧ (b - 1) / 720720 ≤ 2000000 := by omega
            generalize (b - 1) / 720720 = z at *
            have g1 := fun (y : 999 < z) => hfin 999 N hF (by rw [hz.1 y]; rfl)
            have g2 := fun (y : z ≤ 999) => hfin z N hF (by rw [hz.2 y, if_neg (by omega)])
            clear hfin m1 m2 m3 l1 l2 hz hb hf hcM hcN c
            by_cases y : 999 < z
            · have hgo := g1 y
              refine w_aload rfl rfl (w_getIV rfl (by first | rfl | assumption) (by first | exact Or.inl rfl | exact Or.inr rfl) (h39) ?_)
              refine w_if_ne (tgt := 124) rfl (by first | assumption | exact i32_0 | (unfold i32 at *; omega)) rfl (fun _ => ?_) (fun c => absurd c (by decide))
              refine w_aload rfl rfl (w_getLV rfl (by first | rfl | assumption) rfl (h38) (w_lconst rfl ?_))
              refine w_lcmp rfl (by first | assumption | exact i64_0 | (unfold i64 at *; omega)) (by first | assumption | exact i64_0 | (unfold i64 at *; omega)) (fun c129 => ?_) (fun c129 => ?_) (fun c129 => ?_)
              · skip
                refine w_if_le (tgt := 146) rfl (by first | assumption | exact i32_0 | (unfold i32 at *; omega)) rfl (fun _ => ?_) (fun c => absurd c (by decide))
                exfalso; omega
              · skip
                refine w_if_le (tgt := 146) rfl (by first | assumption | exact i32_0 | (unfold i32 at *; omega)) rfl (fun c => absurd c (by decide)) (fun _ => ?_)
                refine w_aload rfl rfl (w_getLV rfl (by first | rfl | assumption) rfl (h38) (w_lconst rfl (w_lsub rfl (w_lconst rfl (w_ldiv rfl (by first | assumption | exact i64_0 | (unfold i64 at *; omega)) (by first | assumption | exact i64_0 | (unfold i64 at *; omega)) (by first | decide | omega | assumption) ?_)))))
                rw [ht]
                refine w_goto (tgt := 158) rfl rfl (w_lstore (ls2 := [_, _, _, _, _, _, _]) rfl rfl rfl (w_lload rfl rfl (w_lconst rfl ?_)))
                refine w_lcmp rfl (by first | assumption | exact i64_0 | (unfold i64 at *; omega)) (by first | assumption | exact i64_0 | (unfold i64 at *; omega)) (fun c165 => ?_) (fun c165 => ?_) (fun c165 => ?_)
                · skip
                  refine w_if_le (tgt := 175) rfl (by first | assumption | exact i32_0 | (unfold i32 at *; omega)) rfl (fun _ => ?_) (fun c => absurd c (by decide))
                  exfalso; omega
                · skip
                  refine w_if_le (tgt := 175) rfl (by first | assumption | exact i32_0 | (unfold i32 at *; omega)) rfl (fun c => absurd c (by decide)) (fun _ => ?_)
                  refine w_iconst rfl (w_goto (tgt := 192) rfl rfl ?_)
                  exact w_ireturn rfl hgo
                · skip
                  refine w_if_le (tgt := 175) rfl (by first | assumption | exact i32_0 | (unfold i32 at *; omega)) rfl (fun _ => ?_) (fun c => absurd c (by decide))
                  exfalso; omega
              · skip
                refine w_if_le (tgt := 146) rfl (by first | assumption | exact i32_0 | (unfold i32 at *; omega)) rfl (fun _ => ?_) (fun c => absurd c (by decide))
                exfalso; omega
            · have hgo := g2 (by omega)
              refine w_aload rfl rfl (w_getIV rfl (by first | rfl | assumption) (by first | exact Or.inl rfl | exact Or.inr rfl) (h39) ?_)
              refine w_if_ne (tgt := 124) rfl (by first | assumption | exact i32_0 | (unfold i32 at *; omega)) rfl (fun _ => ?_) (fun c => absurd c (by decide))
              refine w_aload rfl rfl (w_getLV rfl (by first | rfl | assumption) rfl (h38) (w_lconst rfl ?_))
              refine w_lcmp rfl (by first | assumption | exact i64_0 | (unfold i64 at *; omega)) (by first | assumption | exact i64_0 | (unfold i64 at *; omega)) (fun c129 => ?_) (fun c129 => ?_) (fun c129 => ?_)
              · skip
                refine w_if_le (tgt := 146) rfl (by first | assumption | exact i32_0 | (unfold i32 at *; omega)) rfl (fun _ => ?_) (fun c => absurd c (by decide))
                exfalso; omega
              · skip
                refine w_if_le (tgt := 146) rfl (by first | assumption | exact i32_0 | (unfold i32 at *; omega)) rfl (fun c => absurd c (by decide)) (fun _ => ?_)
                refine w_aload rfl rfl (w_getLV rfl (by first | rfl | assumption) rfl (h38) (w_lconst rfl (w_lsub rfl (w_lconst rfl (w_ldiv rfl (by first | assumption | exact i64_0 | (unfold i64 at *; omega)) (by first | assumption | exact i64_0 | (unfold i64 at *; omega)) (by first | decide | omega | assumption) ?_)))))
                rw [ht]
                refine w_goto (tgt := 158) rfl rfl (w_lstore (ls2 := [_, _, _, _, _, _, _]) rfl rfl rfl (w_lload rfl rfl (w_lconst rfl ?_)))
                refine w_lcmp rfl (by first | assumption | exact i64_0 | (unfold i64 at *; omega)) (by first | assumption | exact i64_0 | (unfold i64 at *; omega)) (fun c165 => ?_) (fun c165 => ?_) (fun c165 => ?_)
                · skip
                  refine w_if_le (tgt := 175) rfl (by first | assumption | exact i32_0 | (unfold i32 at *; omega)) rfl (fun _ => ?_) (fun c => absurd c (by decide))
                  refine w_lload rfl rfl (w_lconst rfl ?_)
                  refine w_lcmp rfl (by first | assumption | exact i64_0 | (unfold i64 at *; omega)) (by first | assumption | exact i64_0 | (unfold i64 at *; omega)) (fun c180 => ?_) (fun c180 => ?_) (fun c180 => ?_)
                  · skip
                    refine w_if_ge (tgt := 189) rfl (by first | assumption | exact i32_0 | (unfold i32 at *; omega)) rfl (fun c => absurd c (by decide)) (fun _ => ?_)
                    exfalso; omega
                  · skip
                    refine w_if_ge (tgt := 189) rfl (by first | assumption | exact i32_0 | (unfold i32 at *; omega)) rfl (fun _ => ?_) (fun c => absurd c (by decide))
                    refine w_lload rfl rfl (w_l2i rfl ?_)
                    exact w_ireturn rfl hgo
                  · skip
                    refine w_if_ge (tgt := 189) rfl (by first | assumption | exact i32_0 | (unfold i32 at *; omega)) rfl (fun _ => ?_) (fun c => absurd c (by decide))
                    refine w_lload rfl rfl (w_l2i rfl ?_)
                    exact w_ireturn rfl hgo
                · skip
                  refine w_if_le (tgt := 175) rfl (by first | assumption | exact i32_0 | (unfold i32 at *; omega)) rfl (fun c => absurd c (by decide)) (fun _ => ?_)
                  exfalso; omega
                · skip
                  refine w_if_le (tgt := 175) rfl (by first | assumption | exact i32_0 | (unfold i32 at *; omega)) rfl (fun _ => ?_) (fun c => absurd c (by decide))
                  refine w_lload rfl rfl (w_lconst rfl ?_)
                  refine w_lcmp rfl (by first | assumption | exact i64_0 | (unfold i64 at *; omega)) (by first | assumption | exact i64_0 | (unfold i64 at *; omega)) (fun c180 => ?_) (fun c180 => ?_) (fun c180 => ?_)
                  · skip
                    refine w_if_ge (tgt := 189) rfl (by first | assumption | exact i32_0 | (unfold i32 at *; omega)) rfl (fun c => absurd c (by decide)) (fun _ => ?_)
                    exfalso; omega
                  · skip
                    refine w_if_ge (tgt := 189) rfl (by first | assumption | exact i32_0 | (unfold i32 at *; omega)) rfl (fun _ => ?_) (fun c => absurd c (by decide))
                    refine w_lload rfl rfl (w_l2i rfl ?_)
                    exact w_ireturn rfl hgo
                  · skip
                    refine w_if_ge (tgt := 189) rfl (by first | assumption | exact i32_0 | (unfold i32 at *; omega)) rfl (fun _ => ?_) (fun c => absurd c (by decide))
                    refine w_lload rfl rfl (w_l2i rfl ?_)
                    exact w_ireturn rfl hgo
              · skip
                refine w_if_le (tgt := 146) rfl (by first | assumption | exact i32_0 | (unfold i32 at *; omega)) rfl (fun _ => ?_) (fun c => absurd c (by decide))
                exfalso; omega
          · have ht : (-b).tdiv 720720 = (-b) / 720720 := Int.tdiv_eq_ediv_of_nonneg (by omega)
            have hz : H = -((-b) / 720720) - 1 := by omega
            have hzz : 0 ≤ (-b) / 720720 ∧ (-b) / 720720 ≤ 2000000 := by omega
            generalize (-b) / 720720 = z at *
            have g1 := fun (y : -z - 1 < -999) => hfin (-1000000) N hF (by rw [hz, if_pos y])
            have g2 := fun (y : ¬ -z - 1 < -999) => hfin (-z - 1) N hF (by rw [hz, if_neg y])
            clear hfin m1 m2 m3 l1 l2 hb hf hcM hcN c
            by_cases y : -z - 1 < -999
            · have hgo := g1 y
              refine w_aload rfl rfl (w_getIV rfl (by first | rfl | assumption) (by first | exact Or.inl rfl | exact Or.inr rfl) (h39) ?_)
              refine w_if_ne (tgt := 124) rfl (by first | assumption | exact i32_0 | (unfold i32 at *; omega)) rfl (fun _ => ?_) (fun c => absurd c (by decide))
              refine w_aload rfl rfl (w_getLV rfl (by first | rfl | assumption) rfl (h38) (w_lconst rfl ?_))
              refine w_lcmp rfl (by first | assumption | exact i64_0 | (unfold i64 at *; omega)) (by first | assumption | exact i64_0 | (unfold i64 at *; omega)) (fun c129 => ?_) (fun c129 => ?_) (fun c129 => ?_)
              · skip
                refine w_if_le (tgt := 146) rfl (by first | assumption | exact i32_0 | (unfold i32 at *; omega)) rfl (fun _ => ?_) (fun c => absurd c (by decide))
                refine w_aload rfl rfl (w_getLV rfl (by first | rfl | assumption) rfl (h38) (w_lneg rfl (w_lconst rfl (w_ldiv rfl (by first | assumption | exact i64_0 | (unfold i64 at *; omega)) (by first | assumption | exact i64_0 | (unfold i64 at *; omega)) (by first | decide | omega | assumption) ?_))))
                rw [ht]
                refine w_lneg rfl (w_lconst rfl (w_lsub rfl (w_lstore (ls2 := [_, _, _, _, _, _, _]) rfl rfl rfl (w_lload rfl rfl (w_lconst rfl ?_)))))
                refine w_lcmp rfl (by first | assumption | exact i64_0 | (unfold i64 at *; omega)) (by first | assumption | exact i64_0 | (unfold i64 at *; omega)) (fun c165 => ?_) (fun c165 => ?_) (fun c165 => ?_)
                · skip
                  refine w_if_le (tgt := 175) rfl (by first | assumption | exact i32_0 | (unfold i32 at *; omega)) rfl (fun _ => ?_) (fun c => absurd c (by decide))
                  refine w_lload rfl rfl (w_lconst rfl ?_)
                  refine w_lcmp rfl (by first | assumption | exact i64_0 | (unfold i64 at *; omega)) (by first | assumption | exact i64_0 | (unfold i64 at *; omega)) (fun c180 => ?_) (fun c180 => ?_) (fun c180 => ?_)
                  · skip
                    refine w_if_ge (tgt := 189) rfl (by first | assumption | exact i32_0 | (unfold i32 at *; omega)) rfl (fun c => absurd c (by decide)) (fun _ => ?_)
                    refine w_iconst rfl (w_goto (tgt := 192) rfl rfl ?_)
                    exact w_ireturn rfl hgo
                  · skip
                    refine w_if_ge (tgt := 189) rfl (by first | assumption | exact i32_0 | (unfold i32 at *; omega)) rfl (fun _ => ?_) (fun c => absurd c (by decide))
                    exfalso; omega
                  · skip
                    refine w_if_ge (tgt := 189) rfl (by first | assumption | exact i32_0 | (unfold i32 at *; omega)) rfl (fun _ => ?_) (fun c => absurd c (by decide))
                    exfalso; omega
                · skip
                  refine w_if_le (tgt := 175) rfl (by first | assumption | exact i32_0 | (unfold i32 at *; omega)) rfl (fun c => absurd c (by decide)) (fun _ => ?_)
                  exfalso; omega
                · skip
                  refine w_if_le (tgt := 175) rfl (by first | assumption | exact i32_0 | (unfold i32 at *; omega)) rfl (fun _ => ?_) (fun c => absurd c (by decide))
                  refine w_lload rfl rfl (w_lconst rfl ?_)
                  refine w_lcmp rfl (by first | assumption | exact i64_0 | (unfold i64 at *; omega)) (by first | assumption | exact i64_0 | (unfold i64 at *; omega)) (fun c180 => ?_) (fun c180 => ?_) (fun c180 => ?_)
                  · skip
                    refine w_if_ge (tgt := 189) rfl (by first | assumption | exact i32_0 | (unfold i32 at *; omega)) rfl (fun c => absurd c (by decide)) (fun _ => ?_)
                    refine w_iconst rfl (w_goto (tgt := 192) rfl rfl ?_)
                    exact w_ireturn rfl hgo
                  · skip
                    refine w_if_ge (tgt := 189) rfl (by first | assumption | exact i32_0 | (unfold i32 at *; omega)) rfl (fun _ => ?_) (fun c => absurd c (by decide))
                    exfalso; omega
                  · skip
                    refine w_if_ge (tgt := 189) rfl (by first | assumption | exact i32_0 | (unfold i32 at *; omega)) rfl (fun _ => ?_) (fun c => absurd c (by decide))
                    exfalso; omega
              · skip
                refine w_if_le (tgt := 146) rfl (by first | assumption | exact i32_0 | (unfold i32 at *; omega)) rfl (fun c => absurd c (by decide)) (fun _ => ?_)
                exfalso; omega
              · skip
                refine w_if_le (tgt := 146) rfl (by first | assumption | exact i32_0 | (unfold i32 at *; omega)) rfl (fun _ => ?_) (fun c => absurd c (by decide))
                refine w_aload rfl rfl (w_getLV rfl (by first | rfl | assumption) rfl (h38) (w_lneg rfl (w_lconst rfl (w_ldiv rfl (by first | assumption | exact i64_0 | (unfold i64 at *; omega)) (by first | assumption | exact i64_0 | (unfold i64 at *; omega)) (by first | decide | omega | assumption) ?_))))
                rw [ht]
                refine w_lneg rfl (w_lconst rfl (w_lsub rfl (w_lstore (ls2 := [_, _, _, _, _, _, _]) rfl rfl rfl (w_lload rfl rfl (w_lconst rfl ?_)))))
                refine w_lcmp rfl (by first | assumption | exact i64_0 | (unfold i64 at *; omega)) (by first | assumption | exact i64_0 | (unfold i64 at *; omega)) (fun c165 => ?_) (fun c165 => ?_) (fun c165 => ?_)
                · skip
                  refine w_if_le (tgt := 175) rfl (by first | assumption | exact i32_0 | (unfold i32 at *; omega)) rfl (fun _ => ?_) (fun c => absurd c (by decide))
                  refine w_lload rfl rfl (w_lconst rfl ?_)
                  refine w_lcmp rfl (by first | assumption | exact i64_0 | (unfold i64 at *; omega)) (by first | assumption | exact i64_0 | (unfold i64 at *; omega)) (fun c180 => ?_) (fun c180 => ?_) (fun c180 => ?_)
                  · skip
                    refine w_if_ge (tgt := 189) rfl (by first | assumption | exact i32_0 | (unfold i32 at *; omega)) rfl (fun c => absurd c (by decide)) (fun _ => ?_)
                    refine w_iconst rfl (w_goto (tgt := 192) rfl rfl ?_)
                    exact w_ireturn rfl hgo
                  · skip
                    refine w_if_ge (tgt := 189) rfl (by first | assumption | exact i32_0 | (unfold i32 at *; omega)) rfl (fun _ => ?_) (fun c => absurd c (by decide))
                    exfalso; omega
                  · skip
                    refine w_if_ge (tgt := 189) rfl (by first | assumption | exact i32_0 | (unfold i32 at *; omega)) rfl (fun _ => ?_) (fun c => absurd c (by decide))
                    exfalso; omega
                · skip
                  refine w_if_le (tgt := 175) rfl (by first | assumption | exact i32_0 | (unfold i32 at *; omega)) rfl (fun c => absurd c (by decide)) (fun _ => ?_)
                  exfalso; omega
                · skip
                  refine w_if_le (tgt := 175) rfl (by first | assumption | exact i32_0 | (unfold i32 at *; omega)) rfl (fun _ => ?_) (fun c => absurd c (by decide))
                  refine w_lload rfl rfl (w_lconst rfl ?_)
                  refine w_lcmp rfl (by first | assumption | exact i64_0 | (unfold i64 at *; omega)) (by first | assumption | exact i64_0 | (unfold i64 at *; omega)) (fun c180 => ?_) (fun c180 => ?_) (fun c180 => ?_)
                  · skip
                    refine w_if_ge (tgt := 189) rfl (by first | assumption | exact i32_0 | (unfold i32 at *; omega)) rfl (fun c => absurd c (by decide)) (fun _ => ?_)
                    refine w_iconst rfl (w_goto (tgt := 192) rfl rfl ?_)
                    exact w_ireturn rfl hgo
                  · skip
                    refine w_if_ge (tgt := 189) rfl (by first | assumption | exact i32_0 | (unfold i32 at *; omega)) rfl (fun _ => ?_) (fun c => absurd c (by decide))
                    exfalso; omega
                  · skip
                    refine w_if_ge (tgt := 189) rfl (by first | assumption | exact i32_0 | (unfold i32 at *; omega)) rfl (fun _ => ?_) (fun c => absurd c (by decide))
                    exfalso; omega
            · have hgo := g2 y
              refine w_aload rfl rfl (w_getIV rfl (by first | rfl | assumption) (by first | exact Or.inl rfl | exact Or.inr rfl) (h39) ?_)
              refine w_if_ne (tgt := 124) rfl (by first | assumption | exact i32_0 | (unfold i32 at *; omega)) rfl (fun _ => ?_) (fun c => absurd c (by decide))
              refine w_aload rfl rfl (w_getLV rfl (by first | rfl | assumption) rfl (h38) (w_lconst rfl ?_))
              refine w_lcmp rfl (by first | assumption | exact i64_0 | (unfold i64 at *; omega)) (by first | assumption | exact i64_0 | (unfold i64 at *; omega)) (fun c129 => ?_) (fun c129 => ?_) (fun c129 => ?_)
              · skip
                refine w_if_le (tgt := 146) rfl (by first | assumption | exact i32_0 | (unfold i32 at *; omega)) rfl (fun _ => ?_) (fun c => absurd c (by decide))
                refine w_aload rfl rfl (w_getLV rfl (by first | rfl | assumption) rfl (h38) (w_lneg rfl (w_lconst rfl (w_ldiv rfl (by first | assumption | exact i64_0 | (unfold i64 at *; omega)) (by first | assumption | exact i64_0 | (unfold i64 at *; omega)) (by first | decide | omega | assumption) ?_))))
                rw [ht]
                refine w_lneg rfl (w_lconst rfl (w_lsub rfl (w_lstore (ls2 := [_, _, _, _, _, _, _]) rfl rfl rfl (w_lload rfl rfl (w_lconst rfl ?_)))))
                refine w_lcmp rfl (by first | assumption | exact i64_0 | (unfold i64 at *; omega)) (by first | assumption | exact i64_0 | (unfold i64 at *; omega)) (fun c165 => ?_) (fun c165 => ?_) (fun c165 => ?_)
                · skip
                  refine w_if_le (tgt := 175) rfl (by first | assumption | exact i32_0 | (unfold i32 at *; omega)) rfl (fun _ => ?_) (fun c => absurd c (by decide))
                  refine w_lload rfl rfl (w_lconst rfl ?_)
                  refine w_lcmp rfl (by first | assumption | exact i64_0 | (unfold i64 at *; omega)) (by first | assumption | exact i64_0 | (unfold i64 at *; omega)) (fun c180 => ?_) (fun c180 => ?_) (fun c180 => ?_)
                  · skip
                    refine w_if_ge (tgt := 189) rfl (by first | assumption | exact i32_0 | (unfold i32 at *; omega)) rfl (fun c => absurd c (by decide)) (fun _ => ?_)
                    exfalso; omega
                  · skip
                    refine w_if_ge (tgt := 189) rfl (by first | assumption | exact i32_0 | (unfold i32 at *; omega)) rfl (fun _ => ?_) (fun c => absurd c (by decide))
                    refine w_lload rfl rfl (w_l2i rfl ?_)
                    exact w_ireturn rfl hgo
                  · skip
                    refine w_if_ge (tgt := 189) rfl (by first | assumption | exact i32_0 | (unfold i32 at *; omega)) rfl (fun _ => ?_) (fun c => absurd c (by decide))
                    refine w_lload rfl rfl (w_l2i rfl ?_)
                    exact w_ireturn rfl hgo
                · skip
                  refine w_if_le (tgt := 175) rfl (by first | assumption | exact i32_0 | (unfold i32 at *; omega)) rfl (fun c => absurd c (by decide)) (fun _ => ?_)
                  exfalso; omega
                · skip
                  refine w_if_le (tgt := 175) rfl (by first | assumption | exact i32_0 | (unfold i32 at *; omega)) rfl (fun _ => ?_) (fun c => absurd c (by decide))
                  refine w_lload rfl rfl (w_lconst rfl ?_)
                  refine w_lcmp rfl (by first | assumption | exact i64_0 | (unfold i64 at *; omega)) (by first | assumption | exact i64_0 | (unfold i64 at *; omega)) (fun c180 => ?_) (fun c180 => ?_) (fun c180 => ?_)
                  · skip
                    refine w_if_ge (tgt := 189) rfl (by first | assumption | exact i32_0 | (unfold i32 at *; omega)) rfl (fun c => absurd c (by decide)) (fun _ => ?_)
                    exfalso; omega
                  · skip
                    refine w_if_ge (tgt := 189) rfl (by first | assumption | exact i32_0 | (unfold i32 at *; omega)) rfl (fun _ => ?_) (fun c => absurd c (by decide))
                    refine w_lload rfl rfl (w_l2i rfl ?_)
                    exact w_ireturn rfl hgo
                  · skip
                    refine w_if_ge (tgt := 189) rfl (by first | assumption | exact i32_0 | (unfold i32 at *; omega)) rfl (fun _ => ?_) (fun c => absurd c (by decide))
                    refine w_lload rfl rfl (w_l2i rfl ?_)
                    exact w_ireturn rfl hgo
              · skip
                refine w_if_le (tgt := 146) rfl (by first | assumption | exact i32_0 | (unfold i32 at *; omega)) rfl (fun c => absurd c (by decide)) (fun _ => ?_)
                exfalso; omega
              · skip
                refine w_if_le (tgt := 146) rfl (by first | assumption | exact i32_0 | (unfold i32 at *; omega)) rfl (fun _ => ?_) (fun c => absurd c (by decide))
                refine w_aload rfl rfl (w_getLV rfl (by first | rfl | assumption) rfl (h38) (w_lneg rfl (w_lconst rfl (w_ldiv rfl (by first | assumption | exact i64_0 | (unfold i64 at *; omega)) (by first | assumption | exact i64_0 | (unfold i64 at *; omega)) (by first | decide | omega | assumption) ?_))))
                rw [ht]
                refine w_lneg rfl (w_lconst rfl (w_lsub rfl (w_lstore (ls2 := [_, _, _, _, _, _, _]) rfl rfl rfl (w_lload rfl rfl (w_lconst rfl ?_)))))
                refine w_lcmp rfl (by first | assumption | exact i64_0 | (unfold i64 at *; omega)) (by first | assumption | exact i64_0 | (unfold i64 at *; omega)) (fun c165 => ?_) (fun c165 => ?_) (fun c165 => ?_)
                · skip
                  refine w_if_le (tgt := 175) rfl (by first | assumption | exact i32_0 | (unfold i32 at *; omega)) rfl (fun _ => ?_) (fun c => absurd c (by decide))
                  refine w_lload rfl rfl (w_lconst rfl ?_)
                  refine w_lcmp rfl (by first | assumption | exact i64_0 | (unfold i64 at *; omega)) (by first | assumption | exact i64_0 | (unfold i64 at *; omega)) (fun c180 => ?_) (fun c180 => ?_) (fun c180 => ?_)
                  · skip
                    refine w_if_ge (tgt := 189) rfl (by first | assumption | exact i32_0 | (unfold i32 at *; omega)) rfl (fun c => absurd c (by decide)) (fun _ => ?_)
                    exfalso; omega
                  · skip
                    refine w_if_ge (tgt := 189) rfl (by first | assumption | exact i32_0 | (unfold i32 at *; omega)) rfl (fun _ => ?_) (fun c => absurd c (by decide))
                    refine w_lload rfl rfl (w_l2i rfl ?_)
                    exact w_ireturn rfl hgo
                  · skip
                    refine w_if_ge (tgt := 189) rfl (by first | assumption | exact i32_0 | (unfold i32 at *; omega)) rfl (fun _ => ?_) (fun c => absurd c (by decide))
                    refine w_lload rfl rfl (w_l2i rfl ?_)
                    exact w_ireturn rfl hgo
                · skip
                  refine w_if_le (tgt := 175) rfl (by first | assumption | exact i32_0 | (unfold i32 at *; omega)) rfl (fun c => absurd c (by decide)) (fun _ => ?_)
                  exfalso; omega
                · skip
                  refine w_if_le (tgt := 175) rfl (by first | assumption | exact i32_0 | (unfold i32 at *; omega)) rfl (fun _ => ?_) (fun c => absurd c (by decide))
                  refine w_lload rfl rfl (w_lconst rfl ?_)
                  refine w_lcmp rfl (by first | assumption | exact i64_0 | (unfold i64 at *; omega)) (by first | assumption | exact i64_0 | (unfold i64 at *; omega)) (fun c180 => ?_) (fun c180 => ?_) (fun c180 => ?_)
                  · skip
                    refine w_if_ge (tgt := 189) rfl (by first | assumption | exact i32_0 | (unfold i32 at *; omega)) rfl (fun c => absurd c (by decide)) (fun _ => ?_)
                    exfalso; omega
                  · skip
                    refine w_if_ge (tgt := 189) rfl (by first | assumption | exact i32_0 | (unfold i32 at *; omega)) rfl (fun _ => ?_) (fun c => absurd c (by decide))
                    refine w_lload rfl rfl (w_l2i rfl ?_)
                    exact w_ireturn rfl hgo
                  · skip
                    refine w_if_ge (tgt := 189) rfl (by first | assumption | exact i32_0 | (unfold i32 at *; omega)) rfl (fun _ => ?_) (fun c => absurd c (by decide))
                    refine w_lload rfl rfl (w_l2i rfl ?_)
                    exact w_ireturn rfl hgo
      clear hPost hfin
      -- pairs up to p, n
      have inner : ∀ (p : Nat), p < 25 → (∀ (N : mM) (o : Option Int) (w6 : mV), brF M N → baR o N → (∀ c, loO o c ↔ ∀ p2 q2, p2 < p + 1 → p2 < q2 → q2 < 25 → hasF f p2 = true → hasF f q2 = true → p2 ≠ k → q2 ≠ k → lfB f k c p2 q2) → Wp mc_224 D 107 [vR 155, vI A, vI i, vI j, vI k, vI p, w6] [] N Post) → ∀ (m n : Nat) (N : mM) (o : Option Int), 25 - n = m → p < n → n ≤ 25 → brF M N → baR o N → (∀ c, loO o c ↔ (∀ p2 q2, p2 < p → p2 < q2 → q2 < 25 → hasF f p2 = true → hasF f q2 = true → p2 ≠ k → q2 ≠ k → lfB f k c p2 q2) ∧ ∀ q2, p < q2 → q2 < n → hasF f p = true → hasF f q2 = true → p ≠ k → q2 ≠ k → lfB f k c p q2) → Wp mc_224 D 49 [vR 155, vI A, vI i, vI j, vI k, vI p, vI n] [] N Post := by
        intro p hp hout m
        induction m with
        | zero =>
          intro n N o hm hpn hn hF hb hI
          obtain rfl : n = 25 := by omega
          have hgo := hout N o (vI (25 : Nat)) hF hb (fun c => by
            rw [hI c]
            constructor
            · rintro ⟨a1, a2⟩ p2 q2 b1 b2 b3
              by_cases e : p2 = p
              · subst e; exact a2 q2 b2 b3
              · exact a1 p2 q2 (by omega) b2 b3
            · intro h
              exact ⟨fun p2 q2 b1 => h p2 q2 (by omega), fun q2 b1 b2 => h p q2 (by omega) b1 b2⟩)
          clear hend hout hI hH hcN
          refine w_iload rfl rfl (w_iconst rfl ?_)
          refine w_icmp_ge (tgt := 107) rfl (by first | assumption | exact i32_0 | (unfold i32 at *; omega)) (by first | assumption | exact i32_0 | (unfold i32 at *; omega)) rfl (fun c53 => ?_) (fun c53 => ?_)
          · skip
            exact hgo
          · skip
            exfalso; omega
        | succ m ih =>
          intro n N o hm hpn hn hF hb hI
          have hcn := hcN N hF
          have skip : (¬ (hasF f p = true ∧ hasF f n = true ∧ p ≠ k ∧ n ≠ k)) → Wp mc_224 D 49 [vR 155, vI A, vI i, vI j, vI k, vI p, vI ((n : Int) + 1)] [] N Post := by
            intro hno
            refine ih (n + 1) N o (by omega) (by omega) (by omega) hF hb (fun c => ?_)
            rw [hI c]
            constructor
            · rintro ⟨a1, a2⟩
              refine ⟨a1, fun q2 b1 b2 b3 b4 b5 b6 => ?_⟩
              by_cases e : q2 = n
              · subst e; exact absurd ⟨b3, b4, b5, b6⟩ hno
              · exact a2 q2 b1 (by omega) b3 b4 b5 b6
            · rintro ⟨a1, a2⟩
              exact ⟨a1, fun q2 b1 b2 => a2 q2 b1 (by omega)⟩
          have add : ∀ (N2 : mM) (o2 : Option Int), hasF f p = true → hasF f n = true → p ≠ k → n ≠ k → baR o2 N2 → (∀ c, loO o2 c ↔ loO o c ∧ lfB f k c p n) → brF N N2 → Wp mc_224 D 49 [vR 155, vI A, vI i, vI j, vI k, vI p, vI ((n : Int) + 1)] [] N2 Post := by
            intro N2 o2 g1 g2 g3 g4 hb2 hI2 hF2
            refine ih (n + 1) N2 o2 (by omega) (by omega) (by omega) (brF_tr hF hF2) hb2 (fun c => ?_)
            rw [hI2 c, hI c]
            constructor
            · rintro ⟨⟨a1, a2⟩, a3⟩
              refine ⟨a1, fun q2 b1 b2 b3 b4 b5 b6 => ?_⟩
              by_cases e : q2 = n
              · rw [e]; exact a3
              · exact a2 q2 b1 (by omega) b3 b4 b5 b6
            · rintro ⟨a1, a2⟩
              exact ⟨⟨a1, fun q2 b1 b2 => a2 q2 b1 (by omega)⟩, a2 n (by omega) (by omega) g1 g2 g3 g4⟩
          clear hend hout hI ih hH hcN
          cases fp : hasF f p with
          | false =>
            have hgo := skip (fun z => by rw [fp] at z; cases z.1)
            clear skip add
            refine w_iload rfl rfl (w_iconst rfl ?_)
            refine w_icmp_ge (tgt := 107) rfl (by first | assumption | exact i32_0 | (unfold i32 at *; omega)) (by first | assumption | exact i32_0 | (unfold i32 at *; omega)) rfl (fun c53 => ?_) (fun c53 => ?_)
            · skip
              exfalso; omega
            · skip
              refine w_aload rfl rfl (w_iload rfl rfl (w_iload rfl rfl ?_))
              refine w_call (Or.inr rfl) (m_has0 hA hcn hf (by omega) fp) (by omega) nof_167 rfl rfl rfl rfl (by first | rfl | (show cKB[_]? = _; assumption)) rfl ?_
              refine w_if_eq (tgt := 101) rfl (by first | assumption | exact i32_0 | (unfold i32 at *; omega)) rfl (fun _ => ?_) (fun c => absurd c (by decide))
              refine w_iinc (ls2 := [_, _, _, _, _, _, _]) rfl rfl rfl (w_goto (tgt := 49) rfl rfl ?_)
              exact hgo
          | true =>
            cases fn : hasF f n with
            | false =>
              have hgo := skip (fun z => by rw [fn] at z; cases z.2.1)
              clear skip add
              refine w_iload rfl rfl (w_iconst rfl ?_)
              refine w_icmp_ge (tgt := 107) rfl (by first | assumption | exact i32_0 | (unfold i32 at *; omega)) (by first | assumption | exact i32_0 | (unfold i32 at *; omega)) rfl (fun c53 => ?_) (fun c53 => ?_)
              · skip
                exfalso; omega
              · skip
                refine w_aload rfl rfl (w_iload rfl rfl (w_iload rfl rfl ?_))
                refine w_call (Or.inr rfl) (m_has1 hA hcn hf (by omega) fp) (by omega) nof_167 rfl rfl rfl rfl (by first | rfl | (show cKB[_]? = _; assumption)) rfl ?_
                refine w_if_eq (tgt := 101) rfl (by first | assumption | exact i32_0 | (unfold i32 at *; omega)) rfl (fun c => absurd c (by decide)) (fun _ => ?_)
                refine w_aload rfl rfl (w_iload rfl rfl (w_iload rfl rfl ?_))
                refine w_call (Or.inr rfl) (m_has0 hA hcn hf (by omega) fn) (by omega) nof_167 rfl rfl rfl rfl (by first | rfl | (show cKB[_]? = _; assumption)) rfl ?_
                refine w_if_eq (tgt := 101) rfl (by first | assumption | exact i32_0 | (unfold i32 at *; omega)) rfl (fun _ => ?_) (fun c => absurd c (by decide))
                refine w_iinc (ls2 := [_, _, _, _, _, _, _]) rfl rfl rfl (w_goto (tgt := 49) rfl rfl ?_)
                exact hgo
            | true =>
              by_cases pk : p = k
              · have hgo := skip (fun z => z.2.2.1 pk)
                clear skip add
                refine w_iload rfl rfl (w_iconst rfl ?_)
                refine w_icmp_ge (tgt := 107) rfl (by first | assumption | exact i32_0 | (unfold i32 at *; omega)) (by first | assumption | exact i32_0 | (unfold i32 at *; omega)) rfl (fun c53 => ?_) (fun c53 => ?_)
                · skip
                  exfalso; omega
                · skip
                  refine w_aload rfl rfl (w_iload rfl rfl (w_iload rfl rfl ?_))
                  refine w_call (Or.inr rfl) (m_has1 hA hcn hf (by omega) fp) (by omega) nof_167 rfl rfl rfl rfl (by first | rfl | (show cKB[_]? = _; assumption)) rfl ?_
                  refine w_if_eq (tgt := 101) rfl (by first | assumption | exact i32_0 | (unfold i32 at *; omega)) rfl (fun c => absurd c (by decide)) (fun _ => ?_)
                  refine w_aload rfl rfl (w_iload rfl rfl (w_iload rfl rfl ?_))
                  refine w_call (Or.inr rfl) (m_has1 hA hcn hf (by omega) fn) (by omega) nof_167 rfl rfl rfl rfl (by first | rfl | (show cKB[_]? = _; assumption)) rfl ?_
                  refine w_if_eq (tgt := 101) rfl (by first | assumption | exact i32_0 | (unfold i32 at *; omega)) rfl (fun c => absurd c (by decide)) (fun _ => ?_)
                  refine w_iload rfl rfl (w_iload rfl rfl ?_)
                  refine w_icmp_eq (tgt := 101) rfl (by first | assumption | exact i32_0 | (unfold i32 at *; omega)) (by first | assumption | exact i32_0 | (unfold i32 at *; omega)) rfl (fun c80 => ?_) (fun c80 => ?_)
                  · skip
                    refine w_iinc (ls2 := [_, _, _, _, _, _, _]) rfl rfl rfl (w_goto (tgt := 49) rfl rfl ?_)
                    exact hgo
                  · skip
                    exfalso; omega
              · by_cases nk : n = k
                · have hgo := skip (fun z => z.2.2.2 nk)
                  clear skip add
                  refine w_iload rfl rfl (w_iconst rfl ?_)
                  refine w_icmp_ge (tgt := 107) rfl (by first | assumption | exact i32_0 | (unfold i32 at *; omega)) (by first | assumption | exact i32_0 | (unfold i32 at *; omega)) rfl (fun c53 => ?_) (fun c53 => ?_)
                  · skip
                    exfalso; omega
                  · skip
                    refine w_aload rfl rfl (w_iload rfl rfl (w_iload rfl rfl ?_))
                    refine w_call (Or.inr rfl) (m_has1 hA hcn hf (by omega) fp) (by omega) nof_167 rfl rfl rfl rfl (by first | rfl | (show cKB[_]? = _; assumption)) rfl ?_
                    refine w_if_eq (tgt := 101) rfl (by first | assumption | exact i32_0 | (unfold i32 at *; omega)) rfl (fun c => absurd c (by decide)) (fun _ => ?_)
                    refine w_aload rfl rfl (w_iload rfl rfl (w_iload rfl rfl ?_))
                    refine w_call (Or.inr rfl) (m_has1 hA hcn hf (by omega) fn) (by omega) nof_167 rfl rfl rfl rfl (by first | rfl | (show cKB[_]? = _; assumption)) rfl ?_
                    refine w_if_eq (tgt := 101) rfl (by first | assumption | exact i32_0 | (unfold i32 at *; omega)) rfl (fun c => absurd c (by decide)) (fun _ => ?_)
                    refine w_iload rfl rfl (w_iload rfl rfl ?_)
                    refine w_icmp_eq (tgt := 101) rfl (by first | assumption | exact i32_0 | (unfold i32 at *; omega)) (by first | assumption | exact i32_0 | (unfold i32 at *; omega)) rfl (fun c80 => ?_) (fun c80 => ?_)
                    · skip
                      refine w_iinc (ls2 := [_, _, _, _, _, _, _]) rfl rfl rfl (w_goto (tgt := 49) rfl rfl ?_)
                      exact hgo
                    · skip
                      refine w_iload rfl rfl (w_iload rfl rfl ?_)
                      refine w_icmp_eq (tgt := 101) rfl (by first | assumption | exact i32_0 | (unfold i32 at *; omega)) (by first | assumption | exact i32_0 | (unfold i32 at *; omega)) rfl (fun c87 => ?_) (fun c87 => ?_)
                      · skip
                        refine w_iinc (ls2 := [_, _, _, _, _, _, _]) rfl rfl rfl (w_goto (tgt := 49) rfl rfl ?_)
                        exact hgo
                      · skip
                        exfalso; omega
                · have hgo := fun N2 o2 => add N2 o2 fp fn pk nk
                  have hbo := m_barsOf hA hcn hf e2 hp (by omega) fp fn pk hb
                  clear skip add
                  refine w_iload rfl rfl (w_iconst rfl ?_)
                  refine w_icmp_ge (tgt := 107) rfl (by first | assumption | exact i32_0 | (unfold i32 at *; omega)) (by first | assumption | exact i32_0 | (unfold i32 at *; omega)) rfl (fun c53 => ?_) (fun c53 => ?_)
                  · skip
                    exfalso; omega
                  · skip
                    refine w_aload rfl rfl (w_iload rfl rfl (w_iload rfl rfl ?_))
                    refine w_call (Or.inr rfl) (m_has1 hA hcn hf (by omega) fp) (by omega) nof_167 rfl rfl rfl rfl (by first | rfl | (show cKB[_]? = _; assumption)) rfl ?_
                    refine w_if_eq (tgt := 101) rfl (by first | assumption | exact i32_0 | (unfold i32 at *; omega)) rfl (fun c => absurd c (by decide)) (fun _ => ?_)
                    refine w_aload rfl rfl (w_iload rfl rfl (w_iload rfl rfl ?_))
                    refine w_call (Or.inr rfl) (m_has1 hA hcn hf (by omega) fn) (by omega) nof_167 rfl rfl rfl rfl (by first | rfl | (show cKB[_]? = _; assumption)) rfl ?_
                    refine w_if_eq (tgt := 101) rfl (by first | assumption | exact i32_0 | (unfold i32 at *; omega)) rfl (fun c => absurd c (by decide)) (fun _ => ?_)
                    refine w_iload rfl rfl (w_iload rfl rfl ?_)
                    refine w_icmp_eq (tgt := 101) rfl (by first | assumption | exact i32_0 | (unfold i32 at *; omega)) (by first | assumption | exact i32_0 | (unfold i32 at *; omega)) rfl (fun c80 => ?_) (fun c80 => ?_)
                    · skip
                      refine w_iinc (ls2 := [_, _, _, _, _, _, _]) rfl rfl rfl (w_goto (tgt := 49) rfl rfl ?_)
                      first | exact hgo _ _ u1 u2 u3 | (exfalso; omega)
                    · skip
                      refine w_iload rfl rfl (w_iload rfl rfl ?_)
                      refine w_icmp_eq (tgt := 101) rfl (by first | assumption | exact i32_0 | (unfold i32 at *; omega)) (by first | assumption | exact i32_0 | (unfold i32 at *; omega)) rfl (fun c87 => ?_) (fun c87 => ?_)
                      · skip
                        refine w_iinc (ls2 := [_, _, _, _, _, _, _]) rfl rfl rfl (w_goto (tgt := 49) rfl rfl ?_)
                        first | exact hgo _ _ u1 u2 u3 | (exfalso; omega)
                      · skip
                        refine w_aload rfl rfl (w_iload rfl rfl (w_iload rfl rfl (w_iload rfl rfl (w_iload rfl rfl ?_))))
                        refine w_callQ (Or.inr rfl) ((hbo)) (by omega) nof_225 rfl rfl rfl rfl (by first | rfl | (show cKB[_]? = _; assumption)) (fun r98 M98 hq98 => ?_)
                        obtain ⟨rfl, o2, u1, u2, u3⟩ := hq98
                        refine w_iinc (ls2 := [_, _, _, _, _, _, _]) rfl rfl rfl (w_goto (tgt := 49) rfl rfl ?_)
                        first | exact hgo _ _ u1 u2 u3 | (exfalso; omega)
      have outer : ∀ (m n : Nat) (N : mM) (o : Option Int) (w6 : mV), 25 - n = m → n ≤ 25 → brF M N → baR o N → (∀ c, loO o c ↔ ∀ p2 q2, p2 < n → p2 < q2 → q2 < 25 → hasF f p2 = true → hasF f q2 = true → p2 ≠ k → q2 ≠ k → lfB f k c p2 q2) → Wp mc_224 D 36 [vR 155, vI A, vI i, vI j, vI k, vI n, w6] [] N Post := by
        intro m
        induction m with
        | zero =>
          intro n N o w6 hm hn hF hb hI
          obtain rfl : n = 25 := by omega
          have hgo := hend N o (vI (25 : Nat)) w6 hF hb (fun c => by
            rw [hH c, hI c]
            constructor
            · rintro ⟨a1, a2⟩
              exact ⟨a1, fun p2 q2 _ b2 b3 => a2 p2 q2 b2 b3⟩
            · rintro ⟨a1, a2⟩
              exact ⟨a1, fun p2 q2 b2 b3 => a2 p2 q2 (by omega) b2 b3⟩)
          clear hend inner hI hH hcN
          refine w_iload rfl rfl (w_iconst rfl ?_)
          refine w_icmp_ge (tgt := 113) rfl (by first | assumption | exact i32_0 | (unfold i32 at *; omega)) (by first | assumption | exact i32_0 | (unfold i32 at *; omega)) rfl (fun c40 => ?_) (fun c40 => ?_)
          · skip
            exact hgo
          · skip
            exfalso; omega
        | succ m ih =>
          intro n N o w6 hm hn hF hb hI
          have hgo := inner n (by omega) (fun N2 o2 w62 h1 h2 h3 => by
            have hgo := ih (n + 1) N2 o2 w62 (by omega) (by omega) h1 h2 h3
            clear hend inner hI hH hcN ih
            refine w_iinc (ls2 := [_, _, _, _, _, _, _]) rfl rfl rfl (w_goto (tgt := 36) rfl rfl ?_)
            exact hgo) (25 - (n + 1)) (n + 1) N o rfl (by omega) (by omega) hF hb (fun c => by
            rw [hI c]
            constructor
            · intro h
              exact ⟨h, fun q2 b1 b2 => by omega⟩
            · exact fun h => h.1)
          clear hend inner hI hH hcN ih
          refine w_iload rfl rfl (w_iconst rfl ?_)
          refine w_icmp_ge (tgt := 113) rfl (by first | assumption | exact i32_0 | (unfold i32 at *; omega)) (by first | assumption | exact i32_0 | (unfold i32 at *; omega)) rfl (fun c40 => ?_) (fun c40 => ?_)
          · skip
            exfalso; omega
          · skip
            refine w_iload rfl rfl (w_iconst rfl (w_iadd rfl (w_istore (ls2 := [_, _, _, _, _, _, _]) rfl rfl rfl ?_)))
            exact hgo
      have hF0 : brF M (upI M 155 39 0) := ⟨fun b hb => by funext x; rw [upI_ne _ _ _ _ (by omega)], fun x h1 h2 => by
        unfold upI
        rw [if_neg (by omega)]⟩
      have hb0 : baR none (upI M 155 39 0) := ⟨fun _ => rfl, fun b hb => by cases hb⟩
      have hgo := fun w6 => outer 25 0 (upI M 155 39 0) none w6 rfl (by decide) hF0 hb0 (fun c => ⟨fun _ p2 q2 b1 => absurd b1 (Nat.not_lt_zero p2), fun _ b hb => by cases hb⟩)
      clear outer inner hend hH hcN hcM
      refine w_iload rfl rfl ?_
      refine w_call (Or.inl rfl) (m_isCurve1 M q) (by omega) nof_165 rfl rfl rfl rfl trivial rfl ?_
      refine w_if_ne (tgt := 10) rfl (by first | assumption | exact i32_0 | (unfold i32 at *; omega)) rfl (fun _ => ?_) (fun c => absurd c (by decide))
      refine w_iload rfl rfl (w_iload rfl rfl ?_)
      refine w_call (Or.inl rfl) (m_isPlace1 M qp) (by omega) nof_166 rfl rfl rfl rfl trivial rfl ?_
      refine w_if_ne (tgt := 21) rfl (by first | assumption | exact i32_0 | (unfold i32 at *; omega)) rfl (fun _ => ?_) (fun c => absurd c (by decide))
      refine w_iconst rfl (w_iload rfl rfl (w_imul rfl (w_iload rfl rfl (w_iadd rfl (w_istore (ls2 := [_, _, _, _, _, _, _]) rfl rfl rfl ?_)))))
      rw [e1]
      refine w_aload rfl rfl (w_iconst rfl (w_putZ rfl (by first | rfl | assumption) rfl (by first | exact Or.inl rfl | exact Or.inr rfl | omega | assumption) (w_iconst rfl (w_istore (ls2 := [_, _, _, _, _, _, _]) rfl rfl rfl ?_))))
      exact hgo _
    · rw [if_neg qp]
      have qp : ¬ isPl i j := fun z => qp (isPlB_iff.mpr z)
      refine w_iload rfl rfl ?_
      refine w_call (Or.inl rfl) (m_isCurve1 M q) (by omega) nof_165 rfl rfl rfl rfl trivial rfl ?_
      refine w_if_ne (tgt := 10) rfl (by first | assumption | exact i32_0 | (unfold i32 at *; omega)) rfl (fun _ => ?_) (fun c => absurd c (by decide))
      refine w_iload rfl rfl (w_iload rfl rfl ?_)
      refine w_call (Or.inl rfl) (m_isPlace0 M hi hj qp) (by omega) nof_166 rfl rfl rfl rfl trivial rfl ?_
      refine w_if_ne (tgt := 21) rfl (by first | assumption | exact i32_0 | (unfold i32 at *; omega)) rfl (fun c => absurd c (by decide)) (fun _ => ?_)
      refine w_iconst rfl ?_
      exact w_ireturn rfl ⟨by first | rfl | (congr 2; omega), by exact MI_same c⟩
  · rw [if_neg q]
    have q : ¬ (a = 0 ∨ a = 1) := fun z => q (isCu_iff.mpr z)
    refine w_iload rfl rfl ?_
    refine w_call (Or.inl rfl) (m_isCurve0 M ha q) (by omega) nof_165 rfl rfl rfl rfl trivial rfl ?_
    refine w_if_ne (tgt := 10) rfl (by first | assumption | exact i32_0 | (unfold i32 at *; omega)) rfl (fun c => absurd c (by decide)) (fun _ => ?_)
    refine w_iconst rfl ?_
    exact w_ireturn rfl ⟨by first | rfl | (congr 2; omega), by exact MI_same c⟩
