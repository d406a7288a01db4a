/-! ===== the model: its rows ===== -/
theorem mo : cKB[155]? = some (0, 10) ∧ cRT 155 0 = some 156 ∧ cRT 155 2 = some 157 ∧ cRT 155 3 = some 158 := ⟨rfl, rfl, rfl, rfl⟩
def mv (f : Cv) (p : Nat) : Int := (f p).getD 5000
def mcur (B : Nat) (f : Cv) (M : mM) : Prop := ∀ p, p < 25 → M 156 (B + p) = mv f p
theorem mcur_fr {B : Nat} {f : Cv} {M M1 : mM} (h : mcur B f M) (e : ∀ k, B ≤ k → k < B + 25 → M1 156 k = M 156 k) : mcur B f M1 := fun p hp => by rw [e _ (by omega) (by omega)]; exact h p hp
def mrow (B : Nat) (f g : Cv) (M : mM) : Prop := mcur B f M ∧ mcur (B + 25) g M
theorem mrow_fr {B : Nat} {f g : Cv} {M M1 : mM} (h : mrow B f g M) (e : ∀ k, B ≤ k → k < B + 50 → M1 156 k = M 156 k) : mrow B f g M1 := ⟨mcur_fr h.1 (fun k q1 q2 => e k q1 (by omega)), mcur_fr h.2 (fun k q1 q2 => e k (by omega) (by omega))⟩
theorem mv_some {f : Cv} {p : Nat} (h : hasF f p = true) : mv f p = cv f p := by
  have := hasF_some h
  unfold mv; rw [this]; rfl
theorem mv_none {f : Cv} {p : Nat} (h : hasF f p = false) : mv f p = 5000 := by
  unfold hasF at h; unfold mv
  cases e : f p with
  | none => rfl
  | some c => rw [e] at h; cases h
theorem mv_le {f : Cv} (hf : Cok 999 f) (p : Nat) : -999 ≤ mv f p ∧ mv f p ≤ 5000 := by
  cases e : hasF f p with
  | true => rw [mv_some e]; have := cv_le hf p; omega
  | false => rw [mv_none e]; omega
theorem m_in0 {v l m : Int} (M : mM) (h1 : i64 v) (h2 : i64 l) (h3 : i64 m) (h : ¬ (l ≤ v ∧ v ≤ m)) : E 1 150 [vL v, vL l, vL m] M (some (vI 0)) M := by
  refine e_in (ls := [vL v, vN, vL l, vN, vL m, vN]) mq_150 (ml_150 rfl) rfl fun D hD => ?_
  refine w_lload rfl rfl (w_lload rfl rfl ?_)
  refine w_lcmp rfl (by first | assumption | exact i64_0 | (unfold i64 at *; omega)) (by first | assumption | exact i64_0 | (unfold i64 at *; omega)) (fun c2 => ?_) (fun c2 => ?_) (fun c2 => ?_)
  · skip
    refine w_if_lt (tgt := 17) rfl (by first | assumption | exact i32_0 | (unfold i32 at *; omega)) rfl (fun _ => ?_) (fun c => absurd c (by decide))
    refine w_iconst rfl ?_
    exact w_zreturn rfl (by first | exact Or.inl rfl | exact Or.inr rfl | omega | assumption) ⟨by first | rfl | (congr 2; omega), by rfl⟩
  · skip
    refine w_if_lt (tgt := 17) rfl (by first | assumption | exact i32_0 | (unfold i32 at *; omega)) rfl (fun c => absurd c (by decide)) (fun _ => ?_)
    refine w_lload rfl rfl (w_lload rfl rfl ?_)
    refine w_lcmp rfl (by first | assumption | exact i64_0 | (unfold i64 at *; omega)) (by first | assumption | exact i64_0 | (unfold i64 at *; omega)) (fun c9 => ?_) (fun c9 => ?_) (fun c9 => ?_)
    · skip
      refine w_if_gt (tgt := 17) rfl (by first | assumption | exact i32_0 | (unfold i32 at *; omega)) rfl (fun c => absurd c (by decide)) (fun _ => ?_)
      exfalso; omega
    · skip
      refine w_if_gt (tgt := 17) rfl (by first | assumption | exact i32_0 | (unfold i32 at *; omega)) rfl (fun _ => ?_) (fun c => absurd c (by decide))
      refine w_iconst rfl ?_
      exact w_zreturn rfl (by first | exact Or.inl rfl | exact Or.inr rfl | omega | assumption) ⟨by first | rfl | (congr 2; omega), by rfl⟩
    · skip
      refine w_if_gt (tgt := 17) rfl (by first | assumption | exact i32_0 | (unfold i32 at *; omega)) rfl (fun c => absurd c (by decide)) (fun _ => ?_)
      exfalso; omega
  · skip
    refine w_if_lt (tgt := 17) rfl (by first | assumption | exact i32_0 | (unfold i32 at *; omega)) rfl (fun c => absurd c (by decide)) (fun _ => ?_)
    refine w_lload rfl rfl (w_lload rfl rfl ?_)
    refine w_lcmp rfl (by first | assumption | exact i64_0 | (unfold i64 at *; omega)) (by first | assumption | exact i64_0 | (unfold i64 at *; omega)) (fun c9 => ?_) (fun c9 => ?_) (fun c9 => ?_)
    · skip
      refine w_if_gt (tgt := 17) rfl (by first | assumption | exact i32_0 | (unfold i32 at *; omega)) rfl (fun c => absurd c (by decide)) (fun _ => ?_)
      exfalso; omega
    · skip
      refine w_if_gt (tgt := 17) rfl (by first | assumption | exact i32_0 | (unfold i32 at *; omega)) rfl (fun _ => ?_) (fun c => absurd c (by decide))
      refine w_iconst rfl ?_
      exact w_zreturn rfl (by first | exact Or.inl rfl | exact Or.inr rfl | omega | assumption) ⟨by first | rfl | (congr 2; omega), by rfl⟩
    · skip
      refine w_if_gt (tgt := 17) rfl (by first | assumption | exact i32_0 | (unfold i32 at *; omega)) rfl (fun c => absurd c (by decide)) (fun _ => ?_)
      exfalso; omega
theorem m_in1 {v l m : Int} (M : mM) (h1 : i64 v) (h2 : i64 l) (h3 : i64 m) (h : l ≤ v ∧ v ≤ m) : E 1 150 [vL v, vL l, vL m] M (some (vI 1)) M := by
  refine e_in (ls := [vL v, vN, vL l, vN, vL m, vN]) mq_150 (ml_150 rfl) rfl fun D hD => ?_
  refine w_lload rfl rfl (w_lload rfl rfl ?_)
  refine w_lcmp rfl (by first | assumption | exact i64_0 | (unfold i64 at *; omega)) (by first | assumption | exact i64_0 | (unfold i64 at *; omega)) (fun c2 => ?_) (fun c2 => ?_) (fun c2 => ?_)
  · skip
    refine w_if_lt (tgt := 17) rfl (by first | assumption | exact i32_0 | (unfold i32 at *; omega)) rfl (fun _ => ?_) (fun c => absurd c (by decide))
    exfalso; omega
  · skip
    refine w_if_lt (tgt := 17) rfl (by first | assumption | exact i32_0 | (unfold i32 at *; omega)) rfl (fun c => absurd c (by decide)) (fun _ => ?_)
    refine w_lload rfl rfl (w_lload rfl rfl ?_)
    refine w_lcmp rfl (by first | assumption | exact i64_0 | (unfold i64 at *; omega)) (by first | assumption | exact i64_0 | (unfold i64 at *; omega)) (fun c9 => ?_) (fun c9 => ?_) (fun c9 => ?_)
    · skip
      refine w_if_gt (tgt := 17) rfl (by first | assumption | exact i32_0 | (unfold i32 at *; omega)) rfl (fun c => absurd c (by decide)) (fun _ => ?_)
      refine w_iconst rfl (w_goto (tgt := 18) rfl rfl ?_)
      exact w_zreturn rfl (by first | exact Or.inl rfl | exact Or.inr rfl | omega | assumption) ⟨by first | rfl | (congr 2; omega), by rfl⟩
    · skip
      refine w_if_gt (tgt := 17) rfl (by first | assumption | exact i32_0 | (unfold i32 at *; omega)) rfl (fun _ => ?_) (fun c => absurd c (by decide))
      exfalso; omega
    · skip
      refine w_if_gt (tgt := 17) rfl (by first | assumption | exact i32_0 | (unfold i32 at *; omega)) rfl (fun c => absurd c (by decide)) (fun _ => ?_)
      refine w_iconst rfl (w_goto (tgt := 18) rfl rfl ?_)
      exact w_zreturn rfl (by first | exact Or.inl rfl | exact Or.inr rfl | omega | assumption) ⟨by first | rfl | (congr 2; omega), by rfl⟩
  · skip
    refine w_if_lt (tgt := 17) rfl (by first | assumption | exact i32_0 | (unfold i32 at *; omega)) rfl (fun c => absurd c (by decide)) (fun _ => ?_)
    refine w_lload rfl rfl (w_lload rfl rfl ?_)
    refine w_lcmp rfl (by first | assumption | exact i64_0 | (unfold i64 at *; omega)) (by first | assumption | exact i64_0 | (unfold i64 at *; omega)) (fun c9 => ?_) (fun c9 => ?_) (fun c9 => ?_)
    · skip
      refine w_if_gt (tgt := 17) rfl (by first | assumption | exact i32_0 | (unfold i32 at *; omega)) rfl (fun c => absurd c (by decide)) (fun _ => ?_)
      refine w_iconst rfl (w_goto (tgt := 18) rfl rfl ?_)
      exact w_zreturn rfl (by first | exact Or.inl rfl | exact Or.inr rfl | omega | assumption) ⟨by first | rfl | (congr 2; omega), by rfl⟩
    · skip
      refine w_if_gt (tgt := 17) rfl (by first | assumption | exact i32_0 | (unfold i32 at *; omega)) rfl (fun _ => ?_) (fun c => absurd c (by decide))
      exfalso; omega
    · skip
      refine w_if_gt (tgt := 17) rfl (by first | assumption | exact i32_0 | (unfold i32 at *; omega)) rfl (fun c => absurd c (by decide)) (fun _ => ?_)
      refine w_iconst rfl (w_goto (tgt := 18) rfl rfl ?_)
      exact w_zreturn rfl (by first | exact Or.inl rfl | exact Or.inr rfl | omega | assumption) ⟨by first | rfl | (congr 2; omega), by rfl⟩
theorem m_isCurve0 {a : Int} (M : mM) (ha : i32 a) (h : ¬ (a = 0 ∨ a = 1)) : E 2 165 [vI a] M (some (vI 0)) M := by
  have h2 := m_in0 (v := a) (l := 0) (m := 1) M (by unfold i64; unfold i32 at ha; omega) (by unfold i64; omega) (by unfold i64; omega) (by omega)
  refine e_in (ls := [vI a]) mq_165 (ml_165 rfl) rfl fun D hD => ?_
  refine w_iload rfl rfl (w_i2l rfl (by first | assumption | exact i32_0 | (unfold i32 at *; omega)) (w_lconst rfl (w_lconst rfl ?_)))
  refine w_call (Or.inl rfl) ((h2)) (by omega) nof_150 rfl rfl rfl rfl trivial rfl ?_
  exact w_zreturn rfl (by first | exact Or.inl rfl | exact Or.inr rfl | omega | assumption) ⟨by first | rfl | (congr 2; omega), by rfl⟩
theorem m_isCurve1 {a : Int} (M : mM) (h : a = 0 ∨ a = 1) : E 2 165 [vI a] M (some (vI 1)) M := by
  have ha : i32 a := by unfold i32; omega
  have h2 := m_in1 (v := a) (l := 0) (m := 1) M (by unfold i64; omega) (by unfold i64; omega) (by unfold i64; omega) (by omega)
  refine e_in (ls := [vI a]) mq_165 (ml_165 rfl) rfl fun D hD => ?_
  refine w_iload rfl rfl (w_i2l rfl (by first | assumption | exact i32_0 | (unfold i32 at *; omega)) (w_lconst rfl (w_lconst rfl ?_)))
  refine w_call (Or.inl rfl) ((h2)) (by omega) nof_150 rfl rfl rfl rfl trivial rfl ?_
  exact w_zreturn rfl (by first | exact Or.inl rfl | exact Or.inr rfl | omega | assumption) ⟨by first | rfl | (congr 2; omega), by rfl⟩
theorem m_isTerm0 {c : Int} (M : mM) (hc : i32 c) (h : ¬ (-999 ≤ c ∧ c ≤ 999)) : E 2 174 [vI c] M (some (vI 0)) M := by
  have h2 := m_in0 (v := c) (l := -999) (m := 999) M (by unfold i64; unfold i32 at hc; omega) (by unfold i64; omega) (by unfold i64; omega) (by omega)
  refine e_in (ls := [vI c]) mq_174 (ml_174 rfl) rfl fun D hD => ?_
  refine w_iload rfl rfl (w_i2l rfl (by first | assumption | exact i32_0 | (unfold i32 at *; omega)) (w_lconst rfl (w_lconst rfl ?_)))
  refine w_call (Or.inl rfl) ((h2)) (by omega) nof_150 rfl rfl rfl rfl trivial rfl ?_
  exact w_zreturn rfl (by first | exact Or.inl rfl | exact Or.inr rfl | omega | assumption) ⟨by first | rfl | (congr 2; omega), by rfl⟩
theorem m_isTerm1 {c : Int} (M : mM) (h : -999 ≤ c ∧ c ≤ 999) : E 2 174 [vI c] M (some (vI 1)) M := by
  have hc : i32 c := by unfold i32; omega
  have h2 := m_in1 (v := c) (l := -999) (m := 999) M (by unfold i64; omega) (by unfold i64; omega) (by unfold i64; omega) (by omega)
  refine e_in (ls := [vI c]) mq_174 (ml_174 rfl) rfl fun D hD => ?_
  refine w_iload rfl rfl (w_i2l rfl (by first | assumption | exact i32_0 | (unfold i32 at *; omega)) (w_lconst rfl (w_lconst rfl ?_)))
  refine w_call (Or.inl rfl) ((h2)) (by omega) nof_150 rfl rfl rfl rfl trivial rfl ?_
  exact w_zreturn rfl (by first | exact Or.inl rfl | exact Or.inr rfl | omega | assumption) ⟨by first | rfl | (congr 2; omega), by rfl⟩
theorem m_isDigit0 {c : Int} (M : mM) (hc : 0 ≤ c ∧ c ≤ 255) (h : ¬ dig c = true) : E 2 155 [vI c] M (some (vI 0)) M := by
  have h : ¬ (48 ≤ c ∧ c ≤ 57) := fun q => h (dig_iff.mpr q)
  have h2 := m_in0 (v := c) (l := 48) (m := 57) M (by unfold i64; omega) (by unfold i64; omega) (by unfold i64; omega) (by omega)
  refine e_in (ls := [vI c]) mq_155 (ml_155 rfl) rfl fun D hD => ?_
  refine w_iload rfl rfl (w_i2l rfl (by first | assumption | exact i32_0 | (unfold i32 at *; omega)) (w_lconst rfl (w_lconst rfl ?_)))
  refine w_call (Or.inl rfl) ((h2)) (by omega) nof_150 rfl rfl rfl rfl trivial rfl ?_
  exact w_zreturn rfl (by first | exact Or.inl rfl | exact Or.inr rfl | omega | assumption) ⟨by first | rfl | (congr 2; omega), by rfl⟩
theorem m_isDigit1 {c : Int} (M : mM) (h : dig c = true) : E 2 155 [vI c] M (some (vI 1)) M := by
  have h := dig_iff.mp h
  have h2 := m_in1 (v := c) (l := 48) (m := 57) M (by unfold i64; omega) (by unfold i64; omega) (by unfold i64; omega) (by omega)
  refine e_in (ls := [vI c]) mq_155 (ml_155 rfl) rfl fun D hD => ?_
  refine w_iload rfl rfl (w_i2l rfl (by first | assumption | exact i32_0 | (unfold i32 at *; omega)) (w_lconst rfl (w_lconst rfl ?_)))
  refine w_call (Or.inl rfl) ((h2)) (by omega) nof_150 rfl rfl rfl rfl trivial rfl ?_
  exact w_zreturn rfl (by first | exact Or.inl rfl | exact Or.inr rfl | omega | assumption) ⟨by first | rfl | (congr 2; omega), by rfl⟩
theorem m_isPlace0 {i j : Int} (M : mM) (hi : i32 i) (hj : i32 j) (h : ¬ isPl i j) : E 2 166 [vI i, vI j] M (some (vI 0)) M := by
  unfold isPl at h
  refine e_in (ls := [vI i, vI j]) mq_166 (ml_166 rfl) rfl fun D hD => ?_
  by_cases q : 0 ≤ i ∧ i ≤ 4
  · have h1 := m_in1 (v := i) (l := 0) (m := 4) M (by unfold i64; omega) (by unfold i64; omega) (by unfold i64; omega) q
    have h2 := m_in0 (v := j) (l := 0) (m := 4 - i) M (by unfold i64; unfold i32 at hj; omega) (by unfold i64; omega) (by unfold i64; omega) (by omega)
    refine w_iload rfl rfl (w_i2l rfl (by first | assumption | exact i32_0 | (unfold i32 at *; omega)) (w_lconst rfl (w_lconst rfl ?_)))
    refine w_call (Or.inl rfl) ((h1)) (by omega) nof_150 rfl rfl rfl rfl trivial rfl ?_
    refine w_if_eq (tgt := 29) rfl (by first | assumption | exact i32_0 | (unfold i32 at *; omega)) rfl (fun c => absurd c (by decide)) (fun _ => ?_)
    refine w_iload rfl rfl (w_i2l rfl (by first | assumption | exact i32_0 | (unfold i32 at *; omega)) (w_lconst rfl (w_iconst rfl (w_iload rfl rfl (w_isub rfl (w_i2l rfl (by first | assumption | exact i32_0 | (unfold i32 at *; omega)) ?_))))))
    refine w_call (Or.inl rfl) ((h2)) (by omega) nof_150 rfl rfl rfl rfl trivial rfl ?_
    refine w_if_eq (tgt := 29) rfl (by first | assumption | exact i32_0 | (unfold i32 at *; omega)) rfl (fun _ => ?_) (fun c => absurd c (by decide))
    refine w_iconst rfl ?_
    exact w_zreturn rfl (by first | exact Or.inl rfl | exact Or.inr rfl | omega | assumption) ⟨by first | rfl | (congr 2; omega), by rfl⟩
  · have h1 := m_in0 (v := i) (l := 0) (m := 4) M (by unfold i64; unfold i32 at hi; omega) (by unfold i64; omega) (by unfold i64; omega) q
    refine w_iload rfl rfl (w_i2l rfl (by first | assumption | exact i32_0 | (unfold i32 at *; omega)) (w_lconst rfl (w_lconst rfl ?_)))
    refine w_call (Or.inl rfl) ((id h1)) (by omega) nof_150 rfl rfl rfl rfl trivial rfl ?_
    refine w_if_eq (tgt := 29) rfl (by first | assumption | exact i32_0 | (unfold i32 at *; omega)) rfl (fun _ => ?_) (fun c => absurd c (by decide))
    refine w_iconst rfl ?_
    exact w_zreturn rfl (by first | exact Or.inl rfl | exact Or.inr rfl | omega | assumption) ⟨by first | rfl | (congr 2; omega), by rfl⟩
theorem m_isPlace1 {i j : Int} (M : mM) (h : isPl i j) : E 2 166 [vI i, vI j] M (some (vI 1)) M := by
  unfold isPl at h
  refine e_in (ls := [vI i, vI j]) mq_166 (ml_166 rfl) rfl fun D hD => ?_
  have h1 := m_in1 (v := i) (l := 0) (m := 4) M (by unfold i64; omega) (by unfold i64; omega) (by unfold i64; omega) (by omega)
  have h2 := m_in1 (v := j) (l := 0) (m := 4 - i) M (by unfold i64; omega) (by unfold i64; omega) (by unfold i64; omega) (by omega)
  refine w_iload rfl rfl (w_i2l rfl (by first | assumption | exact i32_0 | (unfold i32 at *; omega)) (w_lconst rfl (w_lconst rfl ?_)))
  refine w_call (Or.inl rfl) ((h1)) (by omega) nof_150 rfl rfl rfl rfl trivial rfl ?_
  refine w_if_eq (tgt := 29) rfl (by first | assumption | exact i32_0 | (unfold i32 at *; omega)) rfl (fun c => absurd c (by decide)) (fun _ => ?_)
  refine w_iload rfl rfl (w_i2l rfl (by first | assumption | exact i32_0 | (unfold i32 at *; omega)) (w_lconst rfl (w_iconst rfl (w_iload rfl rfl (w_isub rfl (w_i2l rfl (by first | assumption | exact i32_0 | (unfold i32 at *; omega)) ?_))))))
  refine w_call (Or.inl rfl) ((h2)) (by omega) nof_150 rfl rfl rfl rfl trivial rfl ?_
  refine w_if_eq (tgt := 29) rfl (by first | assumption | exact i32_0 | (unfold i32 at *; omega)) rfl (fun c => absurd c (by decide)) (fun _ => ?_)
  refine w_iconst rfl (w_goto (tgt := 30) rfl rfl ?_)
  exact w_zreturn rfl (by first | exact Or.inl rfl | exact Or.inr rfl | omega | assumption) ⟨by first | rfl | (congr 2; omega), by rfl⟩
theorem m_has {a p : Nat} {f : Cv} {M : mM} (ha : a < 2) (h : mcur (25 * a) f M) (hf : Cok 999 f) (hp : p < 25) : E 1 167 [vR 155, vI a, vI p] M (some (vI (if hasF f p = true then 1 else 0))) M := by
  have hx : M 156 ((25 * (a : Int) + (p : Int)).toNat) = mv f p := by rw [show (25 * (a : Int) + (p : Int)).toNat = 25 * a + p by omega]; exact h p hp
  have hl := mv_le hf p
  refine e_in (ls := [vR 155, vI a, vI p]) mq_167 (ml_167 rfl) rfl fun D hD => ?_
  cases q : hasF f p with
  | true =>
    have hv := mv_some q
    have hc := cv_le hf p
    rw [if_pos rfl]
    refine w_aload rfl rfl (w_getR rfl (by first | rfl | assumption) rfl (by first | rfl | assumption) (w_iconst rfl (w_iload rfl rfl (w_imul rfl (w_iload rfl rfl (w_iadd rfl (w_ialoadV rfl (by first | rfl | assumption) (by omega) (by omega) (hx) ?_)))))))
    refine w_iconst rfl ?_
    refine w_icmp_eq (tgt := 21) rfl (by first | assumption | exact i32_0 | (unfold i32 at *; omega)) (by first | assumption | exact i32_0 | (unfold i32 at *; omega)) rfl (fun c14 => ?_) (fun c14 => ?_)
    · skip
      exfalso; omega
    · skip
      refine w_iconst rfl (w_goto (tgt := 22) rfl rfl ?_)
      exact w_zreturn rfl (by first | exact Or.inl rfl | exact Or.inr rfl | omega | assumption) ⟨by first | rfl | (congr 2; omega), by rfl⟩
  | false =>
    have hv := mv_none q
    rw [if_neg (by decide)]
    refine w_aload rfl rfl (w_getR rfl (by first | rfl | assumption) rfl (by first | rfl | assumption) (w_iconst rfl (w_iload rfl rfl (w_imul rfl (w_iload rfl rfl (w_iadd rfl (w_ialoadV rfl (by first | rfl | assumption) (by omega) (by omega) (hx) ?_)))))))
    refine w_iconst rfl ?_
    refine w_icmp_eq (tgt := 21) rfl (by first | assumption | exact i32_0 | (unfold i32 at *; omega)) (by first | assumption | exact i32_0 | (unfold i32 at *; omega)) rfl (fun c14 => ?_) (fun c14 => ?_)
    · skip
      refine w_iconst rfl ?_
      exact w_zreturn rfl (by first | exact Or.inl rfl | exact Or.inr rfl | omega | assumption) ⟨by first | rfl | (congr 2; omega), by rfl⟩
    · skip
      exfalso; omega
theorem m_has0 {a p : Nat} {f : Cv} {M : mM} (ha : a < 2) (h : mcur (25 * a) f M) (hf : Cok 999 f) (hp : p < 25) (q : hasF f p = false) : E 1 167 [vR 155, vI a, vI p] M (some (vI 0)) M := by
  have := m_has ha h hf hp
  rw [q] at this; exact this
theorem m_has1 {a p : Nat} {f : Cv} {M : mM} (ha : a < 2) (h : mcur (25 * a) f M) (hf : Cok 999 f) (hp : p < 25) (q : hasF f p = true) : E 1 167 [vR 155, vI a, vI p] M (some (vI 1)) M := by
  have := m_has ha h hf hp
  rw [q] at this; exact this
theorem fb_ct25 {P : Nat → Bool} (h : ∀ k, 21 ≤ k → P k = false) : fb_ct P 25 = fb_ct P 21 := by
  show fb_ct P 21 + (if P 21 then 1 else 0) + (if P 22 then 1 else 0) + (if P 23 then 1 else 0) + (if P 24 then 1 else 0) = _
  rw [h 21 (by decide), h 22 (by decide), h 23 (by decide), h 24 (by decide)]
  rfl
theorem hasF_hi {f : Cv} (hf : Cok 999 f) {k : Nat} (h : 21 ≤ k) : hasF f k = false := Bool.eq_false_iff.mpr (hasF_no hf h)
theorem m_terms {a : Nat} {f : Cv} {M : mM} (ha : a < 2) (h : mcur (25 * a) f M) (hf : Cok 999 f) : E 2 169 [vR 155, vI a] M (some (vI (cntF f))) M := by
  have h25 : cntF f = fb_ct (hasF f) 25 := (fb_ct25 fun k hk => hasF_hi hf hk).symm
  rw [h25]
  refine e_in (ls := [vR 155, vI a, vN, vN]) mq_169 (ml_169 rfl) rfl fun D hD => ?_
  have loop : ∀ (z n : Nat), 25 - n = z → n ≤ 25 → Wp mc_169 D 4 [vR 155, vI a, vI (fb_ct (hasF f) n : Nat), vI n] [] M (fun r N => r = some (vI (fb_ct (hasF f) 25 : Nat)) ∧ N = M) := by
    intro z
    induction z with
    | zero =>
      intro n hz hn
      obtain rfl : n = 25 := by omega
      refine w_iload rfl rfl (w_iconst rfl ?_)
      refine w_icmp_ge (tgt := 33) rfl (by first | assumption | exact i32_0 | (unfold i32 at *; omega)) (by first | assumption | exact i32_0 | (unfold i32 at *; omega)) rfl (fun c7 => ?_) (fun c7 => ?_)
      · skip
        refine w_iload rfl rfl ?_
        exact w_ireturn rfl ⟨by first | rfl | (congr 2; omega), by rfl⟩
      · skip
        exfalso; omega
    | succ z ih =>
      intro n hz hn
      have ihn := ih (n + 1) (by omega) (by omega)
      rw [fb_ct_succ] at ihn
      have hcl := fb_ct_le (hasF f) n
      generalize fb_ct (hasF f) n = c at *
      cases q : hasF f n with
      | true =>
        rw [q] at ihn
        refine w_iload rfl rfl (w_iconst rfl ?_)
        refine w_icmp_ge (tgt := 33) rfl (by first | assumption | exact i32_0 | (unfold i32 at *; omega)) (by first | assumption | exact i32_0 | (unfold i32 at *; omega)) rfl (fun c7 => ?_) (fun c7 => ?_)
        · skip
          exfalso; omega
        · skip
          refine w_iload rfl rfl (w_aload rfl rfl (w_iload rfl rfl (w_iload rfl rfl ?_)))
          refine w_call (Or.inr rfl) (m_has1 ha h hf (by omega) q) (by omega) nof_167 rfl rfl rfl rfl (by first | rfl | (show cKB[_]? = _; assumption)) rfl ?_
          refine w_if_eq (tgt := 24) rfl (by first | assumption | exact i32_0 | (unfold i32 at *; omega)) rfl (fun c => absurd c (by decide)) (fun _ => ?_)
          refine w_iconst rfl (w_goto (tgt := 25) rfl rfl (w_iadd rfl (w_istore (ls2 := [_, _, _, _]) rfl rfl rfl (w_iinc (ls2 := [_, _, _, _]) rfl rfl rfl (w_goto (tgt := 4) rfl rfl ?_)))))
          exact ihn
      | false =>
        rw [q] at ihn
        refine w_iload rfl rfl (w_iconst rfl ?_)
        refine w_icmp_ge (tgt := 33) rfl (by first | assumption | exact i32_0 | (unfold i32 at *; omega)) (by first | assumption | exact i32_0 | (unfold i32 at *; omega)) rfl (fun c7 => ?_) (fun c7 => ?_)
        · skip
          exfalso; omega
        · skip
          refine w_iload rfl rfl (w_aload rfl rfl (w_iload rfl rfl (w_iload rfl rfl ?_)))
          refine w_call (Or.inr rfl) (m_has0 ha h hf (by omega) q) (by omega) nof_167 rfl rfl rfl rfl (by first | rfl | (show cKB[_]? = _; assumption)) rfl ?_
          refine w_if_eq (tgt := 24) rfl (by first | assumption | exact i32_0 | (unfold i32 at *; omega)) rfl (fun _ => ?_) (fun c => absurd c (by decide))
          refine w_iconst rfl (w_iadd rfl (w_istore (ls2 := [_, _, _, _]) rfl rfl rfl (w_iinc (ls2 := [_, _, _, _]) rfl rfl rfl (w_goto (tgt := 4) rfl rfl ?_))))
          exact ihn
  have hgo := loop 25 0 rfl (by decide)
  refine w_iconst rfl (w_istore (ls2 := [_, _, _, _]) rfl rfl rfl (w_iconst rfl (w_istore (ls2 := [_, _, _, _]) rfl rfl rfl ?_)))
  exact hgo
/-- a block of 50 copied -/
theorem m_copyRow {A B : Nat} {f g : Cv} {M : mM} (hA : A ≤ 500) (hB : B ≤ 500) (hAB : A + 50 ≤ B ∨ B + 50 ≤ A) (h : mrow A f g M) : EQ 1 176 [vR 155, vI A, vI B] M (fun r N => r = none ∧ mrow B f g N ∧ (∀ k, (k < B ∨ B + 50 ≤ k) → N 156 k = M 156 k) ∧ ∀ a, a ≠ 156 → N a = M a) := by
  refine q_in (ls := [vR 155, vI A, vI B, vN]) mq_176 (ml_176 rfl) rfl fun D hD => ?_
  have loop : ∀ (z n : Nat) (N : mM), 50 - n = z → n ≤ 50 → (∀ k, k < n → N 156 (B + k) = M 156 (A + k)) → (∀ k, (k < B ∨ B + 50 ≤ k) → N 156 k = M 156 k) → (∀ a, a ≠ 156 → N a = M a) → Wp mc_176 D 2 [vR 155, vI A, vI B, vI n] [] N (fun r N => r = none ∧ mrow B f g N ∧ (∀ k, (k < B ∨ B + 50 ≤ k) → N 156 k = M 156 k) ∧ ∀ a, a ≠ 156 → N a = M a) := by
    intro z
    induction z with
    | zero =>
      intro n N hz hn h1 h2 h3
      obtain rfl : n = 50 := by omega
      have hfin : mrow B f g N := ⟨fun p hp => by rw [h1 p (by omega)]; exact h.1 p hp, fun p hp => by rw [show B + 25 + p = B + (25 + p) by omega, h1 (25 + p) (by omega), show A + (25 + p) = A + 25 + p by omega]; exact h.2 p hp⟩
      refine w_iload rfl rfl (w_iconst rfl ?_)
      refine w_icmp_ge (tgt := 30) rfl (by first | assumption | exact i32_0 | (unfold i32 at *; omega)) (by first | assumption | exact i32_0 | (unfold i32 at *; omega)) rfl (fun c5 => ?_) (fun c5 => ?_)
      · skip
        exact w_return rfl ⟨rfl, by exact ⟨hfin, h2, h3⟩⟩
      · skip
        exfalso; omega
    | succ z ih =>
      intro n N hz hn h1 h2 h3
      have hx : N 156 (((A : Int) + (n : Int)).toNat) = M 156 (A + n) := by rw [show ((A : Int) + (n : Int)).toNat = A + n by omega]; exact h2 _ (by omega)
      have ihn := ih (n + 1) (upI N 156 (B + n) (M 156 (A + n))) (by omega) (by omega) (fun k hk => by
        unfold upI
        by_cases q : k = n
        · rw [if_pos ⟨rfl, by omega⟩, q]
        · rw [if_neg (by omega)]; exact h1 k (by omega)) (fun k hk => (if_neg (by omega)).trans (h2 k hk)) (fun a ha => by rw [upI_ne _ _ _ _ ha]; exact h3 a ha)
      have e1 : ((B : Int) + (n : Int)).toNat = B + n := by omega
      refine w_iload rfl rfl (w_iconst rfl ?_)
      refine w_icmp_ge (tgt := 30) rfl (by first | assumption | exact i32_0 | (unfold i32 at *; omega)) (by first | assumption | exact i32_0 | (unfold i32 at *; omega)) rfl (fun c5 => ?_) (fun c5 => ?_)
      · skip
        exfalso; omega
      · skip
        refine w_aload rfl rfl (w_getR rfl (by first | rfl | assumption) rfl (by first | rfl | assumption) (w_iload rfl rfl (w_iload rfl rfl (w_iadd rfl (w_aload rfl rfl (w_getR rfl (by first | rfl | assumption) rfl (by first | rfl | assumption) (w_iload rfl rfl ?_)))))))
        refine w_iload rfl rfl (w_iadd rfl (w_ialoadV rfl (by first | rfl | assumption) (by omega) (by omega) (hx) (w_iastore rfl (by first | rfl | assumption) (by omega) (by omega) (w_iinc (ls2 := [_, _, _, _]) rfl rfl rfl (w_goto (tgt := 2) rfl rfl ?_)))))
        rw [e1]
        exact ihn
  have hgo := loop 50 0 M rfl (by decide) (fun k hk => absurd hk (Nat.not_lt_zero k)) (fun _ _ => rfl) (fun _ _ => rfl)
  refine w_iconst rfl (w_istore (ls2 := [_, _, _, _]) rfl rfl rfl ?_)
  exact hgo
