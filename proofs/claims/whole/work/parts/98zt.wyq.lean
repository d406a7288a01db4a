/-! ===== ways: both sides agree ===== -/
theorem lab_ext {X Y : Lab} (h : ∀ k, lbA X k = lbA Y k) : X = Y := by
  refine Prod.ext (funext fun k => ?_) (funext fun k => ?_)
  · exact congrArg Prod.fst (h k)
  · exact congrArg Prod.snd (h k)
theorem ways_fix {W : List (Option (Nat × Nat × Int))} {n src : Nat} {L : Int} (hW : wOK n L W) (hs : src < n) (hL : 0 ≤ L) : ∃ D : Lab, (∀ m, n ≤ m → rlxI W (lab0 src) m = D) ∧ ∀ b, D.1 b ≤ n * L := by
  have inv : ∀ m, wInv W n src (rlxI W (lab0 src) m) := rlxI_ind (Φ := wInv W n src) (fun a b l X he h => wInv_step hW he h) (wInv_0 hs)
  have mono1 : ∀ m k, leL (lbA (rlxI W (lab0 src) (m + 1)) k) (lbA (rlxI W (lab0 src) m) k) := fun m k => (rlxK_le hW (inv m).1 k W.length).1.1
  have mono : ∀ d m k, leL (lbA (rlxI W (lab0 src) (m + d)) k) (lbA (rlxI W (lab0 src) m) k) := by
    intro d
    induction d with
    | zero => exact fun m k => leL_rfl (inv m).1 k
    | succ d ih => exact fun m k => leL_tr (mono1 (m + d) k) (ih m k)
  have next : ∀ m, rlxI W (lab0 src) (m + 1) = rlxK W (rlxI W (lab0 src) m) W.length := fun _ => rfl
  generalize rlxI W (lab0 src) = X at *
  -- each label stands still at last
  have ev : ∀ k, ∃ M, ∀ m, M ≤ m → lbA (X m) k = lbA (X M) k := by
    intro k
    by_cases h : ∃ m0, 0 ≤ (X m0).1 k
    · obtain ⟨m0, hm0⟩ := h
      have pos : ∀ d, 0 ≤ (X (m0 + d)).1 k := by
        intro d
        have := mono d m0 k
        unfold leL lbA at this
        dsimp only at this
        omega
      obtain ⟨M1, h1⟩ := const_nat (u := fun d => (X (m0 + d)).1 k) pos (fun d => by
        have := mono1 (m0 + d) k
        have := pos d
        unfold leL lbA at *
        dsimp only at *
        show (X (m0 + (d + 1))).1 k ≤ (X (m0 + d)).1 k
        rw [← Nat.add_assoc]
        omega)
      have h1 : ∀ d, (X (m0 + (M1 + d))).1 k = (X (m0 + M1)).1 k := fun d => h1 (M1 + d) (by omega)
      obtain ⟨M2, h2⟩ := const_nat (u := fun d => (X (m0 + (M1 + d))).2 k) (fun d => by
        have := (inv (m0 + (M1 + d))).1 k
        show 0 ≤ (X (m0 + (M1 + d))).2 k
        omega) (fun d => by
        have a := mono1 (m0 + (M1 + d)) k
        have b := pos (M1 + d)
        have c := h1 d
        have e := h1 (d + 1)
        unfold leL lbA at a
        dsimp only at a
        show (X (m0 + (M1 + (d + 1)))).2 k ≤ (X (m0 + (M1 + d))).2 k
        have e2 : m0 + (M1 + (d + 1)) = m0 + (M1 + d) + 1 := by omega
        rw [e2] at e ⊢
        omega)
      have h2 : ∀ d, (X (m0 + (M1 + (M2 + d)))).2 k = (X (m0 + (M1 + M2))).2 k := fun d => h2 (M2 + d) (by omega)
      refine ⟨m0 + (M1 + M2), fun m hm => ?_⟩
      have e : m = m0 + (M1 + (M2 + (m - (m0 + (M1 + M2))))) := by omega
      rw [e]
      have a1 := h1 (M2 + (m - (m0 + (M1 + M2))))
      have a2 := h1 M2
      have a3 := h2 (m - (m0 + (M1 + M2)))
      exact Prod.ext (a1.trans a2.symm) a3
    · refine ⟨0, fun m _ => ?_⟩
      have neg : ∀ m, (X m).1 k = -1 ∧ (X m).2 k = 0 := by
        intro m
        rcases (inv m).1 k with z | z
        · exact z
        · exact absurd ⟨m, z.1⟩ h
      exact Prod.ext ((neg m).1.trans (neg 0).1.symm) ((neg m).2.trans (neg 0).2.symm)
  have evn : ∀ j, ∃ M, ∀ k, k < j → ∀ m, M ≤ m → lbA (X m) k = lbA (X M) k := by
    intro j
    induction j with
    | zero => exact ⟨0, fun k hk => absurd hk (Nat.not_lt_zero k)⟩
    | succ j ih =>
      obtain ⟨M, hM⟩ := ih
      obtain ⟨M2, hM2⟩ := ev j
      refine ⟨M + M2, fun k hk m hm => ?_⟩
      by_cases e : k = j
      · subst e
        rw [hM2 m (by omega), hM2 (M + M2) (by omega)]
      · rw [hM k (by omega) m (by omega), hM k (by omega) (M + M2) (by omega)]
  obtain ⟨M, hM⟩ := evn n
  have hall : ∀ m, M ≤ m → X m = X M := by
    intro m hm
    refine lab_ext fun k => ?_
    by_cases hk : k < n
    · exact hM k hk m hm
    · rw [(inv m).2.2.1 k (by omega), (inv M).2.2.1 k (by omega)]
  have invD := inv M
  have lower : ∀ m k, leL (lbA (X M) k) (lbA (X m) k) := by
    intro m k
    by_cases h : m ≤ M
    · have := mono (M - m) m k
      rw [show m + (M - m) = M by omega] at this
      exact this
    · rw [hall m (by omega)]
      exact leL_rfl invD.1 k
  have hfix : rlxK W (X M) W.length = X M := by
    rw [← next M]
    exact hall (M + 1) (by omega)
  have noimp : ∀ a b l, wEd W a b l → 0 ≤ (X M).1 a → leL (lbA (X M) b) ((X M).1 a + l, (X M).2 a + 1) := by
    intro a b l he h0
    obtain ⟨Y, y1, ⟨y2, y3⟩, y4⟩ := round_edge hW invD.1 he
    rw [hfix] at y3 y4
    have e := leL_anti y1 invD.1 y2 y3
    have e1 : Y.1 a = (X M).1 a := congrArg Prod.fst e
    have e2 : Y.2 a = (X M).2 a := congrArg Prod.snd e
    rw [e1, e2] at y4
    exact y4 h0
  -- where a label comes from
  have pred : ∀ b, b ≠ src → 0 ≤ (X M).1 b → ∃ a l, wEd W a b l ∧ 0 ≤ (X M).1 a ∧ (X M).1 b = (X M).1 a + l ∧ (X M).2 b = (X M).2 a + 1 := by
    intro b hb h0
    obtain ⟨a, l, h1, h2, h3⟩ := invD.2.2.2 b hb h0
    have h4 := noimp a b l h1 h2
    have := (wEd_ok hW h1).2.1
    unfold leL lbA at h4
    dsimp only at h4
    exact ⟨a, l, h1, h2, by omega, by omega⟩
  have fin : ∀ b, 0 ≤ (X M).1 b → b < n := by
    intro b h0
    by_cases h : b < n
    · exact h
    · have e := congrArg Prod.fst (invD.2.2.1 b (by omega))
      have e : (X M).1 b = -1 := e
      omega
  have srcv : ∀ m, lbA (X m) src = (0, 0) := fun m => (inv m).2.1
  have late : ∀ m b, lbA (X m) b ≠ lbA (X M) b → 0 ≤ (X M).1 b ∧ b ≠ src := by
    intro m b h
    constructor
    · rcases invD.1 b with z | z
      · exfalso
        apply h
        have := lower m b
        have := (inv m).1 b
        unfold leL lbA at *
        dsimp only at *
        exact Prod.ext (show (X m).1 b = (X M).1 b by omega) (show (X m).2 b = (X M).2 b by omega)
      · exact z.1
    · rintro rfl
      exact h ((srcv m).trans (srcv M).symm)
  have chain : ∀ m b, lbA (X m) b ≠ lbA (X M) b → ∃ K : List Nat, K.length = m + 2 ∧ K.Nodup ∧ ∀ x ∈ K, x < n ∧ (X M).1 x ≤ (X M).1 b := by
    intro m
    induction m with
    | zero =>
      intro b h
      obtain ⟨h0, hb⟩ := late 0 b h
      obtain ⟨a, l, e1, e2, e3, e4⟩ := pred b hb h0
      have hl := (wEd_ok hW e1).2.1
      refine ⟨[b, a], rfl, List.nodup_cons.mpr ⟨fun z => ?_, List.nodup_cons.mpr ⟨fun z => (by cases z), List.nodup_nil⟩⟩, fun x hx => ?_⟩
      · rw [List.mem_singleton] at z
        rw [z] at e3
        omega
      · simp only [List.mem_cons, List.not_mem_nil, or_false] at hx
        rcases hx with rfl | rfl
        · exact ⟨fin _ h0, Int.le_refl _⟩
        · exact ⟨fin _ e2, by omega⟩
    | succ m ih =>
      intro b h
      obtain ⟨h0, hb⟩ := late (m + 1) b h
      obtain ⟨a, l, e1, e2, e3, e4⟩ := pred b hb h0
      have hl := (wEd_ok hW e1).2.1
      have ha : lbA (X m) a ≠ lbA (X M) a := by
        intro z
        apply h
        obtain ⟨Y, y1, ⟨y2, y3⟩, y4⟩ := round_edge hW (inv m).1 e1
        rw [← next m] at y3 y4
        rw [z] at y2
        have e := leL_anti y1 invD.1 y2 (leL_tr (lower (m + 1) a) y3)
        have f1 : Y.1 a = (X M).1 a := congrArg Prod.fst e
        have f2 : Y.2 a = (X M).2 a := congrArg Prod.snd e
        rw [f1, f2] at y4
        have y5 := y4 e2
        rw [← e3, ← e4] at y5
        exact leL_anti (inv (m + 1)).1 invD.1 y5 (lower (m + 1) b)
      obtain ⟨K, k1, k2, k3⟩ := ih a ha
      refine ⟨b :: K, by rw [List.length_cons, k1], List.nodup_cons.mpr ⟨fun z => ?_, k2⟩, fun x hx => ?_⟩
      · have := (k3 b z).2
        omega
      · rcases List.mem_cons.mp hx with z | z
        · rw [z]; exact ⟨fin _ h0, Int.le_refl _⟩
        · have := k3 x z
          exact ⟨this.1, by omega⟩
  refine ⟨X M, fun m hm => lab_ext fun b => ?_, fun b => ?_⟩
  · by_cases h : lbA (X m) b = lbA (X M) b
    · exact h
    · obtain ⟨K, k1, k2, k3⟩ := chain m b h
      have := nodup_lt n K k2 (fun x hx => (k3 x hx).1)
      omega
  · have bound : ∀ (z : Nat) (b : Nat), (X M).1 b = (z : Int) → ∃ K : List Nat, K.Nodup ∧ (∀ x ∈ K, x < n ∧ (X M).1 x ≤ (X M).1 b) ∧ (X M).1 b ≤ K.length * L := by
      intro z
      induction z using Nat.strongRecOn with
      | ind z ih =>
        intro b hz
        by_cases hb : b = src
        · have e : (X M).1 b = 0 := by rw [hb]; exact congrArg Prod.fst (srcv M)
          exact ⟨[], List.nodup_nil, fun x hx => (by cases hx), by rw [e]; show (0 : Int) ≤ ((0 : Nat) : Int) * L; omega⟩
        · obtain ⟨a, l, e1, e2, e3, e4⟩ := pred b hb (by omega)
          have hl := (wEd_ok hW e1).2
          obtain ⟨K, k1, k2, k3⟩ := ih ((X M).1 a).toNat (by omega) a (by omega)
          refine ⟨b :: K, List.nodup_cons.mpr ⟨fun y => ?_, k1⟩, fun x hx => ?_, ?_⟩
          · have := (k2 b y).2
            omega
          · rcases List.mem_cons.mp hx with y | y
            · rw [y]; exact ⟨fin _ (by omega), Int.le_refl _⟩
            · have := k2 x y
              exact ⟨this.1, by omega⟩
          · rw [List.length_cons]
            have : ((K.length + 1 : Nat) : Int) * L = (K.length : Int) * L + L := by
              rw [Int.natCast_add, Int.add_mul]
              show (K.length : Int) * L + 1 * L = _
              omega
            omega
    rcases invD.1 b with z | z
    · have := Int.mul_nonneg (show (0 : Int) ≤ (n : Int) by omega) hL
      omega
    · obtain ⟨K, k1, k2, k3⟩ := bound ((X M).1 b).toNat b (by omega)
      have h1 := nodup_lt n K k1 (fun x hx => (k2 x hx).1)
      have h2 : (K.length : Int) * L ≤ (n : Int) * L := Int.mul_le_mul_of_nonneg_right (by omega) hL
      omega
/-! the same in other units -/
def rlS (s : Int) (X Y : Lab) : Prop := ∀ k, Y.2 k = X.2 k ∧ ((X.1 k = -1 ∧ Y.1 k = -1) ∨ (0 ≤ X.1 k ∧ Y.1 k = X.1 k * s))
theorem rlS_step {s : Int} (hs : 0 < s) {X Y : Lab} (h : rlS s X Y) (a b : Nat) {l : Int} (hl : 0 ≤ l) : rlS s (rlx a b l X) (rlx a b (l * s) Y) := by
  have ha := h a
  have hb := h b
  have nn : 0 ≤ X.1 a → 0 ≤ X.1 a * s := fun z => Int.mul_nonneg z (Int.le_of_lt hs)
  have nb : 0 ≤ X.1 b → 0 ≤ X.1 b * s := fun z => Int.mul_nonneg z (Int.le_of_lt hs)
  have sc : X.1 a * s + l * s < X.1 b * s ↔ X.1 a + l < X.1 b := by
    rw [← Int.add_mul, Int.mul_comm _ s, Int.mul_comm _ s]
    exact lt_scale hs
  have sc2 : X.1 b * s < X.1 a * s + l * s ↔ X.1 b < X.1 a + l := by
    rw [← Int.add_mul, Int.mul_comm _ s, Int.mul_comm _ s]
    exact lt_scale hs
  have hiff : rcn a b l X ↔ rcn a b (l * s) Y := by
    unfold rcn
    generalize X.1 a * s = p at *
    generalize X.1 b * s = q at *
    generalize l * s = r at *
    omega
  by_cases hc : rcn a b l X
  · obtain ⟨r1, r2⟩ := rlx_yes hc
    obtain ⟨t1, t2⟩ := rlx_yes (hiff.mp hc)
    intro k
    by_cases e : k = b
    · subst e
      have e1 : (rlx a k l X).1 k = X.1 a + l := congrArg Prod.fst r2
      have e2 : (rlx a k l X).2 k = X.2 a + 1 := congrArg Prod.snd r2
      have e3 : (rlx a k (l * s) Y).1 k = Y.1 a + l * s := congrArg Prod.fst t2
      have e4 : (rlx a k (l * s) Y).2 k = Y.2 a + 1 := congrArg Prod.snd t2
      rw [e1, e2, e3, e4]
      have h0 : 0 ≤ X.1 a := hc.1
      refine ⟨by omega, Or.inr ⟨by omega, ?_⟩⟩
      rw [Int.add_mul]
      omega
    · have e1 : (rlx a b l X).1 k = X.1 k := congrArg Prod.fst (r1 k e)
      have e2 : (rlx a b l X).2 k = X.2 k := congrArg Prod.snd (r1 k e)
      have e3 : (rlx a b (l * s) Y).1 k = Y.1 k := congrArg Prod.fst (t1 k e)
      have e4 : (rlx a b (l * s) Y).2 k = Y.2 k := congrArg Prod.snd (t1 k e)
      rw [e1, e2, e3, e4]
      exact h k
  · rw [rlx_no hc, rlx_no (fun z => hc (hiff.mpr z))]
    exact h
def opS (s : Int) (o o2 : Option (Nat × Nat × Int)) : Prop := (o = none ∧ o2 = none) ∨ ∃ a b l, 0 ≤ l ∧ o = some (a, b, l) ∧ o2 = some (a, b, l * s)
theorem rlS_E {s : Int} (hs : 0 < s) {o o2 : Option (Nat × Nat × Int)} (ho : opS s o o2) {X Y : Lab} (h : rlS s X Y) : rlS s (rlxE o X) (rlxE o2 Y) := by
  rcases ho with ⟨rfl, rfl⟩ | ⟨a, b, l, hl, rfl, rfl⟩
  · exact h
  · exact rlS_step hs (rlS_step hs h a b hl) b a hl
theorem rlS_I {s : Int} (hs : 0 < s) {W W2 : List (Option (Nat × Nat × Int))} (hlen : W.length = W2.length) (ho : ∀ i : Nat, opS s ((W[i]?).getD none) ((W2[i]?).getD none)) (k : Nat) : ∀ m, rlS s (rlxI W (lab0 k) m) (rlxI W2 (lab0 k) m)
  | 0 => by
    intro j
    refine ⟨rfl, ?_⟩
    show ((if j = k then (0 : Int) else -1) = -1 ∧ (if j = k then (0 : Int) else -1) = -1) ∨ (0 ≤ (if j = k then (0 : Int) else -1) ∧ (if j = k then (0 : Int) else -1) = (if j = k then (0 : Int) else -1) * s)
    split
    · exact Or.inr ⟨Int.le_refl _, (Int.zero_mul s).symm⟩
    · exact Or.inl ⟨rfl, rfl⟩
  | m + 1 => by
    have ih := rlS_I hs hlen ho k m
    show rlS s (rlxK W (rlxI W (lab0 k) m) W.length) (rlxK W2 (rlxI W2 (lab0 k) m) W2.length)
    rw [← hlen]
    have : ∀ i, rlS s (rlxK W (rlxI W (lab0 k) m) i) (rlxK W2 (rlxI W2 (lab0 k) m) i) := by
      intro i
      induction i with
      | zero => exact ih
      | succ i ihi => exact rlS_E hs (ho i) ihi
    exact this W.length
theorem wyq : WYQ := by
  intro f hf k m hk hm
  have h16 := corn_16 hf
  have hg := geo f hf
  have hok := rowsF_ok hf h16 hg
  have hLQ := rowsF_lenQ hf h16 hg
  have hu := unitF_ok hf h16 hg
  have hW : wOK (cornF f).length 40000000000 ((rowsF f).map (wyM (cornF f))) := by
    intro t ht
    obtain ⟨e, he, h⟩ := List.mem_map.mp ht
    unfold wyM at h
    split at h
    · cases h
    · next z =>
      have h1 := (hok e he).2.2 z
      have h2 := ((hLQ e he).2 z).2.1
      have h3 := lenE_le2 hf e
      have h := (Option.some.inj h).symm
      rw [h]
      dsimp only
      omega
  obtain ⟨D, d1, d2⟩ := ways_fix hW hk (by decide)
  have hs : 0 < ((720720 / unitF f : Nat) : Int) := by
    obtain ⟨v, hv⟩ := hu.1
    have : 720720 / unitF f = v := by
      rw [hv, Nat.mul_div_cancel_left _ hu.2]
    rw [this]
    rcases Nat.eq_zero_or_pos v with z | z
    · rw [z, Nat.mul_zero] at hv
      omega
    · omega
  have hrel := rlS_I hs (W := (rowsF f).map (wyK (unitF f))) (W2 := (rowsF f).map (wyM (cornF f))) (by rw [List.length_map, List.length_map]) (fun i => by
    rw [List.getElem?_map, List.getElem?_map]
    cases he : (rowsF f)[i]? with
    | none => exact Or.inl ⟨rfl, rfl⟩
    | some e =>
      show opS _ (wyK (unitF f) e) (wyM (cornF f) e)
      have hm := List.mem_of_getElem? he
      unfold wyK wyM
      by_cases z : e 5 = -1000000
      · rw [if_pos z, if_pos z]
        exact Or.inl ⟨rfl, rfl⟩
      · rw [if_neg z, if_neg z]
        have hl := lenU_le (u := unitF f) (Nat.le_of_dvd (by decide) hu.1) (hok e hm) z
        have hF := lenU_F hf h16 hg hm z
        exact Or.inr ⟨_, _, _, hl.1, rfl, by rw [hF]⟩) k (cornF f).length
  have e1 : mwF f k = D := d1 40 (by omega)
  have e2 : rlxI ((rowsF f).map (wyM (cornF f))) (lab0 k) (cornF f).length = D := d1 _ (Nat.le_refl _)
  rw [e2] at hrel
  have hb := d2 m
  have h := hrel m
  have hw : wayF f k = rlxI ((rowsF f).map (wyK (unitF f))) (lab0 k) (cornF f).length := rfl
  rw [← hw] at h
  rw [e1]
  refine ⟨h.1, ?_⟩
  rcases h.2 with z | z
  · exact Or.inl ⟨by omega, by omega⟩
  · have := Int.mul_nonneg z.1 (Int.le_of_lt hs)
    exact Or.inr ⟨z.1, z.2, by omega, by omega⟩
