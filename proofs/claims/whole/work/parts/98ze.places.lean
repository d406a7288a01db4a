/-! ===== sets of places as figures ===== -/
theorem rch_bit {s : Nat} {u v : Int} : ∀ {n : Nat} {m : Int}, rch s u v n = some m → ∃ k, k < n ∧ s.testBit k = true
  | 0, _, h => by cases h
  | n + 1, m, h => by
    unfold rch at h
    by_cases t : s.testBit n = true
    · exact ⟨n, by omega, t⟩
    · rw [if_neg t] at h
      obtain ⟨k, k1, k2⟩ := rch_bit h
      exact ⟨k, by omega, k2⟩
theorem rch_spec (s : Nat) (u v : Int) : ∀ n, (∃ k, k < n ∧ s.testBit k = true) → ∃ m, rch s u v n = some m ∧ (∃ k, k < n ∧ s.testBit k = true ∧ u * pi k + v * pj k = m) ∧ ∀ k, k < n → s.testBit k = true → u * pi k + v * pj k ≤ m
  | 0, ⟨k, hk, _⟩ => absurd hk (Nat.not_lt_zero k)
  | n + 1, h => by
    unfold rch
    by_cases t : s.testBit n = true
    · rw [if_pos t]
      by_cases e : ∃ k, k < n ∧ s.testBit k = true
      · obtain ⟨m, h1, ⟨k, k1, k2, k3⟩, h3⟩ := rch_spec s u v n e
        rw [h1]
        dsimp only
        refine ⟨_, rfl, ?_, fun j hj tj => ?_⟩
        · by_cases q : m ≤ u * pi n + v * pj n
          · exact ⟨n, by omega, t, by omega⟩
          · exact ⟨k, by omega, k2, by omega⟩
        · by_cases q : j = n
          · subst q; omega
          · have := h3 j (by omega) tj
            omega
      · have hn : rch s u v n = none := by
          cases hc : rch s u v n with
          | none => rfl
          | some m => exact absurd (rch_bit hc) e
        rw [hn]
        refine ⟨_, rfl, ⟨n, by omega, t, rfl⟩, fun j hj tj => ?_⟩
        by_cases q : j = n
        · subst q; exact Int.le_refl _
        · exact absurd ⟨j, by omega, tj⟩ e
    · rw [if_neg t]
      obtain ⟨k, k1, k2⟩ := h
      have hk : k < n := by
        by_cases q : k = n
        · subst q; exact absurd k2 t
        · omega
      obtain ⟨m, h1, ⟨j, j1, j2, j3⟩, h3⟩ := rch_spec s u v n ⟨k, hk, k2⟩
      refine ⟨m, h1, ⟨j, by omega, j2, j3⟩, fun i hi ti => ?_⟩
      by_cases q : i = n
      · subst q; exact absurd ti t
      · exact h3 i (by omega) ti
theorem plS_bit {s : Nat} (hs : plS s) (h0 : 0 < s) : ∃ k, k < 21 ∧ s.testBit k = true := by
  by_cases e : ∃ k, s.testBit k = true
  · obtain ⟨k, hk⟩ := e
    have := hs k hk
    exact ⟨k, by omega, hk⟩
  · have : s = 0 := Nat.eq_of_testBit_eq fun k => by
      rw [Nat.zero_testBit]
      cases t : s.testBit k with
      | false => rfl
      | true => exact absurd ⟨k, t⟩ e
    omega
theorem reach_spec {s : Nat} (hs : plS s) (h0 : 0 < s) (u v : Int) : (∃ k, k < 21 ∧ s.testBit k = true ∧ u * pi k + v * pj k = reach s u v) ∧ ∀ k, s.testBit k = true → u * pi k + v * pj k ≤ reach s u v := by
  obtain ⟨m, h1, h2, h3⟩ := rch_spec s u v 21 (plS_bit hs h0)
  have e : reach s u v = m := by unfold reach; rw [h1]; rfl
  rw [e]
  exact ⟨h2, fun k hk => h3 k (by have := hs k hk; omega) hk⟩
theorem reach_mul {s : Nat} (hs : plS s) (h0 : 0 < s) (u v : Int) {m : Int} (hm : 1 ≤ m) : reach s (m * u) (m * v) = m * reach s u v := by
  obtain ⟨⟨k, k1, k2, k3⟩, h3⟩ := reach_spec hs h0 u v
  obtain ⟨⟨j, j1, j2, j3⟩, h4⟩ := reach_spec hs h0 (m * u) (m * v)
  have a1 := h4 k k2
  have a2 := h3 j j2
  have e1 : m * u * pi k + m * v * pj k = m * (u * pi k + v * pj k) := by grind
  have e2 : m * u * pi j + m * v * pj j = m * (u * pi j + v * pj j) := by grind
  rw [e1, k3] at a1
  rw [e2] at j3
  have a3 : m * (u * pi j + v * pj j) ≤ m * reach s u v := Int.mul_le_mul_of_nonneg_left a2 (by omega)
  omega
def hS (s : Nat) (i : Nat) : Int := reach s (dd i).2 (-(dd i).1)
def ptP (k : Nat) : Int × Int := (pi k, pj k)
theorem nd_ptP (i k : Nat) : nd i (ptP k) = (dd i).2 * pi k + -(dd i).1 * pj k := by
  unfold nd ptP
  grind
theorem hS_per (s : Nat) : hS s 36 = hS s 0 ∧ hS s 37 = hS s 1 := by
  unfold hS
  rw [fan3.1, fan3.2]
  exact ⟨rfl, rfl⟩
theorem hS_ub {s : Nat} (hs : plS s) (h0 : 0 < s) (i k : Nat) (hk : s.testBit k = true) : nd i (ptP k) ≤ hS s i := by
  rw [nd_ptP]
  exact (reach_spec hs h0 _ _).2 k hk
theorem ptP_inj {a b : Nat} (h : ptP a = ptP b) : a = b := by
  unfold ptP at h
  have h1 := congrArg Prod.fst h
  have h2 := congrArg Prod.snd h
  unfold pi pj at h1 h2
  have h1 : ((a / 5 : Nat) : Int) = ((b / 5 : Nat) : Int) := h1
  have h2 : ((a % 5 : Nat) : Int) = ((b % 5 : Nat) : Int) := h2
  omega
theorem pl_diff {a b : Nat} (ha : a / 5 + a % 5 ≤ 4) (hb : b / 5 + b % 5 ≤ 4) : (-4 ≤ pi b - pi a ∧ pi b - pi a ≤ 4) ∧ (-4 ≤ pj b - pj a ∧ pj b - pj a ≤ 4) ∧ (-4 ≤ (pi b - pi a) + (pj b - pj a) ∧ (pi b - pi a) + (pj b - pj a) ≤ 4) := by
  unfold pi pj
  omega
theorem nd_diff (i a b : Nat) : nd i (pi b - pi a, pj b - pj a) = nd i (ptP b) - nd i (ptP a) := nd_sub i (ptP b) (ptP a)
theorem hS_cm {s : Nat} (hs : plS s) (h0 : 0 < s) {i : Nat} (hi : i < 37) : ∃ v, v < 21 ∧ s.testBit v = true ∧ nd i (ptP v) = hS s i ∧ nd (i + 1) (ptP v) = hS s (i + 1) := by
  obtain ⟨⟨k, k1, k2, k3⟩, -⟩ := reach_spec hs h0 (dd i).2 (-(dd i).1)
  rw [← nd_ptP] at k3
  obtain ⟨v, v1, ⟨v2, v3⟩, v4⟩ := argmin (P := fun k => s.testBit k = true ∧ nd i (ptP k) = hS s i) (g := fun k => -nd (i + 1) (ptP k)) (x := fun _ => 1) (fun _ _ => by decide) 21 ⟨k, k1, k2, k3⟩
  refine ⟨v, v1, v2, v3, ?_⟩
  have hle := hS_ub hs h0 (i + 1) v v2
  obtain ⟨⟨w, w1, w2, w3⟩, -⟩ := reach_spec hs h0 (dd (i + 1)).2 (-(dd (i + 1)).1)
  rw [← nd_ptP] at w3
  have w3 : nd (i + 1) (ptP w) = hS s (i + 1) := w3
  have hwi := hS_ub hs h0 i w w2
  by_cases e : nd i (ptP w) = hS s i
  · have := v4 w w1 ⟨w2, e⟩
    omega
  · have hd := pl_diff (hs v v2).2 (hs w w2).2
    have := fan4L i hi _ (mem9 hd.1) _ (mem9 hd.2.1) hd.2.2 (by rw [nd_diff]; omega)
    rw [nd_diff] at this
    omega
theorem pl_dir {a b : Nat} (ha : a / 5 + a % 5 ≤ 4) (hb : b / 5 + b % 5 ≤ 4) (h : ptP a ≠ ptP b) : ∃ i m, i < 36 ∧ drP (ptP a) (ptP b) i m := by
  have hd := pl_diff ha hb
  rcases fan5L _ (mem9 hd.1) _ (mem9 hd.2.1) hd.2.2 with z | ⟨i, hi, m, hm, e1, e2⟩
  · exact absurd (Prod.ext (show pi a = pi b by omega) (show pj a = pj b by omega)) h
  · refine ⟨i, m, List.mem_range.mp hi, ?_, e1, e2⟩
    simp only [List.mem_cons, List.not_mem_nil, or_false] at hm
    omega
theorem figP {s : Nat} (hs : plS s) (h0 : 0 < s) : Fig 21 (fun k => s.testBit k) ptP (hS s) := by
  refine ⟨fun a b _ _ _ _ h => ptP_inj h, fun i _ a _ pa => hS_ub hs h0 i a pa, fun i hi => hS_cm hs h0 hi, fun a b h => ?_⟩
  exact pl_dir (hs a h.2.1.2).2 (hs b h.2.2.1.2).2 h.1
theorem btwL : ∀ a ∈ placesL, ∀ b ∈ placesL, ∀ k ∈ placesL, a ≠ b → turn a b k = 0 → ((min a b ≤ k ∧ k ≤ max a b) ↔ dt3 (ptP a) (ptP b) (ptP k) ≤ 0) := by decide +kernel
theorem plS_L {s k : Nat} (hs : plS s) (h : s.testBit k = true) : k ∈ placesL := by
  have := hs k h
  exact pl_mem k (by omega) this.2
theorem hside_G {s a b : Nat} (hs : plS s) (ha : a < 21) (hb : b < 21) : hside s a b = true ↔ SdG 21 (fun k => s.testBit k) ptP a b := by
  rw [hside_of]
  constructor
  · rintro ⟨h1, h2, h3, h4⟩
    refine ⟨fun e => h1 (ptP_inj e), ⟨ha, h2⟩, ⟨hb, h3⟩, fun k hk tk => ?_⟩
    rcases h4 k hk tk with z | ⟨z, y⟩
    · exact Or.inl z
    · exact Or.inr ⟨z, (btwL a (plS_L hs h2) b (plS_L hs h3) k (plS_L hs tk) h1 z).mp y⟩
  · rintro ⟨h1, ⟨-, h2⟩, ⟨-, h3⟩, h4⟩
    have h1 : a ≠ b := fun e => h1 (by rw [e])
    refine ⟨h1, h2, h3, fun k hk tk => ?_⟩
    rcases h4 k hk tk with z | ⟨z, y⟩
    · exact Or.inl z
    · exact Or.inr ⟨z, (btwL a (plS_L hs h2) b (plS_L hs h3) k (plS_L hs tk) h1 z).mpr y⟩
theorem mixRow_sm (s o a : Nat) : ∀ n, mixRow s o a n = sm (fun b => if hside s a b = true then reach o (pj b - pj a) (pi a - pi b) else 0) n
  | 0 => rfl
  | n + 1 => by rw [mixRow, sm, mixRow_sm s o a n]
theorem mixSum_sm (s o : Nat) : ∀ n, mixSum s o n = sm (fun a => mixRow s o a 21) n
  | 0 => rfl
  | n + 1 => by rw [mixSum, sm, mixSum_sm s o n]
theorem mixed_sm (s o : Nat) : mixed s o = sm (fun a => sm (fun b => if hside s a b = true then reach o (pj b - pj a) (pi a - pi b) else 0) 21) 21 := by
  unfold mixed
  rw [mixSum_sm]
  exact sm_congr 21 fun a _ => mixRow_sm s o a 21
theorem mixed_Bf {s o : Nat} (hs : plS s) (h0 : 0 < s) (ho : plS o) (o0 : 0 < o) : mixed s o = Bf (hS s) (hS o) := by
  rw [mixed_sm]
  refine fan_sum (figP hs h0) (fun a b ha hb => hside_G hs ha hb) (W := fun a b => reach o (pj b - pj a) (pi a - pi b)) (r := hS o) (fun a b i m _ _ hd => ?_)
  obtain ⟨hm, h1, h2⟩ := hd
  have h1 : pi b - pi a = m * (dd (i + 1)).1 := h1
  have h2 : pj b - pj a = m * (dd (i + 1)).2 := h2
  show reach o (pj b - pj a) (pi a - pi b) = m * hS o (i + 1)
  rw [h2, show pi a - pi b = m * -(dd (i + 1)).1 by rw [Int.mul_neg]; omega]
  exact reach_mul ho o0 _ _ hm
theorem mixed_sym {s o : Nat} (hs : plS s) (h0 : 0 < s) (ho : plS o) (o0 : 0 < o) : mixed s o = mixed o s := by
  rw [mixed_Bf hs h0 ho o0, mixed_Bf ho o0 hs h0]
  exact Bf_sym (hS_per s).1 (hS_per s).2 (hS_per o).1 (hS_per o).2
/-- the sides of a figure close -/
theorem side_close {s : Nat} (hs : plS s) (h0 : 0 < s) (k : Nat) : sm (fun a => sm (fun b => if hside s a b = true then (pj b - pj a) * pi k + (pi a - pi b) * pj k else 0) 21) 21 = 0 := by
  refine Eq.trans ?_ (Bf_lin (ptP k) (hS_per s).1 (hS_per s).2)
  refine fan_sum (figP hs h0) (fun a b ha hb => hside_G hs ha hb) (W := fun a b => (pj b - pj a) * pi k + (pi a - pi b) * pj k) (r := fun i => nd i (ptP k)) (fun a b i m _ _ hd => ?_)
  obtain ⟨hm, h1, h2⟩ := hd
  have h1 : pi b - pi a = m * (dd (i + 1)).1 := h1
  have h2 : pj b - pj a = m * (dd (i + 1)).2 := h2
  show (pj b - pj a) * pi k + (pi a - pi b) * pj k = m * nd (i + 1) (ptP k)
  rw [nd_ptP, h2, show pi a - pi b = m * -(dd (i + 1)).1 by rw [Int.mul_neg]; omega]
  grind
