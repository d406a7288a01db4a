/-! ===== sixteen ===== -/
def fulC (f : Cv) : Cv := fun k => if k < 21 ∧ k / 5 + k % 5 ≤ 4 then some ((f k).getD 1000000000) else none
theorem ful_ok {f : Cv} (hf : Cok 999 f) : Cok 1000000000 (fulC f) := by
  intro p c h
  unfold fulC at h
  split at h
  · next z =>
    have h := Option.some.inj h
    refine ⟨z.1, z.2, ?_⟩
    cases e : f p with
    | none =>
      rw [e] at h
      have h : (1000000000 : Int) = c := h
      omega
    | some x =>
      rw [e] at h
      have h : x = c := h
      have := hf p x e
      omega
  · cases h
theorem ful_has (f : Cv) (k : Nat) : hasF (fulC f) k = true ↔ k < 21 ∧ k / 5 + k % 5 ≤ 4 := by
  unfold hasF fulC
  by_cases z : k < 21 ∧ k / 5 + k % 5 ≤ 4
  · rw [if_pos z]
    exact ⟨fun _ => z, fun _ => rfl⟩
  · rw [if_neg z]
    exact ⟨fun h => absurd h (by decide), fun h => absurd h z⟩
theorem ful_cv {f : Cv} {k : Nat} (h : k < 21 ∧ k / 5 + k % 5 ≤ 4) : cv (fulC f) k = (f k).getD 1000000000 := by
  unfold cv fulC
  rw [if_pos h]
  rfl
theorem ful_ld {f : Cv} {X Y : Int} {p : Nat} (hf : Cok 999 f) (hX : -20000000000 ≤ X ∧ X ≤ 20000000000) (hY : -20000000000 ≤ Y ∧ Y ≤ 20000000000) (h : LdP f X Y p) : LdP (fulC f) X Y p := by
  have hp := hf p _ (hasF_cv h.1)
  have bd : ∀ k, k < 21 → (-160000000000 ≤ pi k * X + pj k * Y ∧ pi k * X + pj k * Y ≤ 160000000000) := by
    intro k hk
    have b1 := pi_le (p := k) (by omega)
    have b2 := pj_le k
    have m1 := mul_le (d := pi k) (c := X) (A := 4) (B := 20000000000) (by omega) hX
    have m2 := mul_le (d := pj k) (c := Y) (A := 4) (B := 20000000000) (by omega) hY
    omega
  have same : ∀ k, hasF f k = true → vl (fulC f) k X Y = vl f k X Y := by
    intro k hk
    have hk2 := hf k _ (hasF_cv hk)
    unfold vl
    rw [ful_cv ⟨hk2.1, hk2.2.1⟩, hasF_cv hk]
    rfl
  refine ⟨(ful_has f p).mpr ⟨hp.1, hp.2.1⟩, fun j hj => ?_⟩
  rw [same p h.1]
  by_cases hj2 : hasF f j = true
  · rw [same j hj2]
    exact h.2 j hj2
  · have hj3 := (ful_has f j).mp hj
    have e : f j = none := by
      cases e : f j with
      | none => rfl
      | some x => exact absurd (hasF_of e).1 hj2
    have b1 := bd p hp.1
    have b2 := bd j hj3.1
    have c1 := cv_le hf p
    unfold vl
    rw [ful_cv hj3, e]
    show _ ≤ 720720 * (1000000000 : Int) + pi j * X + pj j * Y
    omega
theorem ful_some {f : Cv} (hf : Cok 999 f) (X Y : Int) : ∃ p, LdP (fulC f) X Y p := by
  obtain ⟨a, a1, a2, a3⟩ := argmin (P := fun k => hasF (fulC f) k = true) (g := fun k => vl (fulC f) k X Y) (x := fun _ => 1) (fun _ _ => by decide) 21 ⟨0, by decide, (ful_has f 0).mpr (by decide)⟩
  exact ⟨a, a2, fun j hj => by have := a3 j ((ful_has f j).mp hj).1 hj; omega⟩
theorem gp_in : ∀ i, i < 10 → insT 0 20 4 (gp i) = true := by decide
theorem gp_un : ∀ i, i < 10 → ∀ j, j < 10 → gp i = gp j → i = j := by decide
theorem gp_v : ∀ i, i < 10 → ∃ a ∈ ints9, ∃ b ∈ ints9, gp i = (1 + 41 * a, 9 + 41 * b) := by decide
theorem A_ex {f g : Cv} (hf : Cok 999 f) (hg : Cok 999 g) {i : Nat} (hi : i < 10) : ∃ k, k < 36 ∧ phA (fulC f) (fulC g) i k := by
  have hF := ful_ok hf
  have hG := ful_ok hg
  obtain ⟨X, Y, p, q, r, h0, h1, h2, h3⟩ := cover hF (show i < 16 by omega) ⟨0, 20, 4, (ful_has f 0).mpr (by decide), (ful_has f 20).mpr (by decide), (ful_has f 4).mpr (by decide), gp_in i hi⟩
  obtain ⟨s, hs⟩ := ful_some hg X Y
  obtain ⟨b, hb⟩ := mxD_ex hG hs
  have ht := turn_L hF h1.1 h2.1 h3.1
  have hp := triR_pos ht h0
  have sa := triR_sum (g := gp i) ht hp.1
  have ob := one_sum b
  obtain ⟨x, -, y, -, e⟩ := gp_v i hi
  obtain ⟨k, k1, k2⟩ := gpt_of (u := triR p q r (gp i)) (v := [(b, 41 * 720720)]) (x := x + pi b) (y := y + pj b) (fun a ha => ⟨hp.2 a ha, by rcases triR_mem ha with z | z | z <;> rw [z]; exact LdP_pl hF h1; exact LdP_pl hF h2; exact LdP_pl hF h3⟩) (fun a ha => by
    rw [List.mem_singleton] at ha
    rw [ha]
    exact ⟨by show (0 : Int) < 41 * 720720; decide, LdP_pl hG hb.1⟩) sa.1 ob.1 (by rw [sa.2.1, ob.2.1, e]; dsimp only; omega) (by rw [sa.2.2, ob.2.2, e]; dsimp only; omega)
  refine ⟨k, k1, X, Y, p, q, r, b, h0, ⟨h1, h2, h3⟩, hb, ?_⟩
  rw [k2, e]
  exact Prod.ext (by show 1 + 41 * (x + pi b) = 1 + 41 * x + 41 * pi b; omega) (by show 9 + 41 * (y + pj b) = 9 + 41 * y + 41 * pj b; omega)
theorem B_ex {f g : Cv} (hf : Cok 999 f) (hg : Cok 999 g) {i : Nat} (hi : i < 10) : ∃ k, k < 36 ∧ phB (fulC f) (fulC g) i k := by
  have hF := ful_ok hf
  have hG := ful_ok hg
  obtain ⟨X, Y, p, q, r, h0, h1, h2, h3⟩ := cover hG (show i < 16 by omega) ⟨0, 20, 4, (ful_has g 0).mpr (by decide), (ful_has g 20).mpr (by decide), (ful_has g 4).mpr (by decide), gp_in i hi⟩
  obtain ⟨s, hs⟩ := ful_some hf X Y
  obtain ⟨b, hb⟩ := mnD_ex hF hs
  have ht := turn_L hG h1.1 h2.1 h3.1
  have hp := triR_pos ht h0
  have sa := triR_sum (g := gp i) ht hp.1
  have ob := one_sum b
  obtain ⟨x, -, y, -, e⟩ := gp_v i hi
  obtain ⟨k, k1, k2⟩ := gpt_of (u := triR p q r (gp i)) (v := [(b, 41 * 720720)]) (x := x + pi b) (y := y + pj b) (fun a ha => ⟨hp.2 a ha, by rcases triR_mem ha with z | z | z <;> rw [z]; exact LdP_pl hG h1; exact LdP_pl hG h2; exact LdP_pl hG h3⟩) (fun a ha => by
    rw [List.mem_singleton] at ha
    rw [ha]
    exact ⟨by show (0 : Int) < 41 * 720720; decide, LdP_pl hF hb.1⟩) sa.1 ob.1 (by rw [sa.2.1, ob.2.1, e]; dsimp only; omega) (by rw [sa.2.2, ob.2.2, e]; dsimp only; omega)
  refine ⟨k, k1, X, Y, p, q, r, b, h0, ⟨h1, h2, h3⟩, hb, ?_⟩
  rw [k2, e]
  exact Prod.ext (by show 1 + 41 * (x + pi b) = 1 + 41 * x + 41 * pi b; omega) (by show 9 + 41 * (y + pj b) = 9 + 41 * y + 41 * pj b; omega)
theorem mt_16 {f g : Cv} (hf : Cok 999 f) (hg : Cok 999 g) {L : List (Int × Int)} (hd : L.Pairwise (fun P Q => P ≠ Q)) (hm : ∀ P ∈ L, mtP f g P.1 P.2 ∧ lqB P) : L.length ≤ 16 := by
  have hF := ful_ok hf
  have hG := ful_ok hg
  have hC : ∀ P ∈ L, mtP (fulC f) (fulC g) P.1 P.2 := by
    intro P hP
    obtain ⟨⟨p, q, r, t, h0, h1, h2, h3, h4⟩, hx, hy⟩ := hm P hP
    exact ⟨p, q, r, t, h0, ful_ld hf hx hy h1, ful_ld hf hx hy h2, ful_ld hg hx hy h3, ful_ld hg hx hy h4⟩
  have hp := pigeon (fun (a : Nat × Nat × (Int × Int)) k => (a.1 = 0 ∧ a.2.1 < 10 ∧ phA (fulC f) (fulC g) a.2.1 k) ∨ (a.1 = 1 ∧ a.2.1 < 10 ∧ phB (fulC f) (fulC g) a.2.1 k) ∨ (a.1 = 2 ∧ phC (fulC f) (fulC g) a.2.2.1 a.2.2.2 k)) 36 (((List.range 10).map fun i => (0, i, (0, 0))) ++ (((List.range 10).map fun i => (1, i, (0, 0))) ++ (L.map fun P => (2, 0, P)))) (fun a ha => by
    rcases List.mem_append.mp ha with h | h
    · obtain ⟨i, i1, rfl⟩ := List.mem_map.mp h
      have i1 := List.mem_range.mp i1
      obtain ⟨k, k1, k2⟩ := A_ex hf hg i1
      exact ⟨k, k1, Or.inl ⟨rfl, i1, k2⟩⟩
    · rcases List.mem_append.mp h with h | h
      · obtain ⟨i, i1, rfl⟩ := List.mem_map.mp h
        have i1 := List.mem_range.mp i1
        obtain ⟨k, k1, k2⟩ := B_ex hf hg i1
        exact ⟨k, k1, Or.inr (Or.inl ⟨rfl, i1, k2⟩)⟩
      · obtain ⟨Q, q1, rfl⟩ := List.mem_map.mp h
        obtain ⟨k, k1, k2⟩ := C_ex hF hG (hC Q q1)
        exact ⟨k, k1, Or.inr (Or.inr ⟨rfl, k2⟩)⟩) (by
    have no : ∀ (a b : Nat × Nat × (Int × Int)), (a.1 = b.1 → (a.1 < 2 → a.2.1 ≠ b.2.1) ∧ (a.1 = 2 → a.2.2 ≠ b.2.2)) → ∀ k, ((a.1 = 0 ∧ a.2.1 < 10 ∧ phA (fulC f) (fulC g) a.2.1 k) ∨ (a.1 = 1 ∧ a.2.1 < 10 ∧ phB (fulC f) (fulC g) a.2.1 k) ∨ (a.1 = 2 ∧ phC (fulC f) (fulC g) a.2.2.1 a.2.2.2 k)) → ((b.1 = 0 ∧ b.2.1 < 10 ∧ phA (fulC f) (fulC g) b.2.1 k) ∨ (b.1 = 1 ∧ b.2.1 < 10 ∧ phB (fulC f) (fulC g) b.2.1 k) ∨ (b.1 = 2 ∧ phC (fulC f) (fulC g) b.2.2.1 b.2.2.2 k)) → False := by
      intro a b hab k ha hb
      rcases ha with ⟨a1, a2, a3⟩ | ⟨a1, a2, a3⟩ | ⟨a1, a3⟩ <;> rcases hb with ⟨b1, b2, b3⟩ | ⟨b1, b2, b3⟩ | ⟨b1, b3⟩
      · exact (hab (by omega)).1 (by omega) (gp_un _ a2 _ b2 (AA hF hG a3 b3))
      · exact AB hF hG a3 b3
      · exact CA hF hG b3 a3
      · exact AB hF hG b3 a3
      · exact (hab (by omega)).1 (by omega) (gp_un _ a2 _ b2 (BB hF hG a3 b3))
      · exact CB hF hG b3 a3
      · exact CA hF hG a3 b3
      · exact CB hF hG a3 b3
      · have := CC a3 b3
        exact (hab (by omega)).2 a1 (Prod.ext this.1 this.2)
    refine List.pairwise_append.mpr ⟨?_, List.pairwise_append.mpr ⟨?_, ?_, ?_⟩, ?_⟩
    · refine List.pairwise_map.mpr (List.Pairwise.imp ?_ (List.pairwise_lt_range))
      intro x y hxy
      exact no _ _ (fun _ => ⟨fun _ => by show x ≠ y; omega, fun z => (by simp at z)⟩)
    · refine List.pairwise_map.mpr (List.Pairwise.imp ?_ (List.pairwise_lt_range))
      intro x y hxy
      exact no _ _ (fun _ => ⟨fun _ => by show x ≠ y; omega, fun z => (by simp at z)⟩)
    · refine List.pairwise_map.mpr (List.Pairwise.imp ?_ hd)
      intro x y hxy
      exact no _ _ (fun _ => ⟨fun z => (by simp at z), fun _ => hxy⟩)
    · intro a ha b hb
      obtain ⟨i, i1, rfl⟩ := List.mem_map.mp ha
      obtain ⟨j, j1, rfl⟩ := List.mem_map.mp hb
      exact no _ _ (fun z => (by simp at z))
    · intro a ha b hb
      obtain ⟨i, i1, rfl⟩ := List.mem_map.mp ha
      rcases List.mem_append.mp hb with hb | hb
      · obtain ⟨j, j1, rfl⟩ := List.mem_map.mp hb
        exact no _ _ (fun z => (by simp at z))
      · obtain ⟨j, j1, rfl⟩ := List.mem_map.mp hb
        exact no _ _ (fun z => (by simp at z)))
  rw [List.length_append, List.length_append, List.length_map, List.length_map, List.length_map, List.length_range] at hp
  omega
