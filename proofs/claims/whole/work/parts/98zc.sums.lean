/-! ===== sums ===== -/
def sm (f : Nat → Int) : Nat → Int
  | 0 => 0
  | n + 1 => sm f n + f n
theorem sm_congr {f g : Nat → Int} : ∀ n, (∀ k, k < n → f k = g k) → sm f n = sm g n
  | 0, _ => rfl
  | n + 1, h => by rw [sm, sm, sm_congr n (fun k hk => h k (by omega)), h n (by omega)]
theorem sm_add (f g : Nat → Int) : ∀ n, sm (fun k => f k + g k) n = sm f n + sm g n
  | 0 => rfl
  | n + 1 => by rw [sm, sm, sm, sm_add f g n]; omega
theorem sm_sub (f g : Nat → Int) : ∀ n, sm (fun k => f k - g k) n = sm f n - sm g n
  | 0 => rfl
  | n + 1 => by rw [sm, sm, sm, sm_sub f g n]; omega
theorem sm_0 : ∀ n, sm (fun _ => 0) n = 0
  | 0 => rfl
  | n + 1 => by rw [sm, sm_0 n]; rfl
theorem sm_swap (g : Nat → Nat → Int) (m : Nat) : ∀ n, sm (fun a => sm (fun b => g a b) m) n = sm (fun b => sm (fun a => g a b) n) m
  | 0 => (sm_0 m).symm
  | n + 1 => by
    rw [sm, sm_swap g m n]
    exact (sm_add _ _ m).symm
theorem sm_one {f : Nat → Int} {k0 : Nat} : ∀ n, k0 < n → (∀ k, k < n → k ≠ k0 → f k = 0) → sm f n = f k0
  | 0, h, _ => absurd h (Nat.not_lt_zero _)
  | n + 1, h, hz => by
    rw [sm]
    by_cases e : k0 = n
    · subst e
      have : sm f k0 = 0 := (sm_congr k0 (fun k hk => hz k (by omega) (by omega))).trans (sm_0 k0)
      rw [this, Int.zero_add]
    · rw [sm_one n (by omega) (fun k hk => hz k (by omega)), hz n (by omega) (fun z => e z.symm), Int.add_zero]
theorem sm_shift (f : Nat → Int) : ∀ n, sm (fun k => f (k + 1)) n + f 0 = sm f (n + 1)
  | 0 => by rw [sm, sm, sm]
  | n + 1 => by rw [sm, sm, ← sm_shift f n]; omega
theorem sm_pos {f : Nat → Int} : ∀ n, (∀ k, k < n → 0 ≤ f k) → 0 ≤ sm f n
  | 0, _ => Int.le_refl _
  | n + 1, h => by
    have := sm_pos n (fun k hk => h k (by omega))
    have := h n (by omega)
    rw [sm]; omega
theorem sm_le {f g : Nat → Int} : ∀ n, (∀ k, k < n → f k ≤ g k) → sm f n ≤ sm g n
  | 0, _ => Int.le_refl _
  | n + 1, h => by
    have := sm_le n (fun k hk => h k (by omega))
    have := h n (by omega)
    rw [sm, sm]; omega
theorem sm_ne {f : Nat → Int} : ∀ n, sm f n ≠ 0 → ∃ k, k < n ∧ f k ≠ 0
  | 0, h => absurd rfl h
  | n + 1, h => by
    by_cases e : f n = 0
    · rw [sm, e, Int.add_zero] at h
      obtain ⟨k, h1, h2⟩ := sm_ne n h
      exact ⟨k, by omega, h2⟩
    · exact ⟨n, by omega, e⟩
/-! ===== thirty-six directions ===== -/
def dL : List (Int × Int) := [(-3, -1), (-2, -1), (-1, -1), (-1, -2), (-1, -3), (0, -1), (1, -4), (1, -3), (1, -2), (2, -3), (3, -4), (1, -1), (4, -3), (3, -2), (2, -1), (3, -1), (4, -1), (1, 0), (3, 1), (2, 1), (1, 1), (1, 2), (1, 3), (0, 1), (-1, 4), (-1, 3), (-1, 2), (-2, 3), (-3, 4), (-1, 1), (-4, 3), (-3, 2), (-2, 1), (-3, 1), (-4, 1), (-1, 0), (-3, -1), (-2, -1)]
def dd (i : Nat) : Int × Int := (dL[i]?).getD (0, 0)
def aa (i : Nat) : Int := (([1, 2, 3, 2, 1, 7] : List Int)[i % 6]?).getD 0
/-- how far a point lies outwards -/
def nd (i : Nat) (x : Int × Int) : Int := (dd i).2 * x.1 - (dd i).1 * x.2
theorem fan1 : ∀ i, i < 37 → (dd i).1 * (dd (i + 1)).2 - (dd i).2 * (dd (i + 1)).1 = 1 := by decide +kernel
theorem fan2 : ∀ i, i < 36 → (dd i).1 + (dd (i + 2)).1 = aa (i + 1) * (dd (i + 1)).1 ∧ (dd i).2 + (dd (i + 2)).2 = aa (i + 1) * (dd (i + 1)).2 := by decide +kernel
theorem fan3 : dd 36 = dd 0 ∧ dd 37 = dd 1 := by decide
theorem fan4L : ∀ i, i < 37 → ∀ a ∈ ints9, ∀ b ∈ ints9, (-4 ≤ a + b ∧ a + b ≤ 4) → nd i (a, b) < 0 → nd (i + 1) (a, b) ≤ 0 := by decide +kernel
theorem fan5L : ∀ a ∈ ints9, ∀ b ∈ ints9, (-4 ≤ a + b ∧ a + b ≤ 4) → (a = 0 ∧ b = 0) ∨ ∃ i ∈ List.range 36, ∃ m ∈ ([1, 2, 3, 4] : List Int), a = m * (dd (i + 1)).1 ∧ b = m * (dd (i + 1)).2 := by decide +kernel
theorem fan6 : ∀ i, i < 36 → ∀ j, j < 36 → (dd (i + 1)).1 * (dd (j + 1)).2 - (dd (i + 1)).2 * (dd (j + 1)).1 = 0 → 0 < (dd (i + 1)).1 * (dd (j + 1)).1 + (dd (i + 1)).2 * (dd (j + 1)).2 → i = j := by decide +kernel
theorem fan7 : ∀ i, i < 36 → ∃ j ∈ List.range 36, dd (j + 1) = (-(dd (i + 1)).1, -(dd (i + 1)).2) := by decide +kernel
theorem nd_sub (i : Nat) (x y : Int × Int) : nd i (x.1 - y.1, x.2 - y.2) = nd i x - nd i y := by unfold nd; grind
theorem nd_per (x : Int × Int) : nd 36 x = nd 0 x ∧ nd 37 x = nd 1 x := by
  unfold nd
  rw [fan3.1, fan3.2]
  exact ⟨rfl, rfl⟩
/-- how two figures of which only the reaches are known make an area -/
def Bf (h g : Nat → Int) : Int := sm (fun j => (h j + h (j + 2) - aa (j + 1) * h (j + 1)) * g (j + 1)) 36
theorem Bf_sym {h g : Nat → Int} (h0 : h 36 = h 0) (h1 : h 37 = h 1) (g0 : g 36 = g 0) (g1 : g 37 = g 1) : Bf h g = Bf g h := by
  have ex : ∀ h g : Nat → Int, Bf h g = sm (fun j => h j * g (j + 1)) 36 + sm (fun j => h (j + 2) * g (j + 1)) 36 - sm (fun j => aa (j + 1) * (h (j + 1) * g (j + 1))) 36 := by
    intro h g
    unfold Bf
    rw [← sm_add, ← sm_sub]
    refine sm_congr 36 fun k _ => ?_
    grind
  have sh : ∀ h g : Nat → Int, h 37 = h 1 → g 36 = g 0 → sm (fun j => h (j + 2) * g (j + 1)) 36 = sm (fun j => g j * h (j + 1)) 36 := by
    intro h g e1 e2
    have s := sm_shift (fun j => h (j + 1) * g j) 36
    have s2 : sm (fun j => h (j + 1) * g j) 37 = sm (fun j => h (j + 1) * g j) 36 + h 37 * g 36 := rfl
    rw [s2, e1, e2] at s
    have s3 : sm (fun k => h (k + 1 + 1) * g (k + 1)) 36 = sm (fun j => h (j + 1) * g j) 36 := by
      have : h (0 + 1) * g 0 = h 1 * g 0 := rfl
      omega
    have s4 : sm (fun j => h (j + 2) * g (j + 1)) 36 = sm (fun k => h (k + 1 + 1) * g (k + 1)) 36 := rfl
    rw [s4, s3]
    exact sm_congr 36 fun k _ => Int.mul_comm _ _
  rw [ex h g, ex g h, sh h g h1 g0, sh g h g1 h0]
  have c : sm (fun j => aa (j + 1) * (h (j + 1) * g (j + 1))) 36 = sm (fun j => aa (j + 1) * (g (j + 1) * h (j + 1))) 36 := sm_congr 36 fun k _ => by rw [Int.mul_comm (h (k + 1))]
  rw [c]
  omega
theorem Bf_add (h h2 g : Nat → Int) : Bf (fun i => h i + h2 i) g = Bf h g + Bf h2 g := by
  unfold Bf
  rw [← sm_add]
  refine sm_congr 36 fun k _ => ?_
  grind
theorem Bf_lin {g : Nat → Int} (x : Int × Int) (g0 : g 36 = g 0) (g1 : g 37 = g 1) : Bf g (fun i => nd i x) = 0 := by
  rw [Bf_sym g0 g1 (nd_per x).1 (nd_per x).2]
  unfold Bf
  refine (sm_congr 36 fun k hk => ?_).trans (sm_0 36)
  obtain ⟨e1, e2⟩ := fan2 k hk
  unfold nd
  dsimp only
  generalize dd k = p at *
  generalize dd (k + 2) = q at *
  generalize dd (k + 1) = r at *
  generalize aa (k + 1) = c at *
  have : p.2 * x.1 - p.1 * x.2 + (q.2 * x.1 - q.1 * x.2) - c * (r.2 * x.1 - r.1 * x.2) = (p.2 + q.2 - c * r.2) * x.1 - (p.1 + q.1 - c * r.1) * x.2 := by grind
  rw [this, e1, e2, Int.sub_self, Int.sub_self, Int.zero_mul, Int.zero_mul, Int.sub_self, Int.zero_mul]
