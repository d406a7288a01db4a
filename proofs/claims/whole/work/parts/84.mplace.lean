/-! ===== the model's edges in order ===== -/
def rwOK (e : Nat → Int) : Prop := ∀ t, t < 6 → -1000000 ≤ e t ∧ e t ≤ 1000000
def mE (a : Nat) (R : List (Nat → Int)) (M : mM) : Prop := M 172 a = (R.length : Int) ∧ R.length ≤ 40 ∧ (∀ e ∈ R, rwOK e) ∧ ∀ (k : Nat) (e : Nat → Int), R[k]? = some e → ∀ t, t < 6 → M (166 + t) (40 * a + k) = e t
def MeF (a : Nat) (M N : mM) : Prop := (∀ b, (b < 166 ∨ 172 < b) → N b = M b) ∧ (∀ b j, (j < 40 * a ∨ 40 * a + 40 ≤ j) → b ≠ 172 → N b j = M b j) ∧ ∀ j, j ≠ a → N 172 j = M 172 j
theorem MeF_tr {a : Nat} {M N O : mM} (h : MeF a M N) (h2 : MeF a N O) : MeF a M O := ⟨fun b hb => (h2.1 b hb).trans (h.1 b hb), fun b j q1 q2 => (h2.2.1 b j q1 q2).trans (h.2.1 b j q1 q2), fun j hj => (h2.2.2 j hj).trans (h.2.2 j hj)⟩
theorem MeF_rfl (a : Nat) (M : mM) : MeF a M M := ⟨fun _ _ => rfl, fun _ _ _ _ => rfl, fun _ _ => rfl⟩
def ltE (p q : Int) (e : Nat → Int) : Bool := decide (e 0 < p) || (decide (e 0 = p) && decide (e 1 < q))
def posE (p q : Int) : List (Nat → Int) → Nat
  | [] => 0
  | e :: R => if ltE p q e = true then posE p q R + 1 else 0
theorem posE_le (p q : Int) : ∀ R, posE p q R ≤ R.length
  | [] => Nat.le_refl _
  | e :: R => by
    have := posE_le p q R
    unfold posE
    rw [List.length_cons]
    split <;> omega
theorem posE_at {p q : Int} : ∀ (R : List (Nat → Int)) (n : Nat), (∀ k, k < n → ∃ e, R[k]? = some e ∧ ltE p q e = true) → (∀ e, R[n]? = some e → ltE p q e = false) → posE p q R = n
  | [], n, h, _ => by
    cases n with
    | zero => rfl
    | succ n => obtain ⟨e, he, -⟩ := h 0 (by omega)
                cases he
  | e :: R, 0, _, h2 => by
    have := h2 e rfl
    unfold posE
    rw [this]
    rfl
  | e :: R, n + 1, h, h2 => by
    obtain ⟨e2, q1, q2⟩ := h 0 (by omega)
    have q1 : e = e2 := by simpa using q1
    rw [← q1] at q2
    unfold posE
    rw [if_pos q2, posE_at R n (fun k hk => by
      obtain ⟨e3, z1, z2⟩ := h (k + 1) (by omega)
      exact ⟨e3, by simpa using z1, z2⟩) (fun e3 h3 => h2 e3 (by simpa using h3))]
/-- the arrays while room is made -/
def MeG (a : Nat) (R : List (Nat → Int)) (k : Nat) (M N : mM) : Prop := MeF a M N ∧ N 172 a = M 172 a ∧ (∀ j e, R[j]? = some e → j < k → ∀ t, t < 6 → N (166 + t) (40 * a + j) = e t) ∧ (∀ j e, R[j]? = some e → k ≤ j → ∀ t, t < 6 → N (166 + t) (40 * a + j + 1) = e t)
/-- six numbers put into a row -/
def rowUp (N : mM) (j : Nat) (e : Nat → Int) : mM := upI (upI (upI (upI (upI (upI N 166 j (e 0)) 167 j (e 1)) 168 j (e 2)) 169 j (e 3)) 170 j (e 4)) 171 j (e 5)
theorem rowUp_at (N : mM) (j : Nat) (e : Nat → Int) : ∀ t, t < 6 → rowUp N j e (166 + t) j = e t := by
  intro t ht
  unfold rowUp
  have h : t = 0 ∨ t = 1 ∨ t = 2 ∨ t = 3 ∨ t = 4 ∨ t = 5 := by omega
  rcases h with rfl | rfl | rfl | rfl | rfl | rfl <;> simp [upI]
theorem rowUp_ne (N : mM) (j : Nat) (e : Nat → Int) {b k : Nat} (h : k ≠ j ∨ b < 166 ∨ 171 < b) : rowUp N j e b k = N b k := by
  unfold rowUp upI
  rw [if_neg (by omega), if_neg (by omega), if_neg (by omega), if_neg (by omega), if_neg (by omega), if_neg (by omega)]
theorem rowUp_fr {a : Nat} (N : mM) (j : Nat) (e : Nat → Int) (h : 40 * a ≤ j ∧ j < 40 * a + 40) : MeF a N (rowUp N j e) := by
  refine ⟨fun b hb => ?_, fun b k hk _ => rowUp_ne N j e (by omega), fun k _ => rowUp_ne N j e (by omega)⟩
  funext k
  exact rowUp_ne N j e (by omega)
theorem m_placesEdge {a p q : Nat} {R : List (Nat → Int)} {M : mM} (ha : a < 2) (hp : p < 25) (hq : q < 25) (h : mE a R M) (hroom : R.length < 40 ∨ ∃ e, R[posE p q R]? = some e ∧ e 0 = (p : Int) ∧ e 1 = (q : Int)) : EQ 1 197 [vR 155, vI a, vI p, vI q] M (fun z N => z = some (vI ((40 * a + posE p q R : Nat) : Int)) ∧ MeF a M N ∧ (((∃ e, R[posE p q R]? = some e ∧ e 0 = (p : Int) ∧ e 1 = (q : Int)) ∧ N = M) ∨ ((¬ ∃ e, R[posE p q R]? = some e ∧ e 0 = (p : Int) ∧ e 1 = (q : Int)) ∧ ∃ e, e 0 = (p : Int) ∧ e 1 = (q : Int) ∧ e 2 = -1000000 ∧ e 3 = -1000000 ∧ ∀ u v, (-1000000 ≤ u ∧ u ≤ 1000000) → (-1000000 ≤ v ∧ v ≤ 1000000) → mE a (R.take (posE p q R) ++ (sR (sR e 4 u) 5 v) :: R.drop (posE p q R)) (upI (upI N 170 (40 * a + posE p q R) u) 171 (40 * a + posE p q R) v)))) := by
  obtain ⟨h1, h2, h3, h4⟩ := h
  refine q_in (ls := [vR 155, vI a, vI p, vI q, vN, vN, vN]) mq_197 (ml_197 rfl) rfl fun D hD => ?_
  generalize hQ : (fun (z : Option mV) (N : mM) => z = some (vI ((40 * a + posE p q R : Nat) : Int)) ∧ MeF a M N ∧ (((∃ e, R[posE p q R]? = some e ∧ e 0 = (p : Int) ∧ e 1 = (q : Int)) ∧ N = M) ∨ ((¬ ∃ e, R[posE p q R]? = some e ∧ e 0 = (p : Int) ∧ e 1 = (q : Int)) ∧ ∃ e, e 0 = (p : Int) ∧ e 1 = (q : Int) ∧ e 2 = -1000000 ∧ e 3 = -1000000 ∧ ∀ u v, (-1000000 ≤ u ∧ u ≤ 1000000) → (-1000000 ≤ v ∧ v ≤ 1000000) → mE a (R.take (posE p q R) ++ (sR (sR e 4 u) 5 v) :: R.drop (posE p q R)) (upI (upI N 170 (40 * a + posE p q R) u) 171 (40 * a + posE p q R) v)))) = Q
  have cell : ∀ (j : Nat) (e : Nat → Int), R[j]? = some e → (M 166 (((40 * a + j : Nat) : Int).toNat) = e 0 ∧ M 167 (((40 * a + j : Nat) : Int).toNat) = e 1) ∧ rwOK e := by
    intro j e hj
    exact ⟨⟨h4 j e hj 0 (by decide), h4 j e hj 1 (by decide)⟩, h3 e (List.mem_of_getElem? hj)⟩
  have e12 : M 172 ((a : Int)).toNat = (R.length : Int) := h1
  sorry
