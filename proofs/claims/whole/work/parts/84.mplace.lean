/-! ===== the model's edges in order ===== -/
def rwOK (e : Nat → Int) : Prop := ∀ t, t < 6 → -1000000 ≤ e t ∧ e t ≤ 1000000
def mE (a : Nat) (R : List (Nat → Int)) (M : mM) : Prop := M 172 a = (R.length : Int) ∧ R.length ≤ 40 ∧ (∀ e ∈ R, rwOK e) ∧ ∀ (k : Nat) (e : Nat → Int), R[k]? = some e → ∀ t, t < 6 → M (166 + t) (40 * a + k) = e t
def MeF (a : Nat) (M N : mM) : Prop := (∀ b, (b < 166 ∨ 172 < b) → N b = M b) ∧ (∀ b j, (j < 40 * a ∨ 40 * a + 40 ≤ j) → b ≠ 172 → N b j = M b j) ∧ ∀ j, j ≠ a → N 172 j = M 172 j
theorem MeF_tr {a : Nat} {M N O : mM} (h : MeF a M N) (h2 : MeF a N O) : MeF a M O := ⟨fun b hb => (h2.1 b hb).trans (h.1 b hb), fun b j q1 q2 => (h2.2.1 b j q1 q2).trans (h.2.1 b j q1 q2), fun j hj => (h2.2.2 j hj).trans (h.2.2 j hj)⟩
theorem MeF_rfl (a : Nat) (M : mM) : MeF a M M := ⟨fun _ _ => rfl, fun _ _ _ _ => rfl, fun _ _ => rfl⟩
def ltE (p q : Int) (e : Nat → Int) : Bool := decide (e 0 < p) || (decide (e 0 = p) && decide (e 1 < q))
def posE (p q : Int) : List (Nat → Int) → Nat
  | [] => 0
  | e :: R => if ltE p q e = true then posE p q R + 1 else 0
theorem posE_le (p q : Int) : ∀ R, posE p q R ≤ R.length
  | [] => Nat.le_refl _
  | e :: R => by
    have := posE_le p q R
    unfold posE
    rw [List.length_cons]
    split <;> omega
theorem posE_at {p q : Int} : ∀ (R : List (Nat → Int)) (n : Nat), (∀ k, k < n → ∃ e, R[k]? = some e ∧ ltE p q e = true) → (∀ e, R[n]? = some e → ltE p q e = false) → posE p q R = n
  | [], n, h, _ => by
    cases n with
    | zero => rfl
    | succ n => obtain ⟨e, he, -⟩ := h 0 (by omega)
                cases he
  | e :: R, 0, _, h2 => by
    have := h2 e rfl
    unfold posE
    rw [this]
    rfl
  | e :: R, n + 1, h, h2 => by
    obtain ⟨e2, q1, q2⟩ := h 0 (by omega)
    have q1 : e = e2 := by simpa using q1
    rw [← q1] at q2
    unfold posE
    rw [if_pos q2, posE_at R n (fun k hk => by
      obtain ⟨e3, z1, z2⟩ := h (k + 1) (by omega)
      exact ⟨e3, by simpa using z1, z2⟩) (fun e3 h3 => h2 e3 (by simpa using h3))]
/-- the arrays while room is made -/
def MeG (a : Nat) (R : List (Nat → Int)) (k : Nat) (M N : mM) : Prop := MeF a M N ∧ N 172 a = M 172 a ∧ (∀ j e, R[j]? = some e → j < k → ∀ t, t < 6 → N (166 + t) (40 * a + j) = e t) ∧ (∀ j e, R[j]? = some e → k ≤ j → ∀ t, t < 6 → N (166 + t) (40 * a + j + 1) = e t)
/-- six numbers put into a row -/
def rowUp (N : mM) (j : Nat) (e : Nat → Int) : mM := upI (upI (upI (upI (upI (upI N 166 j (e 0)) 167 j (e 1)) 168 j (e 2)) 169 j (e 3)) 170 j (e 4)) 171 j (e 5)
theorem rowUp_at (N : mM) (j : Nat) (e : Nat → Int) : ∀ t, t < 6 → rowUp N j e (166 + t) j = e t := by
  intro t ht
  unfold rowUp
  have h : t = 0 ∨ t = 1 ∨ t = 2 ∨ t = 3 ∨ t = 4 ∨ t = 5 := by omega
  rcases h with rfl | rfl | rfl | rfl | rfl | rfl <;> simp [upI]
theorem rowUp_ne (N : mM) (j : Nat) (e : Nat → Int) {b k : Nat} (h : k ≠ j ∨ b < 166 ∨ 171 < b) : rowUp N j e b k = N b k := by
  unfold rowUp upI
  rw [if_neg (by omega), if_neg (by omega), if_neg (by omega), if_neg (by omega), if_neg (by omega), if_neg (by omega)]
theorem rowUp_fr {a : Nat} (N : mM) (j : Nat) (e : Nat → Int) (h : 40 * a ≤ j ∧ j < 40 * a + 40) : MeF a N (rowUp N j e) := by
  refine ⟨fun b hb => ?_, fun b k hk _ => rowUp_ne N j e (by omega), fun k _ => rowUp_ne N j e (by omega)⟩
  funext k
  exact rowUp_ne N j e (by omega)
theorem mE_ins {a n : Nat} {R : List (Nat → Int)} {M N N2 : mM} {e : Nat → Int} (h : mE a R M) (hl : R.length < 40) (hn : n ≤ R.length) (hG : MeG a R n M N) (he : rwOK e) (q1 : N2 172 a = (R.length : Int) + 1) (q2 : ∀ t, t < 6 → N2 (166 + t) (40 * a + n) = e t) (q3 : ∀ t j, t < 6 → j ≠ 40 * a + n → N2 (166 + t) j = N (166 + t) j) : mE a (R.take n ++ e :: R.drop n) N2 := by
  obtain ⟨h1, h2, h3, h4⟩ := h
  have hlen : (R.take n ++ e :: R.drop n).length = R.length + 1 := by
    rw [List.length_append, List.length_take, List.length_cons, List.length_drop]; omega
  refine ⟨by rw [q1, hlen]; rfl, by rw [hlen]; omega, fun x hx => ?_, fun k x hk t ht => ?_⟩
  · rcases List.mem_append.mp hx with z | z
    · exact h3 x (List.mem_of_mem_take z)
    · rcases List.mem_cons.mp z with z | z
      · rw [z]; exact he
      · exact h3 x (List.mem_of_mem_drop z)
  · rcases Nat.lt_trichotomy k n with q | q | q
    · rw [List.getElem?_append_left (by rw [List.length_take]; omega), List.getElem?_take, if_pos q] at hk
      rw [q3 t _ ht (by omega)]
      exact hG.2.2.1 k x hk q t ht
    · subst q
      have hx : x = e := by
        rw [List.getElem?_append_right (by rw [List.length_take]; omega), List.length_take, show k - min k R.length = 0 by omega] at hk
        simpa using hk.symm
      rw [hx]
      exact q2 t ht
    · have hx : R[k - 1]? = some x := by
        rw [List.getElem?_append_right (by rw [List.length_take]; omega), List.length_take, show k - min n R.length = (k - 1 - n) + 1 by omega, List.getElem?_cons_succ, List.getElem?_drop] at hk
        rw [show k - 1 = n + (k - 1 - n) by omega]
        exact hk
      rw [q3 t _ ht (by omega), show 40 * a + k = 40 * a + (k - 1) + 1 by omega]
      exact hG.2.2.2 (k - 1) x hx (by omega) t ht
theorem m_placesEdge {a p q : Nat} {R : List (Nat → Int)} {M : mM} (ha : a < 2) (hp : p < 25) (hq : q < 25) (h : mE a R M) (hroom : R.length < 40 ∨ ∃ e, R[posE p q R]? = some e ∧ e 0 = (p : Int) ∧ e 1 = (q : Int)) : EQ 1 197 [vR 155, vI a, vI p, vI q] M (fun z N => z = some (vI ((40 * a + posE p q R : Nat) : Int)) ∧ MeF a M N ∧ (((∃ e, R[posE p q R]? = some e ∧ e 0 = (p : Int) ∧ e 1 = (q : Int)) ∧ N = M) ∨ ((¬ ∃ e, R[posE p q R]? = some e ∧ e 0 = (p : Int) ∧ e 1 = (q : Int)) ∧ ∃ e, e 0 = (p : Int) ∧ e 1 = (q : Int) ∧ e 2 = -1000000 ∧ e 3 = -1000000 ∧ ∀ u v, (-1000000 ≤ u ∧ u ≤ 1000000) → (-1000000 ≤ v ∧ v ≤ 1000000) → mE a (R.take (posE p q R) ++ (sR (sR e 4 u) 5 v) :: R.drop (posE p q R)) (upI (upI N 170 (40 * a + posE p q R) u) 171 (40 * a + posE p q R) v)))) := by
  obtain ⟨h1, h2, h3, h4⟩ := h
  refine q_in (ls := [vR 155, vI a, vI p, vI q, vN, vN, vN]) mq_197 (ml_197 rfl) rfl fun D hD => ?_
  generalize hQ : (fun (z : Option mV) (N : mM) => z = some (vI ((40 * a + posE p q R : Nat) : Int)) ∧ MeF a M N ∧ (((∃ e, R[posE p q R]? = some e ∧ e 0 = (p : Int) ∧ e 1 = (q : Int)) ∧ N = M) ∨ ((¬ ∃ e, R[posE p q R]? = some e ∧ e 0 = (p : Int) ∧ e 1 = (q : Int)) ∧ ∃ e, e 0 = (p : Int) ∧ e 1 = (q : Int) ∧ e 2 = -1000000 ∧ e 3 = -1000000 ∧ ∀ u v, (-1000000 ≤ u ∧ u ≤ 1000000) → (-1000000 ≤ v ∧ v ≤ 1000000) → mE a (R.take (posE p q R) ++ (sR (sR e 4 u) 5 v) :: R.drop (posE p q R)) (upI (upI N 170 (40 * a + posE p q R) u) 171 (40 * a + posE p q R) v)))) = Q
  have cell : ∀ (j : Nat) (e : Nat → Int), R[j]? = some e → (M 166 (((40 * a + j : Nat) : Int).toNat) = e 0 ∧ M 167 (((40 * a + j : Nat) : Int).toNat) = e 1) ∧ rwOK e := by
    intro j e hj
    exact ⟨⟨h4 j e hj 0 (by decide), h4 j e hj 1 (by decide)⟩, h3 e (List.mem_of_getElem? hj)⟩
  have e12 : M 172 ((a : Int)).toNat = (R.length : Int) := h1
  have hend : ∀ (N : mM) (n : Nat) (w : mV), n = posE p q R → n ≤ R.length → R.length < 40 → (¬ ∃ e, R[posE p q R]? = some e ∧ e 0 = (p : Int) ∧ e 1 = (q : Int)) → MeG a R n M N → Wp mc_197 D 208 [vR 155, vI a, vI p, vI q, vI ((40 * a + n : Nat) : Int), w, vI ((40 * a + n : Nat) : Int)] [] N Q := by
    intro N n w hpn hn hl hno hG
    have hG1 := hG
    obtain ⟨g1, g2, g3, g4⟩ := hG
    generalize hj : 40 * a + n = j at *
    have e248 : upI (upI (upI (upI N 166 j (p : Int)) 167 j (q : Int)) 168 j (-1000000)) 169 j (-1000000) 172 ((a : Int)).toNat = (R.length : Int) := by
      rw [upI_ne _ _ _ _ (by decide), upI_ne _ _ _ _ (by decide), upI_ne _ _ _ _ (by decide), upI_ne _ _ _ _ (by decide)]
      exact g2.trans h1
    have hfin : Q (some (vI (j : Int))) (upI (upI (upI (upI (upI N 166 j (p : Int)) 167 j (q : Int)) 168 j (-1000000)) 169 j (-1000000)) 172 a ((R.length : Int) + 1)) := by
      rw [← hQ]
      refine ⟨by rw [← hpn, hj], MeF_tr g1 ⟨fun b hb => ?_, fun b k hk hb => ?_, fun k hk => ?_⟩, Or.inr ⟨hno, fun t => if t = 0 then (p : Int) else if t = 1 then (q : Int) else -1000000, rfl, rfl, rfl, rfl, fun u v hu hv => ?_⟩⟩
      · rw [upI_ne _ _ _ _ (by omega), upI_ne _ _ _ _ (by omega), upI_ne _ _ _ _ (by omega), upI_ne _ _ _ _ (by omega), upI_ne _ _ _ _ (by omega)]
      · unfold upI
        rw [if_neg (by omega), if_neg (by omega), if_neg (by omega), if_neg (by omega), if_neg (by omega)]
      · unfold upI
        rw [if_neg (by omega), if_neg (by omega), if_neg (by omega), if_neg (by omega), if_neg (by omega)]
      · rw [← hpn, hj]
        refine mE_ins ⟨h1, h2, h3, h4⟩ hl hn hG1 ?_ ?_ ?_ ?_
        · intro t ht
          have hc : t = 0 ∨ t = 1 ∨ t = 2 ∨ t = 3 ∨ t = 4 ∨ t = 5 := by omega
          rcases hc with rfl | rfl | rfl | rfl | rfl | rfl
          · show -1000000 ≤ (p : Int) ∧ (p : Int) ≤ 1000000; omega
          · show -1000000 ≤ (q : Int) ∧ (q : Int) ≤ 1000000; omega
          · show -1000000 ≤ (-1000000 : Int) ∧ (-1000000 : Int) ≤ 1000000; omega
          · show -1000000 ≤ (-1000000 : Int) ∧ (-1000000 : Int) ≤ 1000000; omega
          · exact hu
          · exact hv
        · rw [upI_ne _ _ _ _ (by decide), upI_ne _ _ _ _ (by decide), upI_same]
        · intro t ht
          rw [hj]
          have hc : t = 0 ∨ t = 1 ∨ t = 2 ∨ t = 3 ∨ t = 4 ∨ t = 5 := by omega
          rcases hc with rfl | rfl | rfl | rfl | rfl | rfl <;> simp [upI, sR]
        · intro t k ht hk
          unfold upI
          rw [if_neg (by omega), if_neg (by omega), if_neg (by omega), if_neg (by omega), if_neg (by omega), if_neg (by omega), if_neg (by omega)]
    refine w_aload rfl rfl (w_getR rfl (by first | rfl | assumption) rfl (by first | rfl | assumption) (w_iload rfl rfl (w_iload rfl rfl (w_iastore rfl (by first | rfl | assumption) (by omega) (by omega) (w_aload rfl rfl (w_getR rfl (by first | rfl | assumption) rfl (by first | rfl | assumption) (w_iload rfl rfl ?_)))))))
    refine w_iload rfl rfl (w_iastore rfl (by first | rfl | assumption) (by omega) (by omega) (w_aload rfl rfl (w_getR rfl (by first | rfl | assumption) rfl (by first | rfl | assumption) (w_iload rfl rfl (w_iconst rfl (w_iastore rfl (by first | rfl | assumption) (by omega) (by omega) (w_aload rfl rfl ?_)))))))
    refine w_getR rfl (by first | rfl | assumption) rfl (by first | rfl | assumption) (w_iload rfl rfl (w_iconst rfl (w_iastore rfl (by first | rfl | assumption) (by omega) (by omega) (w_aload rfl rfl (w_getR rfl (by first | rfl | assumption) rfl (by first | rfl | assumption) (w_iload rfl rfl (w_dup2 rfl rfl rfl ?_)))))))
    refine w_ialoadV rfl (by first | rfl | assumption) (by omega) (by omega) (e248) (w_iconst rfl (w_iadd rfl (w_iastore rfl (by first | rfl | assumption) (by omega) (by omega) (w_iload rfl rfl ?_))))
    exact w_ireturn rfl hfin
  have shift : ∀ (z m n : Nat) (N : mM), m - n = z → n ≤ m → m ≤ R.length → n = posE p q R → R.length < 40 → (¬ ∃ e, R[posE p q R]? = some e ∧ e 0 = (p : Int) ∧ e 1 = (q : Int)) → MeG a R m M N → Wp mc_197 D 99 [vR 155, vI a, vI p, vI q, vI ((40 * a + n : Nat) : Int), vI ((40 * a + R.length : Nat) : Int), vI ((40 * a + m : Nat) : Int)] [] N Q := by
    intro z
    induction z with
    | zero =>
      intro m n N hz hnm hm hpn hl hno hG
      obtain rfl : m = n := by omega
      have hgo := hend N m (vI ((40 * a + R.length : Nat) : Int)) hpn hm hl hno hG
      refine w_iload rfl rfl (w_iload rfl rfl ?_)
      refine w_icmp_le (tgt := 208) rfl (by first | assumption | exact i32_0 | (unfold i32 at *; omega)) (by first | assumption | exact i32_0 | (unfold i32 at *; omega)) rfl (fun c103 => ?_) (fun c103 => ?_)
      · skip
        exact hgo
      · skip
        exfalso; omega
    | succ z ih =>
      intro m n N hz hnm hm hpn hl hno hG
      have he : R[m - 1]? = some (R[m - 1]'(by omega)) := List.getElem?_eq_getElem (by omega)
      generalize (R[m - 1]'(by omega)) = e at he
      have hq : mE a R M := ⟨h1, h2, h3, h4⟩
      have hread : ∀ t, t < 6 → N (166 + t) (40 * a + (m - 1)) = e t := hG.2.2.1 (m - 1) e he (by omega)
      have hG2 : MeG a R (m - 1) M (rowUp N (40 * a + m) e) := by
        obtain ⟨g1, g2, g3, g4⟩ := hG
        refine ⟨MeF_tr g1 (rowUp_fr N _ e (by omega)), by rw [rowUp_ne N _ e (by omega)]; exact g2, fun j x hj hjk t ht => ?_, fun j x hj hjk t ht => ?_⟩
        · rw [rowUp_ne N _ e (by omega)]
          exact g3 j x hj (by omega) t ht
        · by_cases q : j = m - 1
          · subst q
            have hx : x = e := by rw [he] at hj; simpa using hj.symm
            rw [hx, show 40 * a + (m - 1) + 1 = 40 * a + m by omega]
            exact rowUp_at N _ e t ht
          · rw [rowUp_ne N _ e (by omega)]
            exact g4 j x hj (by omega) t ht
      have ihn := ih (m - 1) n _ (by omega) (by omega) (by omega) hpn hl hno hG2
      have hidx : ((((40 * a + m : Nat) : Int)) - 1).toNat = 40 * a + (m - 1) := by omega
      have hne : (40 * a + (m - 1)) ≠ 40 * a + m := by omega
      have hi1 : (((40 * a + m : Nat) : Int)) + (-1) = ((40 * a + (m - 1) : Nat) : Int) := by omega
      have hb : 40 * a + m < 80 ∧ 0 < 40 * a + m := by omega
      have hi2 : (40 * a + n : Nat) < 40 * a + m := by omega
      clear ih hend hG hG2 cell
      unfold rowUp at ihn
      generalize 40 * a + (m - 1) = j1 at *
      generalize 40 * a + m = j at *
      generalize 40 * a + n = j0 at *
      generalize 40 * a + R.length = j2 at *
      have r0 : N 166 (((j : Int) - 1).toNat) = e 0 := by rw [hidx]; exact hread 0 (by decide)
      have r1 : upI N 166 j (e 0) 167 (((j : Int) - 1).toNat) = e 1 := by rw [upI_ne _ _ _ _ (by decide), hidx]; exact hread 1 (by decide)
      have r2 : upI (upI N 166 j (e 0)) 167 j (e 1) 168 (((j : Int) - 1).toNat) = e 2 := by rw [upI_ne _ _ _ _ (by decide), upI_ne _ _ _ _ (by decide), hidx]; exact hread 2 (by decide)
      have r3 : upI (upI (upI N 166 j (e 0)) 167 j (e 1)) 168 j (e 2) 169 (((j : Int) - 1).toNat) = e 3 := by rw [upI_ne _ _ _ _ (by decide), upI_ne _ _ _ _ (by decide), upI_ne _ _ _ _ (by decide), hidx]; exact hread 3 (by decide)
      have r4 : upI (upI (upI (upI N 166 j (e 0)) 167 j (e 1)) 168 j (e 2)) 169 j (e 3) 170 (((j : Int) - 1).toNat) = e 4 := by rw [upI_ne _ _ _ _ (by decide), upI_ne _ _ _ _ (by decide), upI_ne _ _ _ _ (by decide), upI_ne _ _ _ _ (by decide), hidx]; exact hread 4 (by decide)
      have r5 : upI (upI (upI (upI (upI N 166 j (e 0)) 167 j (e 1)) 168 j (e 2)) 169 j (e 3)) 170 j (e 4) 171 (((j : Int) - 1).toNat) = e 5 := by rw [upI_ne _ _ _ _ (by decide), upI_ne _ _ _ _ (by decide), upI_ne _ _ _ _ (by decide), upI_ne _ _ _ _ (by decide), upI_ne _ _ _ _ (by decide), hidx]; exact hread 5 (by decide)
      refine w_iload rfl rfl (w_iload rfl rfl ?_)
      refine w_icmp_le (tgt := 208) rfl (by first | assumption | exact i32_0 | (unfold i32 at *; omega)) (by first | assumption | exact i32_0 | (unfold i32 at *; omega)) rfl (fun c103 => ?_) (fun c103 => ?_)
      · exfalso; omega
      · skip
        refine w_aload rfl rfl (w_getR rfl (by first | rfl | assumption) rfl (by first | rfl | assumption) (w_iload rfl rfl (w_aload rfl rfl (w_getR rfl (by first | rfl | assumption) rfl (by first | rfl | assumption) (w_iload rfl rfl (w_iconst rfl (w_isub rfl ?_)))))))
        refine w_ialoadV rfl (by first | rfl | assumption) (by omega) (by omega) (r0) (w_iastore rfl (by first | rfl | assumption) (by omega) (by omega) (w_aload rfl rfl (w_getR rfl (by first | rfl | assumption) rfl (by first | rfl | assumption) (w_iload rfl rfl (w_aload rfl rfl (w_getR rfl (by first | rfl | assumption) rfl (by first | rfl | assumption) (w_iload rfl rfl ?_)))))))
        refine w_iconst rfl (w_isub rfl (w_ialoadV rfl (by first | rfl | assumption) (by omega) (by omega) (r1) (w_iastore rfl (by first | rfl | assumption) (by omega) (by omega) (w_aload rfl rfl (w_getR rfl (by first | rfl | assumption) rfl (by first | rfl | assumption) (w_iload rfl rfl (w_aload rfl rfl ?_)))))))
        refine w_getR rfl (by first | rfl | assumption) rfl (by first | rfl | assumption) (w_iload rfl rfl (w_iconst rfl (w_isub rfl (w_ialoadV rfl (by first | rfl | assumption) (by omega) (by omega) (r2) (w_iastore rfl (by first | rfl | assumption) (by omega) (by omega) (w_aload rfl rfl (w_getR rfl (by first | rfl | assumption) rfl (by first | rfl | assumption) ?_)))))))
        refine w_iload rfl rfl (w_aload rfl rfl (w_getR rfl (by first | rfl | assumption) rfl (by first | rfl | assumption) (w_iload rfl rfl (w_iconst rfl (w_isub rfl (w_ialoadV rfl (by first | rfl | assumption) (by omega) (by omega) (r3) (w_iastore rfl (by first | rfl | assumption) (by omega) (by omega) ?_)))))))
        refine w_aload rfl rfl (w_getR rfl (by first | rfl | assumption) rfl (by first | rfl | assumption) (w_iload rfl rfl (w_aload rfl rfl (w_getR rfl (by first | rfl | assumption) rfl (by first | rfl | assumption) (w_iload rfl rfl (w_iconst rfl (w_isub rfl ?_)))))))
        refine w_ialoadV rfl (by first | rfl | assumption) (by omega) (by omega) (r4) (w_iastore rfl (by first | rfl | assumption) (by omega) (by omega) (w_aload rfl rfl (w_getR rfl (by first | rfl | assumption) rfl (by first | rfl | assumption) (w_iload rfl rfl (w_aload rfl rfl (w_getR rfl (by first | rfl | assumption) rfl (by first | rfl | assumption) (w_iload rfl rfl ?_)))))))
        refine w_iconst rfl (w_isub rfl (w_ialoadV rfl (by first | rfl | assumption) (by omega) (by omega) (r5) (w_iastore rfl (by first | rfl | assumption) (by omega) (by omega) (w_iinc (ls2 := [_, _, _, _, _, _, _]) rfl rfl rfl ?_))))
        rw [hi1]
        refine w_goto (tgt := 99) rfl rfl ?_
        exact ihn
  have fresh : ∀ (n : Nat), n = posE p q R → n ≤ R.length → (¬ ∃ e, R[posE p q R]? = some e ∧ e 0 = (p : Int) ∧ e 1 = (q : Int)) → Wp mc_197 D 95 [vR 155, vI a, vI p, vI q, vI ((40 * a + n : Nat) : Int), vI ((40 * a + R.length : Nat) : Int), vN] [] M Q := by
    intro n hpn hn hno
    have hl : R.length < 40 := by
      rcases hroom with z | z
      · exact z
      · exact absurd z hno
    have hG0 : MeG a R R.length M M := ⟨MeF_rfl a M, rfl, fun j e hj _ t ht => h4 j e hj t ht, fun j e hj hjl => by
      have := (List.getElem?_eq_some_iff.mp hj).1
      omega⟩
    have hgo := shift (R.length - n) R.length n M rfl hn (Nat.le_refl _) hpn hl hno hG0
    refine w_iload rfl rfl (w_istore (ls2 := [_, _, _, _, _, _, _]) rfl rfl rfl ?_)
    exact hgo
  have at63 : ∀ (n : Nat), n = posE p q R → n ≤ R.length → Wp mc_197 D 63 [vR 155, vI a, vI p, vI q, vI ((40 * a + n : Nat) : Int), vI ((40 * a + R.length : Nat) : Int), vN] [] M Q := by
    intro n hpn hn
    by_cases q1 : n = R.length
    · have hgo := fresh n hpn hn (fun ⟨e, z, _⟩ => by rw [← hpn, q1, List.getElem?_eq_none (Nat.le_refl _)] at z; cases z)
      clear hend shift
      generalize R.length = len at *
      refine w_iload rfl rfl (w_iload rfl rfl ?_)
      refine w_icmp_ge (tgt := 95) rfl (by first | assumption | exact i32_0 | (unfold i32 at *; omega)) (by first | assumption | exact i32_0 | (unfold i32 at *; omega)) rfl (fun c67 => ?_) (fun c67 => ?_)
      · skip
        exact hgo
      · skip
        exfalso; omega
    · have he : R[n]? = some (R[n]'(by omega)) := List.getElem?_eq_getElem (by omega)
      generalize (R[n]'(by omega)) = e at he
      have hc := cell n e he
      have hb := hc.2 0 (by decide)
      have hb1 := hc.2 1 (by decide)
      by_cases q2 : e 0 = (p : Int) ∧ e 1 = (q : Int)
      · have hfin : Q (some (vI ((40 * a + n : Nat) : Int))) M := by
          rw [← hQ]
          exact ⟨by rw [hpn], MeF_rfl a M, Or.inl ⟨⟨e, by rw [← hpn]; exact he, q2⟩, rfl⟩⟩
        clear hend shift fresh
        generalize R.length = len at *
        generalize e 0 = e0 at *
        generalize e 1 = e1 at *
        refine w_iload rfl rfl (w_iload rfl rfl ?_)
        refine w_icmp_ge (tgt := 95) rfl (by first | assumption | exact i32_0 | (unfold i32 at *; omega)) (by first | assumption | exact i32_0 | (unfold i32 at *; omega)) rfl (fun c67 => ?_) (fun c67 => ?_)
        · skip
          exfalso; omega
        · skip
          refine w_aload rfl rfl (w_getR rfl (by first | rfl | assumption) rfl (by first | rfl | assumption) (w_iload rfl rfl (w_ialoadV rfl (by first | rfl | assumption) (by omega) (by omega) (hc.1.1) (w_iload rfl rfl ?_))))
          refine w_icmp_ne (tgt := 95) rfl (by first | assumption | exact i32_0 | (unfold i32 at *; omega)) (by first | assumption | exact i32_0 | (unfold i32 at *; omega)) rfl (fun c78 => ?_) (fun c78 => ?_)
          · skip
            exfalso; omega
          · skip
            refine w_aload rfl rfl (w_getR rfl (by first | rfl | assumption) rfl (by first | rfl | assumption) (w_iload rfl rfl (w_ialoadV rfl (by first | rfl | assumption) (by omega) (by omega) (hc.1.2) (w_iload rfl rfl ?_))))
            refine w_icmp_ne (tgt := 95) rfl (by first | assumption | exact i32_0 | (unfold i32 at *; omega)) (by first | assumption | exact i32_0 | (unfold i32 at *; omega)) rfl (fun c89 => ?_) (fun c89 => ?_)
            · skip
              exfalso; omega
            · skip
              refine w_iload rfl rfl ?_
              exact w_ireturn rfl hfin
      · have hgo := fresh n hpn hn (fun ⟨e2, z, z2⟩ => q2 (by
          rw [← hpn, he] at z
          have z : e = e2 := by simpa using z
          rw [z]; exact z2))
        clear hend shift fresh
        generalize R.length = len at *
        generalize e 0 = e0 at *
        generalize e 1 = e1 at *
        refine w_iload rfl rfl (w_iload rfl rfl ?_)
        refine w_icmp_ge (tgt := 95) rfl (by first | assumption | exact i32_0 | (unfold i32 at *; omega)) (by first | assumption | exact i32_0 | (unfold i32 at *; omega)) rfl (fun c67 => ?_) (fun c67 => ?_)
        · skip
          exact hgo
        · skip
          refine w_aload rfl rfl (w_getR rfl (by first | rfl | assumption) rfl (by first | rfl | assumption) (w_iload rfl rfl (w_ialoadV rfl (by first | rfl | assumption) (by omega) (by omega) (hc.1.1) (w_iload rfl rfl ?_))))
          refine w_icmp_ne (tgt := 95) rfl (by first | assumption | exact i32_0 | (unfold i32 at *; omega)) (by first | assumption | exact i32_0 | (unfold i32 at *; omega)) rfl (fun c78 => ?_) (fun c78 => ?_)
          · skip
            exact hgo
          · skip
            refine w_aload rfl rfl (w_getR rfl (by first | rfl | assumption) rfl (by first | rfl | assumption) (w_iload rfl rfl (w_ialoadV rfl (by first | rfl | assumption) (by omega) (by omega) (hc.1.2) (w_iload rfl rfl ?_))))
            refine w_icmp_ne (tgt := 95) rfl (by first | assumption | exact i32_0 | (unfold i32 at *; omega)) (by first | assumption | exact i32_0 | (unfold i32 at *; omega)) rfl (fun c89 => ?_) (fun c89 => ?_)
            · skip
              exact hgo
            · skip
              exfalso; omega
  have loop : ∀ (z n : Nat), R.length - n = z → n ≤ R.length → (∀ k, k < n → ∃ e, R[k]? = some e ∧ ltE p q e = true) → Wp mc_197 D 17 [vR 155, vI a, vI p, vI q, vI ((40 * a + n : Nat) : Int), vI ((40 * a + R.length : Nat) : Int), vN] [] M Q := by
    intro z
    induction z with
    | zero =>
      intro n hz hn hk
      obtain rfl : n = R.length := by omega
      have hgo := at63 R.length (posE_at R R.length hk (fun e he => by rw [List.getElem?_eq_none (Nat.le_refl _)] at he; cases he)).symm (Nat.le_refl _)
      clear hend shift fresh at63
      generalize R.length = len at *
      refine w_iload rfl rfl (w_iload rfl rfl ?_)
      refine w_icmp_ge (tgt := 63) rfl (by first | assumption | exact i32_0 | (unfold i32 at *; omega)) (by first | assumption | exact i32_0 | (unfold i32 at *; omega)) rfl (fun c21 => ?_) (fun c21 => ?_)
      · skip
        exact hgo
      · skip
        exfalso; omega
    | succ z ih =>
      intro n hz hn hk
      have he : R[n]? = some (R[n]'(by omega)) := List.getElem?_eq_getElem (by omega)
      generalize (R[n]'(by omega)) = e at he
      have hc := cell n e he
      have hb := hc.2 0 (by decide)
      have hb1 := hc.2 1 (by decide)
      have hlt : ltE p q e = (decide (e 0 < (p : Int)) || (decide (e 0 = (p : Int)) && decide (e 1 < (q : Int)))) := rfl
      cases q2 : ltE p q e with
      | true =>
        have hgo := ih (n + 1) (by omega) (by omega) (fun k hk2 => by
          by_cases z : k = n
          · rw [z]; exact ⟨e, he, q2⟩
          · exact hk k (by omega))
        have hi : ((40 * a + n : Nat) : Int) + 1 = ((40 * a + (n + 1) : Nat) : Int) := by omega
        have hd : e 0 < (p : Int) ∨ (e 0 = (p : Int) ∧ e 1 < (q : Int)) := by
          rw [hlt] at q2
          simpa using q2
        clear hend shift fresh at63 ih
        generalize R.length = len at *
        generalize e 0 = e0 at *
        generalize e 1 = e1 at *
        refine w_iload rfl rfl (w_iload rfl rfl ?_)
        refine w_icmp_ge (tgt := 63) rfl (by first | assumption | exact i32_0 | (unfold i32 at *; omega)) (by first | assumption | exact i32_0 | (unfold i32 at *; omega)) rfl (fun c21 => ?_) (fun c21 => ?_)
        · skip
          exfalso; omega
        · skip
          refine w_aload rfl rfl (w_getR rfl (by first | rfl | assumption) rfl (by first | rfl | assumption) (w_iload rfl rfl (w_ialoadV rfl (by first | rfl | assumption) (by omega) (by omega) (hc.1.1) (w_iload rfl rfl ?_))))
          refine w_icmp_lt (tgt := 57) rfl (by first | assumption | exact i32_0 | (unfold i32 at *; omega)) (by first | assumption | exact i32_0 | (unfold i32 at *; omega)) rfl (fun c32 => ?_) (fun c32 => ?_)
          · skip
            refine w_iinc (ls2 := [_, _, _, _, _, _, _]) rfl rfl rfl ?_
            rw [hi]
            refine w_goto (tgt := 17) rfl rfl ?_
            exact hgo
          · skip
            refine w_aload rfl rfl (w_getR rfl (by first | rfl | assumption) rfl (by first | rfl | assumption) (w_iload rfl rfl (w_ialoadV rfl (by first | rfl | assumption) (by omega) (by omega) (hc.1.1) (w_iload rfl rfl ?_))))
            refine w_icmp_ne (tgt := 63) rfl (by first | assumption | exact i32_0 | (unfold i32 at *; omega)) (by first | assumption | exact i32_0 | (unfold i32 at *; omega)) rfl (fun c43 => ?_) (fun c43 => ?_)
            · skip
              exfalso; omega
            · skip
              refine w_aload rfl rfl (w_getR rfl (by first | rfl | assumption) rfl (by first | rfl | assumption) (w_iload rfl rfl (w_ialoadV rfl (by first | rfl | assumption) (by omega) (by omega) (hc.1.2) (w_iload rfl rfl ?_))))
              refine w_icmp_ge (tgt := 63) rfl (by first | assumption | exact i32_0 | (unfold i32 at *; omega)) (by first | assumption | exact i32_0 | (unfold i32 at *; omega)) rfl (fun c54 => ?_) (fun c54 => ?_)
              · skip
                exfalso; omega
              · skip
                refine w_iinc (ls2 := [_, _, _, _, _, _, _]) rfl rfl rfl ?_
                rw [hi]
                refine w_goto (tgt := 17) rfl rfl ?_
                exact hgo
      | false =>
        have hgo := at63 n (posE_at R n hk (fun e2 he2 => by
          rw [he] at he2
          have z : e = e2 := by simpa using he2
          rw [← z]; exact q2)).symm hn
        have hd : ¬ (e 0 < (p : Int) ∨ (e 0 = (p : Int) ∧ e 1 < (q : Int))) := by
          rw [hlt] at q2
          simpa using q2
        clear hend shift fresh at63 ih
        generalize R.length = len at *
        generalize e 0 = e0 at *
        generalize e 1 = e1 at *
        refine w_iload rfl rfl (w_iload rfl rfl ?_)
        refine w_icmp_ge (tgt := 63) rfl (by first | assumption | exact i32_0 | (unfold i32 at *; omega)) (by first | assumption | exact i32_0 | (unfold i32 at *; omega)) rfl (fun c21 => ?_) (fun c21 => ?_)
        · exfalso; omega
        · skip
          refine w_aload rfl rfl (w_getR rfl (by first | rfl | assumption) rfl (by first | rfl | assumption) (w_iload rfl rfl (w_ialoadV rfl (by first | rfl | assumption) (by omega) (by omega) (hc.1.1) (w_iload rfl rfl ?_))))
          refine w_icmp_lt (tgt := 57) rfl (by first | assumption | exact i32_0 | (unfold i32 at *; omega)) (by first | assumption | exact i32_0 | (unfold i32 at *; omega)) rfl (fun c32 => ?_) (fun c32 => ?_)
          · skip
            exfalso; omega
          · skip
            refine w_aload rfl rfl (w_getR rfl (by first | rfl | assumption) rfl (by first | rfl | assumption) (w_iload rfl rfl (w_ialoadV rfl (by first | rfl | assumption) (by omega) (by omega) (hc.1.1) (w_iload rfl rfl ?_))))
            refine w_icmp_ne (tgt := 63) rfl (by first | assumption | exact i32_0 | (unfold i32 at *; omega)) (by first | assumption | exact i32_0 | (unfold i32 at *; omega)) rfl (fun c43 => ?_) (fun c43 => ?_)
            · skip
              exact hgo
            · skip
              refine w_aload rfl rfl (w_getR rfl (by first | rfl | assumption) rfl (by first | rfl | assumption) (w_iload rfl rfl (w_ialoadV rfl (by first | rfl | assumption) (by omega) (by omega) (hc.1.2) (w_iload rfl rfl ?_))))
              refine w_icmp_ge (tgt := 63) rfl (by first | assumption | exact i32_0 | (unfold i32 at *; omega)) (by first | assumption | exact i32_0 | (unfold i32 at *; omega)) rfl (fun c54 => ?_) (fun c54 => ?_)
              · skip
                exact hgo
              · skip
                exfalso; omega
  have hgo := loop R.length 0 rfl (Nat.zero_le _) (fun k hk => by omega)
  have hi0 : (40 : Int) * (a : Int) = ((40 * a + 0 : Nat) : Int) := by omega
  have hi1 : ((40 * a + 0 : Nat) : Int) + (R.length : Int) = ((40 * a + R.length : Nat) : Int) := by omega
  clear hend shift fresh at63 loop
  generalize R.length = len at *
  refine w_iconst rfl (w_iload rfl rfl (w_imul rfl ?_))
  rw [hi0]
  refine w_istore (ls2 := [_, _, _, _, _, _, _]) rfl rfl rfl (w_iload rfl rfl (w_aload rfl rfl (w_getR rfl (by first | rfl | assumption) rfl (by first | rfl | assumption) (w_iload rfl rfl (w_ialoadV rfl (by first | rfl | assumption) (by omega) (by omega) (e12) (w_iadd rfl ?_))))))
  rw [hi1]
  refine w_istore (ls2 := [_, _, _, _, _, _, _]) rfl rfl rfl ?_
  exact hgo
