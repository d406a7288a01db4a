/-! ===== the rows of a curve with vertices ===== -/
def m6 (e : Nat → Int) : Nat → Int := fun t => if t = 0 then e 0 else if t = 1 then e 1 else if t = 2 then e 4 else if t = 3 then e 5 else if t = 4 then e 6 else e 7
def rphi (f : Cv) (C : List Pt) (n : Nat) (k : Nat × Nat) : Option (Nat → Int) := if rowN f C k.1 k.2 n 4 = -1000000 then none else some (m6 (rowN f C k.1 k.2 n))
theorem oriL : ∀ a ∈ ints9, ∀ b ∈ ints9, (a = 0 ∧ b = 0) ∨ (((decide (0 < a * lineV a b - b * lineU a b) = true → lineU a b = (-b).tdiv (Nat.gcd a.natAbs b.natAbs : Nat) ∧ lineV a b = a.tdiv (Nat.gcd a.natAbs b.natAbs : Nat)) ∧ (decide (0 < a * lineV a b - b * lineU a b) ≠ true → -lineU a b = (-b).tdiv (Nat.gcd a.natAbs b.natAbs : Nat) ∧ -lineV a b = a.tdiv (Nat.gcd a.natAbs b.natAbs : Nat))) ∧ (decide (0 < a * lineV a b - b * lineU a b) = false → lineU a b = b.tdiv (Nat.gcd a.natAbs b.natAbs : Nat) ∧ lineV a b = (-a).tdiv (Nat.gcd a.natAbs b.natAbs : Nat)) ∧ (decide (0 < a * lineV a b - b * lineU a b) ≠ false → -lineU a b = b.tdiv (Nat.gcd a.natAbs b.natAbs : Nat) ∧ -lineV a b = (-a).tdiv (Nat.gcd a.natAbs b.natAbs : Nat))) := by decide +kernel
theorem lnG_sw (p q : Nat) : lnG q p = lnG p q := by
  unfold lnG
  rw [show (pi p - pi q).natAbs = (pi q - pi p).natAbs by omega, show (pj p - pj q).natAbs = (pj q - pj p).natAbs by omega]
theorem kyd_rphi (f : Cv) (C : List Pt) (n : Nat) : kyd (rphi f C n) := by
  intro k e h
  unfold rphi at h
  split at h
  · cases h
  · cases h
    have hJ := (rowN_J f C k.1 k.2 n).1
    exact hJ
theorem m6_new {p q n : Nat} {e : Nat → Int} {u v : Int} (h0 : e 0 = (p : Int)) (h1 : e 1 = (q : Int)) (h5 : e 5 = -1000000) (hu : e 6 = u) (hv : e 7 = v) (h4 : e 4 = (n : Int)) : m6 e = frE p q n u v := by
  unfold m6 frE
  funext t
  rw [h0, h1, h4, h5, hu, hv]
theorem m6_end (e : Nat → Int) (n : Int) : m6 (sR e 5 n) = sR (m6 e) 3 n := by
  funext t
  unfold m6 sR
  by_cases a : t = 3
  · subst a; rfl
  · rw [if_neg a]
    simp only [show (0 : Nat) ≠ 5 by decide, show (1 : Nat) ≠ 5 by decide, show (4 : Nat) ≠ 5 by decide, show (6 : Nat) ≠ 5 by decide, show (7 : Nat) ≠ 5 by decide, if_false, if_neg a]
theorem rphi_step {f : Cv} {C : List Pt} {n p q : Nat} (hpq : p < q) (hp : p / 5 + p % 5 ≤ 4) (hq : q / 5 + q % 5 ≤ 4) : rphi f C (n + 1) (p, q) = if hside (cellAt C n) p q = true then some (updE (rphi f C n (p, q)) p q n) else if hside (cellAt C n) q p = true then some (updE (rphi f C n (p, q)) q p n) else rphi f C n (p, q) := by
  have hJ := rowN_J f C p q n
  have dif := pl_diff hp hq
  have hn : ¬ (pi q - pi p = 0 ∧ pj q - pj p = 0) := pl_ne (show p ≠ q by omega)
  have hor := (oriL _ (mem9 dif.1) _ (mem9 dif.2.1)).resolve_left hn
  have hr : rowN f C p q (n + 1) = match sdE (cellAt C n) p q with
    | some b => enR (rowN f C p q n) n b
    | none => rowN f C p q n := rfl
  have k1 : kyO p q = (p, q) := by unfold kyO; rw [if_pos hpq]
  have k2 : kyO q p = (p, q) := by unfold kyO; rw [if_neg (by omega)]
  unfold rphi
  dsimp only
  rw [hr]
  have hmain : ∀ b : Bool, ∀ a c : Nat, kyO a c = (p, q) → ((b = true ∧ a = p ∧ c = q) ∨ (b = false ∧ a = q ∧ c = p)) → (if enR (rowN f C p q n) n b 4 = -1000000 then none else some (m6 (enR (rowN f C p q n) n b))) = some (updE (if rowN f C p q n 4 = -1000000 then none else some (m6 (rowN f C p q n))) a c n) := by
    intro b a c hk hbc
    generalize rowN f C p q n = e at *
    obtain ⟨⟨e0, e1⟩, hJ⟩ := hJ
    have hsi : edSI e = pi q - pi p := by unfold edSI; rw [e0, e1]; rfl
    have hsj : edSJ e = pj q - pj p := by unfold edSJ; rw [e0, e1]; rfl
    have huv : ∀ u v : Int, (b = true → u = (-(pj q - pj p)).tdiv (Nat.gcd (pi q - pi p).natAbs (pj q - pj p).natAbs : Nat) ∧ v = (pi q - pi p).tdiv (Nat.gcd (pi q - pi p).natAbs (pj q - pj p).natAbs : Nat)) → (b = false → u = (pj q - pj p).tdiv (Nat.gcd (pi q - pi p).natAbs (pj q - pj p).natAbs : Nat) ∧ v = (-(pi q - pi p)).tdiv (Nat.gcd (pi q - pi p).natAbs (pj q - pj p).natAbs : Nat)) → u = evU a c ∧ v = evV a c := by
      intro u v h1 h2
      rcases hbc with ⟨rfl, rfl, rfl⟩ | ⟨rfl, rfl, rfl⟩
      · have h1 := h1 rfl
        unfold evU evV lnG
        rw [show pj a - pj c = -(pj c - pj a) by omega]
        exact h1
      · have h2 := h2 rfl
        unfold evU evV
        rw [lnG_sw c a, show pi c - pi a = -(pi a - pi c) by omega]
        unfold lnG
        exact h2
    rcases hJ with ⟨h4, h5, h6, h7⟩ | ⟨k0, b0, h1, h2, h3, h4, h5⟩
    · rw [if_pos h4]
      unfold enR
      rw [if_pos h4, hsi, hsj, h6, h7]
      show _ = some (frE (kyO a c).1 (kyO a c).2 n (evU a c) (evV a c))
      rw [hk]
      by_cases qd : decide (0 < (pi q - pi p) * lineV (pi q - pi p) (pj q - pj p) - (pj q - pj p) * lineU (pi q - pi p) (pj q - pj p)) = b
      · rw [if_pos qd]
        have hu := huv _ _ (fun z => hor.1.1 (by rw [← z]; exact qd)) (fun z => hor.2.1 (by rw [← z]; exact qd))
        rw [if_neg (show ¬ sR e 4 (n : Int) 4 = -1000000 by show ¬ ((n : Int) = -1000000); omega)]
        exact congrArg some (m6_new (e := sR e 4 (n : Int)) (p := p) (q := q) (n := n) (u := evU a c) (v := evV a c) e0 e1 h5 (h6.trans hu.1) (h7.trans hu.2) rfl)
      · rw [if_neg qd]
        have hu := huv _ _ (fun z => hor.1.2 (by rw [← z]; exact qd)) (fun z => hor.2.2 (by rw [← z]; exact qd))
        rw [if_neg (show ¬ sR (sR (sR e 4 (n : Int)) 6 (-lineU (pi q - pi p) (pj q - pj p))) 7 (-lineV (pi q - pi p) (pj q - pj p)) 4 = -1000000 by show ¬ ((n : Int) = -1000000); omega)]
        exact congrArg some (m6_new (e := sR (sR (sR e 4 (n : Int)) 6 (-lineU (pi q - pi p) (pj q - pj p))) 7 (-lineV (pi q - pi p) (pj q - pj p))) (p := p) (q := q) (n := n) (u := evU a c) (v := evV a c) e0 e1 h5 hu.1 hu.2 rfl)
    · have h4n : ¬ e 4 = -1000000 := by omega
      rw [if_neg h4n]
      unfold enR
      rw [if_neg h4n]
      rw [if_neg (show ¬ sR e 5 (n : Int) 4 = -1000000 from h4n), m6_end]
      rfl
  unfold sdE
  by_cases h1 : hside (cellAt C n) p q = true
  · rw [if_pos h1, if_pos h1]
    exact hmain true p q k1 (Or.inl ⟨rfl, rfl, rfl⟩)
  · rw [if_neg h1, if_neg h1]
    by_cases h2 : hside (cellAt C n) q p = true
    · rw [if_pos h2, if_pos h2]
      exact hmain false q p k2 (Or.inr ⟨rfl, rfl, rfl⟩)
    · rw [if_neg h2, if_neg h2]
theorem hside_pl {s p q : Nat} (hs : plS s) (h : hside s p q = true ∨ hside s q p = true) : p / 5 + p % 5 ≤ 4 ∧ q / 5 + q % 5 ≤ 4 := by
  rcases h with h | h
  · have := hside_lt hs h
    exact ⟨(hs p this.1.2).2, (hs q this.2.2).2⟩
  · have := hside_lt hs h
    exact ⟨(hs p this.2.2).2, (hs q this.1.2).2⟩
theorem fm_none {A B : Type} : ∀ (l : List A), l.filterMap (fun _ => (none : Option B)) = []
  | [] => rfl
  | a :: l => by rw [List.filterMap_cons]; exact fm_none l
theorem mcE_as {f : Cv} (hf : Cok 999 f) : ∀ n, n ≤ (cornF f).length → mcE (cornF f) [] n = asL (rphi f (cornF f) n)
  | 0, _ => (fm_none prs).symm
  | n + 1, hn => by
    have ih := mcE_as hf n (by omega)
    have hget : (cornF f)[n]? = some ((cornF f)[n]'(by omega)) := List.getElem?_eq_getElem (by omega)
    obtain ⟨hco, hce⟩ := corn_at hf hget
    have hs : plS (cellAt (cornF f) n) := by rw [hce]; exact lead_plS hf _ _ _
    have hoff : ∀ a b, a ≠ b → ∃ k, (cellAt (cornF f) n).testBit k = true ∧ turn a b k ≠ 0 := by
      intro a b hab
      obtain ⟨k, k1, k2⟩ := co_off hab hco
      exact ⟨k, by rw [hce]; exact (led_iff hf).mpr k1, k2⟩
    have e : mcE (cornF f) [] (n + 1) = sdI (qsF (cellAt (cornF f) n) 25) (n : Int) (mcE (cornF f) [] n) (qsF (cellAt (cornF f) n) 25).length := rfl
    rw [e, ih, cell_rows (n : Int) hs hoff (kyd_rphi f (cornF f) n)]
    refine fm_congr prs fun k hk => ?_
    have hlt := prs_of k hk
    by_cases h : hside (cellAt (cornF f) n) k.1 k.2 = true ∨ hside (cellAt (cornF f) n) k.2 k.1 = true
    · have := hside_pl hs h
      exact (rphi_step hlt.1 this.1 this.2).symm
    · have h1 : ¬ hside (cellAt (cornF f) n) k.1 k.2 = true := fun z => h (Or.inl z)
      have h2 : ¬ hside (cellAt (cornF f) n) k.2 k.1 = true := fun z => h (Or.inr z)
      rw [if_neg h1, if_neg h2]
      have hr : rowN f (cornF f) k.1 k.2 (n + 1) = rowN f (cornF f) k.1 k.2 n := by
        have : sdE (cellAt (cornF f) n) k.1 k.2 = none := by unfold sdE; rw [if_neg h1, if_neg h2]
        show (match sdE (cellAt (cornF f) n) k.1 k.2 with
          | some b => enR (rowN f (cornF f) k.1 k.2 n) n b
          | none => rowN f (cornF f) k.1 k.2 n) = _
        rw [this]
      unfold rphi
      rw [hr]
