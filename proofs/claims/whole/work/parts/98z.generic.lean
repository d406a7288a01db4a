/-! ===== sixteen points off all lines ===== -/
def gen16 : List (Int × Int) := [(1, 9), (1, 50), (1, 91), (1, 132), (42, 9), (42, 50), (42, 91), (83, 9), (83, 50), (124, 9), (40, 32), (40, 73), (40, 114), (81, 32), (81, 73), (122, 32)]
def gp (i : Nat) : Int × Int := (gen16[i]?).getD (0, 0)
def shr (p q : Nat) (g : Int × Int) : Int := (pi q - pi p) * (g.2 - 41 * pj p) - (pj q - pj p) * (g.1 - 41 * pi p)
def insT (p q r : Nat) (g : Int × Int) : Bool := (decide (0 < turn p q r) && (decide (0 < shr q r g) && (decide (0 < shr r p g) && decide (0 < shr p q g)))) || (decide (turn p q r < 0) && (decide (shr q r g < 0) && (decide (shr r p g < 0) && decide (shr p q g < 0))))
def genIn (p q r : Nat) : Bool := decide (turn p q r = 0) || (List.range 16).any fun i => insT p q r (gp i)
theorem gen_in : ∀ p ∈ placesL, ∀ q ∈ placesL, ∀ r ∈ placesL, genIn p q r = true := by decide +kernel
theorem turnW {m : Int} (h : -16 ≤ m ∧ m ≤ 16) (h0 : m ≠ 0) : (720720 : Int).tdiv m * m = 720720 := by
  have hd : ∀ n : Nat, n < 17 → 1 ≤ n → n ∣ 720720 := by decide
  refine Int.tdiv_mul_cancel ?_
  rw [← Int.natAbs_dvd]
  have := hd m.natAbs (by omega) (by omega)
  exact Int.natCast_dvd_natCast.mpr this
theorem shr_sum (p q r : Nat) (g : Int × Int) : shr q r g + shr r p g + shr p q g = 41 * turn p q r := by unfold shr turn; grind
theorem shr_x (p q r : Nat) (g : Int × Int) : shr q r g * pi p + shr r p g * pi q + shr p q g * pi r = turn p q r * g.1 := by unfold shr turn; grind
theorem shr_y (p q r : Nat) (g : Int × Int) : shr q r g * pj p + shr r p g * pj q + shr p q g * pj r = turn p q r * g.2 := by unfold shr turn; grind
def triR (p q r : Nat) (g : Int × Int) : List (Nat × Int) := [(p, (720720 : Int).tdiv (turn p q r) * shr q r g), (q, (720720 : Int).tdiv (turn p q r) * shr r p g), (r, (720720 : Int).tdiv (turn p q r) * shr p q g)]
theorem triR_sum {p q r : Nat} {g : Int × Int} (h : -16 ≤ turn p q r ∧ turn p q r ≤ 16) (h0 : turn p q r ≠ 0) : rW (triR p q r g) = 41 * 720720 ∧ rX (triR p q r g) = 720720 * g.1 ∧ rY (triR p q r g) = 720720 * g.2 := by
  have hw := turnW h h0
  have e1 := shr_sum p q r g
  have e2 := shr_x p q r g
  have e3 := shr_y p q r g
  unfold triR
  simp only [rW, rX, rY]
  generalize (720720 : Int).tdiv (turn p q r) = t at *
  generalize turn p q r = m at *
  generalize shr q r g = s1 at *
  generalize shr r p g = s2 at *
  generalize shr p q g = s3 at *
  refine ⟨?_, ?_, ?_⟩ <;> grind
theorem triR_pos {p q r : Nat} {g : Int × Int} (h : -16 ≤ turn p q r ∧ turn p q r ≤ 16) (hi : insT p q r g = true) : turn p q r ≠ 0 ∧ ∀ a ∈ triR p q r g, 0 < a.2 := by
  unfold insT at hi
  simp only [Bool.or_eq_true, Bool.and_eq_true, decide_eq_true_eq] at hi
  have h0 : turn p q r ≠ 0 := by omega
  have hw := turnW h h0
  refine ⟨h0, ?_⟩
  unfold triR
  generalize (720720 : Int).tdiv (turn p q r) = t at *
  have key : ∀ s : Int, ((0 < turn p q r ∧ 0 < s) ∨ (turn p q r < 0 ∧ s < 0)) → 0 < t * s := by
    intro s hs
    rcases hs with ⟨z1, z2⟩ | ⟨z1, z2⟩
    · have : 0 < t := Int.pos_of_mul_pos_left (b := turn p q r) (by omega) z1
      exact Int.mul_pos this z2
    · have : t < 0 := by
        rcases Int.lt_or_le t 0 with y | y
        · exact y
        · have := i_np y (Int.le_of_lt z1)
          omega
      exact i_nn this z2
  intro a ha
  simp only [List.mem_cons, List.not_mem_nil, or_false] at ha
  rcases ha with rfl | rfl | rfl
  · exact key _ (by omega)
  · exact key _ (by omega)
  · exact key _ (by omega)
def isCo (f : Cv) (X Y : Int) : Prop := ∃ p q r, turn p q r ≠ 0 ∧ LdP f X Y p ∧ LdP f X Y q ∧ LdP f X Y r
def genAt (f : Cv) (X Y : Int) (i : Nat) : Prop := ∃ p q r, insT p q r (gp i) = true ∧ LdP f X Y p ∧ LdP f X Y q ∧ LdP f X Y r
theorem hasF_pl {f : Cv} {B : Int} {p : Nat} (hf : Cok B f) (h : hasF f p = true) : p ∈ placesL := by
  have := hf p _ (hasF_cv h)
  exact pl_mem p this.1 this.2.1
theorem turn_L {f : Cv} {B : Int} {p q r : Nat} (hf : Cok B f) (hp : hasF f p = true) (hq : hasF f q = true) (hr : hasF f r = true) : -16 ≤ turn p q r ∧ turn p q r ≤ 16 := turn_16L p (hasF_pl hf hp) q (hasF_pl hf hq) r (hasF_pl hf hr)
theorem co_gen {f : Cv} {B X Y : Int} (hf : Cok B f) (h : isCo f X Y) : ∃ i, i < 16 ∧ genAt f X Y i := by
  obtain ⟨p, q, r, h0, h1, h2, h3⟩ := h
  have hg := gen_in p (hasF_pl hf h1.1) q (hasF_pl hf h2.1) r (hasF_pl hf h3.1)
  unfold genIn at hg
  rw [decide_eq_false h0, Bool.false_or, List.any_eq_true] at hg
  obtain ⟨i, hi, hin⟩ := hg
  exact ⟨i, List.mem_range.mp hi, p, q, r, hin, h1, h2, h3⟩
theorem LdP_eq {f : Cv} {X Y : Int} {p q : Nat} (h1 : LdP f X Y p) (h2 : LdP f X Y q) : vl f p X Y = vl f q X Y := by
  have a := h1.2 q h2.1
  have b := h2.2 p h1.1
  omega
theorem triR_ok {f : Cv} {B X Y : Int} {p q r i : Nat} (hf : Cok B f) (hi : insT p q r (gp i) = true) (h1 : LdP f X Y p) (h2 : LdP f X Y q) (h3 : LdP f X Y r) : rOK f X Y (vl f p X Y) (triR p q r (gp i)) := by
  have hp := triR_pos (turn_L hf h1.1 h2.1 h3.1) hi
  intro a ha
  refine ⟨hp.2 a ha, ?_⟩
  unfold triR at ha
  simp only [List.mem_cons, List.not_mem_nil, or_false] at ha
  rcases ha with rfl | rfl | rfl
  · exact ⟨h1.1, rfl⟩
  · exact ⟨h2.1, (LdP_eq h1 h2).symm⟩
  · exact ⟨h3.1, (LdP_eq h1 h3).symm⟩
theorem gen_inj {f : Cv} {B X Y X2 Y2 : Int} {i : Nat} (hf : Cok B f) (h : genAt f X Y i) (h2 : genAt f X2 Y2 i) : X = X2 ∧ Y = Y2 := by
  obtain ⟨p, q, r, a0, a1, a2, a3⟩ := h
  obtain ⟨p2, q2, r2, b0, b1, b2, b3⟩ := h2
  have ta := turn_L hf a1.1 a2.1 a3.1
  have tb := turn_L hf b1.1 b2.1 b3.1
  have pa := triR_pos ta a0
  have pb := triR_pos tb b0
  have sa := triR_sum (g := gp i) ta pa.1
  have sb := triR_sum (g := gp i) tb pb.1
  have := (rep_opt (f := f) (g := f) (v := []) (v2 := []) (fun k hk => a1.2 k hk) (fun k hk => a1.2 k hk) (fun k hk => b1.2 k hk) (fun k hk => b1.2 k hk) (triR_ok hf a0 a1 a2 a3) (fun a ha => by cases ha) (triR_ok hf b0 b1 b2 b3) (fun a ha => by cases ha) (sa.1.trans sb.1.symm) rfl (by rw [sa.2.1, sb.2.1]) (by rw [sa.2.2, sb.2.2])).1
  unfold triR at this
  have e1 := this _ List.mem_cons_self
  have e2 := this _ (List.mem_cons_of_mem _ List.mem_cons_self)
  have e3 := this _ (List.mem_cons_of_mem _ (List.mem_cons_of_mem _ List.mem_cons_self))
  exact tri_point pb.1 (e1.trans e2.symm) (e1.trans e3.symm) (LdP_eq b1 b2) (LdP_eq b1 b3)
/-- not more things than numbers -/
theorem nodup_lt : ∀ (n : Nat) (l : List Nat), l.Nodup → (∀ x ∈ l, x < n) → l.length ≤ n
  | 0, l, _, h => by
    cases l with
    | nil => exact Nat.le_refl _
    | cons a l => exact absurd (h a List.mem_cons_self) (Nat.not_lt_zero _)
  | n + 1, l, hn, h => by
    have h1 := nodup_lt n (l.erase n) (hn.erase n) (fun x hx => by
      have h2 := (hn.mem_erase_iff).mp hx
      have := h x h2.2
      have := h2.1
      omega)
    have h3 : l.length - 1 ≤ (l.erase n).length := by
      rw [List.length_erase]
      split <;> omega
    omega
theorem pigeon {A : Type} (φ : A → Nat → Prop) (n : Nat) : ∀ (L : List A), (∀ a ∈ L, ∃ i, i < n ∧ φ a i) → L.Pairwise (fun a b => ∀ i, φ a i → φ b i → False) → L.length ≤ n := by
  have main : ∀ (L : List A), (∀ a ∈ L, ∃ i, i < n ∧ φ a i) → L.Pairwise (fun a b => ∀ i, φ a i → φ b i → False) → ∃ I : List Nat, I.length = L.length ∧ I.Nodup ∧ (∀ i ∈ I, i < n ∧ ∃ a ∈ L, φ a i) := by
    intro L
    induction L with
    | nil => exact fun _ _ => ⟨[], rfl, List.nodup_nil, fun i hi => by cases hi⟩
    | cons a L ih =>
      intro h1 h2
      obtain ⟨I, i1, i2, i3⟩ := ih (fun b hb => h1 b (List.mem_cons_of_mem _ hb)) (List.pairwise_cons.mp h2).2
      obtain ⟨i, hi, hp⟩ := h1 a List.mem_cons_self
      refine ⟨i :: I, by rw [List.length_cons, List.length_cons, i1], List.nodup_cons.mpr ⟨fun hm => ?_, i2⟩, ?_⟩
      · obtain ⟨-, b, hb, hpb⟩ := i3 i hm
        exact (List.pairwise_cons.mp h2).1 b hb i hp hpb
      · intro j hj
        rcases List.mem_cons.mp hj with z | z
        · rw [z]; exact ⟨hi, a, List.mem_cons_self, hp⟩
        · obtain ⟨z1, b, hb, z2⟩ := i3 j z
          exact ⟨z1, b, List.mem_cons_of_mem _ hb, z2⟩
  intro L h1 h2
  obtain ⟨I, i1, i2, i3⟩ := main L h1 h2
  rw [← i1]
  exact nodup_lt n I i2 (fun x hx => (i3 x hx).1)
