/-! ===== at most sixteen meetings ===== -/
def dl (k : Nat) : Int := pi k + 9 * pj k
theorem dl_inj : ∀ a ∈ placesL, ∀ b ∈ placesL, dl a = dl b → a = b := by decide +kernel
def mtP (f g : Cv) (X Y : Int) : Prop := ∃ p q r t, crs p q r t ≠ 0 ∧ LdP f X Y p ∧ LdP f X Y q ∧ LdP g X Y r ∧ LdP g X Y t
def mxD (g : Cv) (X Y : Int) (b : Nat) : Prop := LdP g X Y b ∧ ∀ k, LdP g X Y k → dl k ≤ dl b
def mnD (f : Cv) (X Y : Int) (a : Nat) : Prop := LdP f X Y a ∧ ∀ k, LdP f X Y k → dl a ≤ dl k
theorem mnD_ex {f : Cv} {B X Y : Int} {p : Nat} (hf : Cok B f) (h : LdP f X Y p) : ∃ a, mnD f X Y a := by
  have hlt : ∀ k, LdP f X Y k → k < 21 := fun k hk => (hf k _ (hasF_cv hk.1)).1
  obtain ⟨a, a1, a2, a3⟩ := argmin (P := fun k => LdP f X Y k) (g := dl) (x := fun _ => 1) (fun _ _ => by decide) 21 ⟨p, hlt p h, h⟩
  exact ⟨a, a2, fun k hk => by have := a3 k (hlt k hk) hk; omega⟩
theorem mxD_ex {f : Cv} {B X Y : Int} {p : Nat} (hf : Cok B f) (h : LdP f X Y p) : ∃ a, mxD f X Y a := by
  have hlt : ∀ k, LdP f X Y k → k < 21 := fun k hk => (hf k _ (hasF_cv hk.1)).1
  obtain ⟨a, a1, a2, a3⟩ := argmin (P := fun k => LdP f X Y k) (g := fun k => -dl k) (x := fun _ => 1) (fun _ _ => by decide) 21 ⟨p, hlt p h, h⟩
  exact ⟨a, a2, fun k hk => by have := a3 k (hlt k hk) hk; omega⟩
theorem LdP_pl {f : Cv} {B X Y : Int} {p : Nat} (hf : Cok B f) (h : LdP f X Y p) : p ∈ placesL := hasF_pl hf h.1
theorem mnD_un {f : Cv} {B X Y : Int} {a b : Nat} (hf : Cok B f) (h1 : mnD f X Y a) (h2 : mnD f X Y b) : a = b := dl_inj a (LdP_pl hf h1.1) b (LdP_pl hf h2.1) (by have := h1.2 b h2.1; have := h2.2 a h1.1; omega)
theorem mxD_un {f : Cv} {B X Y : Int} {a b : Nat} (hf : Cok B f) (h1 : mxD f X Y a) (h2 : mxD f X Y b) : a = b := dl_inj a (LdP_pl hf h1.1) b (LdP_pl hf h2.1) (by have := h1.2 b h2.1; have := h2.2 a h1.1; omega)
def T7 : List (Int × Int) := (List.range 64).filterMap fun k => if k / 8 + k % 8 ≤ 7 then some (((k / 8 : Nat) : Int), ((k % 8 : Nat) : Int)) else none
def gpt (k : Nat) : Int × Int := (1 + 41 * ((T7[k]?).getD (0, 0)).1, 9 + 41 * ((T7[k]?).getD (0, 0)).2)
theorem T7B : ((List.range 8).all fun x => (List.range 8).all fun y => !decide (x + y ≤ 7) || (List.range 36).any fun k => decide (gpt k = (1 + 41 * (x : Int), 9 + 41 * (y : Int)))) = true := by decide +kernel
theorem T7_of {x y : Int} (hx : 0 ≤ x) (hy : 0 ≤ y) (h : x + y ≤ 7) : ∃ k, k < 36 ∧ gpt k = (1 + 41 * x, 9 + 41 * y) := by
  obtain ⟨a, rfl⟩ : ∃ a : Nat, x = (a : Int) := ⟨x.toNat, by omega⟩
  obtain ⟨b, rfl⟩ : ∃ b : Nat, y = (b : Int) := ⟨y.toNat, by omega⟩
  have h1 := List.all_eq_true.mp (List.all_eq_true.mp T7B a (List.mem_range.mpr (by omega))) b (List.mem_range.mpr (by omega))
  rw [decide_eq_true (show a + b ≤ 7 by omega), Bool.not_true, Bool.false_or, List.any_eq_true] at h1
  obtain ⟨k, k1, k2⟩ := h1
  exact ⟨k, List.mem_range.mp k1, of_decide_eq_true k2⟩
/-- a point of the right kind between places of both sorts has a number -/
theorem gpt_of {u v : List (Nat × Int)} {x y : Int} (hu : ∀ a ∈ u, 0 < a.2 ∧ a.1 ∈ placesL) (hv : ∀ a ∈ v, 0 < a.2 ∧ a.1 ∈ placesL) (wu : rW u = 41 * 720720) (wv : rW v = 41 * 720720) (hx : rX u + rX v = 720720 * (1 + 41 * x)) (hy : rY u + rY v = 720720 * (9 + 41 * y)) : ∃ k, k < 36 ∧ gpt k = (1 + 41 * x, 9 + 41 * y) := by
  have pl : ∀ k ∈ placesL, (0 ≤ pi k ∧ 0 ≤ pj k) ∧ pi k + pj k ≤ 4 := by decide
  have nn : ∀ w : List (Nat × Int), (∀ a ∈ w, 0 < a.2 ∧ a.1 ∈ placesL) → (0 ≤ rX w ∧ 0 ≤ rY w) ∧ rX w + rY w ≤ 4 * rW w := by
    intro w
    induction w with
    | nil => exact fun _ => ⟨⟨Int.le_refl _, Int.le_refl _⟩, by show (0 : Int) + 0 ≤ 4 * 0; decide⟩
    | cons a w ih =>
      intro h
      obtain ⟨⟨i1, i2⟩, i3⟩ := ih (fun b hb => h b (List.mem_cons_of_mem _ hb))
      obtain ⟨h1, h2⟩ := h a List.mem_cons_self
      have hp := pl a.1 h2
      have m1 := Int.mul_nonneg (Int.le_of_lt h1) hp.1.1
      have m2 := Int.mul_nonneg (Int.le_of_lt h1) hp.1.2
      have m3 := Int.mul_le_mul_of_nonneg_left hp.2 (Int.le_of_lt h1)
      rw [Int.mul_add] at m3
      rw [rX, rY, rW]
      omega
  have a := nn u hu
  have b := nn v hv
  exact T7_of (by omega) (by omega) (by omega)
theorem gp10 : ∀ i, i < 10 → (gp i).1 % 41 = 1 ∧ (gp i).2 % 41 = 9 := by decide
theorem triR_mem {p q r : Nat} {g : Int × Int} {a : Nat × Int} (h : a ∈ triR p q r g) : a.1 = p ∨ a.1 = q ∨ a.1 = r := by
  unfold triR at h
  simp only [List.mem_cons, List.not_mem_nil, or_false] at h
  rcases h with rfl | rfl | rfl
  · exact Or.inl rfl
  · exact Or.inr (Or.inl rfl)
  · exact Or.inr (Or.inr rfl)
def phA (f g : Cv) (i k : Nat) : Prop := ∃ X Y p q r b, insT p q r (gp i) = true ∧ (LdP f X Y p ∧ LdP f X Y q ∧ LdP f X Y r) ∧ mxD g X Y b ∧ gpt k = ((gp i).1 + 41 * pi b, (gp i).2 + 41 * pj b)
def phB (f g : Cv) (i k : Nat) : Prop := ∃ X Y p q r a, insT p q r (gp i) = true ∧ (LdP g X Y p ∧ LdP g X Y q ∧ LdP g X Y r) ∧ mnD f X Y a ∧ gpt k = ((gp i).1 + 41 * pi a, (gp i).2 + 41 * pj a)
def hH (dn nm : Int) (c d k : Nat) : Int := dn * dl k - nm * nq c d k
def phC (f g : Cv) (X Y : Int) (k : Nat) : Prop := ∃ a0 a1 c d l m dn nm, (mnD f X Y a0 ∧ LdP f X Y a1 ∧ LdP g X Y c ∧ LdP g X Y d) ∧ crs a0 a1 c d ≠ 0 ∧ ((0 < l ∧ l < 41 * 720720) ∧ 0 < m ∧ m < 41 * 720720) ∧ (720720 * (gpt k).1 = (41 * 720720 - l) * pi a0 + l * pi a1 + ((41 * 720720 - m) * pi c + m * pi d) ∧ 720720 * (gpt k).2 = (41 * 720720 - l) * pj a0 + l * pj a1 + ((41 * 720720 - m) * pj c + m * pj d)) ∧ 0 < dn ∧ ((∀ x, LdP f X Y x → hH dn nm c d a0 ≤ hH dn nm c d x) ∧ hH dn nm c d a1 = hH dn nm c d a0) ∧ ((∀ x, LdP g X Y x → -(nm * nq c d c) ≤ -(nm * nq c d x)) ∧ nq c d d = nq c d c)
/-- the sums of a linear function over weights -/
def rF (F : Nat → Int) : List (Nat × Int) → Int
  | [] => 0
  | a :: u => a.2 * F a.1 + rF F u
theorem rF_ge {F : Nat → Int} {m : Int} : ∀ {u : List (Nat × Int)}, (∀ a ∈ u, 0 < a.2 ∧ m ≤ F a.1) → m * rW u ≤ rF F u ∧ (rF F u ≤ m * rW u → ∀ a ∈ u, F a.1 = m)
  | [], _ => ⟨by simp [rF, rW], fun _ a ha => by cases ha⟩
  | a :: u, h => by
    have ih := rF_ge (u := u) (fun b hb => h b (List.mem_cons_of_mem _ hb))
    obtain ⟨h1, h2⟩ := h a List.mem_cons_self
    have h3 : a.2 * m ≤ a.2 * F a.1 := Int.mul_le_mul_of_nonneg_left h2 (Int.le_of_lt h1)
    have e : m * (a.2 + rW u) = a.2 * m + m * rW u := by grind
    rw [rF, rW, e]
    refine ⟨by omega, fun hh => ?_⟩
    have h4 : a.2 * F a.1 = a.2 * m := by omega
    have h5 := Int.eq_of_mul_eq_mul_left (by omega) h4
    intro b hb
    rcases List.mem_cons.mp hb with z | z
    · rw [z]; exact h5
    · exact ih.2 (by omega) b z
theorem rF_dl : ∀ u, rF dl u = rX u + 9 * rY u
  | [] => by simp [rF, rX, rY]
  | a :: u => by
    rw [rF, rX, rY, rF_dl u]
    unfold dl
    grind
theorem rF_nq (c d : Nat) : ∀ u, rF (nq c d) u = (pj d - pj c) * rX u + (pi c - pi d) * rY u
  | [] => by simp [rF, rX, rY]
  | a :: u => by
    rw [rF, rX, rY, rF_nq c d u]
    unfold nq
    grind
theorem rF_H (dn nm : Int) (c d : Nat) : ∀ u, rF (hH dn nm c d) u = dn * rF dl u - nm * rF (nq c d) u
  | [] => by simp [rF]
  | a :: u => by
    rw [rF, rF, rF, rF_H dn nm c d u]
    unfold hH
    grind
/-- the places of a triangle that holds a point of our kind differ in dl: so one is above the least -/
theorem tri_above {p q r i : Nat} (hp : p ∈ placesL ∧ q ∈ placesL ∧ r ∈ placesL) (hi : insT p q r (gp i) = true) {m : Int} (h : m ≤ dl p ∧ m ≤ dl q ∧ m ≤ dl r) : m * (41 * 720720) < rF dl (triR p q r (gp i)) := by
  have ht := turn_16L p hp.1 q hp.2.1 r hp.2.2
  have hpos := triR_pos ht hi
  have hs := triR_sum (g := gp i) ht hpos.1
  have hne := ins_ne hi
  have hge := rF_ge (F := dl) (m := m) (u := triR p q r (gp i)) (fun a ha => ⟨hpos.2 a ha, by rcases triR_mem ha with z | z | z <;> rw [z] <;> omega⟩)
  rw [hs.1] at hge
  rcases Int.lt_or_le (m * (41 * 720720)) (rF dl (triR p q r (gp i))) with z | z
  · exact z
  · exfalso
    have hall := hge.2 z
    unfold triR at hall
    have e1 : dl p = m := hall _ List.mem_cons_self
    have e2 : dl q = m := hall _ (List.mem_cons_of_mem _ List.mem_cons_self)
    exact hne.1 (dl_inj p hp.1 q hp.2.1 (by omega))
theorem tri_below {p q r i : Nat} (hp : p ∈ placesL ∧ q ∈ placesL ∧ r ∈ placesL) (hi : insT p q r (gp i) = true) {m : Int} (h : dl p ≤ m ∧ dl q ≤ m ∧ dl r ≤ m) : rF dl (triR p q r (gp i)) < m * (41 * 720720) := by
  have ht := turn_16L p hp.1 q hp.2.1 r hp.2.2
  have hpos := triR_pos ht hi
  have hs := triR_sum (g := gp i) ht hpos.1
  have hne := ins_ne hi
  have neg : ∀ u, rF (fun k => -dl k) u = -rF dl u := by
    intro u
    induction u with
    | nil => rfl
    | cons a u ih => rw [rF, rF, ih]; grind
  have hge := rF_ge (F := fun k => -dl k) (m := -m) (u := triR p q r (gp i)) (fun a ha => ⟨hpos.2 a ha, by rcases triR_mem ha with z | z | z <;> rw [z] <;> omega⟩)
  rw [hs.1, neg] at hge
  rcases Int.lt_or_le (rF dl (triR p q r (gp i))) (m * (41 * 720720)) with z | z
  · exact z
  · exfalso
    have hall := hge.2 (by omega)
    unfold triR at hall
    have e1 : -dl p = -m := hall _ List.mem_cons_self
    have e2 : -dl q = -m := hall _ (List.mem_cons_of_mem _ List.mem_cons_self)
    exact hne.1 (dl_inj p hp.1 q hp.2.1 (by omega))
theorem triR_okL {f : Cv} {B X Y : Int} {p q r i : Nat} (hf : Cok B f) (hi : insT p q r (gp i) = true) (h : LdP f X Y p ∧ LdP f X Y q ∧ LdP f X Y r) : rOK f X Y (vl f p X Y) (triR p q r (gp i)) := triR_ok hf hi h.1 h.2.1 h.2.2
theorem one_ok {f : Cv} {X Y : Int} {b : Nat} (h : LdP f X Y b) : rOK f X Y (vl f b X Y) [(b, 41 * 720720)] := by
  intro a ha
  rw [List.mem_singleton] at ha
  rw [ha]
  exact ⟨by show (0 : Int) < 41 * 720720; decide, h.1, rfl⟩
theorem two_ok {f : Cv} {X Y : Int} {a b : Nat} {l : Int} (h : LdP f X Y a ∧ LdP f X Y b) (hl : 0 < l ∧ l < 41 * 720720) : rOK f X Y (vl f a X Y) [(a, 41 * 720720 - l), (b, l)] := by
  intro x hx
  simp only [List.mem_cons, List.not_mem_nil, or_false] at hx
  rcases hx with rfl | rfl
  · exact ⟨by show 0 < 41 * 720720 - l; omega, h.1.1, rfl⟩
  · exact ⟨hl.1, h.2.1, (LdP_eq h.1 h.2).symm⟩
theorem one_sum (b : Nat) : rW [(b, 41 * 720720)] = 41 * 720720 ∧ rX [(b, 41 * 720720)] = 41 * 720720 * pi b ∧ rY [(b, 41 * 720720)] = 41 * 720720 * pj b := by
  simp only [rW, rX, rY]
  refine ⟨by omega, by omega, by omega⟩
theorem two_sum (a b : Nat) (l : Int) : rW [(a, 41 * 720720 - l), (b, l)] = 41 * 720720 ∧ rX [(a, 41 * 720720 - l), (b, l)] = (41 * 720720 - l) * pi a + l * pi b ∧ rY [(a, 41 * 720720 - l), (b, l)] = (41 * 720720 - l) * pj a + l * pj b := by
  simp only [rW, rX, rY]
  refine ⟨by omega, by omega, by omega⟩
theorem AA {f g : Cv} {B : Int} {i j k : Nat} (hf : Cok B f) (hg : Cok B g) (h1 : phA f g i k) (h2 : phA f g j k) : gp i = gp j := by
  obtain ⟨X, Y, p, q, r, b, i1, l1, m1, e1⟩ := h1
  obtain ⟨X2, Y2, p2, q2, r2, b2, i2, l2, m2, e2⟩ := h2
  have ta := turn_L hf l1.1.1 l1.2.1.1 l1.2.2.1
  have tb := turn_L hf l2.1.1 l2.2.1.1 l2.2.2.1
  have pb := triR_pos tb i2
  have sa := triR_sum (g := gp i) ta (triR_pos ta i1).1
  have sb := triR_sum (g := gp j) tb pb.1
  have ob := one_sum b
  have ob2 := one_sum b2
  rw [e1] at e2
  have x1 := congrArg Prod.fst e2
  have x2 := congrArg Prod.snd e2
  dsimp only at x1 x2
  have hr := (rep_opt (fun k hk => l1.1.2 k hk) (fun k hk => m1.1.2 k hk) (fun k hk => l2.1.2 k hk) (fun k hk => m2.1.2 k hk) (triR_okL hf i1 l1) (one_ok m1.1) (triR_okL hf i2 l2) (one_ok m2.1) (sa.1.trans sb.1.symm) (ob.1.trans ob2.1.symm) (by rw [sa.2.1, sb.2.1, ob.2.1, ob2.2.1]; omega) (by rw [sa.2.2, sb.2.2, ob.2.2, ob2.2.2]; omega)).1
  unfold triR at hr
  have g1 := hr _ List.mem_cons_self
  have g2 := hr _ (List.mem_cons_of_mem _ List.mem_cons_self)
  have g3 := hr _ (List.mem_cons_of_mem _ (List.mem_cons_of_mem _ List.mem_cons_self))
  obtain ⟨rfl, rfl⟩ := tri_point pb.1 (g1.trans g2.symm) (g1.trans g3.symm) (LdP_eq l2.1 l2.2.1) (LdP_eq l2.1 l2.2.2)
  obtain rfl := mxD_un hg m1 m2
  exact Prod.ext (by omega) (by omega)
theorem BB {f g : Cv} {B : Int} {i j k : Nat} (hf : Cok B f) (hg : Cok B g) (h1 : phB f g i k) (h2 : phB f g j k) : gp i = gp j := by
  obtain ⟨X, Y, p, q, r, b, i1, l1, m1, e1⟩ := h1
  obtain ⟨X2, Y2, p2, q2, r2, b2, i2, l2, m2, e2⟩ := h2
  have ta := turn_L hg l1.1.1 l1.2.1.1 l1.2.2.1
  have tb := turn_L hg l2.1.1 l2.2.1.1 l2.2.2.1
  have pb := triR_pos tb i2
  have sa := triR_sum (g := gp i) ta (triR_pos ta i1).1
  have sb := triR_sum (g := gp j) tb pb.1
  have ob := one_sum b
  have ob2 := one_sum b2
  rw [e1] at e2
  have x1 := congrArg Prod.fst e2
  have x2 := congrArg Prod.snd e2
  dsimp only at x1 x2
  have hr := (rep_opt (fun k hk => l1.1.2 k hk) (fun k hk => m1.1.2 k hk) (fun k hk => l2.1.2 k hk) (fun k hk => m2.1.2 k hk) (triR_okL hg i1 l1) (one_ok m1.1) (triR_okL hg i2 l2) (one_ok m2.1) (sa.1.trans sb.1.symm) (ob.1.trans ob2.1.symm) (by rw [sa.2.1, sb.2.1, ob.2.1, ob2.2.1]; omega) (by rw [sa.2.2, sb.2.2, ob.2.2, ob2.2.2]; omega)).1
  unfold triR at hr
  have g1 := hr _ List.mem_cons_self
  have g2 := hr _ (List.mem_cons_of_mem _ List.mem_cons_self)
  have g3 := hr _ (List.mem_cons_of_mem _ (List.mem_cons_of_mem _ List.mem_cons_self))
  obtain ⟨rfl, rfl⟩ := tri_point pb.1 (g1.trans g2.symm) (g1.trans g3.symm) (LdP_eq l2.1 l2.2.1) (LdP_eq l2.1 l2.2.2)
  obtain rfl := mnD_un hf m1 m2
  exact Prod.ext (by omega) (by omega)
theorem AB {f g : Cv} {B : Int} {i j k : Nat} (hf : Cok B f) (hg : Cok B g) (h1 : phA f g i k) (h2 : phB f g j k) : False := by
  obtain ⟨X, Y, p, q, r, b, i1, l1, m1, e1⟩ := h1
  obtain ⟨X2, Y2, p2, q2, r2, b2, i2, l2, m2, e2⟩ := h2
  have ta := turn_L hf l1.1.1 l1.2.1.1 l1.2.2.1
  have tb := turn_L hg l2.1.1 l2.2.1.1 l2.2.2.1
  have pb := triR_pos tb i2
  have sa := triR_sum (g := gp i) ta (triR_pos ta i1).1
  have sb := triR_sum (g := gp j) tb pb.1
  have ob := one_sum b
  have ob2 := one_sum b2
  rw [e1] at e2
  have x1 := congrArg Prod.fst e2
  have x2 := congrArg Prod.snd e2
  dsimp only at x1 x2
  have hr := (rep_opt (f := f) (g := g) (fun k hk => l1.1.2 k hk) (fun k hk => m1.1.2 k hk) (fun k hk => m2.1.2 k hk) (fun k hk => l2.1.2 k hk) (triR_okL hf i1 l1) (one_ok m1.1) (one_ok m2.1) (triR_okL hg i2 l2) (sa.1.trans ob2.1.symm) (ob.1.trans sb.1.symm) (by rw [sa.2.1, sb.2.1, ob.2.1, ob2.2.1]; omega) (by rw [sa.2.2, sb.2.2, ob.2.2, ob2.2.2]; omega)).2
  unfold triR at hr
  have g1 := hr _ List.mem_cons_self
  have g2 := hr _ (List.mem_cons_of_mem _ List.mem_cons_self)
  have g3 := hr _ (List.mem_cons_of_mem _ (List.mem_cons_of_mem _ List.mem_cons_self))
  obtain ⟨rfl, rfl⟩ := tri_point pb.1 (g1.trans g2.symm) (g1.trans g3.symm) (LdP_eq l2.1 l2.2.1) (LdP_eq l2.1 l2.2.2)
  have u1 := tri_above ⟨LdP_pl hf l1.1, LdP_pl hf l1.2.1, LdP_pl hf l1.2.2⟩ i1 (m := dl b2) ⟨m2.2 _ l1.1, m2.2 _ l1.2.1, m2.2 _ l1.2.2⟩
  have u2 := tri_below ⟨LdP_pl hg l2.1, LdP_pl hg l2.2.1, LdP_pl hg l2.2.2⟩ i2 (m := dl b) ⟨m1.2 _ l2.1, m1.2 _ l2.2.1, m1.2 _ l2.2.2⟩
  rw [rF_dl, sa.2.1, sa.2.2] at u1
  rw [rF_dl, sb.2.1, sb.2.2] at u2
  unfold dl at u1 u2
  omega
