/-! ===== at most sixteen meetings, the count ===== -/
theorem CA {f g : Cv} {B X Y : Int} {i k : Nat} (hf : Cok B f) (hg : Cok B g) (h1 : phC f g X Y k) (h2 : phA f g i k) : False := by
  obtain ⟨a0, a1, c, d, l, m, dn, nm, ⟨c1, c2, c3, c4⟩, c5, ⟨c6, c7⟩, ⟨c8, c9⟩, c10, ⟨c11, c12⟩, c13, c14⟩ := h1
  obtain ⟨X2, Y2, p, q, r, b, i2, l2, m2, e2⟩ := h2
  have tb := turn_L hf l2.1.1 l2.2.1.1 l2.2.2.1
  have pb := triR_pos tb i2
  have sb := triR_sum (g := gp i) tb pb.1
  have ob := one_sum b
  have su := two_sum a0 a1 l
  have sv := two_sum c d m
  have x1 := congrArg Prod.fst e2
  have x2 := congrArg Prod.snd e2
  dsimp only at x1 x2
  have mX : rX [(a0, 41 * 720720 - l), (a1, l)] + rX [(c, 41 * 720720 - m), (d, m)] = rX (triR p q r (gp i)) + rX [(b, 41 * 720720)] := by
    rw [su.2.1, sv.2.1, sb.2.1, ob.2.1, ← c8, x1]
    omega
  have mY : rY [(a0, 41 * 720720 - l), (a1, l)] + rY [(c, 41 * 720720 - m), (d, m)] = rY (triR p q r (gp i)) + rY [(b, 41 * 720720)] := by
    rw [su.2.2, sv.2.2, sb.2.2, ob.2.2, ← c9, x2]
    omega
  have hr := (rep_opt (fun k hk => c1.1.2 k hk) (fun k hk => c3.2 k hk) (fun k hk => l2.1.2 k hk) (fun k hk => m2.1.2 k hk) (two_ok ⟨c1.1, c2⟩ c6) (two_ok ⟨c3, c4⟩ c7) (triR_okL hf i2 l2) (one_ok m2.1) (su.1.trans sb.1.symm) (sv.1.trans ob.1.symm) mX mY).1
  unfold triR at hr
  have g1 := hr _ List.mem_cons_self
  have g2 := hr _ (List.mem_cons_of_mem _ List.mem_cons_self)
  have g3 := hr _ (List.mem_cons_of_mem _ (List.mem_cons_of_mem _ List.mem_cons_self))
  obtain ⟨rfl, rfl⟩ := tri_point pb.1 (g1.trans g2.symm) (g1.trans g3.symm) (LdP_eq l2.1 l2.2.1) (LdP_eq l2.1 l2.2.2)
  -- both ways measured
  have k1 := (rF_ge (F := hH dn nm c d) (m := hH dn nm c d a0) (u := triR p q r (gp i)) (fun a ha => ⟨pb.2 a ha, by rcases triR_mem ha with z | z | z <;> rw [z]; exact c11 _ l2.1; exact c11 _ l2.2.1; exact c11 _ l2.2.2⟩)).1
  have k2 := c13 b m2.1
  have k3 : rF (hH dn nm c d) [(a0, 41 * 720720 - l), (a1, l)] = hH dn nm c d a0 * (41 * 720720) := by
    simp only [rF]
    rw [c12]
    grind
  have k4 : rF (nq c d) [(c, 41 * 720720 - m), (d, m)] = nq c d c * (41 * 720720) := by
    simp only [rF]
    rw [c14]
    grind
  have k5 : rF (nq c d) [(b, 41 * 720720)] = nq c d b * (41 * 720720) := by
    simp only [rF]
    omega
  rw [sb.1, rF_H] at k1
  rw [rF_H] at k3
  have sN : rF (nq c d) [(a0, 41 * 720720 - l), (a1, l)] + rF (nq c d) [(c, 41 * 720720 - m), (d, m)] = rF (nq c d) (triR p q r (gp i)) + rF (nq c d) [(b, 41 * 720720)] := by
    rw [rF_nq, rF_nq, rF_nq, rF_nq]
    have a := congrArg (fun z => (pj d - pj c) * z) mX
    have b2 := congrArg (fun z => (pi c - pi d) * z) mY
    rw [Int.mul_add, Int.mul_add] at a b2
    omega
  have sD : rF dl [(a0, 41 * 720720 - l), (a1, l)] + rF dl [(c, 41 * 720720 - m), (d, m)] = rF dl (triR p q r (gp i)) + rF dl [(b, 41 * 720720)] := by
    rw [rF_dl, rF_dl, rF_dl, rF_dl]
    omega
  have kd : rF dl [(b, 41 * 720720)] = dl b * (41 * 720720) := by simp only [rF]; omega
  have kv : rF dl [(c, 41 * 720720 - m), (d, m)] = (41 * 720720 - m) * dl c + (m * dl d + 0) := rfl
  have lc := m2.2 c c3
  have ld := m2.2 d c4
  have hcd : c ≠ d := by
    rintro rfl
    apply c5
    unfold crs
    grind
  have hne : dl c ≠ dl d := fun z => hcd (dl_inj c (LdP_pl hg c3) d (LdP_pl hg c4) z)
  rw [k4, k5] at sN
  generalize rF (nq c d) [(a0, 41 * 720720 - l), (a1, l)] = N1 at *
  generalize rF (nq c d) (triR p q r (gp i)) = N2 at *
  generalize rF dl [(a0, 41 * 720720 - l), (a1, l)] = D1 at *
  generalize rF dl (triR p q r (gp i)) = D2 at *
  generalize rF dl [(c, 41 * 720720 - m), (d, m)] = D3 at *
  rw [kd] at sD
  -- so the parallelogram's second part lies as far as b
  have e1 : nm * N1 + nm * nq c d c * (41 * 720720) = nm * N2 + nm * nq c d b * (41 * 720720) := by
    have := congrArg (fun z => nm * z) sN
    grind
  have e3 : dn * D1 ≤ dn * D2 := by omega
  have e4 : D1 ≤ D2 := by
    rcases Int.lt_or_le D2 D1 with z | z
    · have := Int.mul_lt_mul_of_pos_left z c10
      omega
    · exact z
  have f1 : (41 * 720720 - m) * dl c ≤ (41 * 720720 - m) * dl b := Int.mul_le_mul_of_nonneg_left lc (by omega)
  have f2 : m * dl d ≤ m * dl b := Int.mul_le_mul_of_nonneg_left ld (by omega)
  have f3 : (41 * 720720 - m) * dl b + m * dl b = dl b * (41 * 720720) := by grind
  have f4 : (41 * 720720 - m) * dl c = (41 * 720720 - m) * dl b := by omega
  have f5 : m * dl d = m * dl b := by omega
  have f6 := Int.eq_of_mul_eq_mul_left (by omega) f4
  have f7 := Int.eq_of_mul_eq_mul_left (by omega) f5
  exact hne (f6.trans f7.symm)
theorem CB {f g : Cv} {B X Y : Int} {i k : Nat} (hf : Cok B f) (hg : Cok B g) (h1 : phC f g X Y k) (h2 : phB f g i k) : False := by
  obtain ⟨a0, a1, c, d, l, m, dn, nm, ⟨c1, c2, c3, c4⟩, c5, ⟨c6, c7⟩, ⟨c8, c9⟩, c10, ⟨c11, c12⟩, c13, c14⟩ := h1
  obtain ⟨X2, Y2, p, q, r, b, i2, l2, m2, e2⟩ := h2
  have tb := turn_L hg l2.1.1 l2.2.1.1 l2.2.2.1
  have pb := triR_pos tb i2
  have sb := triR_sum (g := gp i) tb pb.1
  have ob := one_sum b
  have su := two_sum a0 a1 l
  have sv := two_sum c d m
  have x1 := congrArg Prod.fst e2
  have x2 := congrArg Prod.snd e2
  dsimp only at x1 x2
  have mX : rX [(a0, 41 * 720720 - l), (a1, l)] + rX [(c, 41 * 720720 - m), (d, m)] = rX [(b, 41 * 720720)] + rX (triR p q r (gp i)) := by
    rw [su.2.1, sv.2.1, sb.2.1, ob.2.1, ← c8, x1]
    omega
  have mY : rY [(a0, 41 * 720720 - l), (a1, l)] + rY [(c, 41 * 720720 - m), (d, m)] = rY [(b, 41 * 720720)] + rY (triR p q r (gp i)) := by
    rw [su.2.2, sv.2.2, sb.2.2, ob.2.2, ← c9, x2]
    omega
  have hr := (rep_opt (fun k hk => c1.1.2 k hk) (fun k hk => c3.2 k hk) (fun k hk => m2.1.2 k hk) (fun k hk => l2.1.2 k hk) (two_ok ⟨c1.1, c2⟩ c6) (two_ok ⟨c3, c4⟩ c7) (one_ok m2.1) (triR_okL hg i2 l2) (su.1.trans ob.1.symm) (sv.1.trans sb.1.symm) mX mY).2
  unfold triR at hr
  have g1 := hr _ List.mem_cons_self
  have g2 := hr _ (List.mem_cons_of_mem _ List.mem_cons_self)
  have g3 := hr _ (List.mem_cons_of_mem _ (List.mem_cons_of_mem _ List.mem_cons_self))
  obtain ⟨rfl, rfl⟩ := tri_point pb.1 (g1.trans g2.symm) (g1.trans g3.symm) (LdP_eq l2.1 l2.2.1) (LdP_eq l2.1 l2.2.2)
  obtain rfl := mnD_un hf m2 c1
  have k1 := (rF_ge (F := fun x => -(nm * nq c d x)) (m := -(nm * nq c d c)) (u := triR p q r (gp i)) (fun a ha => ⟨pb.2 a ha, by rcases triR_mem ha with z | z | z <;> rw [z]; exact c13 _ l2.1; exact c13 _ l2.2.1; exact c13 _ l2.2.2⟩)).1
  have neg : ∀ u, rF (fun x => -(nm * nq c d x)) u = -(nm * rF (nq c d) u) := by
    intro u
    induction u with
    | nil => simp [rF]
    | cons a u ih => rw [rF, rF, ih]; grind
  rw [neg, sb.1] at k1
  have k3 : rF (hH dn nm c d) [(b, 41 * 720720 - l), (a1, l)] = hH dn nm c d b * (41 * 720720) := by
    simp only [rF]
    rw [c12]
    grind
  have k6 : rF (hH dn nm c d) [(b, 41 * 720720)] = hH dn nm c d b * (41 * 720720) := by simp only [rF]; omega
  have k4 : rF (nq c d) [(c, 41 * 720720 - m), (d, m)] = nq c d c * (41 * 720720) := by
    simp only [rF]
    rw [c14]
    grind
  rw [rF_H] at k3 k6
  have sN : rF (nq c d) [(b, 41 * 720720 - l), (a1, l)] + rF (nq c d) [(c, 41 * 720720 - m), (d, m)] = rF (nq c d) [(b, 41 * 720720)] + rF (nq c d) (triR p q r (gp i)) := by
    rw [rF_nq, rF_nq, rF_nq, rF_nq]
    have a := congrArg (fun z => (pj d - pj c) * z) mX
    have b2 := congrArg (fun z => (pi c - pi d) * z) mY
    rw [Int.mul_add, Int.mul_add] at a b2
    omega
  have kd : rF dl [(b, 41 * 720720)] = dl b * (41 * 720720) := by simp only [rF]; omega
  have ku : rF dl [(b, 41 * 720720 - l), (a1, l)] = (41 * 720720 - l) * dl b + (l * dl a1 + 0) := rfl
  have la := m2.2 a1 c2
  have hab : b ≠ a1 := by
    rintro rfl
    apply c5
    unfold crs
    grind
  have hne : dl b ≠ dl a1 := fun z => hab (dl_inj b (LdP_pl hf m2.1) a1 (LdP_pl hf c2) z)
  rw [k4] at sN
  rw [kd] at k6
  generalize rF (nq c d) [(b, 41 * 720720 - l), (a1, l)] = N1 at *
  generalize rF (nq c d) (triR p q r (gp i)) = N2 at *
  generalize rF (nq c d) [(b, 41 * 720720)] = N3 at *
  generalize rF dl [(b, 41 * 720720 - l), (a1, l)] = D1 at *
  have e1 : nm * N1 + nm * nq c d c * (41 * 720720) = nm * N3 + nm * N2 := by
    have := congrArg (fun z => nm * z) sN
    grind
  have e2 : -(nm * nq c d c) * (41 * 720720) = -(nm * nq c d c * (41 * 720720)) := by grind
  have e3 : dn * D1 ≤ dn * (dl b * (41 * 720720)) := by omega
  have e4 : D1 ≤ dl b * (41 * 720720) := by
    rcases Int.lt_or_le (dl b * (41 * 720720)) D1 with z | z
    · have := Int.mul_lt_mul_of_pos_left z c10
      omega
    · exact z
  have f1 : (41 * 720720 - l) * dl b + l * dl b = dl b * (41 * 720720) := by grind
  have f2 : l * dl b ≤ l * dl a1 := Int.mul_le_mul_of_nonneg_left la (by omega)
  have f5 : l * dl b = l * dl a1 := by omega
  exact hne (Int.eq_of_mul_eq_mul_left (by omega) f5)
theorem CC {f g : Cv} {X Y X2 Y2 : Int} {k : Nat} (h1 : phC f g X Y k) (h2 : phC f g X2 Y2 k) : X = X2 ∧ Y = Y2 := by
  obtain ⟨a0, a1, c, d, l, m, dn, nm, ⟨c1, c2, c3, c4⟩, c5, ⟨c6, c7⟩, ⟨c8, c9⟩, -⟩ := h1
  obtain ⟨b0, b1, e, h, l2, m2, dn2, nm2, ⟨d1, d2, d3, d4⟩, d5, ⟨d6, d7⟩, ⟨d8, d9⟩, -⟩ := h2
  have su := two_sum a0 a1 l
  have sv := two_sum c d m
  have tu := two_sum b0 b1 l2
  have tv := two_sum e h m2
  have hr := rep_opt (fun k hk => c1.1.2 k hk) (fun k hk => c3.2 k hk) (fun k hk => d1.1.2 k hk) (fun k hk => d3.2 k hk) (two_ok ⟨c1.1, c2⟩ c6) (two_ok ⟨c3, c4⟩ c7) (two_ok ⟨d1.1, d2⟩ d6) (two_ok ⟨d3, d4⟩ d7) (su.1.trans tu.1.symm) (sv.1.trans tv.1.symm) (by rw [su.2.1, sv.2.1, tu.2.1, tv.2.1]; omega) (by rw [su.2.2, sv.2.2, tu.2.2, tv.2.2]; omega)
  have g1 : vl f b0 X Y = vl f a0 X Y := hr.1 (b0, _) List.mem_cons_self
  have g2 : vl f b1 X Y = vl f a0 X Y := hr.1 (b1, _) (List.mem_cons_of_mem _ List.mem_cons_self)
  have g3 : vl g e X Y = vl g c X Y := hr.2 (e, _) List.mem_cons_self
  have g4 : vl g h X Y = vl g c X Y := hr.2 (h, _) (List.mem_cons_of_mem _ List.mem_cons_self)
  have q1 := LdP_eq d1.1 d2
  have q2 := LdP_eq d3 d4
  have v1 := vl_diff f b1 b0 X Y X2 Y2
  have v2 := vl_diff g h e X Y X2 Y2
  have r1 : (pi b1 - pi b0) * (X2 - X) + (pj b1 - pj b0) * (Y2 - Y) = 0 := by omega
  have r2 : (pi h - pi e) * (X2 - X) + (pj h - pj e) * (Y2 - Y) = 0 := by omega
  have := one_point r1 r2 d5
  omega
theorem no41 {a b t : Int} (ha : -4 ≤ a ∧ a ≤ 4) (hb : -4 ≤ b ∧ b ≤ 4) (h : b - 9 * a = 41 * t) : a = 0 ∧ b = 0 := by
  have : a = -4 ∨ a = -3 ∨ a = -2 ∨ a = -1 ∨ a = 0 ∨ a = 1 ∨ a = 2 ∨ a = 3 ∨ a = 4 := by omega
  rcases this with rfl | rfl | rfl | rfl | rfl | rfl | rfl | rfl | rfl <;> omega
/-- a point of our kind inside a parallelogram -/
theorem par_w {e1 e2 f1 f2 : Int} (he : (-4 ≤ e1 ∧ e1 ≤ 4) ∧ -4 ≤ e2 ∧ e2 ≤ 4) (hf : (-4 ≤ f1 ∧ f1 ≤ 4) ∧ -4 ≤ f2 ∧ f2 ≤ 4) (hD : 0 < e1 * f2 - e2 * f1) : ∃ z1 z2 : Int, (0 < (1 + 41 * z1) * f2 - (9 + 41 * z2) * f1 ∧ (1 + 41 * z1) * f2 - (9 + 41 * z2) * f1 < 41 * (e1 * f2 - e2 * f1)) ∧ 0 < e1 * (9 + 41 * z2) - e2 * (1 + 41 * z1) ∧ e1 * (9 + 41 * z2) - e2 * (1 + 41 * z1) < 41 * (e1 * f2 - e2 * f1) := by
  have hne : ¬ (f1 = 0 ∧ f2 = 0) ∧ ¬ (e1 = 0 ∧ e2 = 0) := by
    constructor
    · rintro ⟨rfl, rfl⟩
      rw [Int.mul_zero, Int.mul_zero] at hD
      omega
    · rintro ⟨rfl, rfl⟩
      rw [Int.zero_mul, Int.zero_mul] at hD
      omega
  refine ⟨-((f2 - 9 * f1) / (41 * (e1 * f2 - e2 * f1))) * e1 - ((9 * e1 - e2) / (41 * (e1 * f2 - e2 * f1))) * f1, -((f2 - 9 * f1) / (41 * (e1 * f2 - e2 * f1))) * e2 - ((9 * e1 - e2) / (41 * (e1 * f2 - e2 * f1))) * f2, ?_⟩
  have m1 := Int.emod_add_mul_ediv (f2 - 9 * f1) (41 * (e1 * f2 - e2 * f1))
  have m2 := Int.emod_add_mul_ediv (9 * e1 - e2) (41 * (e1 * f2 - e2 * f1))
  have b1 := Int.emod_nonneg (f2 - 9 * f1) (show 41 * (e1 * f2 - e2 * f1) ≠ 0 by omega)
  have b2 := Int.emod_lt_of_pos (f2 - 9 * f1) (show 0 < 41 * (e1 * f2 - e2 * f1) by omega)
  have b3 := Int.emod_nonneg (9 * e1 - e2) (show 41 * (e1 * f2 - e2 * f1) ≠ 0 by omega)
  have b4 := Int.emod_lt_of_pos (9 * e1 - e2) (show 0 < 41 * (e1 * f2 - e2 * f1) by omega)
  generalize (f2 - 9 * f1) % (41 * (e1 * f2 - e2 * f1)) = r1 at *
  generalize (9 * e1 - e2) % (41 * (e1 * f2 - e2 * f1)) = r2 at *
  generalize (f2 - 9 * f1) / (41 * (e1 * f2 - e2 * f1)) = q1 at *
  generalize (9 * e1 - e2) / (41 * (e1 * f2 - e2 * f1)) = q2 at *
  have k1 : (1 + 41 * (-q1 * e1 - q2 * f1)) * f2 - (9 + 41 * (-q1 * e2 - q2 * f2)) * f1 = r1 := by grind
  have k2 : e1 * (9 + 41 * (-q1 * e2 - q2 * f2)) - e2 * (1 + 41 * (-q1 * e1 - q2 * f1)) = r2 := by grind
  have n1 : r1 ≠ 0 := by
    intro z
    have : f2 - 9 * f1 = 41 * ((e1 * f2 - e2 * f1) * q1) := by rw [← m1, z]; grind
    exact hne.1 (no41 hf.1 hf.2 this)
  have n2 : r2 ≠ 0 := by
    intro z
    have : 9 * e1 - e2 = 41 * ((e1 * f2 - e2 * f1) * q2) := by rw [← m2, z]; grind
    exact hne.2 (no41 he.1 he.2 (t := -((e1 * f2 - e2 * f1) * q2)) (by omega))
  rw [k1, k2]
  omega
theorem par_W {e1 e2 f1 f2 : Int} (he : (-4 ≤ e1 ∧ e1 ≤ 4) ∧ -4 ≤ e2 ∧ e2 ≤ 4) (hf : (-4 ≤ f1 ∧ f1 ≤ 4) ∧ -4 ≤ f2 ∧ f2 ≤ 4) (hD : e1 * f2 - e2 * f1 ≠ 0) (h16 : -16 ≤ e1 * f2 - e2 * f1 ∧ e1 * f2 - e2 * f1 ≤ 16) : ∃ z1 z2 l m : Int, ((0 < l ∧ l < 41 * 720720) ∧ 0 < m ∧ m < 41 * 720720) ∧ l * e1 + m * f1 = 720720 * (1 + 41 * z1) ∧ l * e2 + m * f2 = 720720 * (9 + 41 * z2) := by
  have hw := turnW h16 hD
  generalize hT : (720720 : Int).tdiv (e1 * f2 - e2 * f1) = t at *
  rcases Int.lt_or_le 0 (e1 * f2 - e2 * f1) with z | z
  · obtain ⟨z1, z2, ⟨a1, a2⟩, a3, a4⟩ := par_w he hf z
    have ht : 0 < t := by
      rcases Int.lt_or_le 0 t with y | y
      · exact y
      · have := i_pn0 y (Int.le_of_lt z)
        omega
    refine ⟨z1, z2, t * ((1 + 41 * z1) * f2 - (9 + 41 * z2) * f1), t * (e1 * (9 + 41 * z2) - e2 * (1 + 41 * z1)), ⟨⟨Int.mul_pos ht a1, ?_⟩, Int.mul_pos ht a3, ?_⟩, ?_, ?_⟩
    · have := Int.mul_lt_mul_of_pos_left a2 ht
      have e : t * (41 * (e1 * f2 - e2 * f1)) = 41 * (t * (e1 * f2 - e2 * f1)) := by grind
      rw [e, hw] at this
      exact this
    · have := Int.mul_lt_mul_of_pos_left a4 ht
      have e : t * (41 * (e1 * f2 - e2 * f1)) = 41 * (t * (e1 * f2 - e2 * f1)) := by grind
      rw [e, hw] at this
      exact this
    · rw [← hw]; grind
    · rw [← hw]; grind
  · obtain ⟨z1, z2, ⟨a1, a2⟩, a3, a4⟩ := par_w hf he (show 0 < f1 * e2 - f2 * e1 by
      have : f1 * e2 - f2 * e1 = -(e1 * f2 - e2 * f1) := by grind
      omega)
    have ht : t < 0 := by
      rcases Int.lt_or_le t 0 with y | y
      · exact y
      · have := i_np y z
        omega
    refine ⟨z1, z2, -t * (f1 * (9 + 41 * z2) - f2 * (1 + 41 * z1)), -t * ((1 + 41 * z1) * e2 - (9 + 41 * z2) * e1), ⟨⟨Int.mul_pos (by omega) a3, ?_⟩, Int.mul_pos (by omega) a1, ?_⟩, ?_, ?_⟩
    · have := Int.mul_lt_mul_of_pos_left a4 (show 0 < -t by omega)
      have e : -t * (41 * (f1 * e2 - f2 * e1)) = 41 * (t * (e1 * f2 - e2 * f1)) := by grind
      rw [e, hw] at this
      exact this
    · have := Int.mul_lt_mul_of_pos_left a2 (show 0 < -t by omega)
      have e : -t * (41 * (f1 * e2 - f2 * e1)) = 41 * (t * (e1 * f2 - e2 * f1)) := by grind
      rw [e, hw] at this
      exact this
    · rw [← hw]; grind
    · rw [← hw]; grind
theorem lead_plB {f : Cv} {B X Y : Int} (hf : Cok B f) : plS (ledW f X Y) := by
  intro k hk
  have := hf k _ (hasF_cv ((led_iff hf).mp hk).1)
  omega
theorem C_ex {f g : Cv} {B X Y : Int} (hf : Cok B f) (hg : Cok B g) (h : mtP f g X Y) : ∃ k, k < 36 ∧ phC f g X Y k := by
  obtain ⟨p, q, r, t, h0, h1, h2, h3, h4⟩ := h
  obtain ⟨a0, ha0⟩ := mnD_ex hf h1
  have hs := lead_plB (X := X) (Y := Y) hg
  have ho := lead_plB (X := X) (Y := Y) hf
  have hm := mixed_pos hs ho ((led_iff hg).mpr h3) ((led_iff hg).mpr h4) ((led_iff hf).mpr h1) ((led_iff hf).mpr h2) (by
    intro z
    apply h0
    unfold crs at z ⊢
    grind)
  have hbit : ∀ {x k : Nat}, x.testBit k = true → 0 < x := by
    intro x k h
    rcases Nat.eq_zero_or_pos x with z | z
    · rw [z, Nat.zero_testBit] at h; cases h
    · exact z
  have s0 := hbit ((led_iff hg).mpr h3)
  have o0 := hbit ((led_iff hf).mpr h1)
  have hm : mixed (ledW g X Y) (ledW f X Y) ≠ 0 := by omega
  rw [mixed_close hs s0 a0] at hm
  obtain ⟨c, hc, g1⟩ := sm_ne 21 hm
  obtain ⟨d, hd, g2⟩ := sm_ne 21 g1
  by_cases hcd : hside (ledW g X Y) c d = true
  · rw [if_pos hcd] at g2
    obtain ⟨⟨a, al, a1, a2⟩, a3⟩ := reach_spec ho o0 (pj d - pj c) (pi c - pi d)
    have a2 : nq c d a = reach (ledW f X Y) (pj d - pj c) (pi c - pi d) := a2
    have a4 : nq c d a0 ≤ reach (ledW f X Y) (pj d - pj c) (pi c - pi d) := a3 a0 ((led_iff hf).mpr ha0.1)
    have hlt : ∀ k, LdP f X Y k → k < 21 := fun k hk => (hf k _ (hasF_cv hk.1)).1
    obtain ⟨a1, u1, ⟨u2, u3⟩, u4⟩ := argmin (P := fun k => LdP f X Y k ∧ nq c d a0 < nq c d k) (g := fun k => dl k - dl a0) (x := fun k => nq c d k - nq c d a0) (fun k hk => by have := hk.2; omega) 21 ⟨a, al, (led_iff hf).mp a1, by omega⟩
    obtain ⟨n1, tc, td, n4⟩ := hside_of.mp hcd
    have lc := (led_iff hg).mp tc
    have ld := (led_iff hg).mp td
    have hside : ∀ x, LdP g X Y x → nq c d x ≤ nq c d c := by
      intro x hx
      have hx21 := (hg x _ (hasF_cv hx.1)).1
      have e : nq c d c - nq c d x = turn c d x := by unfold nq turn; grind
      rcases n4 x hx21 ((led_iff hg).mpr hx) with z | z <;> omega
    have hdc : nq c d d = nq c d c := by unfold nq; grind
    have hcr : crs a0 a1 c d ≠ 0 := by
      intro z
      have e : nq c d a1 - nq c d a0 = crs a0 a1 c d := by unfold nq crs; grind
      omega
    have fa0 := (hf a0 _ (hasF_cv ha0.1.1))
    have fa1 := (hf a1 _ (hasF_cv u2.1))
    have fc := (hg c _ (hasF_cv lc.1))
    have fd := (hg d _ (hasF_cv ld.1))
    have d1 := pl_diff fa0.2.1 fa1.2.1
    have d2 := pl_diff fc.2.1 fd.2.1
    have h16 := cross16L _ (mem9 d1.1) _ (mem9 d1.2.1) d1.2.2 _ (mem9 d2.1) _ (mem9 d2.2.1) d2.2.2
    obtain ⟨z1, z2, l, m, hlm, w1, w2⟩ := par_W ⟨d1.1, d1.2.1⟩ ⟨d2.1, d2.2.1⟩ hcr h16
    have su := two_sum a0 a1 l
    have sv := two_sum c d m
    have lpl := LdP_pl hf ha0.1
    have lpl1 := LdP_pl hf u2
    have lplc := LdP_pl hg lc
    have lpld := LdP_pl hg ld
    have E1 : (41 * 720720 - l) * pi a0 + l * pi a1 + ((41 * 720720 - m) * pi c + m * pi d) = 720720 * (1 + 41 * (z1 + pi a0 + pi c)) := by
      have : (41 * 720720 - l) * pi a0 + l * pi a1 + ((41 * 720720 - m) * pi c + m * pi d) = 41 * 720720 * (pi a0 + pi c) + (l * (pi a1 - pi a0) + m * (pi d - pi c)) := by grind
      rw [this, w1]
      grind
    have E2 : (41 * 720720 - l) * pj a0 + l * pj a1 + ((41 * 720720 - m) * pj c + m * pj d) = 720720 * (9 + 41 * (z2 + pj a0 + pj c)) := by
      have : (41 * 720720 - l) * pj a0 + l * pj a1 + ((41 * 720720 - m) * pj c + m * pj d) = 41 * 720720 * (pj a0 + pj c) + (l * (pj a1 - pj a0) + m * (pj d - pj c)) := by grind
      rw [this, w2]
      grind
    obtain ⟨k, hk, hgk⟩ := gpt_of (u := [(a0, 41 * 720720 - l), (a1, l)]) (v := [(c, 41 * 720720 - m), (d, m)]) (x := z1 + pi a0 + pi c) (y := z2 + pj a0 + pj c) (fun x hx => by
      simp only [List.mem_cons, List.not_mem_nil, or_false] at hx
      rcases hx with rfl | rfl
      · exact ⟨by show 0 < 41 * 720720 - l; omega, lpl⟩
      · exact ⟨hlm.1.1, lpl1⟩) (fun x hx => by
      simp only [List.mem_cons, List.not_mem_nil, or_false] at hx
      rcases hx with rfl | rfl
      · exact ⟨by show 0 < 41 * 720720 - m; omega, lplc⟩
      · exact ⟨hlm.2.1, lpld⟩) su.1 sv.1 (by rw [su.2.1, sv.2.1, E1]) (by rw [su.2.2, sv.2.2, E2])
    refine ⟨k, hk, a0, a1, c, d, l, m, nq c d a1 - nq c d a0, dl a1 - dl a0, ⟨ha0, u2, lc, ld⟩, hcr, hlm, ⟨?_, ?_⟩, by omega, ⟨fun x hx => ?_, ?_⟩, fun x hx => ?_, hdc⟩
    · rw [hgk, E1]
    · rw [hgk, E2]
    · have dx := ha0.2 x hx
      have d1 := ha0.2 a1 u2
      have key : (dl a1 - dl a0) * (nq c d x - nq c d a0) ≤ (nq c d a1 - nq c d a0) * (dl x - dl a0) := by
        by_cases z : nq c d a0 < nq c d x
        · have := u4 x (hlt x hx) ⟨hx, z⟩
          rw [Int.mul_comm (nq c d a1 - nq c d a0)]
          exact this
        · have p1 := i_np (show 0 ≤ dl a1 - dl a0 by omega) (show nq c d x - nq c d a0 ≤ 0 by omega)
          have p2 := Int.mul_nonneg (show 0 ≤ nq c d a1 - nq c d a0 by omega) (show 0 ≤ dl x - dl a0 by omega)
          omega
      unfold hH
      generalize nq c d a1 - nq c d a0 = u at *
      generalize dl a1 - dl a0 = v at *
      rw [Int.mul_sub, Int.mul_sub] at key
      omega
    · unfold hH
      grind
    · have := hside x hx
      have d1 := ha0.2 a1 u2
      have := Int.mul_le_mul_of_nonneg_left this (show 0 ≤ dl a1 - dl a0 by omega)
      omega
  · rw [if_neg hcd] at g2
    exact absurd rfl g2
