/-! ===== both sides' meetings ===== -/
theorem mt_solve {f g : Cv} {p q r t : Nat} (h16 : -16 ≤ crs p q r t ∧ crs p q r t ≤ 16) (h0 : crs p q r t ≠ 0) : vl f p (mtX f g p q r t) (mtY f g p q r t) = vl f q (mtX f g p q r t) (mtY f g p q r t) ∧ vl g r (mtX f g p q r t) (mtY f g p q r t) = vl g t (mtX f g p q r t) (mtY f g p q r t) := by
  have hw := turnW h16 h0
  unfold mtX mtY vl
  generalize (720720 : Int).tdiv (crs p q r t) = s at *
  unfold crs at hw
  generalize cv f p = c1 at *
  generalize cv f q = c2 at *
  generalize cv g r = c3 at *
  generalize cv g t = c4 at *
  generalize pi p = a1 at *
  generalize pj p = a2 at *
  generalize pi q = b1 at *
  generalize pj q = b2 at *
  generalize pi r = d1 at *
  generalize pj r = d2 at *
  generalize pi t = e1 at *
  generalize pj t = e2 at *
  constructor <;> grind
theorem crs_L {p q r t : Nat} (hp : p ∈ placesL) (hq : q ∈ placesL) (hr : r ∈ placesL) (ht : t ∈ placesL) : -16 ≤ crs p q r t ∧ crs p q r t ≤ 16 := by
  have pl : ∀ k ∈ placesL, k / 5 + k % 5 ≤ 4 := by decide
  have d1 := pl_diff (pl p hp) (pl q hq)
  have d2 := pl_diff (pl r hr) (pl t ht)
  exact cross16L _ (mem9 d1.1) _ (mem9 d1.2.1) d1.2.2 _ (mem9 d2.1) _ (mem9 d2.2.1) d2.2.2
theorem mt_uniq {f g : Cv} {B X Y : Int} {p q r t : Nat} (hf : Cok B f) (hg : Cok B g) (h0 : crs p q r t ≠ 0) (hp : LdP f X Y p) (hq : LdP f X Y q) (hr : LdP g X Y r) (ht : LdP g X Y t) : mtX f g p q r t = X ∧ mtY f g p q r t = Y := by
  have h16 := crs_L (LdP_pl hf hp) (LdP_pl hf hq) (LdP_pl hg hr) (LdP_pl hg ht)
  have s := mt_solve (f := f) (g := g) h16 h0
  have e1 := LdP_eq hp hq
  have e2 := LdP_eq hr ht
  have v1 := vl_diff f q p X Y (mtX f g p q r t) (mtY f g p q r t)
  have v2 := vl_diff g t r X Y (mtX f g p q r t) (mtY f g p q r t)
  have := one_point (a := pi q - pi p) (b := pj q - pj p) (c := pi t - pi r) (d := pj t - pj r) (x := mtX f g p q r t - X) (y := mtY f g p q r t - Y) (by omega) (by omega) h0
  omega
/-! sides of what leads are edges -/
theorem line_side {f : Cv} {X Y : Int} {p q : Nat} (hf : Cok 999 f) (hflat : ∀ r, hasF f r = true → turn p q r = 0) (h : p < q) (lp : LdP f X Y p) (lq : LdP f X Y q) (hb : ∀ k, LdP f X Y k → p ≤ k ∧ k ≤ q) : arL f p q (luA p q) (lvA p q) 25 = true := by
  have pp := hasF_pl hf lp.1
  have pq := hasF_pl hf lq.1
  rw [arL_iff]
  intro r hr
  refine lnOK_iff.mpr fun hr2 e1 e2 => ?_
  have l := lin_of pp pq (hasF_pl hf hr2) h (hflat r hr2)
  have hg : 1 ≤ (lnG p q : Int) := by have := l.2.2.2; omega
  have e0 := LdP_eq lp lq
  have key : (lnG p q : Int) * (vl f r X Y - vl f p X Y) = 720720 * lnV f p q (luA p q) (lvA p q) r := by
    unfold lnV
    rw [l.2.1.1]
    have h1 := l.1.1
    have h2 := l.1.2
    have h3 := l.2.1.2.1
    have h4 := l.2.1.2.2
    unfold vl at e0 ⊢
    generalize tAt (luA p q) (lvA p q) p r = t at *
    generalize luA p q = u at *
    generalize lvA p q = v at *
    generalize (lnG p q : Int) = G at *
    have k1 : (pi r - pi p) * X + (pj r - pj p) * Y = t * (u * X + v * Y) := by rw [h1, h2]; grind
    have k2 : (pi q - pi p) * X + (pj q - pj p) * Y = G * (u * X + v * Y) := by rw [h3, h4]; grind
    generalize u * X + v * Y = w at *
    have k3 : 720720 * (cv f q - cv f p) + G * w = 0 := by grind
    have k4 : 720720 * cv f r + pi r * X + pj r * Y - (720720 * cv f p + pi p * X + pj p * Y) = 720720 * (cv f r - cv f p) + t * w := by grind
    rw [k4]
    grind
  have hge := lp.2 r hr2
  have hV : 0 ≤ lnV f p q (luA p q) (lvA p q) r := by
    have := Int.mul_nonneg (show 0 ≤ (lnG p q : Int) by omega) (show 0 ≤ vl f r X Y - vl f p X Y by omega)
    omega
  refine ⟨fun _ => hV, fun c => ?_⟩
  by_cases z : lnV f p q (luA p q) (lvA p q) r = 0
  · exfalso
    rw [z, Int.mul_zero] at key
    have h0 := (Int.mul_eq_zero.mp key).resolve_left (by omega)
    have lr : LdP f X Y r := ⟨hr2, fun j hj => by have := lp.2 j hj; omega⟩
    exact c (l.2.2.1.mpr (hb r lr))
  · omega
theorem edge_in {f : Cv} {X Y : Int} {a b : Nat} (hf : Cok 999 f) (h : hside (ledW f X Y) a b = true) : kyO a b ∈ edL f := by
  obtain ⟨n1, t1, t2, n4⟩ := hside_of.mp h
  have la := (led_iff hf).mp t1
  have lb := (led_iff hf).mp t2
  have ha := (hf a _ (hasF_cv la.1)).1
  have hb := (hf b _ (hasF_cv lb.1)).1
  rw [edL_is hf]
  have hx := kyO_in ha hb n1
  refine List.mem_filter.mpr ⟨hx, ?_⟩
  have hk : kyO a b = (a, b) ∨ kyO a b = (b, a) := by
    unfold kyO
    split
    · exact Or.inl rfl
    · exact Or.inr rfl
  rcases side_corner hf h with ⟨X2, Y2, hc, hs⟩ | ⟨hflat, hnc⟩
  · have hC : (cornF f).length ≠ 0 := by
      obtain ⟨R, r1, -⟩ := (corn_iff hf).mp hc
      intro z
      rw [List.length_eq_zero_iff.mp z] at r1
      cases r1
    rw [cnd_corn hf hC]
    rcases hk with e | e
    · rw [e]; exact side_row hf hc hs
    · rw [e]; exact side_row hf hc hs.symm
  · have hC : (cornF f).length = 0 := by
      rcases Nat.eq_zero_or_pos (cornF f).length with z | z
      · exact z
      · exfalso
        have hco := (corn_at hf (List.getElem?_eq_getElem z)).1
        obtain ⟨x, y, w, h0, h1, h2, h3⟩ := hco
        exact h0 (flat3 n1 (hflat x h1.1) (hflat y h2.1) (hflat w h3.1))
    rw [cnd_line hf hC hx]
    have hlt := prs_of _ hx
    have hbt : ∀ k, LdP f X Y k → min a b ≤ k ∧ k ≤ max a b := by
      intro k hk2
      have hk21 := (hf k _ (hasF_cv hk2.1)).1
      have := hflat k hk2.1
      rcases n4 k hk21 ((led_iff hf).mpr hk2) with z | z
      · omega
      · exact z.2
    unfold lcB
    rcases hk with e | e
    · rw [e] at hlt ⊢
      dsimp only at hlt ⊢
      rw [la.1, lb.1, line_side hf hflat hlt.1 la lb (fun k hk2 => by have := hbt k hk2; omega)]
      rfl
    · rw [e] at hlt ⊢
      dsimp only at hlt ⊢
      rw [la.1, lb.1, line_side hf (fun r hr => by have := hflat r hr; have := turn_rev a b r; omega) hlt.1 lb la (fun k hk2 => by have := hbt k hk2; omega)]
      rfl
theorem mtP_edges {f g : Cv} {X Y : Int} (hf : Cok 999 f) (hg : Cok 999 g) (h : mtP f g X Y) : ∃ pq ∈ edL f, ∃ rt ∈ edL g, crs pq.1 pq.2 rt.1 rt.2 ≠ 0 ∧ (mtX f g pq.1 pq.2 rt.1 rt.2 = X ∧ mtY f g pq.1 pq.2 rt.1 rt.2 = Y) ∧ LdP f X Y pq.1 ∧ LdP g X Y rt.1 := by
  obtain ⟨p, q, r, t, h0, h1, h2, h3, h4⟩ := h
  have hs := lead_plB (X := X) (Y := Y) hf
  have ho := lead_plB (X := X) (Y := Y) hg
  have hm := mixed_pos hs ho ((led_iff hf).mpr h1) ((led_iff hf).mpr h2) ((led_iff hg).mpr h3) ((led_iff hg).mpr h4) h0
  have hbit : ∀ {x k : Nat}, x.testBit k = true → 0 < x := by
    intro x k h
    rcases Nat.eq_zero_or_pos x with z | z
    · rw [z, Nat.zero_testBit] at h; cases h
    · exact z
  obtain ⟨a, b, c, d, k1, k2, k3⟩ := mixed_ne hs ho (by omega) (hbit ((led_iff hf).mpr h1)) (hbit ((led_iff hg).mpr h3))
  obtain ⟨-, ta, tb, -⟩ := hside_of.mp k1
  obtain ⟨-, tc, td, -⟩ := hside_of.mp k2
  have la := (led_iff hf).mp ta
  have lb := (led_iff hf).mp tb
  have lc := (led_iff hg).mp tc
  have ld := (led_iff hg).mp td
  have e1 : kyO a b = (a, b) ∨ kyO a b = (b, a) := by
    unfold kyO
    split
    · exact Or.inl rfl
    · exact Or.inr rfl
  have e2 : kyO c d = (c, d) ∨ kyO c d = (d, c) := by
    unfold kyO
    split
    · exact Or.inl rfl
    · exact Or.inr rfl
  refine ⟨kyO a b, edge_in hf k1, kyO c d, edge_in hg k2, ?_⟩
  have s1 : crs b a c d = -crs a b c d ∧ crs a b d c = -crs a b c d ∧ crs b a d c = crs a b c d := by
    unfold crs
    refine ⟨by grind, by grind, by grind⟩
  rcases e1 with e1 | e1 <;> rcases e2 with e2 | e2 <;> rw [e1, e2] <;> dsimp only
  · exact ⟨k3, mt_uniq hf hg k3 la lb lc ld, la, lc⟩
  · have k : crs a b d c ≠ 0 := by omega
    exact ⟨k, mt_uniq hf hg k la lb ld lc, la, ld⟩
  · have k : crs b a c d ≠ 0 := by omega
    exact ⟨k, mt_uniq hf hg k lb la lc ld, lb, lc⟩
  · have k : crs b a d c ≠ 0 := by omega
    exact ⟨k, mt_uniq hf hg k lb la ld lc, lb, ld⟩
theorem edL_of {f : Cv} (hf : Cok 999 f) {pq : Nat × Nat} (h : pq ∈ edL f) : pq.1 < pq.2 ∧ hasF f pq.1 = true ∧ hasF f pq.2 = true := by
  have := elA_mem 21 h
  exact ⟨this.1, this.2.2.1, this.2.2.2.1⟩
theorem mtP_of {f g : Cv} (hf : Cok 999 f) (hg : Cok 999 g) {p q r t : Nat} (hq : hasF f q = true) (ht : hasF g t = true) (h0 : crs p q r t ≠ 0) (hp : LdP f (mtX f g p q r t) (mtY f g p q r t) p) (hr : LdP g (mtX f g p q r t) (mtY f g p q r t) r) : mtP f g (mtX f g p q r t) (mtY f g p q r t) := by
  have s := mt_solve (f := f) (g := g) (crs_L (LdP_pl hf hp) (hasF_pl hf hq) (LdP_pl hg hr) (hasF_pl hg ht)) h0
  exact ⟨p, q, r, t, h0, hp, ⟨hq, fun j hj => by rw [← s.1]; exact hp.2 j hj⟩, hr, ht, fun j hj => by rw [← s.2]; exact hr.2 j hj⟩
/-! the class's list -/
def GoM (f g : Cv) (L : List Pt) : Prop := srt L ∧ ∀ P ∈ L, mtP f g P.1 P.2.1 ∧ ptB P
theorem GoM_len {f g : Cv} (hf : Cok 999 f) (hg : Cok 999 g) {L : List Pt} (h : GoM f g L) : L.length ≤ 16 := by
  have := mt_16 hf hg (L := L.map fun P => (P.1, P.2.1)) (List.pairwise_map.mpr (List.Pairwise.imp (fun {P Q} hl e => by
    have e1 := congrArg Prod.fst e
    have e2 := congrArg Prod.snd e
    dsimp only at e1 e2
    unfold ptLt at hl
    omega) h.1)) (fun P hP => by
    obtain ⟨Q, q1, rfl⟩ := List.mem_map.mp hP
    exact h.2 Q q1)
  rw [List.length_map] at this
  exact this
theorem capM_good {f g : Cv} (hf : Cok 999 f) (hg : Cok 999 g) {L : List Pt} {P : Pt} (h : GoM f g L) (hc : mtP f g P.1 P.2.1 ∧ ptB P) : GoM f g (capP L P) ∧ ∀ Q, (∃ R ∈ capP L P, ptEq R Q) ↔ (∃ R ∈ L, ptEq R Q) ∨ ptEq P Q := by
  have hgd : GoM f g (insP L P) := ⟨insP_srt h.1, fun R hR => by
    rcases insP_mem hR with z | z
    · exact h.2 R z
    · rw [z]; exact hc⟩
  unfold capP
  split
  · next q =>
    refine ⟨h, fun Q => ⟨fun z => Or.inl z, ?_⟩⟩
    rintro (z | z)
    · exact z
    · by_cases e : ∃ R ∈ L, ptEq R P
      · obtain ⟨R, r1, r2⟩ := e
        exact ⟨R, r1, by unfold ptEq at *; omega⟩
      · have h1 := GoM_len hf hg hgd
        rw [insP_len e] at h1
        omega
  · exact ⟨hgd, fun Q => insP_has⟩
theorem mtStep_good {f g : Cv} (hf : Cok 999 f) (hg : Cok 999 g) {pq rt : Nat × Nat} (hpq : pq ∈ edL f) (hrt : rt ∈ edL g) {L : List Pt} (h : GoM f g L) : GoM f g (mtStep f g pq rt L) ∧ (∀ Q, (∃ R ∈ L, ptEq R Q) → ∃ R ∈ mtStep f g pq rt L, ptEq R Q) ∧ (isMt f g pq.1 pq.2 rt.1 rt.2 = true → ∀ m, ∃ R ∈ mtStep f g pq rt L, ptEq R (mtX f g pq.1 pq.2 rt.1 rt.2, mtY f g pq.1 pq.2 rt.1 rt.2, m)) := by
  have e1 := edL_of hf hpq
  have e2 := edL_of hg hrt
  unfold mtStep
  split
  · next q =>
    have q2 := q
    unfold isMt at q2
    rw [Bool.and_eq_true, Bool.and_eq_true, Bool.not_eq_true', decide_eq_false_iff_not] at q2
    have hm := mtP_of hf hg e1.2.2 e2.2.2 q2.1 ((led_iff hf).mp q2.2.1) ((led_iff hg).mp q2.2.2)
    have fp := (hf pq.1 _ (hasF_cv e1.2.1)).1
    have fq := (hf pq.2 _ (hasF_cv e1.2.2)).1
    have fr := (hg rt.1 _ (hasF_cv e2.2.1)).1
    have ft := (hg rt.2 _ (hasF_cv e2.2.2)).1
    obtain ⟨h1, h2⟩ := capM_good hf hg (P := (mtX f g pq.1 pq.2 rt.1 rt.2, mtY f g pq.1 pq.2 rt.1 rt.2, mixed (ledW f (mtX f g pq.1 pq.2 rt.1 rt.2) (mtY f g pq.1 pq.2 rt.1 rt.2)) (ledW g (mtX f g pq.1 pq.2 rt.1 rt.2) (mtY f g pq.1 pq.2 rt.1 rt.2)))) h ⟨hm, mt_le hf hg (by omega) (by omega) (by omega) (by omega)⟩
    exact ⟨h1, fun Q hQ => (h2 Q).mpr (Or.inl hQ), fun _ m => (h2 _).mpr (Or.inr ⟨rfl, rfl⟩)⟩
  · next q => exact ⟨h, fun Q hQ => hQ, fun z => absurd z q⟩
theorem mtB_good {f g : Cv} (hf : Cok 999 f) (hg : Cok 999 g) {pq : Nat × Nat} (hpq : pq ∈ edL f) {L : List Pt} (h : GoM f g L) : ∀ n, n ≤ (edL g).length → GoM f g (mtB f g pq (edL g) L n) ∧ (∀ Q, (∃ R ∈ L, ptEq R Q) → ∃ R ∈ mtB f g pq (edL g) L n, ptEq R Q) ∧ ∀ i (hi : i < n) (hl : i < (edL g).length), isMt f g pq.1 pq.2 ((edL g)[i]).1 ((edL g)[i]).2 = true → ∀ m, ∃ R ∈ mtB f g pq (edL g) L n, ptEq R (mtX f g pq.1 pq.2 ((edL g)[i]).1 ((edL g)[i]).2, mtY f g pq.1 pq.2 ((edL g)[i]).1 ((edL g)[i]).2, m)
  | 0, _ => ⟨h, fun _ z => z, fun i hi => absurd hi (Nat.not_lt_zero i)⟩
  | n + 1, hn => by
    obtain ⟨h1, h2, h3⟩ := mtB_good hf hg hpq h n (by omega)
    have hget : (edL g)[n]? = some ((edL g)[n]'(by omega)) := List.getElem?_eq_getElem (by omega)
    have e : mtB f g pq (edL g) L (n + 1) = mtStep f g pq ((edL g)[n]'(by omega)) (mtB f g pq (edL g) L n) := by
      show mtStep f g pq (((edL g)[n]?).getD (0, 0)) _ = _
      rw [hget]
      rfl
    rw [e]
    obtain ⟨g1, g2, g3⟩ := mtStep_good hf hg hpq (List.getElem_mem (show n < (edL g).length by omega)) h1
    refine ⟨g1, fun Q z => g2 Q (h2 Q z), fun i hi hl hm m => ?_⟩
    by_cases z : i = n
    · subst z
      exact g3 hm m
    · exact g2 _ (h3 i (by omega) hl hm m)
theorem mtA_good {f g : Cv} (hf : Cok 999 f) (hg : Cok 999 g) : ∀ n, n ≤ (edL f).length → GoM f g (mtA f g (edL f) (edL g) n) ∧ ∀ j (hj : j < n) (hjl : j < (edL f).length) i (hl : i < (edL g).length), isMt f g ((edL f)[j]).1 ((edL f)[j]).2 ((edL g)[i]).1 ((edL g)[i]).2 = true → ∀ m, ∃ R ∈ mtA f g (edL f) (edL g) n, ptEq R (mtX f g ((edL f)[j]).1 ((edL f)[j]).2 ((edL g)[i]).1 ((edL g)[i]).2, mtY f g ((edL f)[j]).1 ((edL f)[j]).2 ((edL g)[i]).1 ((edL g)[i]).2, m)
  | 0, _ => ⟨⟨List.Pairwise.nil, fun P h => by cases h⟩, fun j hj => absurd hj (Nat.not_lt_zero j)⟩
  | n + 1, hn => by
    obtain ⟨h1, h3⟩ := mtA_good hf hg n (by omega)
    have hget : (edL f)[n]? = some ((edL f)[n]'(by omega)) := List.getElem?_eq_getElem (by omega)
    have e : mtA f g (edL f) (edL g) (n + 1) = mtB f g ((edL f)[n]'(by omega)) (edL g) (mtA f g (edL f) (edL g) n) (edL g).length := by
      show mtB f g (((edL f)[n]?).getD (0, 0)) _ _ _ = _
      rw [hget]
      rfl
    rw [e]
    obtain ⟨g1, g2, g3⟩ := mtB_good hf hg (List.getElem_mem (show n < (edL f).length by omega)) h1 _ (Nat.le_refl _)
    refine ⟨g1, fun j hj hjl i hl hm m => ?_⟩
    by_cases z : j = n
    · subst z
      exact g3 i hl hl hm m
    · exact g2 _ (h3 j (by omega) hjl i hl hm m)
theorem meetF_iff {f g : Cv} (hf : Cok 999 f) (hg : Cok 999 g) {X Y : Int} : (∃ R ∈ meetF f g, R.1 = X ∧ R.2.1 = Y) ↔ mtP f g X Y := by
  have hA := mtA_good hf hg (edL f).length (Nat.le_refl _)
  constructor
  · rintro ⟨R, h1, rfl, rfl⟩
    exact (hA.1.2 R h1).1
  · intro h
    obtain ⟨pq, p1, rt, r1, h0, ⟨x1, y1⟩, l1, l2⟩ := mtP_edges hf hg h
    obtain ⟨j, hj, ej⟩ := List.mem_iff_getElem.mp p1
    obtain ⟨i, hi, ei⟩ := List.mem_iff_getElem.mp r1
    have := hA.2 j hj hj i hi (by
      rw [ej, ei]
      unfold isMt
      rw [decide_eq_false h0, x1, y1, (led_iff hf).mpr l1, (led_iff hg).mpr l2]
      rfl) 0
    rw [ej, ei, x1, y1] at this
    obtain ⟨R, r2, r3⟩ := this
    exact ⟨R, r2, r3⟩
/-! the model's list -/
def srt2 (L : List (Int × Int)) : Prop := L.Pairwise fun P Q => P.1 < Q.1 ∨ (P.1 = Q.1 ∧ P.2 < Q.2)
def insQ (x y : Int) : List (Int × Int) → List (Int × Int)
  | [] => [(x, y)]
  | P :: L => if ahP x y P then P :: insQ x y L else (x, y) :: P :: L
theorem insQ_eq (x y : Int) : ∀ L, L.take (posP x y L) ++ (x, y) :: L.drop (posP x y L) = insQ x y L
  | [] => rfl
  | P :: L => by
    unfold posP insQ
    by_cases h : ahP x y P
    · rw [if_pos h, if_pos h]
      show P :: (L.take (posP x y L) ++ (x, y) :: L.drop (posP x y L)) = _
      rw [insQ_eq x y L]
    · rw [if_neg h, if_neg h]
      rfl
theorem insQ_mem {x y : Int} {Q : Int × Int} : ∀ {L}, Q ∈ insQ x y L ↔ Q ∈ L ∨ Q = (x, y)
  | [] => by
    unfold insQ
    rw [List.mem_singleton]
    exact ⟨Or.inr, fun h => h.resolve_left (fun z => by cases z)⟩
  | P :: L => by
    have ih := insQ_mem (x := x) (y := y) (Q := Q) (L := L)
    unfold insQ
    split
    · rw [List.mem_cons, ih, List.mem_cons]
      constructor
      · rintro (h | h | h)
        · exact Or.inl (Or.inl h)
        · exact Or.inl (Or.inr h)
        · exact Or.inr h
      · rintro ((h | h) | h)
        · exact Or.inl h
        · exact Or.inr (Or.inl h)
        · exact Or.inr (Or.inr h)
    · rw [List.mem_cons]
      exact ⟨fun h => h.elim Or.inr Or.inl, fun h => h.elim Or.inr Or.inl⟩
theorem insQ_len (x y : Int) : ∀ L, (insQ x y L).length = L.length + 1
  | [] => rfl
  | P :: L => by
    unfold insQ
    split
    · rw [List.length_cons, insQ_len x y L, List.length_cons]
    · rfl
theorem insQ_srt {x y : Int} : ∀ {L : List (Int × Int)}, srt2 L → (x, y) ∉ L → srt2 (insQ x y L)
  | [], _, _ => List.pairwise_singleton _ _
  | P :: L, h, hn => by
    have h1 := List.pairwise_cons.mp h
    unfold insQ
    split
    · next a =>
      refine List.pairwise_cons.mpr ⟨fun Q hQ => ?_, insQ_srt h1.2 (fun z => hn (List.mem_cons_of_mem _ z))⟩
      rcases insQ_mem.mp hQ with z | z
      · exact h1.1 Q z
      · rw [z]; exact a
    · next a =>
      have hP : x < P.1 ∨ (x = P.1 ∧ y < P.2) := by
        have hne : ¬ (P.1 = x ∧ P.2 = y) := fun z => hn (List.mem_cons.mpr (Or.inl (Prod.ext z.1.symm z.2.symm)))
        rw [ahP_iff] at a
        omega
      refine List.pairwise_cons.mpr ⟨fun Q hQ => ?_, h⟩
      rcases List.mem_cons.mp hQ with z | z
      · rw [z]; exact hP
      · have := h1.1 Q z
        show x < Q.1 ∨ (x = Q.1 ∧ y < Q.2)
        omega
theorem pos_mem {x y : Int} : ∀ {L : List (Int × Int)}, srt2 L → ((x, y) ∈ L ↔ L[posP x y L]? = some (x, y))
  | [], _ => ⟨fun h => (by cases h), fun h => (by cases h)⟩
  | P :: L, h => by
    have h1 := List.pairwise_cons.mp h
    have ih := pos_mem (x := x) (y := y) h1.2
    unfold posP
    by_cases a : ahP x y P
    · rw [if_pos a]
      show _ ↔ L[posP x y L]? = some (x, y)
      rw [← ih, List.mem_cons]
      constructor
      · rintro (z | z)
        · rw [ahP_iff] at a
          have e1 := congrArg Prod.fst z
          have e2 := congrArg Prod.snd z
          dsimp only at e1 e2
          omega
        · exact z
      · exact Or.inr
    · rw [if_neg a]
      show _ ↔ some P = some (x, y)
      rw [ahP_iff] at a
      constructor
      · intro z
        rcases List.mem_cons.mp z with z | z
        · rw [z]
        · have := h1.1 _ z
          dsimp only at this
          omega
      · intro z
        have := Option.some.inj z
        rw [this]
        exact List.mem_cons_self
theorem two_bits {s a b : Nat} (ha : s.testBit a = true) (hb : s.testBit b = true) (h : a < b) : s &&& (s - 1) ≠ 0 := by
  intro z
  have h1 : (s &&& (s - 1)).testBit b = true := by
    rw [Nat.testBit_and, hb, Bool.true_and]
    have e1 : s / 2 ^ b % 2 = 1 := by
      have := hb
      rw [Nat.testBit_eq_decide_div_mod_eq, decide_eq_true_eq] at this
      exact this
    rw [Nat.testBit_eq_decide_div_mod_eq, decide_eq_true_eq]
    have hm : s % 2 ^ b ≠ 0 := by
      intro z
      have : (s % 2 ^ b).testBit a = true := by
        rw [Nat.testBit_mod_two_pow, decide_eq_true h, ha]
        rfl
      rw [z, Nat.zero_testBit] at this
      cases this
    have hd := Nat.div_add_mod s (2 ^ b)
    have hp : 0 < 2 ^ b := Nat.two_pow_pos b
    have hlt := Nat.mod_lt s hp
    have : (s - 1) / 2 ^ b = s / 2 ^ b := by
      refine Nat.div_eq_of_lt_le ?_ ?_
      · rw [Nat.mul_comm]
        omega
      · rw [Nat.mul_comm, Nat.mul_add]
        omega
    rw [this]
    exact e1
  rw [z, Nat.zero_testBit] at h1
  cases h1
theorem twoB_of {s a b : Nat} (ha : s.testBit a = true) (hb : s.testBit b = true) (h : a ≠ b) : twoB s = true := by
  unfold twoB
  rw [Bool.not_eq_true', decide_eq_false_iff_not]
  rcases Nat.lt_or_gt_of_ne h with z | z
  · exact two_bits ha hb z
  · exact two_bits hb ha z
theorem mtOK_iff {f g : Cv} {x y : Int} (hf : Cok 999 f) (hg : Cok 999 g) : mtOK f g x y = true ↔ mtP f g x y := by
  have hs : plS (ledW f x y) := lead_plB hf
  have ho : plS (ledW g x y) := lead_plB hg
  have hbit : ∀ {x k : Nat}, x.testBit k = true → 0 < x := by
    intro x k h
    rcases Nat.eq_zero_or_pos x with z | z
    · rw [z, Nat.zero_testBit] at h; cases h
    · exact z
  unfold mtOK
  rw [Bool.and_eq_true, Bool.and_eq_true, Bool.not_eq_true', decide_eq_false_iff_not]
  constructor
  · rintro ⟨h1, h2, h3⟩
    have t0 : twoB 0 = false := rfl
    have s0 : 0 < ledW f x y := by
      rcases Nat.eq_zero_or_pos (ledW f x y) with z | z
      · rw [z, t0] at h1; cases h1
      · exact z
    have o0 : 0 < ledW g x y := by
      rcases Nat.eq_zero_or_pos (ledW g x y) with z | z
      · rw [z, t0] at h2; cases h2
      · exact z
    rw [mxq _ _ hs ho s0 o0] at h3
    obtain ⟨a, b, c, d, k1, k2, k3⟩ := mixed_ne hs ho h3 s0 o0
    obtain ⟨-, ta, tb, -⟩ := hside_of.mp k1
    obtain ⟨-, tc, td, -⟩ := hside_of.mp k2
    exact ⟨a, b, c, d, k3, (led_iff hf).mp ta, (led_iff hf).mp tb, (led_iff hg).mp tc, (led_iff hg).mp td⟩
  · rintro ⟨p, q, r, t, h0, h1, h2, h3, h4⟩
    have b1 := (led_iff hf).mpr h1
    have b2 := (led_iff hf).mpr h2
    have b3 := (led_iff hg).mpr h3
    have b4 := (led_iff hg).mpr h4
    have pq : p ≠ q := by
      rintro rfl
      apply h0
      unfold crs
      grind
    have rt : r ≠ t := by
      rintro rfl
      apply h0
      unfold crs
      grind
    refine ⟨twoB_of b1 b2 pq, twoB_of b3 b4 rt, ?_⟩
    rw [mxq _ _ hs ho (hbit b1) (hbit b3)]
    have := mixed_pos hs ho b1 b2 b3 b4 h0
    omega
def GoL (f g : Cv) (L : List (Int × Int)) : Prop := srt2 L ∧ ∀ P ∈ L, mtP f g P.1 P.2 ∧ lqB P
theorem GoL_len {f g : Cv} (hf : Cok 999 f) (hg : Cok 999 g) {L : List (Int × Int)} (h : GoL f g L) : L.length ≤ 16 :=
  mt_16 hf hg (List.Pairwise.imp (fun {P Q} hl e => by rw [e] at hl; omega) h.1) h.2
theorem mtPut_good {f g : Cv} (hf : Cok 999 f) (hg : Cok 999 g) {L : List (Int × Int)} {x y : Int} (h : GoL f g L) (hB : lqB (x, y)) : GoL f g (mtPut f g x y L) ∧ (∀ Q ∈ L, Q ∈ mtPut f g x y L) ∧ (mtP f g x y → (x, y) ∈ mtPut f g x y L) := by
  have hput : mtPut f g x y L = if L[posP x y L]? = some (x, y) ∨ L.length = 16 ∨ mtOK f g x y = false then L else L.take (posP x y L) ++ (x, y) :: L.drop (posP x y L) := rfl
  rw [hput, insQ_eq]
  by_cases hin : (x, y) ∈ L
  · rw [if_pos (Or.inl ((pos_mem h.1).mp hin))]
    exact ⟨h, fun Q z => z, fun _ => hin⟩
  · have hnp : ¬ L[posP x y L]? = some (x, y) := fun z => hin ((pos_mem h.1).mpr z)
    by_cases hm : mtP f g x y
    · have hgd : GoL f g (insQ x y L) := ⟨insQ_srt h.1 hin, fun P hP => by
        rcases insQ_mem.mp hP with z | z
        · exact h.2 P z
        · rw [z]; exact ⟨hm, hB⟩⟩
      have hl := GoL_len hf hg hgd
      rw [insQ_len] at hl
      rw [if_neg (by
        rintro (z | z | z)
        · exact hnp z
        · omega
        · rw [(mtOK_iff hf hg).mpr hm] at z
          cases z)]
      exact ⟨hgd, fun Q z => insQ_mem.mpr (Or.inl z), fun _ => insQ_mem.mpr (Or.inr rfl)⟩
    · rw [if_pos (Or.inr (Or.inr (by
        cases e : mtOK f g x y with
        | false => rfl
        | true => exact absurd ((mtOK_iff hf hg).mp e) hm)))]
      exact ⟨h, fun Q z => z, fun z => absurd z hm⟩
theorem mlC_good {f g h : Cv} (hf : Cok 999 f) (hg : Cok 999 g) (hh : Cok 999 h) {L : List (Int × Int)} (hL : GoL f g L) : ∀ n, n ≤ (cornF h).length → GoL f g (mlC f g (cornF h) L n)
  | 0, _ => hL
  | n + 1, hn => by
    have ih := mlC_good hf hg hh hL n (by omega)
    have hget : (cornF h)[n]? = some ((cornF h)[n]'(by omega)) := List.getElem?_eq_getElem (by omega)
    have e : pnAt (cornF h) n = (cornF h)[n]'(by omega) := by
      unfold pnAt
      rw [hget]
      rfl
    show GoL f g (mtPut f g (pnAt (cornF h) n).1 (pnAt (cornF h) n).2.1 _)
    rw [e]
    exact (mtPut_good hf hg ih (corn_ptB hh _ (List.getElem_mem _))).1
theorem row_keys {f : Cv} (hf : Cok 999 f) {k : Nat} (hk : k < (mEf f).length) : ∃ h : k < (edL f).length, kA (rwAt (mEf f) k) = ((edL f)[k]).1 ∧ kB (rwAt (mEf f) k) = ((edL f)[k]).2 := by
  have hm := mEf_map hf
  rw [← edL_is hf] at hm
  have hkl : k < (edL f).length := by rw [hm, List.length_map] at hk; exact hk
  refine ⟨hkl, ?_⟩
  have e : rwAt (mEf f) k = m6 (rowN f (cornF f) ((edL f)[k]).1 ((edL f)[k]).2 (cornF f).length) := by
    unfold rwAt
    rw [hm, List.getElem?_map, List.getElem?_eq_getElem hkl]
    rfl
  rw [e]
  have hJ := (rowN_J f (cornF f) ((edL f)[k]).1 ((edL f)[k]).2 (cornF f).length).1
  unfold kA kB
  have h0 : m6 (rowN f (cornF f) ((edL f)[k]).1 ((edL f)[k]).2 (cornF f).length) 0 = (((edL f)[k]).1 : Int) := hJ.1
  have h1 : m6 (rowN f (cornF f) ((edL f)[k]).1 ((edL f)[k]).2 (cornF f).length) 1 = (((edL f)[k]).2 : Int) := hJ.2
  rw [h0, h1]
  exact ⟨rfl, rfl⟩
theorem mlR_good {f g : Cv} (hf : Cok 999 f) (hg : Cok 999 g) {j : Nat} (hj : j < (edL f).length) {e : Nat → Int} (he : kA e = ((edL f)[j]).1 ∧ kB e = ((edL f)[j]).2) {L : List (Int × Int)} (hL : GoL f g L) : ∀ n, n ≤ (mEf g).length → GoL f g (mlR f g e (mEf g) L n) ∧ (∀ Q ∈ L, Q ∈ mlR f g e (mEf g) L n) ∧ ∀ i (_ : i < n) (hl : i < (edL g).length), crs ((edL f)[j]).1 ((edL f)[j]).2 ((edL g)[i]).1 ((edL g)[i]).2 ≠ 0 → mtP f g (mtX f g ((edL f)[j]).1 ((edL f)[j]).2 ((edL g)[i]).1 ((edL g)[i]).2) (mtY f g ((edL f)[j]).1 ((edL f)[j]).2 ((edL g)[i]).1 ((edL g)[i]).2) → (mtX f g ((edL f)[j]).1 ((edL f)[j]).2 ((edL g)[i]).1 ((edL g)[i]).2, mtY f g ((edL f)[j]).1 ((edL f)[j]).2 ((edL g)[i]).1 ((edL g)[i]).2) ∈ mlR f g e (mEf g) L n
  | 0, _ => ⟨hL, fun _ z => z, fun i hi => absurd hi (Nat.not_lt_zero i)⟩
  | n + 1, hn => by
    obtain ⟨h1, h2, h3⟩ := mlR_good hf hg hj he hL n (by omega)
    obtain ⟨hnl, k1, k2⟩ := row_keys hg (k := n) (by omega)
    have e1 : mlR f g e (mEf g) L (n + 1) = mtTry f g ((edL f)[j]).1 ((edL f)[j]).2 ((edL g)[n]).1 ((edL g)[n]).2 (mlR f g e (mEf g) L n) := by
      show mtTry f g (kA e) (kB e) (kA (rwAt (mEf g) n)) (kB (rwAt (mEf g) n)) _ = _
      rw [he.1, he.2, k1, k2]
    have a1 := edL_of hf (List.getElem_mem hj)
    have a2 := edL_of hg (List.getElem_mem hnl)
    have fp := (hf _ _ (hasF_cv a1.2.1)).1
    have fq := (hf _ _ (hasF_cv a1.2.2)).1
    have fr := (hg _ _ (hasF_cv a2.2.1)).1
    have ft := (hg _ _ (hasF_cv a2.2.2)).1
    rw [e1]
    unfold mtTry
    by_cases z : crs ((edL f)[j]).1 ((edL f)[j]).2 ((edL g)[n]).1 ((edL g)[n]).2 = 0
    · rw [if_pos z]
      refine ⟨h1, h2, fun i hi hl hc hm => ?_⟩
      by_cases y : i = n
      · subst y; exact absurd z hc
      · exact h3 i (by omega) hl hc hm
    · rw [if_neg z]
      obtain ⟨g1, g2, g3⟩ := mtPut_good hf hg h1 (mt_le hf hg (p := ((edL f)[j]).1) (q := ((edL f)[j]).2) (r := ((edL g)[n]).1) (t := ((edL g)[n]).2) (by omega) (by omega) (by omega) (by omega))
      refine ⟨g1, fun Q y => g2 Q (h2 Q y), fun i hi hl hc hm => ?_⟩
      by_cases y : i = n
      · subst y; exact g3 hm
      · exact g2 _ (h3 i (by omega) hl hc hm)
theorem mlA_good {f g : Cv} (hf : Cok 999 f) (hg : Cok 999 g) {L : List (Int × Int)} (hL : GoL f g L) : ∀ n, n ≤ (mEf f).length → GoL f g (mlA f g (mEf f) (mEf g) L n) ∧ ∀ j (_ : j < n) (hj : j < (edL f).length) i (hl : i < (edL g).length), crs ((edL f)[j]).1 ((edL f)[j]).2 ((edL g)[i]).1 ((edL g)[i]).2 ≠ 0 → mtP f g (mtX f g ((edL f)[j]).1 ((edL f)[j]).2 ((edL g)[i]).1 ((edL g)[i]).2) (mtY f g ((edL f)[j]).1 ((edL f)[j]).2 ((edL g)[i]).1 ((edL g)[i]).2) → (mtX f g ((edL f)[j]).1 ((edL f)[j]).2 ((edL g)[i]).1 ((edL g)[i]).2, mtY f g ((edL f)[j]).1 ((edL f)[j]).2 ((edL g)[i]).1 ((edL g)[i]).2) ∈ mlA f g (mEf f) (mEf g) L n
  | 0, _ => ⟨hL, fun i hi => absurd hi (Nat.not_lt_zero i)⟩
  | n + 1, hn => by
    obtain ⟨h1, h3⟩ := mlA_good hf hg hL n (by omega)
    obtain ⟨hnl, k1, k2⟩ := row_keys hf (k := n) (by omega)
    obtain ⟨g1, g2, g3⟩ := mlR_good hf hg hnl ⟨k1, k2⟩ h1 _ (Nat.le_refl _)
    have hgl : (mEf g).length = (edL g).length := by
      rw [mEf_map hg, List.length_map, edL_is hg]
    refine ⟨g1, fun j hj hjl i hl hc hm => ?_⟩
    by_cases y : j = n
    · subst y
      exact g3 i (by omega) hl hc hm
    · exact g2 _ (h3 j (by omega) hjl i hl hc hm)
theorem srt2_ext : ∀ {L K : List (Int × Int)}, srt2 L → srt2 K → (∀ Q, Q ∈ L ↔ Q ∈ K) → L = K
  | [], [], _, _, _ => rfl
  | [], Q :: K, _, _, h => by
    have := (h Q).mpr List.mem_cons_self
    cases this
  | P :: L, [], _, _, h => by
    have := (h P).mp List.mem_cons_self
    cases this
  | P :: L, Q :: K, hL, hK, h => by
    have h1 := List.pairwise_cons.mp hL
    have h2 := List.pairwise_cons.mp hK
    have hPQ : P = Q := by
      rcases List.mem_cons.mp ((h P).mp List.mem_cons_self) with z | z
      · exact z
      · rcases List.mem_cons.mp ((h Q).mpr List.mem_cons_self) with y | y
        · exact y.symm
        · have a := h2.1 P z
          have b := h1.1 Q y
          omega
    subst hPQ
    have : L = K := srt2_ext h1.2 h2.2 fun R => by
      have hR := h R
      rw [List.mem_cons, List.mem_cons] at hR
      constructor
      · intro z
        rcases hR.mp (Or.inr z) with y | y
        · have a := h1.1 R z
          rw [y] at a
          omega
        · exact y
      · intro z
        rcases hR.mpr (Or.inr z) with y | y
        · have a := h2.1 R z
          rw [y] at a
          omega
        · exact y
    rw [this]
theorem geom : GEOM := by
  intro f g hf hg
  unfold eqM
  have hA := mtA_good hf hg (edL f).length (Nat.le_refl _)
  have hsC : srt2 ((meetF f g).map fun P => (P.1, P.2.1)) := by
    refine List.pairwise_map.mpr (List.Pairwise.imp ?_ hA.1.1)
    intro P Q h
    exact h
  have hmC : ∀ Q : Int × Int, Q ∈ ((meetF f g).map fun P => (P.1, P.2.1)) ↔ mtP f g Q.1 Q.2 := by
    intro Q
    rw [← meetF_iff hf hg, List.mem_map]
    constructor
    · rintro ⟨R, r1, rfl⟩
      exact ⟨R, r1, rfl, rfl⟩
    · rintro ⟨R, r1, r2, r3⟩
      exact ⟨R, r1, Prod.ext r2 r3⟩
  unfold mLF
  by_cases hc : cntF f = 0 ∨ cntF g = 0
  · rw [if_pos hc]
    cases e : (meetF f g).map fun P => (P.1, P.2.1) with
    | nil => rfl
    | cons Q K =>
      exfalso
      obtain ⟨p, q, r, t, -, h1, -, h3, -⟩ := (hmC Q).mp (by rw [e]; exact List.mem_cons_self)
      have pos : ∀ {h : Cv} {k : Nat}, Cok 999 h → hasF h k = true → cntF h ≠ 0 := by
        intro h k hh hk z
        have hk21 := (hh k _ (hasF_cv hk)).1
        have := ct0_mk 21 (show fb_ct (hasF h) 21 = 0 from z)
        have hb := mk_tb (hasF h) k 21
        rw [this, Nat.zero_testBit, decide_eq_true hk21, hk] at hb
        cases hb
      rcases hc with z | z
      · exact pos hf h1.1 z
      · exact pos hg h3.1 z
  · rw [if_neg hc]
    have h0 : GoL f g [] := ⟨List.Pairwise.nil, fun P h => by cases h⟩
    have h1 := mlC_good hf hg hf h0 _ (Nat.le_refl _)
    have h2 := mlC_good hf hg hg h1 _ (Nat.le_refl _)
    have h3 := mlA_good hf hg h2 _ (Nat.le_refl _)
    refine srt2_ext h3.1.1 hsC fun Q => ?_
    rw [hmC Q]
    constructor
    · exact fun z => (h3.1.2 Q z).1
    · intro z
      obtain ⟨pq, p1, rt, r1, hcr, ⟨x1, y1⟩, -⟩ := mtP_edges hf hg z
      obtain ⟨j, hj, ej⟩ := List.mem_iff_getElem.mp p1
      obtain ⟨i, hi, ei⟩ := List.mem_iff_getElem.mp r1
      have hfl : (mEf f).length = (edL f).length := by
        rw [mEf_map hf, List.length_map, edL_is hf]
      have := h3.2 j (by omega) hj i hi (by rw [ej, ei]; exact hcr) (by rw [ej, ei, x1, y1]; exact z)
      rw [ej, ei, x1, y1] at this
      exact this
