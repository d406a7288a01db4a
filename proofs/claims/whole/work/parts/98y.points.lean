/-! ===== what leads at a point ===== -/
theorem i_np {a b : Int} (ha : 0 ≤ a) (hb : b ≤ 0) : a * b ≤ 0 := by
  have := Int.mul_nonneg ha (show 0 ≤ -b by omega)
  rw [Int.mul_neg] at this
  omega
theorem i_pn0 {a b : Int} (ha : a ≤ 0) (hb : 0 ≤ b) : a * b ≤ 0 := by
  rw [Int.mul_comm]
  exact i_np hb ha
theorem i_nn {a b : Int} (ha : a < 0) (hb : b < 0) : 0 < a * b := by
  have := Int.mul_pos (show 0 < -a by omega) (show 0 < -b by omega)
  rw [Int.neg_mul, Int.mul_neg] at this
  omega
theorem i_pn {a b : Int} (ha : 0 < a) (hb : b < 0) : a * b < 0 := by
  have := Int.mul_pos ha (show 0 < -b by omega)
  rw [Int.mul_neg] at this
  omega
theorem i_pos_r {a b : Int} (h : 0 < a * b) (ha : 0 < a) : 0 < b := by
  rcases Int.lt_or_le 0 b with z | z
  · exact z
  · have := i_np (Int.le_of_lt ha) z
    omega
def vd (f : Cv) (k : Nat) (x y d : Int) : Int := wv (cv f k) k x y d
def LdD (f : Cv) (x y d : Int) (k : Nat) : Prop := hasF f k = true ∧ ∀ j, hasF f j = true → vd f k x y d ≤ vd f j x y d
theorem hasF_cv {f : Cv} {k : Nat} (h : hasF f k = true) : f k = some (cv f k) := by
  unfold hasF at h
  unfold cv
  cases e : f k with
  | none => rw [e] at h; cases h
  | some c => rfl
theorem hasF_of {f : Cv} {k : Nat} {c : Int} (h : f k = some c) : hasF f k = true ∧ cv f k = c := by
  unfold hasF cv
  rw [h]
  exact ⟨rfl, rfl⟩
theorem lead_iff {f : Cv} {B x y d : Int} {k : Nat} (hf : Cok B f) : (leadF f x y d).testBit k = true ↔ LdD f x y d k := by
  rw [lead_tb]
  constructor
  · rintro ⟨hk, c, h1, h2⟩
    obtain ⟨h3, h4⟩ := hasF_of h1
    refine ⟨h3, fun j hj => ?_⟩
    have hj2 := hasF_cv hj
    have h5 := (minF_some h2).2 j _ (hf j _ hj2).1 hj2
    unfold vd
    rw [h4]
    exact h5
  · rintro ⟨h1, h2⟩
    have h3 := hasF_cv h1
    have hk := (hf k _ h3).1
    refine ⟨hk, _, h3, minF_eq ⟨k, _, hk, h3, rfl⟩ fun j c hj hc => ?_⟩
    obtain ⟨h5, h6⟩ := hasF_of hc
    have := h2 j h5
    unfold vd at this
    rw [h6] at this
    exact this
def vl (f : Cv) (k : Nat) (X Y : Int) : Int := 720720 * cv f k + pi k * X + pj k * Y
def LdP (f : Cv) (X Y : Int) (k : Nat) : Prop := hasF f k = true ∧ ∀ j, hasF f j = true → vl f k X Y ≤ vl f j X Y
theorem led_iff {f : Cv} {B X Y : Int} {k : Nat} (hf : Cok B f) : (ledW f X Y).testBit k = true ↔ LdP f X Y k := lead_iff hf
/-- three terms not on one line tell the same at one point only -/
theorem one_point {a b c d x y : Int} (h1 : a * x + b * y = 0) (h2 : c * x + d * y = 0) (h0 : a * d - b * c ≠ 0) : x = 0 ∧ y = 0 := by
  have e1 : (a * d - b * c) * x = 0 := by grind
  have e2 : (a * d - b * c) * y = 0 := by grind
  exact ⟨(Int.mul_eq_zero.mp e1).resolve_left h0, (Int.mul_eq_zero.mp e2).resolve_left h0⟩
theorem tri_point {f : Cv} {p q r : Nat} {X Y X2 Y2 : Int} (h0 : turn p q r ≠ 0) (h1 : vl f p X Y = vl f q X Y) (h2 : vl f p X Y = vl f r X Y) (h3 : vl f p X2 Y2 = vl f q X2 Y2) (h4 : vl f p X2 Y2 = vl f r X2 Y2) : X = X2 ∧ Y = Y2 := by
  unfold vl at h1 h2 h3 h4
  unfold turn at h0
  have e := one_point (a := pi q - pi p) (b := pj q - pj p) (c := pi r - pi p) (d := pj r - pj p) (x := X - X2) (y := Y - Y2) (by grind) (by grind) h0
  omega
/-- places with weights -/
def rW : List (Nat × Int) → Int
  | [] => 0
  | a :: u => a.2 + rW u
def rX : List (Nat × Int) → Int
  | [] => 0
  | a :: u => a.2 * pi a.1 + rX u
def rY : List (Nat × Int) → Int
  | [] => 0
  | a :: u => a.2 * pj a.1 + rY u
def rC (f : Cv) : List (Nat × Int) → Int
  | [] => 0
  | a :: u => a.2 * cv f a.1 + rC f u
def rV (f : Cv) (X Y : Int) : List (Nat × Int) → Int
  | [] => 0
  | a :: u => a.2 * vl f a.1 X Y + rV f X Y u
theorem rV_eq (f : Cv) (X Y : Int) : ∀ u, rV f X Y u = 720720 * rC f u + X * rX u + Y * rY u
  | [] => by simp [rV, rC, rX, rY]
  | a :: u => by
    rw [rV, rV_eq f X Y u, rC, rX, rY]
    unfold vl
    grind
def rOK (f : Cv) (X Y F : Int) (u : List (Nat × Int)) : Prop := ∀ a ∈ u, 0 < a.2 ∧ hasF f a.1 = true ∧ vl f a.1 X Y = F
theorem rV_at {f : Cv} {X Y F : Int} : ∀ {u}, rOK f X Y F u → rV f X Y u = F * rW u
  | [], _ => by simp [rV, rW]
  | a :: u, h => by
    rw [rV, rW, rV_at (u := u) (fun b hb => h b (List.mem_cons_of_mem _ hb)), (h a List.mem_cons_self).2.2]
    grind
theorem rV_ge {f : Cv} {X Y F : Int} : ∀ {u : List (Nat × Int)}, (∀ a ∈ u, 0 < a.2 ∧ F ≤ vl f a.1 X Y) → F * rW u ≤ rV f X Y u ∧ (rV f X Y u ≤ F * rW u → ∀ a ∈ u, vl f a.1 X Y = F)
  | [], _ => ⟨by simp [rV, rW], fun _ a ha => by cases ha⟩
  | a :: u, h => by
    have ih := rV_ge (u := u) (fun b hb => h b (List.mem_cons_of_mem _ hb))
    obtain ⟨h1, h2⟩ := h a List.mem_cons_self
    have h3 : a.2 * F ≤ a.2 * vl f a.1 X Y := Int.mul_le_mul_of_nonneg_left h2 (Int.le_of_lt h1)
    have e : F * (a.2 + rW u) = a.2 * F + F * rW u := by grind
    rw [rV, rW, e]
    refine ⟨by omega, fun hh => ?_⟩
    have h4 : a.2 * vl f a.1 X Y = a.2 * F := by omega
    have h5 := Int.eq_of_mul_eq_mul_left (by omega) h4
    intro b hb
    rcases List.mem_cons.mp hb with z | z
    · rw [z]; exact h5
    · exact ih.2 (by omega) b z
/-- two ways to take one point apart lead at the same points -/
theorem rep_opt {f g : Cv} {X Y X2 Y2 F G F2 G2 : Int} {u v u2 v2 : List (Nat × Int)} (hF : ∀ k, hasF f k = true → F ≤ vl f k X Y) (hG : ∀ k, hasF g k = true → G ≤ vl g k X Y) (hF2 : ∀ k, hasF f k = true → F2 ≤ vl f k X2 Y2) (hG2 : ∀ k, hasF g k = true → G2 ≤ vl g k X2 Y2) (hu : rOK f X Y F u) (hv : rOK g X Y G v) (hu2 : rOK f X2 Y2 F2 u2) (hv2 : rOK g X2 Y2 G2 v2) (wu : rW u = rW u2) (wv : rW v = rW v2) (mx : rX u + rX v = rX u2 + rX v2) (my : rY u + rY v = rY u2 + rY v2) : (∀ a ∈ u2, vl f a.1 X Y = F) ∧ ∀ a ∈ v2, vl g a.1 X Y = G := by
  have a1 := rV_at hu
  have a2 := rV_at hv
  have a3 := rV_at hu2
  have a4 := rV_at hv2
  have b1 := rV_ge (F := F) (X := X) (Y := Y) (fun a ha => ⟨(hu2 a ha).1, hF _ (hu2 a ha).2.1⟩)
  have b2 := rV_ge (F := G) (X := X) (Y := Y) (fun a ha => ⟨(hv2 a ha).1, hG _ (hv2 a ha).2.1⟩)
  have b3 := rV_ge (F := F2) (X := X2) (Y := Y2) (fun a ha => ⟨(hu a ha).1, hF2 _ (hu a ha).2.1⟩)
  have b4 := rV_ge (F := G2) (X := X2) (Y := Y2) (fun a ha => ⟨(hv a ha).1, hG2 _ (hv a ha).2.1⟩)
  rw [rV_eq] at a1 a2 a3 a4 b1 b2 b3 b4
  rw [wu] at a1 b3
  rw [wv] at a2 b4
  have m1 : X * rX u + X * rX v = X * rX u2 + X * rX v2 := by rw [← Int.mul_add, ← Int.mul_add, mx]
  have m2 : Y * rY u + Y * rY v = Y * rY u2 + Y * rY v2 := by rw [← Int.mul_add, ← Int.mul_add, my]
  have m3 : X2 * rX u + X2 * rX v = X2 * rX u2 + X2 * rX v2 := by rw [← Int.mul_add, ← Int.mul_add, mx]
  have m4 : Y2 * rY u + Y2 * rY v = Y2 * rY u2 + Y2 * rY v2 := by rw [← Int.mul_add, ← Int.mul_add, my]
  have c1 := b1.1
  have c2 := b2.1
  have c3 := b3.1
  have c4 := b4.1
  refine ⟨b1.2 (by omega), b2.2 (by omega)⟩
