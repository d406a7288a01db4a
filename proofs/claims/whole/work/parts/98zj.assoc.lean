/-! ===== rows in the order of their terms ===== -/
def prs : List (Nat × Nat) := (List.range 21).flatMap fun p => ((List.range 21).filter fun q => decide (p < q)).map fun q => (p, q)
theorem prs_srt : prs.Pairwise (fun a b => a.1 < b.1 ∨ (a.1 = b.1 ∧ a.2 < b.2)) := by decide +kernel
theorem prs_inB : ((List.range 21).all fun p => (List.range 21).all fun q => !decide (p < q) || prs.contains (p, q)) = true := by decide +kernel
theorem prs_in {p q : Nat} (hp : p < 21) (hq : q < 21) (h : p < q) : (p, q) ∈ prs := by
  have h1 := List.all_eq_true.mp prs_inB p (List.mem_range.mpr hp)
  have h2 := List.all_eq_true.mp h1 q (List.mem_range.mpr hq)
  rw [decide_eq_true h, Bool.not_true, Bool.false_or] at h2
  exact List.contains_iff_mem.mp h2
theorem prs_of : ∀ x ∈ prs, x.1 < x.2 ∧ x.2 < 21 := by decide +kernel
def asL (φ : Nat × Nat → Option (Nat → Int)) : List (Nat → Int) := prs.filterMap φ
def kyd (φ : Nat × Nat → Option (Nat → Int)) : Prop := ∀ k e, φ k = some e → e 0 = (k.1 : Int) ∧ e 1 = (k.2 : Int)
theorem posE_app {p q : Int} {R2 : List (Nat → Int)} : ∀ {R : List (Nat → Int)}, (∀ e ∈ R, ltE p q e = true) → posE p q (R ++ R2) = R.length + posE p q R2
  | [], _ => (Nat.zero_add _).symm
  | e :: R, h => by
    rw [List.cons_append, posE, if_pos (h e List.mem_cons_self), posE_app (R := R) (fun d hd => h d (List.mem_cons_of_mem _ hd)), List.length_cons]
    omega
theorem posE_0 {p q : Int} {R : List (Nat → Int)} (h : ∀ e, R[0]? = some e → ltE p q e = false) : posE p q R = 0 := by
  cases R with
  | nil => rfl
  | cons e R =>
    rw [posE, if_neg (by rw [h e rfl]; decide)]
theorem get_mid {A : Type} {e : A} {B : List A} : ∀ (L : List A), (L ++ e :: B)[L.length]? = some e
  | [] => rfl
  | a :: L => get_mid L
theorem get_mid0 {A : Type} {B : List A} : ∀ (L : List A), (L ++ B)[L.length]? = B[0]?
  | [] => rfl
  | a :: L => get_mid0 L
theorem set_mid {A : Type} {e d : A} {B : List A} : ∀ (L : List A), (L ++ e :: B).set L.length d = L ++ d :: B
  | [] => rfl
  | a :: L => by
    show a :: (L ++ e :: B).set L.length d = a :: (L ++ d :: B)
    rw [set_mid L]
theorem take_mid {A : Type} {B : List A} : ∀ (L : List A), (L ++ B).take L.length = L
  | [] => rfl
  | a :: L => by
    show a :: (L ++ B).take L.length = a :: L
    rw [take_mid L]
theorem drop_mid {A : Type} {B : List A} : ∀ (L : List A), (L ++ B).drop L.length = B
  | [] => rfl
  | a :: L => drop_mid L
theorem ltE_iff {p q : Int} {e : Nat → Int} : ltE p q e = true ↔ (e 0 < p ∨ (e 0 = p ∧ e 1 < q)) := by
  unfold ltE
  rw [Bool.or_eq_true, Bool.and_eq_true, decide_eq_true_eq, decide_eq_true_eq, decide_eq_true_eq]
theorem prs_split {x : Nat × Nat} (hx : x ∈ prs) : ∃ A B, prs = A ++ x :: B ∧ (∀ a ∈ A, a.1 < x.1 ∨ (a.1 = x.1 ∧ a.2 < x.2)) ∧ ∀ b ∈ B, x.1 < b.1 ∨ (x.1 = b.1 ∧ x.2 < b.2) := by
  obtain ⟨A, B, h⟩ := List.append_of_mem hx
  have hs := prs_srt
  rw [h] at hs
  have h2 := List.pairwise_append.mp hs
  have h3 := List.pairwise_cons.mp h2.2.1
  exact ⟨A, B, h, fun a ha => h2.2.2 a ha x List.mem_cons_self, fun b hb => h3.1 b hb⟩
theorem fm_mem {φ : Nat × Nat → Option (Nat → Int)} {A : List (Nat × Nat)} {e : Nat → Int} (h : e ∈ A.filterMap φ) : ∃ k ∈ A, φ k = some e := List.mem_filterMap.mp h
theorem fm_get {φ : Nat × Nat → Option (Nat → Int)} {A : List (Nat × Nat)} {n : Nat} {e : Nat → Int} (h : (A.filterMap φ)[n]? = some e) : ∃ k ∈ A, φ k = some e := fm_mem (List.mem_of_getElem? h)
theorem as_split {φ : Nat × Nat → Option (Nat → Int)} {x : Nat × Nat} {A B : List (Nat × Nat)} (h : prs = A ++ x :: B) : asL φ = A.filterMap φ ++ ((φ x).toList ++ B.filterMap φ) := by
  unfold asL
  rw [h, List.filterMap_append, List.filterMap_cons]
  cases φ x with
  | none => rfl
  | some e => rfl
theorem fm_congr {A B : Type} {f g : A → Option B} : ∀ (l : List A), (∀ x ∈ l, f x = g x) → l.filterMap f = l.filterMap g
  | [], _ => rfl
  | a :: l, h => by
    rw [List.filterMap_cons, List.filterMap_cons, h a List.mem_cons_self, fm_congr l (fun x hx => h x (List.mem_cons_of_mem _ hx))]
/-- putting a row to its place -/
theorem put_as {φ : Nat × Nat → Option (Nat → Int)} {x : Nat × Nat} (hx : x ∈ prs) (hk : kyd φ) (R2 : (Nat → Int) → (Nat → Int)) (new : Nat → Int) (put : List (Nat → Int) → List (Nat → Int)) (hput : ∀ R, put R = match R[posE x.1 x.2 R]? with
    | some e => if e 0 = (x.1 : Int) ∧ e 1 = (x.2 : Int) then R.set (posE x.1 x.2 R) (R2 e) else R.take (posE x.1 x.2 R) ++ new :: R.drop (posE x.1 x.2 R)
    | none => R.take (posE x.1 x.2 R) ++ new :: R.drop (posE x.1 x.2 R)) : put (asL φ) = asL (fun k => if k = x then some (match φ x with
    | some e => R2 e
    | none => new) else φ k) := by
  obtain ⟨A, B, hAB, hA, hB⟩ := prs_split hx
  have hl : ∀ e ∈ A.filterMap φ, ltE (x.1 : Int) (x.2 : Int) e = true := by
    intro e he
    obtain ⟨k, k1, k2⟩ := fm_mem he
    have := hk k e k2
    have := hA k k1
    rw [ltE_iff]
    omega
  have hr : ∀ (n : Nat) (e : Nat → Int), (B.filterMap φ)[n]? = some e → ltE (x.1 : Int) (x.2 : Int) e = false ∧ ¬ (e 0 = (x.1 : Int) ∧ e 1 = (x.2 : Int)) := by
    intro n e he
    obtain ⟨k, k1, k2⟩ := fm_get he
    have := hk k e k2
    have := hB k k1
    refine ⟨Bool.eq_false_iff.mpr fun z => ?_, by omega⟩
    rw [ltE_iff] at z
    omega
  have neA : ∀ k ∈ A, k ≠ x := by
    rintro k k1 rfl
    have := hA k k1
    omega
  have neB : ∀ k ∈ B, k ≠ x := by
    rintro k k1 rfl
    have := hB k k1
    omega
  rw [hput, as_split hAB, as_split hAB]
  rw [fm_congr (g := φ) A (fun k k1 => if_neg (neA k k1)), fm_congr (g := φ) B (fun k k1 => if_neg (neB k k1))]
  rw [if_pos rfl]
  cases hφ : φ x with
  | some e =>
    have hke := hk x e hφ
    rw [show (some e).toList ++ B.filterMap φ = e :: B.filterMap φ from rfl]
    have hp : posE (x.1 : Int) (x.2 : Int) (A.filterMap φ ++ e :: B.filterMap φ) = (A.filterMap φ).length := by
      rw [posE_app hl, posE_0 (fun d hd => ?_)]
      · rfl
      · have hd : e = d := Option.some.inj hd
        rw [← hd]
        refine Bool.eq_false_iff.mpr fun z => ?_
        rw [ltE_iff] at z
        omega
    rw [hp, get_mid]
    dsimp only
    rw [if_pos hke, set_mid]
    rfl
  | none =>
    rw [show (none : Option (Nat → Int)).toList ++ B.filterMap φ = B.filterMap φ from rfl]
    have hp : posE (x.1 : Int) (x.2 : Int) (A.filterMap φ ++ B.filterMap φ) = (A.filterMap φ).length := by
      rw [posE_app hl, posE_0 (fun d hd => (hr 0 d hd).1)]
      rfl
    rw [hp, get_mid0, take_mid, drop_mid]
    cases e0 : (B.filterMap φ)[0]? with
    | none => rfl
    | some d =>
      dsimp only
      rw [if_neg (hr 0 d e0).2]
      rfl
theorem sdPut_as {φ : Nat × Nat → Option (Nat → Int)} {x : Nat × Nat} (hx : x ∈ prs) (hk : kyd φ) (c u v : Int) : sdPut (asL φ) x.1 x.2 c u v = asL (fun k => if k = x then some (match φ x with
    | some e => sR e 3 c
    | none => frE x.1 x.2 c u v) else φ k) :=
  put_as hx hk (fun e => sR e 3 c) (frE x.1 x.2 c u v) (fun R => sdPut R x.1 x.2 c u v) (fun _ => rfl)
theorem lnPut_as {φ : Nat × Nat → Option (Nat → Int)} {x : Nat × Nat} (hx : x ∈ prs) (hk : kyd φ) (u v : Int) : lnPut (asL φ) x.1 x.2 u v = asL (fun k => if k = x then some (match φ x with
    | some e => sR (sR e 4 u) 5 v
    | none => frE x.1 x.2 (-1000000) u v) else φ k) :=
  put_as hx hk (fun e => sR (sR e 4 u) 5 v) (frE x.1 x.2 (-1000000) u v) (fun R => lnPut R x.1 x.2 u v) (fun _ => rfl)
theorem kyd_put {φ : Nat × Nat → Option (Nat → Int)} {x : Nat × Nat} {e : Nat → Int} (hk : kyd φ) (he : e 0 = (x.1 : Int) ∧ e 1 = (x.2 : Int)) : kyd (fun k => if k = x then some e else φ k) := by
  intro k d h
  by_cases z : k = x
  · have h : (if k = x then some e else φ k) = some d := h
    rw [if_pos z] at h
    cases h
    rw [z]
    exact he
  · have h : (if k = x then some e else φ k) = some d := h
    rw [if_neg z] at h
    exact hk k d h
