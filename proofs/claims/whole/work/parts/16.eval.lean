/-! ===== an evaluator for the constructors: the memory as lists ===== -/
/-- kinds, numbers, references -/
abbrev cS : Type := List (Nat × Nat) × List (List Int) × List (List (Option Nat))
def cN (l : List (List Int)) (a k : Nat) : Int := (l.getD a []).getD k 0
def cR (l : List (List (Option Nat))) (a k : Nat) : Option Nat := (l.getD a []).getD k none
def cSet {α : Type} (l : List (List α)) (a k : Nat) (v : α) : List (List α) := l.set a ((l.getD a []).set k v)
def toS (M0 : mM) (S : cS) : mS := (S.1, cR S.2.2, fun a k => if a < S.1.length then cN S.2.1 a k else M0 a k)
def i32b (x : Int) : Bool := decide (-2147483648 ≤ x) && decide (x ≤ 2147483647)
def cPut (S : cS) (a k : Nat) (x : Int) (f : cS → Option (Option mV × cS)) : Option (Option mV × cS) :=
  if a < S.1.length ∧ a < S.2.1.length ∧ k < (S.2.1.getD a []).length then f (S.1, cSet S.2.1 a k x, S.2.2) else none
def cPutR (S : cS) (a k : Nat) (x : Option Nat) (f : cS → Option (Option mV × cS)) : Option (Option mV × cS) :=
  if a < S.2.2.length ∧ k < (S.2.2.getD a []).length then f (S.1, S.2.1, cSet S.2.2 a k x) else none
def cNew (S : cS) (kd : Nat × Nat) : cS := (S.1 ++ [kd], S.2.1 ++ [List.replicate (mSz kd) 0], S.2.2 ++ [List.replicate (mSz kd) none])
def evs (nn : mN) (call : Nat → List mV → cS → Option (Option mV × cS)) (cd : mQ) : Nat → Nat → List mV → List mV → cS → Option (Option mV × cS)
  | 0, _, _, _, _ => none
  | n + 1, pc, ls, st, S => match mAt cd pc with
    | none => none
    | some (i, nx) => match i, st with
      | .iconst v, st => evs nn call cd n nx ls (vI v :: st) S
      | .sipush v, st => evs nn call cd n nx ls (vL v :: st) S
      | .iload j, st => match ls[j]? with
        | some (.inl x) => evs nn call cd n nx ls (vI x :: st) S
        | _ => none
      | .aload j, st => match ls[j]? with
        | some (.inr (.inr (some x))) => evs nn call cd n nx ls (vR x :: st) S
        | _ => none
      | .istore j, .inl x :: r => if j < ls.length then evs nn call cd n nx (setL ls j (vI x)) r S else none
      | .astore j, .inr (.inr (some x)) :: r => if j < ls.length then evs nn call cd n nx (setL ls j (vR x)) r S else none
      | .iinc j d, st => match ls[j]? with
        | some (.inl x) => evs nn call cd n nx (setL ls j (vI (x + d))) st S
        | _ => none
      | .iadd, .inl b :: .inl a :: r => evs nn call cd n nx ls (vI (a + b) :: r) S
      | .if_icmp c t, .inl b :: .inl a :: r => if i32b a = true ∧ i32b b = true then evs nn call cd n (cond (cmpI c a b) t.toNat nx) ls r S else none
      | .goto t, st => evs nn call cd n t.toNat ls st S
      | .dup, v :: r => if mcat v = 1 then evs nn call cd n nx ls (v :: v :: r) S else none
      | .nop, .inr (.inr (some _)) :: r => if (r.map mcat).sum ≤ 8 then evs nn call cd n nx ls r S else none
      | .multianewarray c f, .inr (.inr (some a)) :: r => if S.1[a]? = some (0, c) then evs nn call cd n nx ls (mfv (toS (fun _ _ => 0) S) a f (mfk c f) :: r) S else none
      | .invokeinterface c f, .inl x :: .inr (.inr (some a)) :: r => if S.1[a]? = some (0, c) ∧ (mfk c f = 0 ∨ (mfk c f = 3 ∧ (x = 0 ∨ x = 1))) then cPut S a f x (evs nn call cd n nx ls r) else none
      | .invokeinterface c f, .inr (.inl x) :: .inr (.inr (some a)) :: r => if S.1[a]? = some (0, c) ∧ mfk c f = 1 then cPut S a f x (evs nn call cd n nx ls r) else none
      | .invokeinterface c f, .inr (.inr (some x)) :: .inr (.inr (some a)) :: r => if S.1[a]? = some (0, c) ∧ mfk c f = 2 ∧ x < S.1.length then cPutR S a f (some x) (evs nn call cd n nx ls r) else none
      | .iastore, .inl x :: .inl i :: .inr (.inr (some a)) :: r => match S.1[a]? with
        | some (1, m) => if 0 ≤ i ∧ i < m then cPut S a i.toNat x (evs nn call cd n nx ls r) else none
        | _ => none
      | .aastore, .inr (.inr (some x)) :: .inl i :: .inr (.inr (some a)) :: r => match S.1[a]? with
        | some (t, m) => if ((t = 4 ∧ S.1[x]? = some (0, 3)) ∨ (t = 5 ∧ S.1[x]? = some (0, 0))) ∧ 0 ≤ i ∧ i < m then cPutR S a i.toNat (some x) (evs nn call cd n nx ls r) else none
        | none => none
      | .arraylength, .inr (.inr (some a)) :: r => match S.1[a]? with
        | some (t, m) => if 1 ≤ t ∧ t ≤ 5 then evs nn call cd n nx ls (vI m :: r) S else none
        | none => none
      | .new c, st => if c < 11 then evs nn call cd n nx ls (vR S.1.length :: st) (cNew S (0, c)) else none
      | .newarray t, .inl x :: r => if 0 ≤ x ∧ x < 10000 then evs nn call cd n nx ls (vR S.1.length :: r) (cNew S ((match t with | .int => 1 | .long => 2 | _ => 3), x.toNat)) else none
      | .anewarray t, .inl x :: r => if 0 ≤ x ∧ x < 10000 ∧ t ≠ 0 then evs nn call cd n nx ls (vR S.1.length :: r) (cNew S (t, x.toNat)) else none
      | .invokestatic y, st => if (nn y).1 ≤ st.length ∧ ((st.drop (nn y).1).map mcat).sum ≤ 8 ∧ (nn y).2 = none then match call y (st.take (nn y).1).reverse S with
          | some (r, S1) => evs nn call cd n nx ls (r.toList ++ st.drop (nn y).1) S1
          | none => none
        else none
      | .invokevirtual y, st => if (nn y).1 ≤ st.length ∧ ((st.drop (nn y).1).map mcat).sum ≤ 8 then match (nn y).2, (st.take (nn y).1).reverse with
          | some c, .inr (.inr (some a)) :: as => if S.1[a]? = some (0, c) then match call y (.inr (.inr (some a)) :: as) S with
            | some (r, S1) => evs nn call cd n nx ls (r.toList ++ st.drop (nn y).1) S1
            | none => none
            else none
          | _, _ => none
        else none
      | .invokespecial y, st => if (nn y).1 ≤ st.length ∧ ((st.drop (nn y).1).map mcat).sum ≤ 8 then match (nn y).2, (st.take (nn y).1).reverse with
          | some c, .inr (.inr (some a)) :: as => if S.1[a]? = some (0, c) then match call y (.inr (.inr (some a)) :: as) S with
            | some (r, S1) => evs nn call cd n nx ls (r.toList ++ st.drop (nn y).1) S1
            | none => none
            else none
          | _, _ => none
        else none
      | .ireturn, [.inl x] => some (some (vI x), S)
      | .return_, [] => some (none, S)
      | _, _ => none
def evc (X : Nat → mX) (n : Nat) : Nat → Nat → List mV → cS → Option (Option mV × cS)
  | 0, _, _, _ => none
  | d + 1, y, as, S => if (mEnt as).length ≤ (X y).2.2.1 then evs (mNof X) (evc X n d) (X y).2.2.2.2.2.2.2 n 0 (mEnt as ++ List.replicate ((X y).2.2.1 - (mEnt as).length) vN) [] S else none
theorem cN_set {l : List (List Int)} {a k : Nat} {v : Int} (h1 : a < l.length) (h2 : k < (l.getD a []).length) (b j : Nat) : cN (cSet l a k v) b j = if b = a ∧ j = k then v else cN l b j := by
  unfold cN cSet
  rw [List.getD_eq_getElem?_getD (l := l.set _ _), List.getElem?_set]
  by_cases hb : a = b
  · subst hb
    rw [if_pos rfl, if_pos h1]
    simp only [Option.getD_some]
    rw [List.getD_eq_getElem?_getD, List.getElem?_set]
    by_cases hj : k = j
    · subst hj
      rw [if_pos rfl, if_pos h2]; simp
    · rw [if_neg hj, if_neg (fun q => hj q.2.symm), ← List.getD_eq_getElem?_getD]
  · rw [if_neg hb, if_neg (fun q => hb q.1.symm), ← List.getD_eq_getElem?_getD]
theorem cR_set {l : List (List (Option Nat))} {a k : Nat} {v : Option Nat} (h1 : a < l.length) (h2 : k < (l.getD a []).length) (b j : Nat) : cR (cSet l a k v) b j = if b = a ∧ j = k then v else cR l b j := by
  unfold cR cSet
  rw [List.getD_eq_getElem?_getD (l := l.set _ _), List.getElem?_set]
  by_cases hb : a = b
  · subst hb
    rw [if_pos rfl, if_pos h1]
    simp only [Option.getD_some]
    rw [List.getD_eq_getElem?_getD, List.getElem?_set]
    by_cases hj : k = j
    · subst hj
      rw [if_pos rfl, if_pos h2]; simp
    · rw [if_neg hj, if_neg (fun q => hj q.2.symm), ← List.getD_eq_getElem?_getD]
  · rw [if_neg hb, if_neg (fun q => hb q.1.symm), ← List.getD_eq_getElem?_getD]
theorem toS_put {M0 : mM} {S : cS} {a k : Nat} {x : Int} (h0 : a < S.1.length) (h1 : a < S.2.1.length) (h2 : k < (S.2.1.getD a []).length) : toS M0 (S.1, cSet S.2.1 a k x, S.2.2) = ((toS M0 S).1, (toS M0 S).2.1, upI (toS M0 S).2.2 a k x) := by
  unfold toS
  congr 2
  funext b j
  unfold upI
  dsimp only
  rw [cN_set h1 h2]
  by_cases hb : b = a ∧ j = k
  · rw [if_pos hb, if_pos hb, hb.1, if_pos h0]
  · rw [if_neg hb, if_neg hb]
theorem toS_putR {M0 : mM} {S : cS} {a k : Nat} {x : Option Nat} (h1 : a < S.2.2.length) (h2 : k < (S.2.2.getD a []).length) : toS M0 (S.1, S.2.1, cSet S.2.2 a k x) = ((toS M0 S).1, upR (toS M0 S).2.1 a k x, (toS M0 S).2.2) := by
  unfold toS
  congr 2
  funext b j
  unfold upR
  exact cR_set h1 h2 b j
def cOK (S : cS) : Prop := S.2.1.length = S.1.length ∧ S.2.2.length = S.1.length
theorem cD_app {α : Type} {l : List (List α)} {n a : Nat} {v : α} : (l ++ [List.replicate n v]).getD a [] = if a < l.length then l.getD a [] else if a = l.length then List.replicate n v else [] := by
  rw [List.getD_eq_getElem?_getD, List.getElem?_append]
  by_cases h : a < l.length
  · rw [if_pos h, if_pos h, List.getD_eq_getElem?_getD]
  · rw [if_neg h, if_neg h]
    by_cases h2 : a = l.length
    · subst h2
      rw [Nat.sub_self, if_pos rfl]; rfl
    · rw [if_neg h2, List.getElem?_eq_none (by simp; omega)]; rfl
theorem getD_rep {α : Type} (n k : Nat) (v : α) : (List.replicate n v).getD k v = v := by
  rw [List.getD_eq_getElem?_getD, List.getElem?_replicate]
  split <;> rfl
theorem toS_new {M0 : mM} {S : cS} {kd : Nat × Nat} (h : cOK S) : toS M0 (cNew S kd) = ((toS M0 S).1 ++ [kd], clR (toS M0 S).2.1 (toS M0 S).1.length, clI (toS M0 S).2.2 (toS M0 S).1.length) := by
  unfold toS cNew
  dsimp only
  congr 2
  · funext b j
    unfold clR cR
    rw [cD_app, h.2]
    by_cases hb : b < S.1.length
    · rw [if_pos hb, if_neg (by omega)]
    · rw [if_neg hb]
      by_cases h2 : b = S.1.length
      · rw [if_pos h2, if_pos h2, getD_rep]
      · rw [if_neg h2, if_neg h2]
        have h5 := h.2
        rw [List.getD_eq_getElem?_getD (l := S.2.2), List.getElem?_eq_none (by omega)]
        rfl
  · funext b j
    unfold clI cN
    rw [cD_app, h.1, List.length_append]
    have e1 : ([kd] : List (Nat × Nat)).length = 1 := rfl
    rw [e1]
    dsimp only
    by_cases hb : b < S.1.length
    · rw [if_pos (by omega), if_pos hb, if_neg (by omega), if_pos hb]
    · rw [if_neg hb]
      by_cases h2 : b = S.1.length
      · rw [if_pos (by omega), if_pos h2, if_pos h2, getD_rep]
      · rw [if_neg (by omega), if_neg h2, if_neg hb]
theorem cOK_put {S : cS} {a k : Nat} {x : Int} (h : cOK S) : cOK (S.1, cSet S.2.1 a k x, S.2.2) := ⟨by unfold cSet; simp [h.1], h.2⟩
theorem cOK_putR {S : cS} {a k : Nat} {x : Option Nat} (h : cOK S) : cOK (S.1, S.2.1, cSet S.2.2 a k x) := ⟨h.1, by unfold cSet; simp [h.2]⟩
theorem cOK_new {S : cS} {kd : Nat × Nat} (h : cOK S) : cOK (cNew S kd) := ⟨by unfold cNew; simp [h.1], by unfold cNew; simp [h.2]⟩
theorem cPut_inv {S : cS} {a k : Nat} {x : Int} {f : cS → Option (Option mV × cS)} {o : Option mV × cS} (h : cPut S a k x f = some o) : a < S.1.length ∧ a < S.2.1.length ∧ k < (S.2.1.getD a []).length ∧ f (S.1, cSet S.2.1 a k x, S.2.2) = some o := by
  unfold cPut at h
  split at h
  · next q => exact ⟨q.1, q.2.1, q.2.2, h⟩
  · cases h
theorem cPutR_inv {S : cS} {a k : Nat} {x : Option Nat} {f : cS → Option (Option mV × cS)} {o : Option mV × cS} (h : cPutR S a k x f = some o) : a < S.2.2.length ∧ k < (S.2.2.getD a []).length ∧ f (S.1, S.2.1, cSet S.2.2 a k x) = some o := by
  unfold cPutR at h
  split at h
  · next q => exact ⟨q.1, q.2, h⟩
  · cases h
theorem i32b_ok {x : Int} (h : i32b x = true) : i32 x := by
  simp only [i32b, Bool.and_eq_true, decide_eq_true_eq] at h
  exact h
set_option maxHeartbeats 4000000 in
theorem evs_ok {nn : mN} {M0 : mM} {ccall : Nat → List mV → cS → Option (Option mV × cS)} {call : Nat → List mV → mS → Option mV → mS → Prop} {cd : mQ}
    (hc : ∀ y as S r S1, cOK S → ccall y as S = some (r, S1) → cOK S1 ∧ call y as (toS M0 S) r (toS M0 S1)) : ∀ (n pc : Nat) (ls st : List mV) (S : cS) (r : Option mV) (S1 : cS), cOK S → evs nn ccall cd n pc ls st S = some (r, S1) → cOK S1 ∧ Rs nn call cd (r, toS M0 S1) n pc ls st (toS M0 S)
  | 0, _, _, _, _, _, _, _, h => by cases h
  | n + 1, pc, ls, st, S, r, S1, hS, h => by
    have ih := evs_ok (nn := nn) (cd := cd) (M0 := M0) hc n
    have hnum : ∀ a k t, a < S.1.length → mfv (toS (fun _ _ => 0) S) a k t = mfv (toS M0 S) a k t := by
      intro a k t ha
      unfold mfv toS
      dsimp only
      rw [if_pos ha, if_pos ha]
    unfold evs at h
    unfold Rs
    split at h
    · cases h
    · next i nx hat =>
      rw [hat]
      dsimp only
      split at h
      · exact ih _ _ _ _ _ _ hS h
      · exact ih _ _ _ _ _ _ hS h
      · split at h
        · next j x hx =>
          obtain ⟨q1, q2⟩ := ih _ _ _ _ _ _ hS h
          exact ⟨q1, by show gI _ _ _; unfold gI; rw [hx]; exact q2⟩
        · cases h
      · split at h
        · next j x hx =>
          obtain ⟨q1, q2⟩ := ih _ _ _ _ _ _ hS h
          exact ⟨q1, by show gR _ _ _; unfold gR; rw [hx]; exact q2⟩
        · cases h
      · split at h
        · next hj =>
          obtain ⟨q1, q2⟩ := ih _ _ _ _ _ _ hS h
          exact ⟨q1, hj, q2⟩
        · cases h
      · split at h
        · next hj =>
          obtain ⟨q1, q2⟩ := ih _ _ _ _ _ _ hS h
          exact ⟨q1, hj, q2⟩
        · cases h
      · split at h
        · next j d x hx =>
          obtain ⟨q1, q2⟩ := ih _ _ _ _ _ _ hS h
          exact ⟨q1, by show gI _ _ _; unfold gI; rw [hx]; exact q2⟩
        · cases h
      · exact ih _ _ _ _ _ _ hS h
      · split at h
        · next hj =>
          obtain ⟨q1, q2⟩ := ih _ _ _ _ _ _ hS h
          exact ⟨q1, Or.inr ⟨i32b_ok hj.1, i32b_ok hj.2⟩, q2⟩
        · cases h
      · exact ih _ _ _ _ _ _ hS h
      · split at h
        · next hj =>
          obtain ⟨q1, q2⟩ := ih _ _ _ _ _ _ hS h
          exact ⟨q1, hj, q2⟩
        · cases h
      · split at h
        · next hj =>
          obtain ⟨q1, q2⟩ := ih _ _ _ _ _ _ hS h
          exact ⟨q1, hj, q2⟩
        · cases h
      · split at h
        · next hj =>
          obtain ⟨q1, q2⟩ := ih _ _ _ _ _ _ hS h
          rw [hnum _ _ _ (List.getElem?_eq_some_iff.mp hj).1] at q2
          exact ⟨q1, hj, q2⟩
        · cases h
      · split at h
        · next hj =>
          obtain ⟨p1, p2, p3, h⟩ := cPut_inv h
          obtain ⟨q1, q2⟩ := ih _ _ _ _ _ _ (cOK_put hS) h
          rw [toS_put p1 p2 p3] at q2
          refine ⟨q1, ?_⟩
          unfold stp
          dsimp only
          rcases hj.2 with e | ⟨e, hx⟩
          · rw [e]; exact ⟨hj.1, q2⟩
          · rw [e]; exact ⟨hj.1, hx, q2⟩
        · cases h
      · split at h
        · next hj =>
          obtain ⟨p1, p2, p3, h⟩ := cPut_inv h
          obtain ⟨q1, q2⟩ := ih _ _ _ _ _ _ (cOK_put hS) h
          rw [toS_put p1 p2 p3] at q2
          refine ⟨q1, ?_⟩
          unfold stp
          dsimp only
          rw [hj.2]; exact ⟨hj.1, q2⟩
        · cases h
      · split at h
        · next hj =>
          obtain ⟨p2, p3, h⟩ := cPutR_inv h
          obtain ⟨q1, q2⟩ := ih _ _ _ _ _ _ (cOK_putR hS) h
          rw [toS_putR p2 p3] at q2
          refine ⟨q1, ?_⟩
          unfold stp
          dsimp only
          rw [hj.2.1]; exact ⟨hj.1, hj.2.2, q2⟩
        · cases h
      · split at h
        · next m hm =>
          split at h
          · next hj =>
            obtain ⟨p1, p2, p3, h⟩ := cPut_inv h
            obtain ⟨q1, q2⟩ := ih _ _ _ _ _ _ (cOK_put hS) h
            rw [toS_put p1 p2 p3] at q2
            exact ⟨q1, m, hm, hj.1, hj.2, q2⟩
          · cases h
        · cases h
      · split at h
        · next t m hm =>
          split at h
          · next hj =>
            obtain ⟨p2, p3, h⟩ := cPutR_inv h
            obtain ⟨q1, q2⟩ := ih _ _ _ _ _ _ (cOK_putR hS) h
            rw [toS_putR p2 p3] at q2
            exact ⟨q1, m, t, hm, hj.1, hj.2.1, hj.2.2, q2⟩
          · cases h
        · cases h
      · split at h
        · next t m hm =>
          split at h
          · next hj =>
            obtain ⟨q1, q2⟩ := ih _ _ _ _ _ _ hS h
            exact ⟨q1, m, t, hm, hj.1, hj.2, q2⟩
          · cases h
        · cases h
      · split at h
        · next hj =>
          obtain ⟨q1, q2⟩ := ih _ _ _ _ _ _ (cOK_new hS) h
          rw [toS_new hS] at q2
          exact ⟨q1, hj, q2⟩
        · cases h
      · split at h
        · next hj =>
          obtain ⟨q1, q2⟩ := ih _ _ _ _ _ _ (cOK_new hS) h
          rw [toS_new hS] at q2
          exact ⟨q1, hj.1, hj.2, q2⟩
        · cases h
      · split at h
        · next hj =>
          obtain ⟨q1, q2⟩ := ih _ _ _ _ _ _ (cOK_new hS) h
          rw [toS_new hS] at q2
          exact ⟨q1, hj.1, hj.2.1, q2⟩
        · cases h
      · split at h
        · next hj =>
          split at h
          · next r2 S2 h2 =>
            obtain ⟨p1, p2⟩ := hc _ _ _ _ _ hS h2
            obtain ⟨q1, q2⟩ := ih _ _ _ _ _ _ p1 h
            exact ⟨q1, hj.1, hj.2.1, by rw [hj.2.2]; trivial, r2, _, p2, q2⟩
          · cases h
        · cases h
      · split at h
        · next hj =>
          split at h
          · next c a as e1 e2 =>
            split at h
            · next ha =>
              split at h
              · next r2 S2 h2 =>
                obtain ⟨p1, p2⟩ := hc _ _ _ _ _ hS h2
                obtain ⟨q1, q2⟩ := ih _ _ _ _ _ _ p1 h
                exact ⟨q1, hj.1, hj.2, by rw [e1, e2]; exact ha, r2, _, by rw [e2]; exact p2, q2⟩
              · cases h
            · cases h
          · cases h
        · cases h
      · split at h
        · next hj =>
          split at h
          · next c a as e1 e2 =>
            split at h
            · next ha =>
              split at h
              · next r2 S2 h2 =>
                obtain ⟨p1, p2⟩ := hc _ _ _ _ _ hS h2
                obtain ⟨q1, q2⟩ := ih _ _ _ _ _ _ p1 h
                exact ⟨q1, hj.1, hj.2, by rw [e1, e2]; exact ha, r2, _, by rw [e2]; exact p2, q2⟩
              · cases h
            · cases h
          · cases h
        · cases h
      · cases h
        exact ⟨hS, rfl, rfl⟩
      · cases h
        exact ⟨hS, rfl, rfl⟩
      · cases h
theorem evc_ok {X : Nat → mX} {M0 : mM} (n : Nat) : ∀ (d y : Nat) (as : List mV) (S : cS) (r : Option mV) (S1 : cS), cOK S → evc X n d y as S = some (r, S1) → cOK S1 ∧ Ev X d y as (toS M0 S) r (toS M0 S1)
  | 0, _, _, _, _, _, _, h => by cases h
  | d + 1, y, as, S, r, S1, hS, h => by
    unfold evc at h
    split at h
    · next hl =>
      obtain ⟨q1, q2⟩ := evs_ok (M0 := M0) (evc_ok n d) n _ _ _ _ _ _ hS h
      exact ⟨q1, hl, n, q2⟩
    · cases h
