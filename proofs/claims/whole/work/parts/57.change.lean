/-! ===== put, drop, move, mirror, join, times ===== -/
theorem selF_set {a : Int} {h : Cv} {s : Sta} (ha : a = 0 ∨ a = 1) : selF a (setS a h s).2.1 (setS a h s).2.2.1 = h := by
  rcases ha with rfl | rfl <;> rfl
theorem Cok_up {B v : Int} {f : Cv} {p : Nat} (hf : Cok B f) (hp : p < 21) (hpl : p / 5 + p % 5 ≤ 4) (hv : -B ≤ v ∧ v ≤ B) : Cok B (upF f p (some v)) := fun k c hk => by
  unfold upF at hk
  split at hk
  · next q => cases hk; subst q; exact ⟨hp, hpl, hv⟩
  · exact hf k c hk
theorem Cok_dn {B : Int} {f : Cv} {p : Nat} (hf : Cok B f) : Cok B (upF f p none) := fun k c hk => by
  unfold upF at hk
  split at hk
  · cases hk
  · exact hf k c hk
theorem Cok_range {B : Int} {f : Cv} (hf : Cok B f) (h : rangeF f 21 = true) : Cok 999 f := fun k c hk => ⟨(hf k c hk).1, (hf k c hk).2.1, (rangeF_iff 21).mp h k c (hf k c hk).1 hk⟩
theorem Cok_move {f : Cv} {dx dy : Int} (hf : Cok 999 f) (hx : -99 ≤ dx ∧ dx ≤ 99) (hy : -99 ≤ dy ∧ dy ≤ 99) : Cok 2000 (moveF f dx dy) := fun k c hk => by
  unfold moveF at hk
  cases e : f k with
  | none => rw [e] at hk; cases hk
  | some v =>
    rw [e] at hk
    have h1 : v - downF dx dy k = c := by injection hk
    have h2 := hf k v e
    have b1 := pi_le (p := k) (by omega)
    have b2 := pj_le k
    have m1 := mul_le4 (c := 99) hx b1
    have m2 := mul_le4 (c := 99) hy b2
    have h3 : downF dx dy k = dx * pi k + dy * pj k := by unfold downF; rw [Int.mul_comm (pi k), Int.mul_comm (pj k)]
    refine ⟨h2.1, h2.2.1, ?_⟩
    omega
theorem Cok_mir {f : Cv} (hf : Cok 999 f) : Cok 999 (mirF f) := fun k c hk => by
  unfold mirF at hk
  split at hk
  · next q =>
    have h2 := hf _ c hk
    have h3 := mir_mir k q
    have h4 := mir_pl (mir k) h3.2 h2.2.1
    rw [h3.1] at h4
    exact ⟨h4.1, h4.2, h2.2.2⟩
  · cases hk
def putOK (i j v : Int) : Bool := decide ((0 ≤ i ∧ 0 ≤ j ∧ i ≤ 4 ∧ j ≤ 4 - i) ∧ -999 ≤ v ∧ v ≤ 999)
def dPut (a i j v : Int) (s : Sta) : Int × Sta := if isCu a = true then (if putOK i j v = true then (((cntF (upF (selF a s.2.1 s.2.2.1) (plN i j) (some v)) : Nat) : Int), setS a (upF (selF a s.2.1 s.2.2.1) (plN i j) (some v)) (remS s)) else (-1000002, s)) else (-1000001, s)
theorem c_put {n : Nat} {s : Sta} {M : mM} {a i j v : Int} (c : CI n s M) (ha : i32 a) (hi : i32 i) (hj : i32 j) (hv : i32 v) : EQ 12 48 [vR 0, vI a, vI i, vI j, vI v] M (CQ (n + 1) M (dPut a i j v s).1 (dPut a i j v s).2) := by
  refine q_in (ls := [vR 0, vI a, vI i, vI j, vI v]) mq_48 (ml_48 rfl) rfl fun D hD => ?_
  unfold dPut
  by_cases q : isCu a = true
  · rw [if_pos q]
    have q := isCu_iff.mp q
    by_cases qp : putOK i j v = true
    · rw [if_pos qp]
      obtain ⟨qp, qv⟩ := of_decide_eq_true qp
      obtain ⟨e1, e2, e3⟩ := plN_ok qp
      have hre := e_rem c
      have hf := Cok_sel (a := a) c.2.1.2.1 c.2.1.2.2
      have hh := Cok_up hf e2 e3 qv
      have ht := isT_tOf a
      have ht0 := ht.1
      have hof := fun N => e_of9 N q
      have hset := fun (N : mM) (w1 : CI n (remS s) N) => Tw_set (p := plN i j) (o := some v) (cur_sel (a := a) w1.2.1.1)
      have hgo := fun (N : mM) (w1 : CI n (remS s) N) => CI_set w1 q hh (hset N w1)
      refine w_iload rfl rfl ?_
      refine w_call (Or.inl rfl) (e_isCurve1 M q) (by omega) nof_37 rfl rfl rfl rfl trivial rfl ?_
      refine w_if_ne (tgt := 10) rfl (by first | assumption | exact i32_0 | (unfold i32 at *; omega)) rfl (fun _ => ?_) (fun c => absurd c (by decide))
      refine w_iload rfl rfl (w_iload rfl rfl ?_)
      refine w_call (Or.inl rfl) (e_isPlace1 M qp) (by omega) nof_38 rfl rfl rfl rfl trivial rfl ?_
      refine w_if_eq (tgt := 29) rfl (by first | assumption | exact i32_0 | (unfold i32 at *; omega)) rfl (fun c => absurd c (by decide)) (fun _ => ?_)
      refine w_iload rfl rfl (w_iconst rfl ?_)
      refine w_call (Or.inl rfl) (e_isWithin1 M (by omega) qv) (by omega) nof_40 rfl rfl rfl rfl trivial rfl ?_
      refine w_if_ne (tgt := 32) rfl (by first | assumption | exact i32_0 | (unfold i32 at *; omega)) rfl (fun _ => ?_) (fun c => absurd c (by decide))
      refine w_aload rfl rfl (w_getR rfl (by first | rfl | assumption) rfl (by first | rfl | assumption) (w_aload rfl rfl (w_getR rfl (by first | rfl | assumption) rfl (by first | rfl | assumption) ?_)))
      refine w_callQ (Or.inr rfl) (hre) (by omega) nof_49 rfl rfl rfl rfl (by first | rfl | (show cKB[_]? = _; assumption)) (fun r40 M40 hq40 => ?_)
      obtain ⟨rfl, w1, w2⟩ := hq40
      have hsz := e_size ht (hset M40 w1).1 (by decide) hh
      refine w_aload rfl rfl (w_getR rfl (by first | rfl | assumption) rfl (by first | rfl | assumption) (w_iload rfl rfl ?_))
      refine w_call (Or.inr rfl) ((hof _)) (by omega) nof_24 rfl rfl rfl rfl (by first | rfl | (show cKB[_]? = _; assumption)) rfl ?_
      refine w_iconst rfl (w_iload rfl rfl (w_imul rfl (w_iload rfl rfl (w_iadd rfl ?_))))
      rw [e1]
      refine w_iload rfl rfl ?_
      refine w_call (Or.inr rfl) ((e_set ht e2)) (by omega) nof_32 rfl rfl rfl rfl (by first | rfl | (show cKB[_]? = _; assumption)) rfl ?_
      refine w_aload rfl rfl (w_getR rfl (by first | rfl | assumption) rfl (by first | rfl | assumption) (w_iload rfl rfl ?_))
      refine w_call (Or.inr rfl) ((hof _)) (by omega) nof_24 rfl rfl rfl rfl (by first | rfl | (show cKB[_]? = _; assumption)) rfl ?_
      refine w_call (Or.inr rfl) ((hsz)) (by omega) nof_41 rfl rfl rfl rfl (by first | rfl | (show cKB[_]? = _; assumption)) rfl ?_
      exact w_ireturn rfl ⟨by first | rfl | (congr 2; omega), by exact ⟨(hgo _ w1).1, fun a ha => by rw [(hgo _ w1).2 a ha]; exact funext fun k => w2 a (by omega) k⟩⟩
    · rw [if_neg qp]
      have qp := of_decide_eq_false (Bool.eq_false_iff.mpr qp)
      by_cases v1 : isPl i j
      · have v2 : ¬ (-999 ≤ v ∧ v ≤ 999) := fun z => qp ⟨v1, z⟩
        refine w_iload rfl rfl ?_
        refine w_call (Or.inl rfl) (e_isCurve1 M q) (by omega) nof_37 rfl rfl rfl rfl trivial rfl ?_
        refine w_if_ne (tgt := 10) rfl (by first | assumption | exact i32_0 | (unfold i32 at *; omega)) rfl (fun _ => ?_) (fun c => absurd c (by decide))
        refine w_iload rfl rfl (w_iload rfl rfl ?_)
        refine w_call (Or.inl rfl) (e_isPlace1 M v1) (by omega) nof_38 rfl rfl rfl rfl trivial rfl ?_
        refine w_if_eq (tgt := 29) rfl (by first | assumption | exact i32_0 | (unfold i32 at *; omega)) rfl (fun c => absurd c (by decide)) (fun _ => ?_)
        refine w_iload rfl rfl (w_iconst rfl ?_)
        refine w_call (Or.inl rfl) (e_isWithin0 M hv (by omega) v2) (by omega) nof_40 rfl rfl rfl rfl trivial rfl ?_
        refine w_if_ne (tgt := 32) rfl (by first | assumption | exact i32_0 | (unfold i32 at *; omega)) rfl (fun c => absurd c (by decide)) (fun _ => ?_)
        refine w_iconst rfl ?_
        exact w_ireturn rfl ⟨by first | rfl | (congr 2; omega), by exact CI_same c (Nat.le_succ n)⟩
      · skip
        refine w_iload rfl rfl ?_
        refine w_call (Or.inl rfl) (e_isCurve1 M q) (by omega) nof_37 rfl rfl rfl rfl trivial rfl ?_
        refine w_if_ne (tgt := 10) rfl (by first | assumption | exact i32_0 | (unfold i32 at *; omega)) rfl (fun _ => ?_) (fun c => absurd c (by decide))
        refine w_iload rfl rfl (w_iload rfl rfl ?_)
        refine w_call (Or.inl rfl) (e_isPlace0 M hi hj v1) (by omega) nof_38 rfl rfl rfl rfl trivial rfl ?_
        refine w_if_eq (tgt := 29) rfl (by first | assumption | exact i32_0 | (unfold i32 at *; omega)) rfl (fun _ => ?_) (fun c => absurd c (by decide))
        refine w_iconst rfl ?_
        exact w_ireturn rfl ⟨by first | rfl | (congr 2; omega), by exact CI_same c (Nat.le_succ n)⟩
  · rw [if_neg q]
    have q : ¬ (a = 0 ∨ a = 1) := fun z => q (isCu_iff.mpr z)
    refine w_iload rfl rfl ?_
    refine w_call (Or.inl rfl) (e_isCurve0 M ha q) (by omega) nof_37 rfl rfl rfl rfl trivial rfl ?_
    refine w_if_ne (tgt := 10) rfl (by first | assumption | exact i32_0 | (unfold i32 at *; omega)) rfl (fun c => absurd c (by decide)) (fun _ => ?_)
    refine w_iconst rfl ?_
    exact w_ireturn rfl ⟨by first | rfl | (congr 2; omega), by exact CI_same c (Nat.le_succ n)⟩
def dDrop (a i j : Int) (s : Sta) : Int × Sta := if isCu a = true then (if isPlB i j = true then (if hasF (selF a s.2.1 s.2.2.1) (plN i j) = true then (((cntF (upF (selF a s.2.1 s.2.2.1) (plN i j) none) : Nat) : Int), setS a (upF (selF a s.2.1 s.2.2.1) (plN i j) none) (remS s)) else (-1000003, s)) else (-1000002, s)) else (-1000001, s)
theorem c_drop {n : Nat} {s : Sta} {M : mM} {a i j : Int} (c : CI n s M) (ha : i32 a) (hi : i32 i) (hj : i32 j) : EQ 12 51 [vR 0, vI a, vI i, vI j] M (CQ (n + 1) M (dDrop a i j s).1 (dDrop a i j s).2) := by
  refine q_in (ls := [vR 0, vI a, vI i, vI j, vN]) mq_51 (ml_51 rfl) rfl fun D hD => ?_
  unfold dDrop
  by_cases q : isCu a = true
  · rw [if_pos q]
    have q := isCu_iff.mp q
    by_cases qp : isPlB i j = true
    · rw [if_pos qp]
      have qp := isPlB_iff.mp qp
      obtain ⟨e1, e2, e3⟩ := plN_ok qp
      have hre := e_rem c
      have hf := Cok_sel (a := a) c.2.1.2.1 c.2.1.2.2
      have hh := Cok_dn (p := plN i j) hf
      have ht := isT_tOf a
      have ht0 := ht.1
      have hof := fun N => e_of9 N q
      have hset := fun (N : mM) (w1 : CI n (remS s) N) => Tw_set (p := plN i j) (o := none) (cur_sel (a := a) w1.2.1.1)
      have hgo := fun (N : mM) (w1 : CI n (remS s) N) => CI_set w1 q hh (hset N w1)
      have hha := e_hasX ht (cur_sel (a := a) c.2.1.1) hf (k := plN i j) (by omega)
      by_cases qh : hasF (selF a s.2.1 s.2.2.1) (plN i j) = true
      · rw [if_pos qh] at hha ⊢
        refine w_iload rfl rfl ?_
        refine w_call (Or.inl rfl) (e_isCurve1 M q) (by omega) nof_37 rfl rfl rfl rfl trivial rfl ?_
        refine w_if_ne (tgt := 10) rfl (by first | assumption | exact i32_0 | (unfold i32 at *; omega)) rfl (fun _ => ?_) (fun c => absurd c (by decide))
        refine w_iload rfl rfl (w_iload rfl rfl ?_)
        refine w_call (Or.inl rfl) (e_isPlace1 M qp) (by omega) nof_38 rfl rfl rfl rfl trivial rfl ?_
        refine w_if_ne (tgt := 21) rfl (by first | assumption | exact i32_0 | (unfold i32 at *; omega)) rfl (fun _ => ?_) (fun c => absurd c (by decide))
        refine w_iconst rfl (w_iload rfl rfl (w_imul rfl (w_iload rfl rfl (w_iadd rfl ?_))))
        rw [e1]
        refine w_istore (ls2 := [_, _, _, _, _]) rfl rfl rfl (w_aload rfl rfl (w_getR rfl (by first | rfl | assumption) rfl (by first | rfl | assumption) (w_iload rfl rfl ?_)))
        refine w_call (Or.inr rfl) ((hof _)) (by omega) nof_24 rfl rfl rfl rfl (by first | rfl | (show cKB[_]? = _; assumption)) rfl ?_
        refine w_iload rfl rfl ?_
        refine w_call (Or.inr rfl) ((hha)) (by omega) nof_30 rfl rfl rfl rfl (by first | rfl | (show cKB[_]? = _; assumption)) rfl ?_
        refine w_if_ne (tgt := 47) rfl (by first | assumption | exact i32_0 | (unfold i32 at *; omega)) rfl (fun _ => ?_) (fun c => absurd c (by decide))
        refine w_aload rfl rfl (w_getR rfl (by first | rfl | assumption) rfl (by first | rfl | assumption) (w_aload rfl rfl (w_getR rfl (by first | rfl | assumption) rfl (by first | rfl | assumption) ?_)))
        refine w_callQ (Or.inr rfl) (hre) (by omega) nof_49 rfl rfl rfl rfl (by first | rfl | (show cKB[_]? = _; assumption)) (fun r55 M55 hq55 => ?_)
        obtain ⟨rfl, w1, w2⟩ := hq55
        have hsz := e_size ht (hset M55 w1).1 (by decide) hh
        refine w_aload rfl rfl (w_getR rfl (by first | rfl | assumption) rfl (by first | rfl | assumption) (w_iload rfl rfl ?_))
        refine w_call (Or.inr rfl) ((hof _)) (by omega) nof_24 rfl rfl rfl rfl (by first | rfl | (show cKB[_]? = _; assumption)) rfl ?_
        refine w_iload rfl rfl (w_iconst rfl ?_)
        refine w_call (Or.inr rfl) ((e_set ht e2)) (by omega) nof_32 rfl rfl rfl rfl (by first | rfl | (show cKB[_]? = _; assumption)) rfl ?_
        refine w_aload rfl rfl (w_getR rfl (by first | rfl | assumption) rfl (by first | rfl | assumption) (w_iload rfl rfl ?_))
        refine w_call (Or.inr rfl) ((hof _)) (by omega) nof_24 rfl rfl rfl rfl (by first | rfl | (show cKB[_]? = _; assumption)) rfl ?_
        refine w_call (Or.inr rfl) ((hsz)) (by omega) nof_41 rfl rfl rfl rfl (by first | rfl | (show cKB[_]? = _; assumption)) rfl ?_
        exact w_ireturn rfl ⟨by first | rfl | (congr 2; omega), by exact ⟨(hgo _ w1).1, fun a ha => by rw [(hgo _ w1).2 a ha]; exact funext fun k => w2 a (by omega) k⟩⟩
      · rw [if_neg qh] at hha ⊢
        refine w_iload rfl rfl ?_
        refine w_call (Or.inl rfl) (e_isCurve1 M q) (by omega) nof_37 rfl rfl rfl rfl trivial rfl ?_
        refine w_if_ne (tgt := 10) rfl (by first | assumption | exact i32_0 | (unfold i32 at *; omega)) rfl (fun _ => ?_) (fun c => absurd c (by decide))
        refine w_iload rfl rfl (w_iload rfl rfl ?_)
        refine w_call (Or.inl rfl) (e_isPlace1 M qp) (by omega) nof_38 rfl rfl rfl rfl trivial rfl ?_
        refine w_if_ne (tgt := 21) rfl (by first | assumption | exact i32_0 | (unfold i32 at *; omega)) rfl (fun _ => ?_) (fun c => absurd c (by decide))
        refine w_iconst rfl (w_iload rfl rfl (w_imul rfl (w_iload rfl rfl (w_iadd rfl ?_))))
        rw [e1]
        refine w_istore (ls2 := [_, _, _, _, _]) rfl rfl rfl (w_aload rfl rfl (w_getR rfl (by first | rfl | assumption) rfl (by first | rfl | assumption) (w_iload rfl rfl ?_)))
        refine w_call (Or.inr rfl) ((hof _)) (by omega) nof_24 rfl rfl rfl rfl (by first | rfl | (show cKB[_]? = _; assumption)) rfl ?_
        refine w_iload rfl rfl ?_
        refine w_call (Or.inr rfl) ((hha)) (by omega) nof_30 rfl rfl rfl rfl (by first | rfl | (show cKB[_]? = _; assumption)) rfl ?_
        refine w_if_ne (tgt := 47) rfl (by first | assumption | exact i32_0 | (unfold i32 at *; omega)) rfl (fun c => absurd c (by decide)) (fun _ => ?_)
        refine w_iconst rfl ?_
        exact w_ireturn rfl ⟨by first | rfl | (congr 2; omega), by exact CI_same c (Nat.le_succ n)⟩
    · rw [if_neg qp]
      have qp : ¬ isPl i j := fun z => qp (isPlB_iff.mpr z)
      refine w_iload rfl rfl ?_
      refine w_call (Or.inl rfl) (e_isCurve1 M q) (by omega) nof_37 rfl rfl rfl rfl trivial rfl ?_
      refine w_if_ne (tgt := 10) rfl (by first | assumption | exact i32_0 | (unfold i32 at *; omega)) rfl (fun _ => ?_) (fun c => absurd c (by decide))
      refine w_iload rfl rfl (w_iload rfl rfl ?_)
      refine w_call (Or.inl rfl) (e_isPlace0 M hi hj qp) (by omega) nof_38 rfl rfl rfl rfl trivial rfl ?_
      refine w_if_ne (tgt := 21) rfl (by first | assumption | exact i32_0 | (unfold i32 at *; omega)) rfl (fun c => absurd c (by decide)) (fun _ => ?_)
      refine w_iconst rfl ?_
      exact w_ireturn rfl ⟨by first | rfl | (congr 2; omega), by exact CI_same c (Nat.le_succ n)⟩
  · rw [if_neg q]
    have q : ¬ (a = 0 ∨ a = 1) := fun z => q (isCu_iff.mpr z)
    refine w_iload rfl rfl ?_
    refine w_call (Or.inl rfl) (e_isCurve0 M ha q) (by omega) nof_37 rfl rfl rfl rfl trivial rfl ?_
    refine w_if_ne (tgt := 10) rfl (by first | assumption | exact i32_0 | (unfold i32 at *; omega)) rfl (fun c => absurd c (by decide)) (fun _ => ?_)
    refine w_iconst rfl ?_
    exact w_ireturn rfl ⟨by first | rfl | (congr 2; omega), by exact CI_same c (Nat.le_succ n)⟩
theorem tOf_14 (a : Int) : (14 ≠ tOf a ∧ 14 ≠ tOf a + 1 ∧ tOf a ≠ 14 + 1) ∧ (tOf a ≠ 14 ∧ tOf a ≠ 14 + 1 ∧ 14 ≠ tOf a + 1) ∧ (tOf a = 10 ∨ tOf a = 12) := by unfold tOf; split <;> decide
def movOK (dx dy : Int) : Bool := decide ((-99 ≤ dx ∧ dx ≤ 99) ∧ -99 ≤ dy ∧ dy ≤ 99)
def dMove (a dx dy : Int) (s : Sta) : Int × Sta := if isCu a = true then (if movOK dx dy = true then (if rangeF (moveF (selF a s.2.1 s.2.2.1) dx dy) 21 = true then (((moveC (selF a s.2.1 s.2.2.1) dx dy 21 : Nat) : Int), setS a (moveF (selF a s.2.1 s.2.2.1) dx dy) (remS s)) else (-1000003, s)) else (-1000002, s)) else (-1000001, s)
/-- the draft taken over after the past was kept -/
theorem e_takeDraft {n : Nat} {s : Sta} {a : Int} {h : Cv} {N : mM} (c : CI n (remS s) N) (ha : a = 0 ∨ a = 1) (hh : Cok 999 h) (hd : cur 14 h N) : EQ 1 34 [vR (tOf a), vR 14] N (fun r M1 => r = none ∧ (CI (n + 1) (setS a h (remS s)) M1 ∧ ∀ b, 155 ≤ b → M1 b = N b) ∧ cur 14 h M1) := by
  have h14 := (tOf_14 a).2.1
  have ht := (tOf_14 a).2.2
  refine (e_take (isT_tOf a) isT_14 h14.1 h14.2.1 h14.2.2 hd).imp fun r M1 w => ⟨w.1, CI_set c ha hh w.2, cur_fr hd (fun k => w.2.2.2.2 15 (by omega) (by omega) k)⟩
theorem c_move {n : Nat} {s : Sta} {M : mM} {a dx dy : Int} (c : CI n s M) (ha : i32 a) (hx : i32 dx) (hy : i32 dy) : EQ 12 52 [vR 0, vI a, vI dx, vI dy] M (CQ (n + 1) M (dMove a dx dy s).1 (dMove a dx dy s).2) := by
  refine q_in (ls := [vR 0, vI a, vI dx, vI dy, vN, vN]) mq_52 (ml_52 rfl) rfl fun D hD => ?_
  unfold dMove
  by_cases q : isCu a = true
  · rw [if_pos q]
    have q := isCu_iff.mp q
    by_cases qp : movOK dx dy = true
    · rw [if_pos qp]
      obtain ⟨qx, qy⟩ := of_decide_eq_true qp
      have hf := Cok_sel (a := a) c.2.1.2.1 c.2.1.2.2
      have ht := isT_tOf a
      have ht0 := ht.1
      have h14 := (tOf_14 a).1
      have hof := fun N => e_of9 N q
      have hmo := e_moved isT_14 ht h14.1 h14.2.1 h14.2.2 (cur_sel (a := a) c.2.1.1) hf qx qy
      have hc2 := Cok_move hf qx qy
      by_cases qr : rangeF (moveF (selF a s.2.1 s.2.2.1) dx dy) 21 = true
      · rw [if_pos qr]
        have hh := Cok_range hc2 qr
        have htk := fun (N : mM) (w1 : CI n (remS s) N) (w2 : cur 14 (moveF (selF a s.2.1 s.2.2.1) dx dy) N) => e_takeDraft w1 q hh w2
        refine w_iload rfl rfl ?_
        refine w_call (Or.inl rfl) (e_isCurve1 M q) (by omega) nof_37 rfl rfl rfl rfl trivial rfl ?_
        refine w_if_ne (tgt := 10) rfl (by first | assumption | exact i32_0 | (unfold i32 at *; omega)) rfl (fun _ => ?_) (fun c => absurd c (by decide))
        refine w_iload rfl rfl (w_iconst rfl ?_)
        refine w_call (Or.inl rfl) (e_isWithin1 M (by omega) qx) (by omega) nof_40 rfl rfl rfl rfl trivial rfl ?_
        refine w_if_eq (tgt := 28) rfl (by first | assumption | exact i32_0 | (unfold i32 at *; omega)) rfl (fun c => absurd c (by decide)) (fun _ => ?_)
        refine w_iload rfl rfl (w_iconst rfl ?_)
        refine w_call (Or.inl rfl) (e_isWithin1 M (by omega) qy) (by omega) nof_40 rfl rfl rfl rfl trivial rfl ?_
        refine w_if_ne (tgt := 31) rfl (by first | assumption | exact i32_0 | (unfold i32 at *; omega)) rfl (fun _ => ?_) (fun c => absurd c (by decide))
        refine w_aload rfl rfl (w_getR rfl (by first | rfl | assumption) rfl (by first | rfl | assumption) (w_iload rfl rfl ?_))
        refine w_call (Or.inr rfl) ((hof _)) (by omega) nof_24 rfl rfl rfl rfl (by first | rfl | (show cKB[_]? = _; assumption)) rfl ?_
        refine w_astore (ls2 := [_, _, _, _, _, _]) rfl rfl rfl (w_aload rfl rfl (w_getR rfl (by first | rfl | assumption) rfl (by first | rfl | assumption) (w_aload rfl rfl (w_iload rfl rfl (w_iload rfl rfl ?_)))))
        refine w_callQ (Or.inr rfl) (hmo) (by omega) nof_53 rfl rfl rfl rfl (by first | rfl | (show cKB[_]? = _; assumption)) (fun r49 M49 hq49 => ?_)
        obtain ⟨rfl, w⟩ := hq49
        have hir := e_inRange1 isT_14 w.1 (by decide) hc2 qr
        have c2 := CI_dr c w.2.2.2
        have hre := e_rem c2
        refine w_istore (ls2 := [_, _, _, _, _, _]) rfl rfl rfl (w_aload rfl rfl (w_getR rfl (by first | rfl | assumption) rfl (by first | rfl | assumption) ?_))
        refine w_call (Or.inr rfl) (e_inRange1 isT_14 w.1 (by decide) hc2 qr) (by omega) nof_54 rfl rfl rfl rfl (by first | rfl | (show cKB[_]? = _; assumption)) rfl ?_
        refine w_if_ne (tgt := 67) rfl (by first | assumption | exact i32_0 | (unfold i32 at *; omega)) rfl (fun _ => ?_) (fun c => absurd c (by decide))
        refine w_aload rfl rfl (w_getR rfl (by first | rfl | assumption) rfl (by first | rfl | assumption) (w_aload rfl rfl (w_getR rfl (by first | rfl | assumption) rfl (by first | rfl | assumption) ?_)))
        refine w_callQ (Or.inr rfl) (hre) (by omega) nof_49 rfl rfl rfl rfl (by first | rfl | (show cKB[_]? = _; assumption)) (fun r75 M75 hq75 => ?_)
        obtain ⟨rfl, w1, w2⟩ := hq75
        have htk := htk M75 w1 (cur_fr w.1 (fun k => w2 15 (by omega) k))
        refine w_aload rfl rfl (w_aload rfl rfl (w_getR rfl (by first | rfl | assumption) rfl (by first | rfl | assumption) ?_))
        refine w_callQ (Or.inr rfl) (htk) (by omega) nof_34 rfl rfl rfl rfl (by first | rfl | (show cKB[_]? = _; assumption)) (fun r84 M84 hq84 => ?_)
        obtain ⟨rfl, ⟨z1, z2⟩, z3⟩ := hq84
        refine w_iload rfl rfl ?_
        exact w_ireturn rfl ⟨by first | rfl | (congr 2; omega), by exact ⟨z1, fun b hb => by rw [z2 b hb]; exact funext fun k => by rw [w2 b (by omega) k, w.2.2.2 b (by omega) (by omega) k]⟩⟩
      · rw [if_neg qr]
        have qr := Bool.eq_false_iff.mpr qr
        refine w_iload rfl rfl ?_
        refine w_call (Or.inl rfl) (e_isCurve1 M q) (by omega) nof_37 rfl rfl rfl rfl trivial rfl ?_
        refine w_if_ne (tgt := 10) rfl (by first | assumption | exact i32_0 | (unfold i32 at *; omega)) rfl (fun _ => ?_) (fun c => absurd c (by decide))
        refine w_iload rfl rfl (w_iconst rfl ?_)
        refine w_call (Or.inl rfl) (e_isWithin1 M (by omega) qx) (by omega) nof_40 rfl rfl rfl rfl trivial rfl ?_
        refine w_if_eq (tgt := 28) rfl (by first | assumption | exact i32_0 | (unfold i32 at *; omega)) rfl (fun c => absurd c (by decide)) (fun _ => ?_)
        refine w_iload rfl rfl (w_iconst rfl ?_)
        refine w_call (Or.inl rfl) (e_isWithin1 M (by omega) qy) (by omega) nof_40 rfl rfl rfl rfl trivial rfl ?_
        refine w_if_ne (tgt := 31) rfl (by first | assumption | exact i32_0 | (unfold i32 at *; omega)) rfl (fun _ => ?_) (fun c => absurd c (by decide))
        refine w_aload rfl rfl (w_getR rfl (by first | rfl | assumption) rfl (by first | rfl | assumption) (w_iload rfl rfl ?_))
        refine w_call (Or.inr rfl) ((hof _)) (by omega) nof_24 rfl rfl rfl rfl (by first | rfl | (show cKB[_]? = _; assumption)) rfl ?_
        refine w_astore (ls2 := [_, _, _, _, _, _]) rfl rfl rfl (w_aload rfl rfl (w_getR rfl (by first | rfl | assumption) rfl (by first | rfl | assumption) (w_aload rfl rfl (w_iload rfl rfl (w_iload rfl rfl ?_)))))
        refine w_callQ (Or.inr rfl) (hmo) (by omega) nof_53 rfl rfl rfl rfl (by first | rfl | (show cKB[_]? = _; assumption)) (fun r49 M49 hq49 => ?_)
        obtain ⟨rfl, w⟩ := hq49
        have c2 := CI_dr c w.2.2.2
        refine w_istore (ls2 := [_, _, _, _, _, _]) rfl rfl rfl (w_aload rfl rfl (w_getR rfl (by first | rfl | assumption) rfl (by first | rfl | assumption) ?_))
        refine w_call (Or.inr rfl) (e_inRange0 isT_14 w.1 (by decide) hc2 qr) (by omega) nof_54 rfl rfl rfl rfl (by first | rfl | (show cKB[_]? = _; assumption)) rfl ?_
        refine w_if_ne (tgt := 67) rfl (by first | assumption | exact i32_0 | (unfold i32 at *; omega)) rfl (fun c => absurd c (by decide)) (fun _ => ?_)
        refine w_iconst rfl ?_
        exact w_ireturn rfl ⟨by first | rfl | (congr 2; omega), by exact ⟨CI_up c2 (Nat.le_succ n), fun b hb => funext fun k => w.2.2.2 b (by omega) (by omega) k⟩⟩
    · rw [if_neg qp]
      have qp := of_decide_eq_false (Bool.eq_false_iff.mpr qp)
      by_cases v1 : -99 ≤ dx ∧ dx ≤ 99
      · have v2 : ¬ (-99 ≤ dy ∧ dy ≤ 99) := fun z => qp ⟨v1, z⟩
        refine w_iload rfl rfl ?_
        refine w_call (Or.inl rfl) (e_isCurve1 M q) (by omega) nof_37 rfl rfl rfl rfl trivial rfl ?_
        refine w_if_ne (tgt := 10) rfl (by first | assumption | exact i32_0 | (unfold i32 at *; omega)) rfl (fun _ => ?_) (fun c => absurd c (by decide))
        refine w_iload rfl rfl (w_iconst rfl ?_)
        refine w_call (Or.inl rfl) (e_isWithin1 M (by omega) v1) (by omega) nof_40 rfl rfl rfl rfl trivial rfl ?_
        refine w_if_eq (tgt := 28) rfl (by first | assumption | exact i32_0 | (unfold i32 at *; omega)) rfl (fun c => absurd c (by decide)) (fun _ => ?_)
        refine w_iload rfl rfl (w_iconst rfl ?_)
        refine w_call (Or.inl rfl) (e_isWithin0 M hy (by omega) v2) (by omega) nof_40 rfl rfl rfl rfl trivial rfl ?_
        refine w_if_ne (tgt := 31) rfl (by first | assumption | exact i32_0 | (unfold i32 at *; omega)) rfl (fun c => absurd c (by decide)) (fun _ => ?_)
        refine w_iconst rfl ?_
        exact w_ireturn rfl ⟨by first | rfl | (congr 2; omega), by exact CI_same c (Nat.le_succ n)⟩
      · skip
        refine w_iload rfl rfl ?_
        refine w_call (Or.inl rfl) (e_isCurve1 M q) (by omega) nof_37 rfl rfl rfl rfl trivial rfl ?_
        refine w_if_ne (tgt := 10) rfl (by first | assumption | exact i32_0 | (unfold i32 at *; omega)) rfl (fun _ => ?_) (fun c => absurd c (by decide))
        refine w_iload rfl rfl (w_iconst rfl ?_)
        refine w_call (Or.inl rfl) (e_isWithin0 M hx (by omega) v1) (by omega) nof_40 rfl rfl rfl rfl trivial rfl ?_
        refine w_if_eq (tgt := 28) rfl (by first | assumption | exact i32_0 | (unfold i32 at *; omega)) rfl (fun _ => ?_) (fun c => absurd c (by decide))
        refine w_iconst rfl ?_
        exact w_ireturn rfl ⟨by first | rfl | (congr 2; omega), by exact CI_same c (Nat.le_succ n)⟩
  · rw [if_neg q]
    have q : ¬ (a = 0 ∨ a = 1) := fun z => q (isCu_iff.mpr z)
    refine w_iload rfl rfl ?_
    refine w_call (Or.inl rfl) (e_isCurve0 M ha q) (by omega) nof_37 rfl rfl rfl rfl trivial rfl ?_
    refine w_if_ne (tgt := 10) rfl (by first | assumption | exact i32_0 | (unfold i32 at *; omega)) rfl (fun c => absurd c (by decide)) (fun _ => ?_)
    refine w_iconst rfl ?_
    exact w_ireturn rfl ⟨by first | rfl | (congr 2; omega), by exact CI_same c (Nat.le_succ n)⟩
def dMirror (a : Int) (s : Sta) : Int × Sta := if isCu a = true then (((mirC (selF a s.2.1 s.2.2.1) 21 : Nat) : Int), setS a (mirF (selF a s.2.1 s.2.2.1)) (remS s)) else (-1000001, s)
theorem c_mirror {n : Nat} {s : Sta} {M : mM} {a : Int} (c : CI n s M) (ha : i32 a) : EQ 12 55 [vR 0, vI a] M (CQ (n + 1) M (dMirror a s).1 (dMirror a s).2) := by
  refine q_in (ls := [vR 0, vI a, vN, vN]) mq_55 (ml_55 rfl) rfl fun D hD => ?_
  unfold dMirror
  by_cases q : isCu a = true
  · rw [if_pos q]
    have q := isCu_iff.mp q
    have hf := Cok_sel (a := a) c.2.1.2.1 c.2.1.2.2
    have ht := isT_tOf a
    have ht0 := ht.1
    have h14 := (tOf_14 a).1
    have hof := fun N => e_of9 N q
    have hmo := e_mirrored isT_14 ht h14.1 h14.2.1 h14.2.2 (cur_sel (a := a) c.2.1.1) hf
    have hh := Cok_mir hf
    have htk := fun (N : mM) (w1 : CI n (remS s) N) (w2 : cur 14 (mirF (selF a s.2.1 s.2.2.1)) N) => e_takeDraft w1 q hh w2
    refine w_iload rfl rfl ?_
    refine w_call (Or.inl rfl) (e_isCurve1 M q) (by omega) nof_37 rfl rfl rfl rfl trivial rfl ?_
    refine w_if_ne (tgt := 10) rfl (by first | assumption | exact i32_0 | (unfold i32 at *; omega)) rfl (fun _ => ?_) (fun c => absurd c (by decide))
    refine w_aload rfl rfl (w_getR rfl (by first | rfl | assumption) rfl (by first | rfl | assumption) (w_iload rfl rfl ?_))
    refine w_call (Or.inr rfl) ((hof _)) (by omega) nof_24 rfl rfl rfl rfl (by first | rfl | (show cKB[_]? = _; assumption)) rfl ?_
    refine w_astore (ls2 := [_, _, _, _]) rfl rfl rfl (w_aload rfl rfl (w_getR rfl (by first | rfl | assumption) rfl (by first | rfl | assumption) (w_aload rfl rfl ?_)))
    refine w_callQ (Or.inr rfl) (hmo) (by omega) nof_56 rfl rfl rfl rfl (by first | rfl | (show cKB[_]? = _; assumption)) (fun r24 M24 hq24 => ?_)
    obtain ⟨rfl, w⟩ := hq24
    have c2 := CI_dr c w.2.2.2
    have hre := e_rem c2
    refine w_istore (ls2 := [_, _, _, _]) rfl rfl rfl (w_aload rfl rfl (w_getR rfl (by first | rfl | assumption) rfl (by first | rfl | assumption) (w_aload rfl rfl (w_getR rfl (by first | rfl | assumption) rfl (by first | rfl | assumption) ?_))))
    refine w_callQ (Or.inr rfl) (hre) (by omega) nof_49 rfl rfl rfl rfl (by first | rfl | (show cKB[_]? = _; assumption)) (fun r36 M36 hq36 => ?_)
    obtain ⟨rfl, w1, w2⟩ := hq36
    have htk := htk M36 w1 (cur_fr w.1 (fun k => w2 15 (by omega) k))
    refine w_aload rfl rfl (w_aload rfl rfl (w_getR rfl (by first | rfl | assumption) rfl (by first | rfl | assumption) ?_))
    refine w_callQ (Or.inr rfl) (htk) (by omega) nof_34 rfl rfl rfl rfl (by first | rfl | (show cKB[_]? = _; assumption)) (fun r44 M44 hq44 => ?_)
    obtain ⟨rfl, ⟨z1, z2⟩, z3⟩ := hq44
    refine w_iload rfl rfl ?_
    exact w_ireturn rfl ⟨by first | rfl | (congr 2; omega), by exact ⟨z1, fun b hb => by rw [z2 b hb]; exact funext fun k => by rw [w2 b (by omega) k, w.2.2.2 b (by omega) (by omega) k]⟩⟩
  · rw [if_neg q]
    have q : ¬ (a = 0 ∨ a = 1) := fun z => q (isCu_iff.mpr z)
    refine w_iload rfl rfl ?_
    refine w_call (Or.inl rfl) (e_isCurve0 M ha q) (by omega) nof_37 rfl rfl rfl rfl trivial rfl ?_
    refine w_if_ne (tgt := 10) rfl (by first | assumption | exact i32_0 | (unfold i32 at *; omega)) rfl (fun c => absurd c (by decide)) (fun _ => ?_)
    refine w_iconst rfl ?_
    exact w_ireturn rfl ⟨by first | rfl | (congr 2; omega), by exact CI_same c (Nat.le_succ n)⟩
def dJoin (a : Int) (s : Sta) : Int × Sta := if isCu a = true then (((cntF (joinF s.2.1 s.2.2.1) : Nat) : Int), setS a (joinF s.2.1 s.2.2.1) (remS s)) else (-1000001, s)
theorem c_join {n : Nat} {s : Sta} {M : mM} {a : Int} (c : CI n s M) (ha : i32 a) : EQ 12 57 [vR 0, vI a] M (CQ (n + 1) M (dJoin a s).1 (dJoin a s).2) := by
  refine q_in (ls := [vR 0, vI a]) mq_57 (ml_57 rfl) rfl fun D hD => ?_
  unfold dJoin
  by_cases q : isCu a = true
  · rw [if_pos q]
    have q := isCu_iff.mp q
    have ht := isT_tOf a
    have ht0 := ht.1
    have hof := fun N => e_of9 N q
    have hmo := e_joined isT_14 isT_10 isT_12 (by decide) (by decide) (by decide) (by decide) (by decide) (by decide) c.2.1.1.1 c.2.1.1.2 c.2.1.2.1 c.2.1.2.2
    have hh := Cok_join c.2.1.2.1 c.2.1.2.2
    have htk := fun (N : mM) (w1 : CI n (remS s) N) (w2 : cur 14 (joinF s.2.1 s.2.2.1) N) => e_takeDraft w1 q hh w2
    refine w_iload rfl rfl ?_
    refine w_call (Or.inl rfl) (e_isCurve1 M q) (by omega) nof_37 rfl rfl rfl rfl trivial rfl ?_
    refine w_if_ne (tgt := 10) rfl (by first | assumption | exact i32_0 | (unfold i32 at *; omega)) rfl (fun _ => ?_) (fun c => absurd c (by decide))
    refine w_aload rfl rfl (w_getR rfl (by first | rfl | assumption) rfl (by first | rfl | assumption) (w_aload rfl rfl (w_getR rfl (by first | rfl | assumption) rfl (by first | rfl | assumption) (w_getR rfl (by first | rfl | assumption) rfl (by first | rfl | assumption) (w_aload rfl rfl (w_getR rfl (by first | rfl | assumption) rfl (by first | rfl | assumption) (w_getR rfl (by first | rfl | assumption) rfl (by first | rfl | assumption) ?_)))))))
    refine w_callQ (Or.inr rfl) (hmo) (by omega) nof_58 rfl rfl rfl rfl (by first | rfl | (show cKB[_]? = _; assumption)) (fun r28 M28 hq28 => ?_)
    obtain ⟨rfl, w⟩ := hq28
    have c2 := CI_dr c w.2.2.2
    have hre := e_rem c2
    refine w_aload rfl rfl (w_getR rfl (by first | rfl | assumption) rfl (by first | rfl | assumption) (w_aload rfl rfl (w_getR rfl (by first | rfl | assumption) rfl (by first | rfl | assumption) ?_)))
    refine w_callQ (Or.inr rfl) (hre) (by omega) nof_49 rfl rfl rfl rfl (by first | rfl | (show cKB[_]? = _; assumption)) (fun r39 M39 hq39 => ?_)
    obtain ⟨rfl, w1, w2⟩ := hq39
    have htk := htk M39 w1 (cur_fr w.1 (fun k => w2 15 (by omega) k))
    refine w_aload rfl rfl (w_getR rfl (by first | rfl | assumption) rfl (by first | rfl | assumption) (w_iload rfl rfl ?_))
    refine w_call (Or.inr rfl) ((hof _)) (by omega) nof_24 rfl rfl rfl rfl (by first | rfl | (show cKB[_]? = _; assumption)) rfl ?_
    refine w_aload rfl rfl (w_getR rfl (by first | rfl | assumption) rfl (by first | rfl | assumption) ?_)
    refine w_callQ (Or.inr rfl) (htk) (by omega) nof_34 rfl rfl rfl rfl (by first | rfl | (show cKB[_]? = _; assumption)) (fun r54 M54 hq54 => ?_)
    obtain ⟨rfl, ⟨z1, z2⟩, z3⟩ := hq54
    refine w_aload rfl rfl (w_getR rfl (by first | rfl | assumption) rfl (by first | rfl | assumption) ?_)
    refine w_call (Or.inr rfl) ((e_size isT_14 z3 (by decide) hh)) (by omega) nof_41 rfl rfl rfl rfl (by first | rfl | (show cKB[_]? = _; assumption)) rfl ?_
    exact w_ireturn rfl ⟨by first | rfl | (congr 2; omega), by exact ⟨z1, fun b hb => by rw [z2 b hb]; exact funext fun k => by rw [w2 b (by omega) k, w.2.2.2 b (by omega) (by omega) k]⟩⟩
  · rw [if_neg q]
    have q : ¬ (a = 0 ∨ a = 1) := fun z => q (isCu_iff.mpr z)
    refine w_iload rfl rfl ?_
    refine w_call (Or.inl rfl) (e_isCurve0 M ha q) (by omega) nof_37 rfl rfl rfl rfl trivial rfl ?_
    refine w_if_ne (tgt := 10) rfl (by first | assumption | exact i32_0 | (unfold i32 at *; omega)) rfl (fun c => absurd c (by decide)) (fun _ => ?_)
    refine w_iconst rfl ?_
    exact w_ireturn rfl ⟨by first | rfl | (congr 2; omega), by exact CI_same c (Nat.le_succ n)⟩
def timesF (f g : Cv) : Option Cv := if cntF f = 0 ∨ cntF g = 0 then none else match prA f g 21 with
  | none => none
  | some h => if rangeF h 21 = true then some h else none
def dTimes (a : Int) (s : Sta) : Int × Sta := if isCu a = true then (match timesF s.2.1 s.2.2.1 with
  | none => (-1000003, s)
  | some h => (((cntF h : Nat) : Int), setS a h (remS s))) else (-1000001, s)
theorem c_times {n : Nat} {s : Sta} {M : mM} {a : Int} (c : CI n s M) (ha : i32 a) : EQ 12 59 [vR 0, vI a] M (CQ (n + 1) M (dTimes a s).1 (dTimes a s).2) := by
  refine q_in (ls := [vR 0, vI a]) mq_59 (ml_59 rfl) rfl fun D hD => ?_
  unfold dTimes
  by_cases q : isCu a = true
  · rw [if_pos q]
    have q := isCu_iff.mp q
    have ht := isT_tOf a
    have ht0 := ht.1
    have hof := fun N => e_of9 N q
    have sf := e_size isT_10 c.2.1.1.1 (by decide) c.2.1.2.1
    have sg := e_size isT_12 c.2.1.1.2 (by decide) c.2.1.2.2
    have lf := cntF_le s.2.1
    have lg := cntF_le s.2.2.1
    have hmo := e_product isT_14 isT_10 isT_12 (by decide) (by decide) (by decide) (by decide) (by decide) (by decide) c.2.1.1.1 c.2.1.1.2 c.2.1.2.1 c.2.1.2.2
    by_cases q0 : cntF s.2.1 = 0 ∨ cntF s.2.2.1 = 0
    · have e : timesF s.2.1 s.2.2.1 = none := if_pos q0
      rw [e]
      by_cases qf : cntF s.2.1 = 0
      · rw [qf] at sf
        refine w_iload rfl rfl ?_
        refine w_call (Or.inl rfl) (e_isCurve1 M q) (by omega) nof_37 rfl rfl rfl rfl trivial rfl ?_
        refine w_if_ne (tgt := 10) rfl (by first | assumption | exact i32_0 | (unfold i32 at *; omega)) rfl (fun _ => ?_) (fun c => absurd c (by decide))
        refine w_aload rfl rfl (w_getR rfl (by first | rfl | assumption) rfl (by first | rfl | assumption) (w_getR rfl (by first | rfl | assumption) rfl (by first | rfl | assumption) ?_))
        refine w_call (Or.inr rfl) ((sf)) (by omega) nof_41 rfl rfl rfl rfl (by first | rfl | (show cKB[_]? = _; assumption)) rfl ?_
        refine w_if_eq (tgt := 36) rfl (by first | assumption | exact i32_0 | (unfold i32 at *; omega)) rfl (fun _ => ?_) (fun c => absurd c (by decide))
        refine w_iconst rfl ?_
        exact w_ireturn rfl ⟨by first | rfl | (congr 2; omega), by exact CI_same c (Nat.le_succ n)⟩
      · have qg : cntF s.2.2.1 = 0 := by omega
        rw [qg] at sg
        refine w_iload rfl rfl ?_
        refine w_call (Or.inl rfl) (e_isCurve1 M q) (by omega) nof_37 rfl rfl rfl rfl trivial rfl ?_
        refine w_if_ne (tgt := 10) rfl (by first | assumption | exact i32_0 | (unfold i32 at *; omega)) rfl (fun _ => ?_) (fun c => absurd c (by decide))
        refine w_aload rfl rfl (w_getR rfl (by first | rfl | assumption) rfl (by first | rfl | assumption) (w_getR rfl (by first | rfl | assumption) rfl (by first | rfl | assumption) ?_))
        refine w_call (Or.inr rfl) ((sf)) (by omega) nof_41 rfl rfl rfl rfl (by first | rfl | (show cKB[_]? = _; assumption)) rfl ?_
        refine w_if_eq (tgt := 36) rfl (by first | assumption | exact i32_0 | (unfold i32 at *; omega)) rfl (fun c20 => ?_) (fun c20 => ?_)
        · exfalso; omega
        · skip
          refine w_aload rfl rfl (w_getR rfl (by first | rfl | assumption) rfl (by first | rfl | assumption) (w_getR rfl (by first | rfl | assumption) rfl (by first | rfl | assumption) ?_))
          refine w_call (Or.inr rfl) ((sg)) (by omega) nof_41 rfl rfl rfl rfl (by first | rfl | (show cKB[_]? = _; assumption)) rfl ?_
          refine w_if_ne (tgt := 39) rfl (by first | assumption | exact i32_0 | (unfold i32 at *; omega)) rfl (fun c => absurd c (by decide)) (fun _ => ?_)
          refine w_iconst rfl ?_
          exact w_ireturn rfl ⟨by first | rfl | (congr 2; omega), by exact CI_same c (Nat.le_succ n)⟩
    · cases ep : prA s.2.1 s.2.2.1 21 with
      | none =>
        have e : timesF s.2.1 s.2.2.1 = none := by unfold timesF; rw [if_neg q0, ep]
        rw [e]
        rw [ep] at hmo
        refine w_iload rfl rfl ?_
        refine w_call (Or.inl rfl) (e_isCurve1 M q) (by omega) nof_37 rfl rfl rfl rfl trivial rfl ?_
        refine w_if_ne (tgt := 10) rfl (by first | assumption | exact i32_0 | (unfold i32 at *; omega)) rfl (fun _ => ?_) (fun c => absurd c (by decide))
        refine w_aload rfl rfl (w_getR rfl (by first | rfl | assumption) rfl (by first | rfl | assumption) (w_getR rfl (by first | rfl | assumption) rfl (by first | rfl | assumption) ?_))
        refine w_call (Or.inr rfl) ((sf)) (by omega) nof_41 rfl rfl rfl rfl (by first | rfl | (show cKB[_]? = _; assumption)) rfl ?_
        refine w_if_eq (tgt := 36) rfl (by first | assumption | exact i32_0 | (unfold i32 at *; omega)) rfl (fun c20 => ?_) (fun c20 => ?_)
        · skip
          exfalso; omega
        · skip
          refine w_aload rfl rfl (w_getR rfl (by first | rfl | assumption) rfl (by first | rfl | assumption) (w_getR rfl (by first | rfl | assumption) rfl (by first | rfl | assumption) ?_))
          refine w_call (Or.inr rfl) ((sg)) (by omega) nof_41 rfl rfl rfl rfl (by first | rfl | (show cKB[_]? = _; assumption)) rfl ?_
          refine w_if_ne (tgt := 39) rfl (by first | assumption | exact i32_0 | (unfold i32 at *; omega)) rfl (fun c33 => ?_) (fun c33 => ?_)
          · skip
            refine w_aload rfl rfl (w_getR rfl (by first | rfl | assumption) rfl (by first | rfl | assumption) (w_aload rfl rfl (w_getR rfl (by first | rfl | assumption) rfl (by first | rfl | assumption) (w_getR rfl (by first | rfl | assumption) rfl (by first | rfl | assumption) (w_aload rfl rfl (w_getR rfl (by first | rfl | assumption) rfl (by first | rfl | assumption) (w_getR rfl (by first | rfl | assumption) rfl (by first | rfl | assumption) ?_)))))))
            refine w_callQ (Or.inr rfl) (hmo) (by omega) nof_60 rfl rfl rfl rfl (by first | rfl | (show cKB[_]? = _; assumption)) (fun r57 M57 hq57 => ?_)
            obtain ⟨rfl, w⟩ := hq57
            have c2 := CI_dr c w
            refine w_if_eq (tgt := 73) rfl (by first | assumption | exact i32_0 | (unfold i32 at *; omega)) rfl (fun _ => ?_) (fun c => absurd c (by decide))
            refine w_iconst rfl ?_
            exact w_ireturn rfl ⟨by first | rfl | (congr 2; omega), by exact ⟨CI_up c2 (Nat.le_succ n), fun b hb => funext fun k => w b (by omega) (by omega) k⟩⟩
          · skip
            exfalso; omega
      | some h =>
        rw [ep] at hmo
        have hB := Cok_prA c.2.1.2.1 c.2.1.2.2 21 h (Nat.le_refl _) ep
        by_cases qr : rangeF h 21 = true
        · have e : timesF s.2.1 s.2.2.1 = some h := by unfold timesF; rw [if_neg q0, ep]; exact if_pos qr
          rw [e]
          have hh := Cok_range hB qr
          have htk := fun (N : mM) (w1 : CI n (remS s) N) (w2 : cur 14 h N) => e_takeDraft w1 q hh w2
          refine w_iload rfl rfl ?_
          refine w_call (Or.inl rfl) (e_isCurve1 M q) (by omega) nof_37 rfl rfl rfl rfl trivial rfl ?_
          refine w_if_ne (tgt := 10) rfl (by first | assumption | exact i32_0 | (unfold i32 at *; omega)) rfl (fun _ => ?_) (fun c => absurd c (by decide))
          refine w_aload rfl rfl (w_getR rfl (by first | rfl | assumption) rfl (by first | rfl | assumption) (w_getR rfl (by first | rfl | assumption) rfl (by first | rfl | assumption) ?_))
          refine w_call (Or.inr rfl) ((sf)) (by omega) nof_41 rfl rfl rfl rfl (by first | rfl | (show cKB[_]? = _; assumption)) rfl ?_
          refine w_if_eq (tgt := 36) rfl (by first | assumption | exact i32_0 | (unfold i32 at *; omega)) rfl (fun c20 => ?_) (fun c20 => ?_)
          · skip
            exfalso; omega
          · skip
            refine w_aload rfl rfl (w_getR rfl (by first | rfl | assumption) rfl (by first | rfl | assumption) (w_getR rfl (by first | rfl | assumption) rfl (by first | rfl | assumption) ?_))
            refine w_call (Or.inr rfl) ((sg)) (by omega) nof_41 rfl rfl rfl rfl (by first | rfl | (show cKB[_]? = _; assumption)) rfl ?_
            refine w_if_ne (tgt := 39) rfl (by first | assumption | exact i32_0 | (unfold i32 at *; omega)) rfl (fun c33 => ?_) (fun c33 => ?_)
            · skip
              refine w_aload rfl rfl (w_getR rfl (by first | rfl | assumption) rfl (by first | rfl | assumption) (w_aload rfl rfl (w_getR rfl (by first | rfl | assumption) rfl (by first | rfl | assumption) (w_getR rfl (by first | rfl | assumption) rfl (by first | rfl | assumption) (w_aload rfl rfl (w_getR rfl (by first | rfl | assumption) rfl (by first | rfl | assumption) (w_getR rfl (by first | rfl | assumption) rfl (by first | rfl | assumption) ?_)))))))
              refine w_callQ (Or.inr rfl) (hmo) (by omega) nof_60 rfl rfl rfl rfl (by first | rfl | (show cKB[_]? = _; assumption)) (fun r57 M57 hq57 => ?_)
              obtain ⟨⟨rfl, w0⟩, w⟩ := hq57
              have c2 := CI_dr c w
              have hre := e_rem c2
              refine w_if_eq (tgt := 73) rfl (by first | assumption | exact i32_0 | (unfold i32 at *; omega)) rfl (fun c => absurd c (by decide)) (fun _ => ?_)
              refine w_aload rfl rfl (w_getR rfl (by first | rfl | assumption) rfl (by first | rfl | assumption) ?_)
              refine w_call (Or.inr rfl) (e_inRange1 isT_14 w0 (by decide) hB qr) (by omega) nof_54 rfl rfl rfl rfl (by first | rfl | (show cKB[_]? = _; assumption)) rfl ?_
              refine w_if_ne (tgt := 76) rfl (by first | assumption | exact i32_0 | (unfold i32 at *; omega)) rfl (fun _ => ?_) (fun c => absurd c (by decide))
              refine w_aload rfl rfl (w_getR rfl (by first | rfl | assumption) rfl (by first | rfl | assumption) (w_aload rfl rfl (w_getR rfl (by first | rfl | assumption) rfl (by first | rfl | assumption) ?_)))
              refine w_callQ (Or.inr rfl) (hre) (by omega) nof_49 rfl rfl rfl rfl (by first | rfl | (show cKB[_]? = _; assumption)) (fun r84 M84 hq84 => ?_)
              obtain ⟨rfl, w1, w2⟩ := hq84
              have htk := htk M84 w1 (cur_fr w0 (fun k => w2 15 (by omega) k))
              refine w_aload rfl rfl (w_getR rfl (by first | rfl | assumption) rfl (by first | rfl | assumption) (w_iload rfl rfl ?_))
              refine w_call (Or.inr rfl) ((hof _)) (by omega) nof_24 rfl rfl rfl rfl (by first | rfl | (show cKB[_]? = _; assumption)) rfl ?_
              refine w_aload rfl rfl (w_getR rfl (by first | rfl | assumption) rfl (by first | rfl | assumption) ?_)
              refine w_callQ (Or.inr rfl) (htk) (by omega) nof_34 rfl rfl rfl rfl (by first | rfl | (show cKB[_]? = _; assumption)) (fun r99 M99 hq99 => ?_)
              obtain ⟨rfl, ⟨z1, z2⟩, z3⟩ := hq99
              refine w_aload rfl rfl (w_getR rfl (by first | rfl | assumption) rfl (by first | rfl | assumption) ?_)
              refine w_call (Or.inr rfl) ((e_size isT_14 z3 (by decide) hh)) (by omega) nof_41 rfl rfl rfl rfl (by first | rfl | (show cKB[_]? = _; assumption)) rfl ?_
              exact w_ireturn rfl ⟨by first | rfl | (congr 2; omega), by exact ⟨z1, fun b hb => by rw [z2 b hb]; exact funext fun k => by rw [w2 b (by omega) k, w b (by omega) (by omega) k]⟩⟩
            · skip
              exfalso; omega
        · have e : timesF s.2.1 s.2.2.1 = none := by unfold timesF; rw [if_neg q0, ep]; exact if_neg qr
          rw [e]
          have qr := Bool.eq_false_iff.mpr qr
          refine w_iload rfl rfl ?_
          refine w_call (Or.inl rfl) (e_isCurve1 M q) (by omega) nof_37 rfl rfl rfl rfl trivial rfl ?_
          refine w_if_ne (tgt := 10) rfl (by first | assumption | exact i32_0 | (unfold i32 at *; omega)) rfl (fun _ => ?_) (fun c => absurd c (by decide))
          refine w_aload rfl rfl (w_getR rfl (by first | rfl | assumption) rfl (by first | rfl | assumption) (w_getR rfl (by first | rfl | assumption) rfl (by first | rfl | assumption) ?_))
          refine w_call (Or.inr rfl) ((sf)) (by omega) nof_41 rfl rfl rfl rfl (by first | rfl | (show cKB[_]? = _; assumption)) rfl ?_
          refine w_if_eq (tgt := 36) rfl (by first | assumption | exact i32_0 | (unfold i32 at *; omega)) rfl (fun c20 => ?_) (fun c20 => ?_)
          · skip
            exfalso; omega
          · skip
            refine w_aload rfl rfl (w_getR rfl (by first | rfl | assumption) rfl (by first | rfl | assumption) (w_getR rfl (by first | rfl | assumption) rfl (by first | rfl | assumption) ?_))
            refine w_call (Or.inr rfl) ((sg)) (by omega) nof_41 rfl rfl rfl rfl (by first | rfl | (show cKB[_]? = _; assumption)) rfl ?_
            refine w_if_ne (tgt := 39) rfl (by first | assumption | exact i32_0 | (unfold i32 at *; omega)) rfl (fun c33 => ?_) (fun c33 => ?_)
            · skip
              refine w_aload rfl rfl (w_getR rfl (by first | rfl | assumption) rfl (by first | rfl | assumption) (w_aload rfl rfl (w_getR rfl (by first | rfl | assumption) rfl (by first | rfl | assumption) (w_getR rfl (by first | rfl | assumption) rfl (by first | rfl | assumption) (w_aload rfl rfl (w_getR rfl (by first | rfl | assumption) rfl (by first | rfl | assumption) (w_getR rfl (by first | rfl | assumption) rfl (by first | rfl | assumption) ?_)))))))
              refine w_callQ (Or.inr rfl) (hmo) (by omega) nof_60 rfl rfl rfl rfl (by first | rfl | (show cKB[_]? = _; assumption)) (fun r57 M57 hq57 => ?_)
              obtain ⟨⟨rfl, w0⟩, w⟩ := hq57
              have c2 := CI_dr c w
              refine w_if_eq (tgt := 73) rfl (by first | assumption | exact i32_0 | (unfold i32 at *; omega)) rfl (fun c => absurd c (by decide)) (fun _ => ?_)
              refine w_aload rfl rfl (w_getR rfl (by first | rfl | assumption) rfl (by first | rfl | assumption) ?_)
              refine w_call (Or.inr rfl) (e_inRange0 isT_14 w0 (by decide) hB qr) (by omega) nof_54 rfl rfl rfl rfl (by first | rfl | (show cKB[_]? = _; assumption)) rfl ?_
              refine w_if_ne (tgt := 76) rfl (by first | assumption | exact i32_0 | (unfold i32 at *; omega)) rfl (fun c => absurd c (by decide)) (fun _ => ?_)
              refine w_iconst rfl ?_
              exact w_ireturn rfl ⟨by first | rfl | (congr 2; omega), by exact ⟨CI_up c2 (Nat.le_succ n), fun b hb => funext fun k => w b (by omega) (by omega) k⟩⟩
            · skip
              exfalso; omega
  · rw [if_neg q]
    have q : ¬ (a = 0 ∨ a = 1) := fun z => q (isCu_iff.mpr z)
    refine w_iload rfl rfl ?_
    refine w_call (Or.inl rfl) (e_isCurve0 M ha q) (by omega) nof_37 rfl rfl rfl rfl trivial rfl ?_
    refine w_if_ne (tgt := 10) rfl (by first | assumption | exact i32_0 | (unfold i32 at *; omega)) rfl (fun c => absurd c (by decide)) (fun _ => ?_)
    refine w_iconst rfl ?_
    exact w_ireturn rfl ⟨by first | rfl | (congr 2; omega), by exact CI_same c (Nat.le_succ n)⟩
