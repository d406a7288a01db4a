/-! ===== rules: how a method of the small machine is walked, behind the constructors ===== -/
def cRT : Nat → Nat → Option Nat := cR cRB
abbrev mP : Type := Option mV → mM → Prop
/-- from a row of a method on, with so deep calls: it ends with an answer and a memory of which Q holds -/
def Wp (cd : mQ) (D pc : Nat) (ls st : List mV) (M : mM) (Q : mP) : Prop := ∃ (r : Option mV) (M1 : mM), Q r M1 ∧ Rg (mNof mXt) (Ev mXt D) cd (r, (cKB, cRT, M1)) pc ls st (cKB, cRT, M)
/-- a method's contract: from the arguments and a memory to an answer and a memory, calls at most so deep -/
def E (d y : Nat) (as : List mV) (M : mM) (r : Option mV) (M1 : mM) : Prop := ∀ e, Ev mXt (d + e) y as (cKB, cRT, M) r (cKB, cRT, M1)
theorem E.at {d y : Nat} {as : List mV} {M : mM} {r : Option mV} {M1 : mM} (h : E d y as M r M1) {D : Nat} (hd : d ≤ D) : Ev mXt D y as (cKB, cRT, M) r (cKB, cRT, M1) := by
  have := h (D - d)
  rwa [show d + (D - d) = D by omega] at this
theorem e_in {d y : Nat} {as : List mV} {M : mM} {r : Option mV} {M1 : mM} {cd : mQ} {ls : List mV} (hc : (mXt y).2.2.2.2.2.2.2 = cd) (hl : Nat.ble (mEnt as).length (mXt y).2.2.1 = true) (he : mEnt as ++ List.replicate ((mXt y).2.2.1 - (mEnt as).length) vN = ls)
    (h : ∀ D, d ≤ D → Wp cd D 0 ls [] M (fun r1 M2 => r1 = r ∧ M2 = M1)) : E (d + 1) y as M r M1 := by
  intro e
  obtain ⟨r1, M2, ⟨rfl, rfl⟩, h2⟩ := h (d + e) (Nat.le_add_right _ _)
  rw [show d + 1 + e = (d + e) + 1 by omega]
  subst hc; subst he
  exact ⟨Nat.le_of_ble_eq_true hl, h2⟩
/-- the same, where answer and memory are not known ahead -/
theorem e_inQ {d y : Nat} {as : List mV} {M : mM} {Q : mP} {cd : mQ} {ls : List mV} (hc : (mXt y).2.2.2.2.2.2.2 = cd) (hl : Nat.ble (mEnt as).length (mXt y).2.2.1 = true) (he : mEnt as ++ List.replicate ((mXt y).2.2.1 - (mEnt as).length) vN = ls)
    (hu : ∀ r1 M1 r2 M2, Q r1 M1 → Q r2 M2 → r1 = r2 ∧ M1 = M2) (h : ∀ D, d ≤ D → Wp cd D 0 ls [] M Q) : ∃ r M1, Q r M1 ∧ E (d + 1) y as M r M1 := by
  obtain ⟨r, M1, hQ, -⟩ := h d (Nat.le_refl _)
  refine ⟨r, M1, hQ, e_in hc hl he fun D hD => ?_⟩
  obtain ⟨r2, M2, hQ2, h2⟩ := h D hD
  exact ⟨r2, M2, hu _ _ _ _ hQ2 hQ, h2⟩
theorem w_ret {cd : mQ} {D pc : Nat} {ls st : List mV} {M : mM} {Q : mP} {r : Option mV} (hQ : Q r M) (h : Rg (mNof mXt) (Ev mXt D) cd (r, (cKB, cRT, M)) pc ls st (cKB, cRT, M)) : Wp cd D pc ls st M Q := ⟨r, M, hQ, h⟩
section WP
variable {cd : mQ} {D pc nx : Nat} {ls st : List mV} {M : mM} {Q : mP}
theorem w_iconst {v : Int} (h : mAt cd pc = some (.iconst v, nx)) (k : Wp cd D nx ls (vI v :: st) M Q) : Wp cd D pc ls st M Q := by
  obtain ⟨r0, M0, hQ, n0, hn⟩ := k
  exact ⟨r0, M0, hQ, n0 + 1, by unfold Rs; rw [h]; exact hn⟩
theorem w_lconst {v : Int} (h : mAt cd pc = some (.sipush v, nx)) (k : Wp cd D nx ls (vL v :: st) M Q) : Wp cd D pc ls st M Q := by
  obtain ⟨r0, M0, hQ, n0, hn⟩ := k
  exact ⟨r0, M0, hQ, n0 + 1, by unfold Rs; rw [h]; exact hn⟩
theorem w_iload {j : Nat} {x : Int} (h : mAt cd pc = some (.iload j, nx)) (hx : ls[j]? = some (vI x)) (k : Wp cd D nx ls (vI x :: st) M Q) : Wp cd D pc ls st M Q := by
  obtain ⟨r0, M0, hQ, n0, hn⟩ := k
  exact ⟨r0, M0, hQ, n0 + 1, by unfold Rs; rw [h]; exact (by show gI _ _ _; unfold gI; rw [hx]; exact hn)⟩
theorem w_istore {j : Nat} {x : Int} {ls2 : List mV} (h : mAt cd pc = some (.istore j, nx)) (hj : Nat.ble (j + 1) ls.length = true) (hs : setL ls j (vI x) = ls2) (k : Wp cd D nx ls2 st M Q) : Wp cd D pc ls (vI x :: st) M Q := by
  obtain ⟨r0, M0, hQ, n0, hn⟩ := k
  exact ⟨r0, M0, hQ, n0 + 1, by unfold Rs; rw [h]; exact ⟨Nat.le_of_ble_eq_true hj, (by rw [hs]; exact hn)⟩⟩
theorem w_lload {j : Nat} {x : Int} (h : mAt cd pc = some (.lload j, nx)) (hx : ls[j]? = some (vL x)) (k : Wp cd D nx ls (vL x :: st) M Q) : Wp cd D pc ls st M Q := by
  obtain ⟨r0, M0, hQ, n0, hn⟩ := k
  exact ⟨r0, M0, hQ, n0 + 1, by unfold Rs; rw [h]; exact (by show gL _ _ _; unfold gL; rw [hx]; exact hn)⟩
theorem w_lstore {j : Nat} {x : Int} {ls2 : List mV} (h : mAt cd pc = some (.lstore j, nx)) (hj : Nat.ble (j + 2) ls.length = true) (hs : setL ls j (vL x) = ls2) (k : Wp cd D nx ls2 st M Q) : Wp cd D pc ls (vL x :: st) M Q := by
  obtain ⟨r0, M0, hQ, n0, hn⟩ := k
  exact ⟨r0, M0, hQ, n0 + 1, by unfold Rs; rw [h]; exact ⟨Nat.le_of_ble_eq_true hj, (by rw [hs]; exact hn)⟩⟩
theorem w_aload {j : Nat} {x : Nat} (h : mAt cd pc = some (.aload j, nx)) (hx : ls[j]? = some (vR x)) (k : Wp cd D nx ls (vR x :: st) M Q) : Wp cd D pc ls st M Q := by
  obtain ⟨r0, M0, hQ, n0, hn⟩ := k
  exact ⟨r0, M0, hQ, n0 + 1, by unfold Rs; rw [h]; exact (by show gR _ _ _; unfold gR; rw [hx]; exact hn)⟩
theorem w_astore {j : Nat} {x : Nat} {ls2 : List mV} (h : mAt cd pc = some (.astore j, nx)) (hj : Nat.ble (j + 1) ls.length = true) (hs : setL ls j (vR x) = ls2) (k : Wp cd D nx ls2 st M Q) : Wp cd D pc ls (vR x :: st) M Q := by
  obtain ⟨r0, M0, hQ, n0, hn⟩ := k
  exact ⟨r0, M0, hQ, n0 + 1, by unfold Rs; rw [h]; exact ⟨Nat.le_of_ble_eq_true hj, (by rw [hs]; exact hn)⟩⟩
theorem w_iinc {j : Nat} {x d : Int} {ls2 : List mV} (h : mAt cd pc = some (.iinc j d, nx)) (hx : ls[j]? = some (vI x)) (hs : setL ls j (vI (x + d)) = ls2) (k : Wp cd D nx ls2 st M Q) : Wp cd D pc ls st M Q := by
  obtain ⟨r0, M0, hQ, n0, hn⟩ := k
  exact ⟨r0, M0, hQ, n0 + 1, by unfold Rs; rw [h]; exact (by show gI _ _ _; unfold gI; rw [hx]; dsimp only; rw [hs]; exact hn)⟩
theorem w_iadd {a b : Int} (h : mAt cd pc = some (.iadd, nx)) (k : Wp cd D nx ls (vI (a + b) :: st) M Q) : Wp cd D pc ls (vI b :: vI a :: st) M Q := by
  obtain ⟨r0, M0, hQ, n0, hn⟩ := k
  exact ⟨r0, M0, hQ, n0 + 1, by unfold Rs; rw [h]; exact hn⟩
theorem w_isub {a b : Int} (h : mAt cd pc = some (.isub, nx)) (k : Wp cd D nx ls (vI (a - b) :: st) M Q) : Wp cd D pc ls (vI b :: vI a :: st) M Q := by
  obtain ⟨r0, M0, hQ, n0, hn⟩ := k
  exact ⟨r0, M0, hQ, n0 + 1, by unfold Rs; rw [h]; exact hn⟩
theorem w_imul {a b : Int} (h : mAt cd pc = some (.imul, nx)) (k : Wp cd D nx ls (vI (a * b) :: st) M Q) : Wp cd D pc ls (vI b :: vI a :: st) M Q := by
  obtain ⟨r0, M0, hQ, n0, hn⟩ := k
  exact ⟨r0, M0, hQ, n0 + 1, by unfold Rs; rw [h]; exact hn⟩
theorem w_ladd {a b : Int} (h : mAt cd pc = some (.ladd, nx)) (k : Wp cd D nx ls (vL (a + b) :: st) M Q) : Wp cd D pc ls (vL b :: vL a :: st) M Q := by
  obtain ⟨r0, M0, hQ, n0, hn⟩ := k
  exact ⟨r0, M0, hQ, n0 + 1, by unfold Rs; rw [h]; exact hn⟩
theorem w_lsub {a b : Int} (h : mAt cd pc = some (.lsub, nx)) (k : Wp cd D nx ls (vL (a - b) :: st) M Q) : Wp cd D pc ls (vL b :: vL a :: st) M Q := by
  obtain ⟨r0, M0, hQ, n0, hn⟩ := k
  exact ⟨r0, M0, hQ, n0 + 1, by unfold Rs; rw [h]; exact hn⟩
theorem w_lmul {a b : Int} (h : mAt cd pc = some (.lmul, nx)) (k : Wp cd D nx ls (vL (a * b) :: st) M Q) : Wp cd D pc ls (vL b :: vL a :: st) M Q := by
  obtain ⟨r0, M0, hQ, n0, hn⟩ := k
  exact ⟨r0, M0, hQ, n0 + 1, by unfold Rs; rw [h]; exact hn⟩
theorem w_ineg {a : Int} (h : mAt cd pc = some (.ineg, nx)) (k : Wp cd D nx ls (vI (-a) :: st) M Q) : Wp cd D pc ls (vI a :: st) M Q := by
  obtain ⟨r0, M0, hQ, n0, hn⟩ := k
  exact ⟨r0, M0, hQ, n0 + 1, by unfold Rs; rw [h]; exact hn⟩
theorem w_lneg {a : Int} (h : mAt cd pc = some (.lneg, nx)) (k : Wp cd D nx ls (vL (-a) :: st) M Q) : Wp cd D pc ls (vL a :: st) M Q := by
  obtain ⟨r0, M0, hQ, n0, hn⟩ := k
  exact ⟨r0, M0, hQ, n0 + 1, by unfold Rs; rw [h]; exact hn⟩
theorem w_idiv {a b : Int} (h : mAt cd pc = some (.idiv, nx)) (ha : i32 a) (hb : i32 b) (h0 : b ≠ 0) (k : Wp cd D nx ls (vI (a.tdiv b) :: st) M Q) : Wp cd D pc ls (vI b :: vI a :: st) M Q := by
  obtain ⟨r0, M0, hQ, n0, hn⟩ := k
  exact ⟨r0, M0, hQ, n0 + 1, by unfold Rs; rw [h]; exact ⟨ha, hb, h0, hn⟩⟩
theorem w_irem {a b : Int} (h : mAt cd pc = some (.irem, nx)) (ha : i32 a) (hb : i32 b) (h0 : b ≠ 0) (k : Wp cd D nx ls (vI (a.tmod b) :: st) M Q) : Wp cd D pc ls (vI b :: vI a :: st) M Q := by
  obtain ⟨r0, M0, hQ, n0, hn⟩ := k
  exact ⟨r0, M0, hQ, n0 + 1, by unfold Rs; rw [h]; exact ⟨ha, hb, h0, hn⟩⟩
theorem w_ldiv {a b : Int} (h : mAt cd pc = some (.ldiv, nx)) (ha : i64 a) (hb : i64 b) (h0 : b ≠ 0) (k : Wp cd D nx ls (vL (a.tdiv b) :: st) M Q) : Wp cd D pc ls (vL b :: vL a :: st) M Q := by
  obtain ⟨r0, M0, hQ, n0, hn⟩ := k
  exact ⟨r0, M0, hQ, n0 + 1, by unfold Rs; rw [h]; exact ⟨ha, hb, h0, hn⟩⟩
theorem w_lrem {a b : Int} (h : mAt cd pc = some (.lrem, nx)) (ha : i64 a) (hb : i64 b) (h0 : b ≠ 0) (k : Wp cd D nx ls (vL (a.tmod b) :: st) M Q) : Wp cd D pc ls (vL b :: vL a :: st) M Q := by
  obtain ⟨r0, M0, hQ, n0, hn⟩ := k
  exact ⟨r0, M0, hQ, n0 + 1, by unfold Rs; rw [h]; exact ⟨ha, hb, h0, hn⟩⟩
theorem w_iand {a b v : Int} (h : mAt cd pc = some (.iand, nx)) (hv : bitI (· &&& ·) a b = v) (k : Wp cd D nx ls (vI v :: st) M Q) : Wp cd D pc ls (vI b :: vI a :: st) M Q := by
  obtain ⟨r0, M0, hQ, n0, hn⟩ := k
  exact ⟨r0, M0, hQ, n0 + 1, by unfold Rs; rw [h]; exact (by rw [← hv] at hn; exact hn)⟩
theorem w_ior {a b v : Int} (h : mAt cd pc = some (.ior, nx)) (hv : bitI (· ||| ·) a b = v) (k : Wp cd D nx ls (vI v :: st) M Q) : Wp cd D pc ls (vI b :: vI a :: st) M Q := by
  obtain ⟨r0, M0, hQ, n0, hn⟩ := k
  exact ⟨r0, M0, hQ, n0 + 1, by unfold Rs; rw [h]; exact (by rw [← hv] at hn; exact hn)⟩
theorem w_ixor {a b v : Int} (h : mAt cd pc = some (.ixor, nx)) (hv : bitI (· ^^^ ·) a b = v) (k : Wp cd D nx ls (vI v :: st) M Q) : Wp cd D pc ls (vI b :: vI a :: st) M Q := by
  obtain ⟨r0, M0, hQ, n0, hn⟩ := k
  exact ⟨r0, M0, hQ, n0 + 1, by unfold Rs; rw [h]; exact (by rw [← hv] at hn; exact hn)⟩
theorem w_ishl {a b v : Int} (h : mAt cd pc = some (.ishl, nx)) (hv : bitI (fun x y => x <<< (y &&& 31)) a b = v) (k : Wp cd D nx ls (vI v :: st) M Q) : Wp cd D pc ls (vI b :: vI a :: st) M Q := by
  obtain ⟨r0, M0, hQ, n0, hn⟩ := k
  exact ⟨r0, M0, hQ, n0 + 1, by unfold Rs; rw [h]; exact (by rw [← hv] at hn; exact hn)⟩
theorem w_ishr {a b v : Int} (h : mAt cd pc = some (.ishr, nx)) (hv : bitI (fun x y => x >>> (y &&& 31)) a b = v) (k : Wp cd D nx ls (vI v :: st) M Q) : Wp cd D pc ls (vI b :: vI a :: st) M Q := by
  obtain ⟨r0, M0, hQ, n0, hn⟩ := k
  exact ⟨r0, M0, hQ, n0 + 1, by unfold Rs; rw [h]; exact (by rw [← hv] at hn; exact hn)⟩
theorem w_iushr {a b v : Int} (h : mAt cd pc = some (.iushr, nx)) (hv : bitI (fun x y => (x.toUInt32 >>> (y.toUInt32 &&& Int32.toUInt32 31)).toInt32) a b = v) (k : Wp cd D nx ls (vI v :: st) M Q) : Wp cd D pc ls (vI b :: vI a :: st) M Q := by
  obtain ⟨r0, M0, hQ, n0, hn⟩ := k
  exact ⟨r0, M0, hQ, n0 + 1, by unfold Rs; rw [h]; exact (by rw [← hv] at hn; exact hn)⟩
theorem w_i2l {a : Int} (h : mAt cd pc = some (.i2l, nx)) (ha : i32 a) (k : Wp cd D nx ls (vL a :: st) M Q) : Wp cd D pc ls (vI a :: st) M Q := by
  obtain ⟨r0, M0, hQ, n0, hn⟩ := k
  exact ⟨r0, M0, hQ, n0 + 1, by unfold Rs; rw [h]; exact ⟨ha, hn⟩⟩
theorem w_l2i {a : Int} (h : mAt cd pc = some (.l2i, nx)) (k : Wp cd D nx ls (vI a :: st) M Q) : Wp cd D pc ls (vL a :: st) M Q := by
  obtain ⟨r0, M0, hQ, n0, hn⟩ := k
  exact ⟨r0, M0, hQ, n0 + 1, by unfold Rs; rw [h]; exact hn⟩
theorem w_dup {v : mV} (h : mAt cd pc = some (.dup, nx)) (hc : mcat v = 1) (k : Wp cd D nx ls (v :: v :: st) M Q) : Wp cd D pc ls (v :: st) M Q := by
  obtain ⟨r0, M0, hQ, n0, hn⟩ := k
  exact ⟨r0, M0, hQ, n0 + 1, by unfold Rs; rw [h]; exact ⟨hc, hn⟩⟩
theorem w_dup2 {v w : mV} (h : mAt cd pc = some (.dup2, nx)) (hc : mcat v = 1) (hd : mcat w = 1) (k : Wp cd D nx ls (v :: w :: v :: w :: st) M Q) : Wp cd D pc ls (v :: w :: st) M Q := by
  obtain ⟨r0, M0, hQ, n0, hn⟩ := k
  exact ⟨r0, M0, hQ, n0 + 1, by unfold Rs; rw [h]; exact ⟨hc, hd, hn⟩⟩
theorem w_pop {v : mV} (h : mAt cd pc = some (.pop, nx)) (hc : mcat v = 1) (k : Wp cd D nx ls st M Q) : Wp cd D pc ls (v :: st) M Q := by
  obtain ⟨r0, M0, hQ, n0, hn⟩ := k
  exact ⟨r0, M0, hQ, n0 + 1, by unfold Rs; rw [h]; exact ⟨hc, hn⟩⟩
theorem w_goto {t : Int} {tgt : Nat} (h : mAt cd pc = some (.goto t, nx)) (ht : t.toNat = tgt) (k : Wp cd D tgt ls st M Q) : Wp cd D pc ls st M Q := by
  obtain ⟨r0, M0, hQ, n0, hn⟩ := k
  exact ⟨r0, M0, hQ, n0 + 1, by unfold Rs; rw [h]; exact (by rw [← ht] at hn; exact hn)⟩
theorem w_getI {c f a : Nat} (h : mAt cd pc = some (.multianewarray c f, nx)) (ha : cKB[a]? = some (0, c)) (ht : mfk c f = 0 ∨ mfk c f = 3) (k : Wp cd D nx ls (vI (M a f) :: st) M Q) : Wp cd D pc ls (vR a :: st) M Q := by
  obtain ⟨r0, M0, hQ, n0, hn⟩ := k
  exact ⟨r0, M0, hQ, n0 + 1, by unfold Rs; rw [h]; exact ⟨ha, (by rcases ht with e | e <;> (rw [e]; exact hn))⟩⟩
theorem w_getL {c f a : Nat} (h : mAt cd pc = some (.multianewarray c f, nx)) (ha : cKB[a]? = some (0, c)) (ht : mfk c f = 1) (k : Wp cd D nx ls (vL (M a f) :: st) M Q) : Wp cd D pc ls (vR a :: st) M Q := by
  obtain ⟨r0, M0, hQ, n0, hn⟩ := k
  exact ⟨r0, M0, hQ, n0 + 1, by unfold Rs; rw [h]; exact ⟨ha, (by rw [ht]; exact hn)⟩⟩
theorem w_getR {c f a x : Nat} (h : mAt cd pc = some (.multianewarray c f, nx)) (ha : cKB[a]? = some (0, c)) (ht : mfk c f = 2) (hx : cRT a f = some x) (k : Wp cd D nx ls (vR x :: st) M Q) : Wp cd D pc ls (vR a :: st) M Q := by
  obtain ⟨r0, M0, hQ, n0, hn⟩ := k
  exact ⟨r0, M0, hQ, n0 + 1, by unfold Rs; rw [h]; exact ⟨ha, (by rw [ht]; show Rs _ _ _ _ _ _ _ (Sum.inr (Sum.inr (cRT a f)) :: st) _; rw [hx]; exact hn)⟩⟩
theorem w_putI {c f a : Nat} {x : Int} (h : mAt cd pc = some (.invokeinterface c f, nx)) (ha : cKB[a]? = some (0, c)) (ht : mfk c f = 0) (k : Wp cd D nx ls st (upI M a f x) Q) : Wp cd D pc ls (vI x :: vR a :: st) M Q := by
  obtain ⟨r0, M0, hQ, n0, hn⟩ := k
  exact ⟨r0, M0, hQ, n0 + 1, by unfold Rs; rw [h]; exact (by show stp _ _ _ _ _ _ _ _ _; unfold stp; dsimp only; rw [ht]; exact ⟨ha, hn⟩)⟩
theorem w_putZ {c f a : Nat} {x : Int} (h : mAt cd pc = some (.invokeinterface c f, nx)) (ha : cKB[a]? = some (0, c)) (ht : mfk c f = 3) (hx : x = 0 ∨ x = 1) (k : Wp cd D nx ls st (upI M a f x) Q) : Wp cd D pc ls (vI x :: vR a :: st) M Q := by
  obtain ⟨r0, M0, hQ, n0, hn⟩ := k
  exact ⟨r0, M0, hQ, n0 + 1, by unfold Rs; rw [h]; exact (by show stp _ _ _ _ _ _ _ _ _; unfold stp; dsimp only; rw [ht]; exact ⟨ha, hx, hn⟩)⟩
theorem w_putL {c f a : Nat} {x : Int} (h : mAt cd pc = some (.invokeinterface c f, nx)) (ha : cKB[a]? = some (0, c)) (ht : mfk c f = 1) (k : Wp cd D nx ls st (upI M a f x) Q) : Wp cd D pc ls (vL x :: vR a :: st) M Q := by
  obtain ⟨r0, M0, hQ, n0, hn⟩ := k
  exact ⟨r0, M0, hQ, n0 + 1, by unfold Rs; rw [h]; exact (by show stp _ _ _ _ _ _ _ _ _; unfold stp; dsimp only; rw [ht]; exact ⟨ha, hn⟩)⟩
theorem w_iaload {a n : Nat} {i : Int} (h : mAt cd pc = some (.iaload, nx)) (ha : cKB[a]? = some (1, n)) (h0 : 0 ≤ i) (h1 : i < n) (k : Wp cd D nx ls (vI (M a i.toNat) :: st) M Q) : Wp cd D pc ls (vI i :: vR a :: st) M Q := by
  obtain ⟨r0, M0, hQ, n0, hn⟩ := k
  exact ⟨r0, M0, hQ, n0 + 1, by unfold Rs; rw [h]; exact ⟨n, ha, h0, h1, hn⟩⟩
theorem w_laload {a n : Nat} {i : Int} (h : mAt cd pc = some (.laload, nx)) (ha : cKB[a]? = some (2, n)) (h0 : 0 ≤ i) (h1 : i < n) (k : Wp cd D nx ls (vL (M a i.toNat) :: st) M Q) : Wp cd D pc ls (vI i :: vR a :: st) M Q := by
  obtain ⟨r0, M0, hQ, n0, hn⟩ := k
  exact ⟨r0, M0, hQ, n0 + 1, by unfold Rs; rw [h]; exact ⟨n, ha, h0, h1, hn⟩⟩
theorem w_baload {a n : Nat} {i : Int} (h : mAt cd pc = some (.baload, nx)) (ha : cKB[a]? = some (3, n)) (h0 : 0 ≤ i) (h1 : i < n) (k : Wp cd D nx ls (vI (M a i.toNat) :: st) M Q) : Wp cd D pc ls (vI i :: vR a :: st) M Q := by
  obtain ⟨r0, M0, hQ, n0, hn⟩ := k
  exact ⟨r0, M0, hQ, n0 + 1, by unfold Rs; rw [h]; exact ⟨n, ha, h0, h1, hn⟩⟩
theorem w_aaload {a n t x : Nat} {i : Int} (h : mAt cd pc = some (.aaload, nx)) (ha : cKB[a]? = some (t, n)) (ht : t = 4 ∨ t = 5) (h0 : 0 ≤ i) (h1 : i < n) (hx : cRT a i.toNat = some x) (k : Wp cd D nx ls (vR x :: st) M Q) : Wp cd D pc ls (vI i :: vR a :: st) M Q := by
  obtain ⟨r0, M0, hQ, n0, hn⟩ := k
  exact ⟨r0, M0, hQ, n0 + 1, by unfold Rs; rw [h]; exact ⟨n, t, ha, ht, h0, h1, (by show Rs _ _ _ _ _ _ _ (Sum.inr (Sum.inr (cRT a i.toNat)) :: st) _; rw [hx]; exact hn)⟩⟩
theorem w_iastore {a n : Nat} {i x : Int} (h : mAt cd pc = some (.iastore, nx)) (ha : cKB[a]? = some (1, n)) (h0 : 0 ≤ i) (h1 : i < n) (k : Wp cd D nx ls st (upI M a i.toNat x) Q) : Wp cd D pc ls (vI x :: vI i :: vR a :: st) M Q := by
  obtain ⟨r0, M0, hQ, n0, hn⟩ := k
  exact ⟨r0, M0, hQ, n0 + 1, by unfold Rs; rw [h]; exact ⟨n, ha, h0, h1, hn⟩⟩
theorem w_lastore {a n : Nat} {i x : Int} (h : mAt cd pc = some (.lastore, nx)) (ha : cKB[a]? = some (2, n)) (h0 : 0 ≤ i) (h1 : i < n) (k : Wp cd D nx ls st (upI M a i.toNat x) Q) : Wp cd D pc ls (vL x :: vI i :: vR a :: st) M Q := by
  obtain ⟨r0, M0, hQ, n0, hn⟩ := k
  exact ⟨r0, M0, hQ, n0 + 1, by unfold Rs; rw [h]; exact ⟨n, ha, h0, h1, hn⟩⟩
theorem w_bastore {a n : Nat} {i x : Int} (h : mAt cd pc = some (.bastore, nx)) (ha : cKB[a]? = some (3, n)) (h0 : 0 ≤ i) (h1 : i < n) (hx : x = 0 ∨ x = 1) (k : Wp cd D nx ls st (upI M a i.toNat x) Q) : Wp cd D pc ls (vI x :: vI i :: vR a :: st) M Q := by
  obtain ⟨r0, M0, hQ, n0, hn⟩ := k
  exact ⟨r0, M0, hQ, n0 + 1, by unfold Rs; rw [h]; exact ⟨n, ha, h0, h1, hx, hn⟩⟩
theorem w_alen {a n t : Nat} (h : mAt cd pc = some (.arraylength, nx)) (ha : cKB[a]? = some (t, n)) (h1 : 1 ≤ t) (h5 : t ≤ 5) (k : Wp cd D nx ls (vI (n : Int) :: st) M Q) : Wp cd D pc ls (vR a :: st) M Q := by
  obtain ⟨r0, M0, hQ, n0, hn⟩ := k
  exact ⟨r0, M0, hQ, n0 + 1, by unfold Rs; rw [h]; exact ⟨n, t, ha, h1, h5, hn⟩⟩
theorem w_scr {i : Int} (h : mAt cd pc = some (.caload, nx)) (h0 : 0 ≤ i) (h1 : i < M mScr 0) (k : Wp cd D nx ls (vI (M (mScr + 1) i.toNat) :: st) M Q) : Wp cd D pc ls (vI i :: vR mScr :: st) M Q := by
  obtain ⟨r0, M0, hQ, n0, hn⟩ := k
  exact ⟨r0, M0, hQ, n0 + 1, by unfold Rs; rw [h]; exact ⟨rfl, h0, h1, hn⟩⟩
theorem w_scl (h : mAt cd pc = some (.saload, nx)) (k : Wp cd D nx ls (vI (M mScr 0) :: st) M Q) : Wp cd D pc ls (vR mScr :: st) M Q := by
  obtain ⟨r0, M0, hQ, n0, hn⟩ := k
  exact ⟨r0, M0, hQ, n0 + 1, by unfold Rs; rw [h]; exact ⟨rfl, hn⟩⟩
theorem w_icmp_eq {a b : Int} {t : Int} {tgt : Nat} (h : mAt cd pc = some (.if_icmp .eq t, nx)) (ha : i32 a) (hb : i32 b) (ht : t.toNat = tgt) (kt : a = b → Wp cd D tgt ls st M Q) (kf : ¬ a = b → Wp cd D nx ls st M Q) : Wp cd D pc ls (vI b :: vI a :: st) M Q := by
  by_cases hc : a = b
  · obtain ⟨r0, M0, hQ, n0, hn⟩ := kt hc
    refine ⟨r0, M0, hQ, n0 + 1, ?_⟩
    unfold Rs; rw [h]
    refine ⟨Or.inr ⟨ha, hb⟩, ?_⟩
    rw [show cmpI .eq a b = true from decide_eq_true hc]
    rw [← ht] at hn; exact hn
  · obtain ⟨r0, M0, hQ, n0, hn⟩ := kf hc
    refine ⟨r0, M0, hQ, n0 + 1, ?_⟩
    unfold Rs; rw [h]
    refine ⟨Or.inr ⟨ha, hb⟩, ?_⟩
    rw [show cmpI .eq a b = false from decide_eq_false hc]
    exact hn
theorem w_if_eq {a : Int} {t : Int} {tgt : Nat} (h : mAt cd pc = some (.ifCond .eq t, nx)) (ha : i32 a) (ht : t.toNat = tgt) (kt : a = 0 → Wp cd D tgt ls st M Q) (kf : ¬ a = 0 → Wp cd D nx ls st M Q) : Wp cd D pc ls (vI a :: st) M Q := by
  by_cases hc : a = 0
  · obtain ⟨r0, M0, hQ, n0, hn⟩ := kt hc
    refine ⟨r0, M0, hQ, n0 + 1, ?_⟩
    unfold Rs; rw [h]
    refine ⟨ha, ?_⟩
    rw [show cmpI .eq a 0 = true from decide_eq_true hc]
    rw [← ht] at hn; exact hn
  · obtain ⟨r0, M0, hQ, n0, hn⟩ := kf hc
    refine ⟨r0, M0, hQ, n0 + 1, ?_⟩
    unfold Rs; rw [h]
    refine ⟨ha, ?_⟩
    rw [show cmpI .eq a 0 = false from decide_eq_false hc]
    exact hn
theorem w_icmp_ne {a b : Int} {t : Int} {tgt : Nat} (h : mAt cd pc = some (.if_icmp .ne t, nx)) (ha : i32 a) (hb : i32 b) (ht : t.toNat = tgt) (kt : ¬ a = b → Wp cd D tgt ls st M Q) (kf : a = b → Wp cd D nx ls st M Q) : Wp cd D pc ls (vI b :: vI a :: st) M Q := by
  by_cases hc : ¬ a = b
  · obtain ⟨r0, M0, hQ, n0, hn⟩ := kt hc
    refine ⟨r0, M0, hQ, n0 + 1, ?_⟩
    unfold Rs; rw [h]
    refine ⟨Or.inr ⟨ha, hb⟩, ?_⟩
    rw [show cmpI .ne a b = true from by simp [cmpI, hc]]
    rw [← ht] at hn; exact hn
  · obtain ⟨r0, M0, hQ, n0, hn⟩ := kf (Decidable.not_not.mp hc)
    refine ⟨r0, M0, hQ, n0 + 1, ?_⟩
    unfold Rs; rw [h]
    refine ⟨Or.inr ⟨ha, hb⟩, ?_⟩
    rw [show cmpI .ne a b = false from by simp only [cmpI, Bool.not_eq_false', decide_eq_true_eq]; exact Decidable.not_not.mp hc]
    exact hn
theorem w_if_ne {a : Int} {t : Int} {tgt : Nat} (h : mAt cd pc = some (.ifCond .ne t, nx)) (ha : i32 a) (ht : t.toNat = tgt) (kt : ¬ a = 0 → Wp cd D tgt ls st M Q) (kf : a = 0 → Wp cd D nx ls st M Q) : Wp cd D pc ls (vI a :: st) M Q := by
  by_cases hc : ¬ a = 0
  · obtain ⟨r0, M0, hQ, n0, hn⟩ := kt hc
    refine ⟨r0, M0, hQ, n0 + 1, ?_⟩
    unfold Rs; rw [h]
    refine ⟨ha, ?_⟩
    rw [show cmpI .ne a 0 = true from by simp [cmpI, hc]]
    rw [← ht] at hn; exact hn
  · obtain ⟨r0, M0, hQ, n0, hn⟩ := kf (Decidable.not_not.mp hc)
    refine ⟨r0, M0, hQ, n0 + 1, ?_⟩
    unfold Rs; rw [h]
    refine ⟨ha, ?_⟩
    rw [show cmpI .ne a 0 = false from by simp only [cmpI, Bool.not_eq_false', decide_eq_true_eq]; exact Decidable.not_not.mp hc]
    exact hn
theorem w_icmp_lt {a b : Int} {t : Int} {tgt : Nat} (h : mAt cd pc = some (.if_icmp .lt t, nx)) (ha : i32 a) (hb : i32 b) (ht : t.toNat = tgt) (kt : a < b → Wp cd D tgt ls st M Q) (kf : ¬ a < b → Wp cd D nx ls st M Q) : Wp cd D pc ls (vI b :: vI a :: st) M Q := by
  by_cases hc : a < b
  · obtain ⟨r0, M0, hQ, n0, hn⟩ := kt hc
    refine ⟨r0, M0, hQ, n0 + 1, ?_⟩
    unfold Rs; rw [h]
    refine ⟨Or.inr ⟨ha, hb⟩, ?_⟩
    rw [show cmpI .lt a b = true from decide_eq_true hc]
    rw [← ht] at hn; exact hn
  · obtain ⟨r0, M0, hQ, n0, hn⟩ := kf hc
    refine ⟨r0, M0, hQ, n0 + 1, ?_⟩
    unfold Rs; rw [h]
    refine ⟨Or.inr ⟨ha, hb⟩, ?_⟩
    rw [show cmpI .lt a b = false from decide_eq_false hc]
    exact hn
theorem w_if_lt {a : Int} {t : Int} {tgt : Nat} (h : mAt cd pc = some (.ifCond .lt t, nx)) (ha : i32 a) (ht : t.toNat = tgt) (kt : a < 0 → Wp cd D tgt ls st M Q) (kf : ¬ a < 0 → Wp cd D nx ls st M Q) : Wp cd D pc ls (vI a :: st) M Q := by
  by_cases hc : a < 0
  · obtain ⟨r0, M0, hQ, n0, hn⟩ := kt hc
    refine ⟨r0, M0, hQ, n0 + 1, ?_⟩
    unfold Rs; rw [h]
    refine ⟨ha, ?_⟩
    rw [show cmpI .lt a 0 = true from decide_eq_true hc]
    rw [← ht] at hn; exact hn
  · obtain ⟨r0, M0, hQ, n0, hn⟩ := kf hc
    refine ⟨r0, M0, hQ, n0 + 1, ?_⟩
    unfold Rs; rw [h]
    refine ⟨ha, ?_⟩
    rw [show cmpI .lt a 0 = false from decide_eq_false hc]
    exact hn
theorem w_icmp_ge {a b : Int} {t : Int} {tgt : Nat} (h : mAt cd pc = some (.if_icmp .ge t, nx)) (ha : i32 a) (hb : i32 b) (ht : t.toNat = tgt) (kt : b ≤ a → Wp cd D tgt ls st M Q) (kf : ¬ b ≤ a → Wp cd D nx ls st M Q) : Wp cd D pc ls (vI b :: vI a :: st) M Q := by
  by_cases hc : b ≤ a
  · obtain ⟨r0, M0, hQ, n0, hn⟩ := kt hc
    refine ⟨r0, M0, hQ, n0 + 1, ?_⟩
    unfold Rs; rw [h]
    refine ⟨Or.inr ⟨ha, hb⟩, ?_⟩
    rw [show cmpI .ge a b = true from by simp only [cmpI, Bool.not_eq_true', decide_eq_false_iff_not]; omega]
    rw [← ht] at hn; exact hn
  · obtain ⟨r0, M0, hQ, n0, hn⟩ := kf hc
    refine ⟨r0, M0, hQ, n0 + 1, ?_⟩
    unfold Rs; rw [h]
    refine ⟨Or.inr ⟨ha, hb⟩, ?_⟩
    rw [show cmpI .ge a b = false from by simp only [cmpI, Bool.not_eq_false', decide_eq_true_eq]; omega]
    exact hn
theorem w_if_ge {a : Int} {t : Int} {tgt : Nat} (h : mAt cd pc = some (.ifCond .ge t, nx)) (ha : i32 a) (ht : t.toNat = tgt) (kt : 0 ≤ a → Wp cd D tgt ls st M Q) (kf : ¬ 0 ≤ a → Wp cd D nx ls st M Q) : Wp cd D pc ls (vI a :: st) M Q := by
  by_cases hc : 0 ≤ a
  · obtain ⟨r0, M0, hQ, n0, hn⟩ := kt hc
    refine ⟨r0, M0, hQ, n0 + 1, ?_⟩
    unfold Rs; rw [h]
    refine ⟨ha, ?_⟩
    rw [show cmpI .ge a 0 = true from by simp only [cmpI, Bool.not_eq_true', decide_eq_false_iff_not]; omega]
    rw [← ht] at hn; exact hn
  · obtain ⟨r0, M0, hQ, n0, hn⟩ := kf hc
    refine ⟨r0, M0, hQ, n0 + 1, ?_⟩
    unfold Rs; rw [h]
    refine ⟨ha, ?_⟩
    rw [show cmpI .ge a 0 = false from by simp only [cmpI, Bool.not_eq_false', decide_eq_true_eq]; omega]
    exact hn
theorem w_icmp_gt {a b : Int} {t : Int} {tgt : Nat} (h : mAt cd pc = some (.if_icmp .gt t, nx)) (ha : i32 a) (hb : i32 b) (ht : t.toNat = tgt) (kt : b < a → Wp cd D tgt ls st M Q) (kf : ¬ b < a → Wp cd D nx ls st M Q) : Wp cd D pc ls (vI b :: vI a :: st) M Q := by
  by_cases hc : b < a
  · obtain ⟨r0, M0, hQ, n0, hn⟩ := kt hc
    refine ⟨r0, M0, hQ, n0 + 1, ?_⟩
    unfold Rs; rw [h]
    refine ⟨Or.inr ⟨ha, hb⟩, ?_⟩
    rw [show cmpI .gt a b = true from decide_eq_true hc]
    rw [← ht] at hn; exact hn
  · obtain ⟨r0, M0, hQ, n0, hn⟩ := kf hc
    refine ⟨r0, M0, hQ, n0 + 1, ?_⟩
    unfold Rs; rw [h]
    refine ⟨Or.inr ⟨ha, hb⟩, ?_⟩
    rw [show cmpI .gt a b = false from decide_eq_false hc]
    exact hn
theorem w_if_gt {a : Int} {t : Int} {tgt : Nat} (h : mAt cd pc = some (.ifCond .gt t, nx)) (ha : i32 a) (ht : t.toNat = tgt) (kt : 0 < a → Wp cd D tgt ls st M Q) (kf : ¬ 0 < a → Wp cd D nx ls st M Q) : Wp cd D pc ls (vI a :: st) M Q := by
  by_cases hc : 0 < a
  · obtain ⟨r0, M0, hQ, n0, hn⟩ := kt hc
    refine ⟨r0, M0, hQ, n0 + 1, ?_⟩
    unfold Rs; rw [h]
    refine ⟨ha, ?_⟩
    rw [show cmpI .gt a 0 = true from decide_eq_true hc]
    rw [← ht] at hn; exact hn
  · obtain ⟨r0, M0, hQ, n0, hn⟩ := kf hc
    refine ⟨r0, M0, hQ, n0 + 1, ?_⟩
    unfold Rs; rw [h]
    refine ⟨ha, ?_⟩
    rw [show cmpI .gt a 0 = false from decide_eq_false hc]
    exact hn
theorem w_icmp_le {a b : Int} {t : Int} {tgt : Nat} (h : mAt cd pc = some (.if_icmp .le t, nx)) (ha : i32 a) (hb : i32 b) (ht : t.toNat = tgt) (kt : a ≤ b → Wp cd D tgt ls st M Q) (kf : ¬ a ≤ b → Wp cd D nx ls st M Q) : Wp cd D pc ls (vI b :: vI a :: st) M Q := by
  by_cases hc : a ≤ b
  · obtain ⟨r0, M0, hQ, n0, hn⟩ := kt hc
    refine ⟨r0, M0, hQ, n0 + 1, ?_⟩
    unfold Rs; rw [h]
    refine ⟨Or.inr ⟨ha, hb⟩, ?_⟩
    rw [show cmpI .le a b = true from by simp only [cmpI, Bool.not_eq_true', decide_eq_false_iff_not]; omega]
    rw [← ht] at hn; exact hn
  · obtain ⟨r0, M0, hQ, n0, hn⟩ := kf hc
    refine ⟨r0, M0, hQ, n0 + 1, ?_⟩
    unfold Rs; rw [h]
    refine ⟨Or.inr ⟨ha, hb⟩, ?_⟩
    rw [show cmpI .le a b = false from by simp only [cmpI, Bool.not_eq_false', decide_eq_true_eq]; omega]
    exact hn
theorem w_if_le {a : Int} {t : Int} {tgt : Nat} (h : mAt cd pc = some (.ifCond .le t, nx)) (ha : i32 a) (ht : t.toNat = tgt) (kt : a ≤ 0 → Wp cd D tgt ls st M Q) (kf : ¬ a ≤ 0 → Wp cd D nx ls st M Q) : Wp cd D pc ls (vI a :: st) M Q := by
  by_cases hc : a ≤ 0
  · obtain ⟨r0, M0, hQ, n0, hn⟩ := kt hc
    refine ⟨r0, M0, hQ, n0 + 1, ?_⟩
    unfold Rs; rw [h]
    refine ⟨ha, ?_⟩
    rw [show cmpI .le a 0 = true from by simp only [cmpI, Bool.not_eq_true', decide_eq_false_iff_not]; omega]
    rw [← ht] at hn; exact hn
  · obtain ⟨r0, M0, hQ, n0, hn⟩ := kf hc
    refine ⟨r0, M0, hQ, n0 + 1, ?_⟩
    unfold Rs; rw [h]
    refine ⟨ha, ?_⟩
    rw [show cmpI .le a 0 = false from by simp only [cmpI, Bool.not_eq_false', decide_eq_true_eq]; omega]
    exact hn
theorem w_acmp {a b : Nat} {c : Jvm.ClassFile.ACond} {t : Int} {tgt : Nat} (h : mAt cd pc = some (.if_acmp c t, nx)) (ha : a < cKB.length) (hb : b < cKB.length) (ht : t.toNat = tgt) (kt : ¬ a = b → Wp cd D tgt ls st M Q) (kf : a = b → Wp cd D nx ls st M Q) : Wp cd D pc ls (vR b :: vR a :: st) M Q := by
  by_cases hc : a = b
  · obtain ⟨r0, M0, hQ, n0, hn⟩ := kf hc
    refine ⟨r0, M0, hQ, n0 + 1, ?_⟩
    unfold Rs; rw [h]
    refine ⟨ha, hb, ?_⟩
    rw [show decide (a = b) = true from decide_eq_true hc]
    exact hn
  · obtain ⟨r0, M0, hQ, n0, hn⟩ := kt hc
    refine ⟨r0, M0, hQ, n0 + 1, ?_⟩
    unfold Rs; rw [h]
    refine ⟨ha, hb, ?_⟩
    rw [show decide (a = b) = false from decide_eq_false hc]
    rw [← ht] at hn; exact hn
theorem w_lcmp {a b : Int} (h : mAt cd pc = some (.lcmp, nx)) (ha : i64 a) (hb : i64 b) (k1 : a < b → Wp cd D nx ls (vI (-1) :: st) M Q) (k2 : b < a → Wp cd D nx ls (vI 1 :: st) M Q) (k3 : a = b → Wp cd D nx ls (vI 0 :: st) M Q) : Wp cd D pc ls (vL b :: vL a :: st) M Q := by
  by_cases h1 : a < b
  · obtain ⟨r0, M0, hQ, n0, hn⟩ := k1 h1
    refine ⟨r0, M0, hQ, n0 + 1, ?_⟩
    unfold Rs; rw [h]
    refine ⟨Or.inr ⟨ha, hb⟩, ?_⟩
    rw [if_pos h1]; exact hn
  · by_cases h2 : b < a
    · obtain ⟨r0, M0, hQ, n0, hn⟩ := k2 h2
      refine ⟨r0, M0, hQ, n0 + 1, ?_⟩
      unfold Rs; rw [h]
      refine ⟨Or.inr ⟨ha, hb⟩, ?_⟩
      rw [if_neg h1, if_pos h2]; exact hn
    · obtain ⟨r0, M0, hQ, n0, hn⟩ := k3 (by omega)
      refine ⟨r0, M0, hQ, n0 + 1, ?_⟩
      unfold Rs; rw [h]
      refine ⟨Or.inr ⟨ha, hb⟩, ?_⟩
      rw [if_neg h1, if_neg h2]; exact hn
/-- a value compared with itself: no range is asked -/
theorem w_icmp_self {a : Int} {t : Int} {tgt : Nat} (h : mAt cd pc = some (.if_icmp .eq t, nx)) (ht : t.toNat = tgt) (k : Wp cd D tgt ls st M Q) : Wp cd D pc ls (vI a :: vI a :: st) M Q := by
  obtain ⟨r0, M0, hQ, n0, hn⟩ := k
  refine ⟨r0, M0, hQ, n0 + 1, ?_⟩
  unfold Rs; rw [h]
  refine ⟨Or.inl rfl, ?_⟩
  rw [show cmpI .eq a a = true from decide_eq_true rfl]
  rw [← ht] at hn; exact hn
theorem w_lcmp_self {a : Int} (h : mAt cd pc = some (.lcmp, nx)) (k : Wp cd D nx ls (vI 0 :: st) M Q) : Wp cd D pc ls (vL a :: vL a :: st) M Q := by
  obtain ⟨r0, M0, hQ, n0, hn⟩ := k
  refine ⟨r0, M0, hQ, n0 + 1, ?_⟩
  unfold Rs; rw [h]
  refine ⟨Or.inl rfl, ?_⟩
  rw [if_neg (Int.lt_irrefl a), if_neg (Int.lt_irrefl a)]; exact hn
theorem w_tsw {d lo hi : Int} {os : Array Int} {x : Int} {tgt : Nat} (h : mAt cd pc = some (.tableswitch d lo hi os, nx)) (hx : i32 x) (ht : (cond (decide (x < lo ∨ hi < x)) d ((os[(x - lo).toNat]?).getD d)).toNat = tgt) (k : Wp cd D tgt ls st M Q) : Wp cd D pc ls (vI x :: st) M Q := by
  obtain ⟨r0, M0, hQ, n0, hn⟩ := k
  refine ⟨r0, M0, hQ, n0 + 1, ?_⟩
  unfold Rs; rw [h]
  refine ⟨hx, ?_⟩
  rw [← ht] at hn; exact hn
theorem w_ireturn {x : Int} (h : mAt cd pc = some (.ireturn, nx)) (hQ : Q (some (vI x)) M) : Wp cd D pc ls [vI x] M Q := ⟨_, _, hQ, 1, by unfold Rs; rw [h]; exact ⟨rfl, rfl⟩⟩
theorem w_zreturn {x : Int} (h : mAt cd pc = some (.freturn, nx)) (hx : x = 0 ∨ x = 1) (hQ : Q (some (vI x)) M) : Wp cd D pc ls [vI x] M Q := ⟨_, _, hQ, 1, by unfold Rs; rw [h]; exact ⟨rfl, hx, rfl⟩⟩
theorem w_dreturn (h : mAt cd pc = some (.dreturn, nx)) (hQ : Q (some (vI 1)) M) : Wp cd D pc ls [vI 1] M Q := ⟨_, _, hQ, 1, by unfold Rs; rw [h]; exact ⟨rfl, rfl, rfl⟩⟩
theorem w_lreturn {x : Int} (h : mAt cd pc = some (.lreturn, nx)) (hQ : Q (some (vL x)) M) : Wp cd D pc ls [vL x] M Q := ⟨_, _, hQ, 1, by unfold Rs; rw [h]; exact ⟨rfl, rfl⟩⟩
theorem w_areturn {x : Nat} (h : mAt cd pc = some (.areturn, nx)) (hQ : Q (some (vR x)) M) : Wp cd D pc ls [vR x] M Q := ⟨_, _, hQ, 1, by unfold Rs; rw [h]; exact ⟨rfl, rfl⟩⟩
theorem w_return (h : mAt cd pc = some (.return_, nx)) (hQ : Q none M) : Wp cd D pc ls [] M Q := ⟨_, _, hQ, 1, by unfold Rs; rw [h]; exact ⟨rfl, rfl⟩⟩
/-- a call: na arguments (the receiver too) are on the stack, the last one on top -/
theorem w_call {y na d1 : Nat} {o : Option Nat} {as rst : List mV} {r : Option mV} {M1 : mM} {st2 : List mV} (h : mAt cd pc = some (.invokestatic y, nx) ∨ mAt cd pc = some (.invokevirtual y, nx)) (hE : E d1 y as M r M1) (hd : d1 ≤ D) (hn : mNof mXt y = (na, o)) (hl : Nat.ble na st.length = true) (ha : (st.take na).reverse = as) (hr : st.drop na = rst) (hw : Nat.ble ((rst.map mcat).sum) 8 = true)
    (hrc : mRecv (cKB, cRT, M) o as) (hs : r.toList ++ rst = st2) (k : Wp cd D nx ls st2 M1 Q) : Wp cd D pc ls st M Q := by
  obtain ⟨r0, M0, hQ, n0, hn2⟩ := k
  refine ⟨r0, M0, hQ, n0 + 1, ?_⟩
  have hcall : (mNof mXt y).1 ≤ st.length ∧ ((st.drop (mNof mXt y).1).map mcat).sum ≤ 8 ∧ mRecv (cKB, cRT, M) (mNof mXt y).2 (st.take (mNof mXt y).1).reverse ∧ ∃ (r2 : Option mV) (S1 : mS), Ev mXt D y (st.take (mNof mXt y).1).reverse (cKB, cRT, M) r2 S1 ∧ Rs (mNof mXt) (Ev mXt D) cd (r0, (cKB, cRT, M0)) n0 nx ls (r2.toList ++ st.drop (mNof mXt y).1) S1 := by
    rw [hn]
    refine ⟨Nat.le_of_ble_eq_true hl, ?_, ?_, r, _, by rw [ha]; exact hE.at hd, by rw [hr, hs]; exact hn2⟩
    · rw [hr]; exact Nat.le_of_ble_eq_true hw
    · rw [ha]; exact hrc
  unfold Rs
  rcases h with h | h
  · rw [h]; exact hcall
  · rw [h]; exact hcall
end WP
