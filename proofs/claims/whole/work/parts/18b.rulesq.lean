/-- a contract where the answer and the memory are not known, but what holds of them is -/
def EQ (d y : Nat) (as : List mV) (M : mM) (Q : mP) : Prop := ∀ e, ∃ (r : Option mV) (M1 : mM), Q r M1 ∧ Ev mXt (d + e) y as (cKB, cRT, M) r (cKB, cRT, M1)
theorem E.q {d y : Nat} {as : List mV} {M : mM} {r : Option mV} {M1 : mM} {Q : mP} (h : E d y as M r M1) (hQ : Q r M1) : EQ d y as M Q := fun e => ⟨r, M1, hQ, h e⟩
theorem EQ.imp {d y : Nat} {as : List mV} {M : mM} {Q Q2 : mP} (h : EQ d y as M Q) (hQ : ∀ r M1, Q r M1 → Q2 r M1) : EQ d y as M Q2 := fun e => by
  obtain ⟨r, M1, h1, h2⟩ := h e
  exact ⟨r, M1, hQ _ _ h1, h2⟩
theorem EQ.up {d d2 y : Nat} {as : List mV} {M : mM} {Q : mP} (h : EQ d y as M Q) (hd : d ≤ d2) : EQ d2 y as M Q := fun e => by
  have := h (d2 - d + e)
  rwa [show d + (d2 - d + e) = d2 + e by omega] at this
theorem E.up {d d2 y : Nat} {as : List mV} {M : mM} {r : Option mV} {M1 : mM} (h : E d y as M r M1) (hd : d ≤ d2) : E d2 y as M r M1 := fun e => by
  have := h (d2 - d + e)
  rwa [show d + (d2 - d + e) = d2 + e by omega] at this
theorem q_in {d y : Nat} {as : List mV} {M : mM} {Q : mP} {cd : mQ} {ls : List mV} (hc : (mXt y).2.2.2.2.2.2.2 = cd) (hl : Nat.ble (mEnt as).length (mXt y).2.2.1 = true) (he : mEnt as ++ List.replicate ((mXt y).2.2.1 - (mEnt as).length) vN = ls)
    (h : ∀ D, d ≤ D → Wp cd D 0 ls [] M Q) : EQ (d + 1) y as M Q := by
  intro e
  obtain ⟨r1, M2, hQ, h2⟩ := h (d + e) (Nat.le_add_right _ _)
  rw [show d + 1 + e = (d + e) + 1 by omega]
  subst hc; subst he
  exact ⟨r1, M2, hQ, Nat.le_of_ble_eq_true hl, h2⟩
theorem w_callQ {cd : mQ} {D pc nx : Nat} {ls st : List mV} {M : mM} {Q Q1 : mP} {y na d1 : Nat} {o : Option Nat} {as rst : List mV} (h : mAt cd pc = some (.invokestatic y, nx) ∨ mAt cd pc = some (.invokevirtual y, nx)) (hE : EQ d1 y as M Q1) (hd : d1 ≤ D) (hn : mNof mXt y = (na, o)) (hl : Nat.ble na st.length = true) (ha : (st.take na).reverse = as) (hr : st.drop na = rst) (hw : Nat.ble ((rst.map mcat).sum) 8 = true)
    (hrc : mRecv (cKB, cRT, M) o as) (k : ∀ (r : Option mV) (M1 : mM), Q1 r M1 → Wp cd D nx ls (r.toList ++ rst) M1 Q) : Wp cd D pc ls st M Q := by
  obtain ⟨r, M1, hQ1, hE2⟩ := hE (D - d1)
  rw [show d1 + (D - d1) = D by omega] at hE2
  obtain ⟨r0, M0, hQ, n, hn2⟩ := k r M1 hQ1
  refine ⟨r0, M0, hQ, n + 1, ?_⟩
  have hcall : (mNof mXt y).1 ≤ st.length ∧ ((st.drop (mNof mXt y).1).map mcat).sum ≤ 8 ∧ mRecv (cKB, cRT, M) (mNof mXt y).2 (st.take (mNof mXt y).1).reverse ∧ ∃ (r2 : Option mV) (S1 : mS), Ev mXt D y (st.take (mNof mXt y).1).reverse (cKB, cRT, M) r2 S1 ∧ Rs (mNof mXt) (Ev mXt D) cd (r0, (cKB, cRT, M0)) n nx ls (r2.toList ++ st.drop (mNof mXt y).1) S1 := by
    rw [hn]
    refine ⟨Nat.le_of_ble_eq_true hl, ?_, ?_, r, _, by rw [ha]; exact hE2, by rw [hr]; exact hn2⟩
    · rw [hr]; exact Nat.le_of_ble_eq_true hw
    · rw [ha]; exact hrc
  unfold Rs
  rcases h with h | h
  · rw [h]; exact hcall
  · rw [h]; exact hcall
section WV
variable {cd : mQ} {D pc nx : Nat} {ls st : List mV} {M : mM} {Q : mP}
theorem w_ialoadV {a n : Nat} {i v : Int} (h : mAt cd pc = some (.iaload, nx)) (ha : cKB[a]? = some (1, n)) (h0 : 0 ≤ i) (h1 : i < n) (hv : M a i.toNat = v) (k : Wp cd D nx ls (vI v :: st) M Q) : Wp cd D pc ls (vI i :: vR a :: st) M Q := w_iaload h ha h0 h1 (by rw [hv]; exact k)
theorem w_laloadV {a n : Nat} {i v : Int} (h : mAt cd pc = some (.laload, nx)) (ha : cKB[a]? = some (2, n)) (h0 : 0 ≤ i) (h1 : i < n) (hv : M a i.toNat = v) (k : Wp cd D nx ls (vL v :: st) M Q) : Wp cd D pc ls (vI i :: vR a :: st) M Q := w_laload h ha h0 h1 (by rw [hv]; exact k)
theorem w_baloadV {a n : Nat} {i v : Int} (h : mAt cd pc = some (.baload, nx)) (ha : cKB[a]? = some (3, n)) (h0 : 0 ≤ i) (h1 : i < n) (hv : M a i.toNat = v) (k : Wp cd D nx ls (vI v :: st) M Q) : Wp cd D pc ls (vI i :: vR a :: st) M Q := w_baload h ha h0 h1 (by rw [hv]; exact k)
theorem w_getIV {c f a : Nat} {v : Int} (h : mAt cd pc = some (.multianewarray c f, nx)) (ha : cKB[a]? = some (0, c)) (ht : mfk c f = 0 ∨ mfk c f = 3) (hv : M a f = v) (k : Wp cd D nx ls (vI v :: st) M Q) : Wp cd D pc ls (vR a :: st) M Q := w_getI h ha ht (by rw [hv]; exact k)
theorem w_getLV {c f a : Nat} {v : Int} (h : mAt cd pc = some (.multianewarray c f, nx)) (ha : cKB[a]? = some (0, c)) (ht : mfk c f = 1) (hv : M a f = v) (k : Wp cd D nx ls (vL v :: st) M Q) : Wp cd D pc ls (vR a :: st) M Q := w_getL h ha ht (by rw [hv]; exact k)
end WV
