/-! ===== a point added, points compared ===== -/
theorem cmpP_lt {P Q : Pt} : (cmpP P Q < 0 ↔ ptLt P Q) ∧ (cmpP P Q = 0 ↔ ptEq P Q) ∧ -1 ≤ cmpP P Q ∧ cmpP P Q ≤ 1 := by
  unfold cmpP ptLt ptEq
  refine ⟨?_, ?_, ?_, ?_⟩ <;> (repeat' split) <;> omega
/-- the arrays while room is made: n points, those from i on moved up if behind k -/
def PtG (p : Nat) (L : List Pt) (i k : Nat) (M N : mM) : Prop := (∀ a j, (a < p + 1 ∨ p + 5 < a) → N a j = M a j) ∧ (∀ j P, L[j]? = some P → j < k → ∀ q, q < 5 → N (p + 1 + q) j = fldP P q) ∧ (∀ j P, L[j]? = some P → k ≤ j → ∀ q, q < 5 → N (p + 1 + q) (j + 1) = fldP P q)
theorem e_padd {p : Nat} {L : List Pt} {M : mM} {x y d t m : Int} (hp : isPts p) (h : PtR p L M) (hx : -100000 ≤ x ∧ x ≤ 100000) (hy : -100000 ≤ y ∧ y ≤ 100000) (hd : 0 < d ∧ d ≤ 16) (ht : 0 < t) (hdt : d * t = 720720) (hm : -3000000 ≤ m ∧ m ≤ 3000000) : EQ 3 74 [vR p, vI x, vI y, vI d, vI m] M (fun r M1 => r = none ∧ PtR p (capP L (x * t, y * t, m)) M1 ∧ ∀ a, (a < p ∨ p + 5 < a) → M1 a = M a) := by
  have hpp := hp
  obtain ⟨⟨k0, k1, k2, k3, k4, k5⟩, b1, b2, b3, b4, b5⟩ := hp
  have hh := h
  obtain ⟨h1, h2, h3⟩ := h
  have n1 := numP_le hd ht hdt hx
  have n2 := numP_le hd ht hdt hy
  have f1 := frac_num (x := x) hd.1 ht hdt
  have f2 := frac_num (x := y) hd.1 ht hdt
  have hgx : 1 ≤ gcd1 x d := by unfold gcd1; omega
  have hgy : 1 ≤ gcd1 y d := by unfold gcd1; omega
  have hgx2 : (gcd1 x d : Int) ≤ 100000 := by
    rw [gcd1_eq hd.1]
    have := Int.le_of_dvd hd.1 (Int.gcd_dvd_right x d)
    omega
  have hgy2 : (gcd1 y d : Int) ≤ 100000 := by
    rw [gcd1_eq hd.1]
    have := Int.le_of_dvd hd.1 (Int.gcd_dvd_right y d)
    omega
  have dv1 := e_divisor x d
  have dv2 := e_divisor y d
  generalize hP : ((x * t, y * t, m) : Pt) = P
  have hPx : x * t = P.1 := by rw [← hP]
  have hPy : y * t = P.2.1 := by rw [← hP]
  have hPm : m = P.2.2 := by rw [← hP]
  have hcmp : ∀ (i : Nat) (Q : Pt), L[i]? = some Q → E 2 75 [vR p, vI i, vI x, vI y, vI d] M (some (vI (cmpP Q P))) M := fun i Q hQ => by
    rw [← hP]
    exact e_pcompare hpp hh hQ hx hy hd ht hdt
  refine q_in (ls := [vR p, vI x, vI y, vI d, vI m, vN, vN]) mq_74 (ml_74 rfl) rfl fun D hD => ?_
  -- room is made from the end on, then the point is put at i
  have put : ∀ (i : Nat) (N : mM), i ≤ L.length → L.length < 16 → insP L P = L.take i ++ P :: L.drop i → PtG p L i i M N → Wp mc_74 D 93 [vR p, vI x, vI y, vI d, vI m, vI i, vI i] [] N (fun r M1 => r = none ∧ PtR p (capP L P) M1 ∧ ∀ a, (a < p ∨ p + 5 < a) → M1 a = M a) := by
    intro i N hi hl hins hG
    obtain ⟨g1, g2, g3⟩ := hG
    have hfin : PtR p (capP L P) (upI (upI (upI (upI (upI (upI N (p + 1) i (x.tdiv (gcd1 x d))) (p + 2) i (d.tdiv (gcd1 x d))) (p + 3) i (y.tdiv (gcd1 y d))) (p + 4) i (d.tdiv (gcd1 y d))) (p + 5) i m) p 5 ((L.length : Int) + 1)) ∧ ∀ a, (a < p ∨ p + 5 < a) → (upI (upI (upI (upI (upI (upI N (p + 1) i (x.tdiv (gcd1 x d))) (p + 2) i (d.tdiv (gcd1 x d))) (p + 3) i (y.tdiv (gcd1 y d))) (p + 4) i (d.tdiv (gcd1 y d))) (p + 5) i m) p 5 ((L.length : Int) + 1)) a = M a := by
      rw [← f1.1, ← f1.2, ← f2.1, ← f2.2, hPx, hPy, hPm]
      rw [hPx] at n1
      rw [hPy] at n2
      rw [hPm] at hm
      have hcap : capP L P = L.take i ++ P :: L.drop i := by unfold capP; rw [if_neg (by omega)]; exact hins
      rw [hcap]
      have hlen : (L.take i ++ P :: L.drop i).length = L.length + 1 := by
        rw [List.length_append, List.length_take, List.length_cons, List.length_drop]; omega
      refine ⟨⟨by rw [upI_same, hlen]; rfl, by rw [hlen]; omega, fun k Q hk => ?_⟩, fun a ha => ?_⟩
      · rcases Nat.lt_trichotomy k i with q | q | q
        · have hQ : L[k]? = some Q := by
            rw [List.getElem?_append_left (by rw [List.length_take]; omega), List.getElem?_take, if_pos q] at hk
            exact hk
          refine ⟨(h3 k Q hQ).1, fun j hj => ?_⟩
          rw [← g2 k Q hQ q j hj]
          unfold upI
          rw [if_neg (by omega), if_neg (by omega), if_neg (by omega), if_neg (by omega), if_neg (by omega), if_neg (by omega)]
        · subst q
          have hQ : Q = P := by
            rw [List.getElem?_append_right (by rw [List.length_take]; omega), List.length_take, show k - min k L.length = 0 by omega] at hk
            simpa using hk.symm
          subst hQ
          refine ⟨⟨n1, n2, hm⟩, fun j hj => ?_⟩
          unfold upI
          have hj5 : j = 0 ∨ j = 1 ∨ j = 2 ∨ j = 3 ∨ j = 4 := by omega
          rcases hj5 with rfl | rfl | rfl | rfl | rfl
          · rw [if_neg (by omega), if_neg (by omega), if_neg (by omega), if_neg (by omega), if_neg (by omega), if_pos ⟨rfl, rfl⟩]; rfl
          · rw [if_neg (by omega), if_neg (by omega), if_neg (by omega), if_neg (by omega), if_pos ⟨rfl, rfl⟩]; rfl
          · rw [if_neg (by omega), if_neg (by omega), if_neg (by omega), if_pos ⟨rfl, rfl⟩]; rfl
          · rw [if_neg (by omega), if_neg (by omega), if_pos ⟨rfl, rfl⟩]; rfl
          · rw [if_neg (by omega), if_pos ⟨rfl, rfl⟩]; rfl
        · have hQ : L[k - 1]? = some Q := by
            rw [List.getElem?_append_right (by rw [List.length_take]; omega), List.length_take, show k - min i L.length = (k - 1 - i) + 1 by omega, List.getElem?_cons_succ, List.getElem?_drop, show i + (k - 1 - i) = k - 1 by omega] at hk
            exact hk
          refine ⟨(h3 _ Q hQ).1, fun j hj => ?_⟩
          rw [← g3 (k - 1) Q hQ (by omega) j hj, show k - 1 + 1 = k by omega]
          unfold upI
          rw [if_neg (by omega), if_neg (by omega), if_neg (by omega), if_neg (by omega), if_neg (by omega), if_neg (by omega)]
      · funext j
        rw [← g1 a j (by omega)]
        unfold upI
        rw [if_neg (by omega), if_neg (by omega), if_neg (by omega), if_neg (by omega), if_neg (by omega), if_neg (by omega)]
    have e162 : upI (upI (upI (upI (upI N (p + 1) i (x.tdiv (gcd1 x d))) (p + 2) i (d.tdiv (gcd1 x d))) (p + 3) i (y.tdiv (gcd1 y d))) (p + 4) i (d.tdiv (gcd1 y d))) (p + 5) i m p 5 = (L.length : Int) := by
      rw [← h1, ← g1 p 5 (by omega)]
      unfold upI
      rw [if_neg (by omega), if_neg (by omega), if_neg (by omega), if_neg (by omega), if_neg (by omega)]
    refine w_iload rfl rfl (w_iload rfl rfl ?_)
    refine w_call (Or.inl rfl) (dv1 _ (by omega) (by omega)) (by omega) nof_78 rfl rfl rfl rfl trivial rfl ?_
    refine w_istore (ls2 := [_, _, _, _, _, _, _]) rfl rfl rfl (w_aload rfl rfl (w_getR rfl (by first | rfl | assumption) rfl (by first | rfl | assumption) (w_iload rfl rfl (w_iload rfl rfl (w_iload rfl rfl (w_idiv rfl (by first | assumption | exact i32_0 | (unfold i32 at *; omega)) (by first | assumption | exact i32_0 | (unfold i32 at *; omega)) (by first | decide | omega | assumption) (w_iastore rfl (by first | rfl | assumption) (by omega) (by omega) ?_)))))))
    refine w_aload rfl rfl (w_getR rfl (by first | rfl | assumption) rfl (by first | rfl | assumption) (w_iload rfl rfl (w_iload rfl rfl (w_iload rfl rfl (w_idiv rfl (by first | assumption | exact i32_0 | (unfold i32 at *; omega)) (by first | assumption | exact i32_0 | (unfold i32 at *; omega)) (by first | decide | omega | assumption) (w_iastore rfl (by first | rfl | assumption) (by omega) (by omega) (w_iload rfl rfl ?_)))))))
    refine w_iload rfl rfl ?_
    refine w_call (Or.inl rfl) (dv2 _ (by omega) (by omega)) (by omega) nof_78 rfl rfl rfl rfl trivial rfl ?_
    refine w_istore (ls2 := [_, _, _, _, _, _, _]) rfl rfl rfl (w_aload rfl rfl (w_getR rfl (by first | rfl | assumption) rfl (by first | rfl | assumption) (w_iload rfl rfl (w_iload rfl rfl (w_iload rfl rfl (w_idiv rfl (by first | assumption | exact i32_0 | (unfold i32 at *; omega)) (by first | assumption | exact i32_0 | (unfold i32 at *; omega)) (by first | decide | omega | assumption) (w_iastore rfl (by first | rfl | assumption) (by omega) (by omega) ?_)))))))
    refine w_aload rfl rfl (w_getR rfl (by first | rfl | assumption) rfl (by first | rfl | assumption) (w_iload rfl rfl (w_iload rfl rfl (w_iload rfl rfl (w_idiv rfl (by first | assumption | exact i32_0 | (unfold i32 at *; omega)) (by first | assumption | exact i32_0 | (unfold i32 at *; omega)) (by first | decide | omega | assumption) (w_iastore rfl (by first | rfl | assumption) (by omega) (by omega) (w_aload rfl rfl ?_)))))))
    refine w_getR rfl (by first | rfl | assumption) rfl (by first | rfl | assumption) (w_iload rfl rfl (w_iload rfl rfl (w_iastore rfl (by first | rfl | assumption) (by omega) (by omega) (w_aload rfl rfl (w_dup rfl rfl (w_getIV rfl (by first | rfl | assumption) (by first | exact Or.inl rfl | exact Or.inr rfl) (e162) (w_iconst rfl ?_)))))))
    refine w_iadd rfl (w_putI rfl (by first | rfl | assumption) rfl ?_)
    exact w_return rfl ⟨rfl, by exact hfin⟩
  have move : ∀ (n i k : Nat) (N : mM), k - i = n → i ≤ k → k ≤ L.length → L.length < 16 → insP L P = L.take i ++ P :: L.drop i → PtG p L i k M N → Wp mc_74 D 70 [vR p, vI x, vI y, vI d, vI m, vI i, vI k] [] N (fun r M1 => r = none ∧ PtR p (capP L P) M1 ∧ ∀ a, (a < p ∨ p + 5 < a) → M1 a = M a) := by
    intro n
    induction n with
    | zero =>
      intro i k N hn hik hk hl hins hG
      obtain rfl : k = i := by omega
      have hgo := put k N hk hl hins hG
      refine w_iload rfl rfl (w_iload rfl rfl ?_)
      refine w_icmp_le (tgt := 93) rfl (by first | assumption | exact i32_0 | (unfold i32 at *; omega)) (by first | assumption | exact i32_0 | (unfold i32 at *; omega)) rfl (fun c74 => ?_) (fun c74 => ?_)
      · skip
        exact hgo
      · skip
        exfalso; omega
    | succ n ih =>
      intro i k N hn hik hk hl hins hG
      obtain ⟨k', rfl⟩ : ∃ k', k = k' + 1 := ⟨k - 1, by omega⟩
      have hcp := e_pcopy (p := p) (src := k') (dst := k' + 1) (M := N) hpp (by omega) (by omega)
      have hgo := ih i k' (cpy p k' (k' + 1) N) (by omega) (by omega) (by omega) hl hins (by
        obtain ⟨g1, g2, g3⟩ := hG
        refine ⟨fun a j ha => ?_, fun j Q hQ hj q hq => ?_, fun j Q hQ hj q hq => ?_⟩
        · rw [← g1 a j ha]; exact if_neg (by omega)
        · rw [← g2 j Q hQ (by omega) q hq]; exact if_neg (by omega)
        · unfold cpy
          by_cases z : j = k'
          · subst z
            rw [if_pos (by omega)]
            exact g2 j Q hQ (by omega) q hq
          · rw [if_neg (by omega)]
            exact g3 j Q hQ (by omega) q hq)
      have e1 : ((k' + 1 : Nat) : Int) - 1 = (k' : Int) := by omega
      have e2 : ((k' + 1 : Nat) : Int) + -1 = (k' : Int) := by omega
      refine w_iload rfl rfl (w_iload rfl rfl ?_)
      refine w_icmp_le (tgt := 93) rfl (by first | assumption | exact i32_0 | (unfold i32 at *; omega)) (by first | assumption | exact i32_0 | (unfold i32 at *; omega)) rfl (fun c74 => ?_) (fun c74 => ?_)
      · skip
        exfalso; omega
      · skip
        refine w_aload rfl rfl (w_iload rfl rfl (w_iconst rfl (w_isub rfl (w_iload rfl rfl ?_))))
        rw [e1]
        refine w_call (Or.inr rfl) (hcp) (by omega) nof_77 rfl rfl rfl rfl (by first | rfl | (show cKB[_]? = _; assumption)) rfl ?_
        refine w_iinc (ls2 := [_, _, _, _, _, _, _]) rfl rfl rfl (w_goto (tgt := 70) rfl rfl ?_)
        rw [e2]
        exact hgo
  have enter : ∀ i : Nat, i ≤ L.length → (∀ j Q, j < i → L[j]? = some Q → ptLt Q P) → (∀ Q, L[i]? = some Q → ¬ ptLt Q P) → Wp mc_74 D 30 [vR p, vI x, vI y, vI d, vI m, vI i, vN] [] M (fun r M1 => r = none ∧ PtR p (capP L P) M1 ∧ ∀ a, (a < p ∨ p + 5 < a) → M1 a = M a) := by
    intro i hi hlt hnl
    by_cases hfull : 16 ≤ L.length
    · have hsame : PtR p (capP L P) M := by unfold capP; rw [if_pos hfull]; exact hh
      refine w_aload rfl rfl (w_getIV rfl (by first | rfl | assumption) (by first | exact Or.inl rfl | exact Or.inr rfl) (h1) (w_aload rfl rfl (w_getR rfl (by first | rfl | assumption) rfl (by first | rfl | assumption) (w_alen rfl (by first | rfl | assumption) (by decide) (by decide) ?_))))
      refine w_icmp_ge (tgt := 63) rfl (by first | assumption | exact i32_0 | (unfold i32 at *; omega)) (by first | assumption | exact i32_0 | (unfold i32 at *; omega)) rfl (fun c39 => ?_) (fun c39 => ?_)
      · skip
        exact w_return rfl ⟨rfl, by exact ⟨hsame, fun _ _ => rfl⟩⟩
      · skip
        exfalso; omega
    · rcases Nat.lt_or_ge i L.length with q | q
      · obtain ⟨Q, hQ⟩ : ∃ Q, L[i]? = some Q := ⟨L[i], List.getElem?_eq_getElem q⟩
        have hc := hcmp i Q hQ
        have hr := cmpP_lt (P := Q) (Q := P)
        generalize cmpP Q P = c at hc hr
        have hnn := hnl Q hQ
        by_cases hE : ptEq Q P
        · have hsame : PtR p (capP L P) M := by unfold capP; rw [if_neg hfull, insP_found L i hlt hQ hE]; exact hh
          have hc0 : c = 0 := hr.2.1.mpr hE
          subst hc0
          refine w_aload rfl rfl (w_getIV rfl (by first | rfl | assumption) (by first | exact Or.inl rfl | exact Or.inr rfl) (h1) (w_aload rfl rfl (w_getR rfl (by first | rfl | assumption) rfl (by first | rfl | assumption) (w_alen rfl (by first | rfl | assumption) (by decide) (by decide) ?_))))
          refine w_icmp_ge (tgt := 63) rfl (by first | assumption | exact i32_0 | (unfold i32 at *; omega)) (by first | assumption | exact i32_0 | (unfold i32 at *; omega)) rfl (fun c39 => ?_) (fun c39 => ?_)
          · skip
            exact w_return rfl ⟨rfl, by exact ⟨hsame, fun _ _ => rfl⟩⟩
          · skip
            refine w_iload rfl rfl (w_aload rfl rfl (w_getIV rfl (by first | rfl | assumption) (by first | exact Or.inl rfl | exact Or.inr rfl) (h1) ?_))
            refine w_icmp_ge (tgt := 64) rfl (by first | assumption | exact i32_0 | (unfold i32 at *; omega)) (by first | assumption | exact i32_0 | (unfold i32 at *; omega)) rfl (fun c48 => ?_) (fun c48 => ?_)
            · skip
              exfalso; omega
            · skip
              refine w_aload rfl rfl (w_iload rfl rfl (w_iload rfl rfl (w_iload rfl rfl (w_iload rfl rfl ?_))))
              refine w_call (Or.inr rfl) (hc) (by omega) nof_75 rfl rfl rfl rfl (by first | rfl | (show cKB[_]? = _; assumption)) rfl ?_
              refine w_if_ne (tgt := 64) rfl (by first | assumption | exact i32_0 | (unfold i32 at *; omega)) rfl (fun c => absurd c (by decide)) (fun _ => ?_)
              exact w_return rfl ⟨rfl, by exact ⟨hsame, fun _ _ => rfl⟩⟩
        · have hc0 : c ≠ 0 := fun z => hE (hr.2.1.mp z)
          have hgo := move (L.length - i) i L.length M rfl hi (Nat.le_refl _) (by omega) (insP_at L i hi hlt (fun R hR => by rw [hQ] at hR; cases hR; exact ⟨hnn, hE⟩)) ⟨fun _ _ _ => rfl, fun j R hR _ z hz => (h3 j R hR).2 z hz, fun j R hR hj => absurd (List.getElem?_eq_some_iff.mp hR).1 (by omega)⟩
          refine w_aload rfl rfl (w_getIV rfl (by first | rfl | assumption) (by first | exact Or.inl rfl | exact Or.inr rfl) (h1) (w_aload rfl rfl (w_getR rfl (by first | rfl | assumption) rfl (by first | rfl | assumption) (w_alen rfl (by first | rfl | assumption) (by decide) (by decide) ?_))))
          refine w_icmp_ge (tgt := 63) rfl (by first | assumption | exact i32_0 | (unfold i32 at *; omega)) (by first | assumption | exact i32_0 | (unfold i32 at *; omega)) rfl (fun c39 => ?_) (fun c39 => ?_)
          · skip
            exfalso; omega
          · skip
            refine w_iload rfl rfl (w_aload rfl rfl (w_getIV rfl (by first | rfl | assumption) (by first | exact Or.inl rfl | exact Or.inr rfl) (h1) ?_))
            refine w_icmp_ge (tgt := 64) rfl (by first | assumption | exact i32_0 | (unfold i32 at *; omega)) (by first | assumption | exact i32_0 | (unfold i32 at *; omega)) rfl (fun c48 => ?_) (fun c48 => ?_)
            · skip
              refine w_aload rfl rfl (w_getIV rfl (by first | rfl | assumption) (by first | exact Or.inl rfl | exact Or.inr rfl) (h1) (w_istore (ls2 := [_, _, _, _, _, _, _]) rfl rfl rfl ?_))
              exact hgo
            · skip
              refine w_aload rfl rfl (w_iload rfl rfl (w_iload rfl rfl (w_iload rfl rfl (w_iload rfl rfl ?_))))
              refine w_call (Or.inr rfl) (hc) (by omega) nof_75 rfl rfl rfl rfl (by first | rfl | (show cKB[_]? = _; assumption)) rfl ?_
              refine w_if_ne (tgt := 64) rfl (by first | assumption | exact i32_0 | (unfold i32 at *; omega)) rfl (fun c60 => ?_) (fun c60 => ?_)
              · skip
                refine w_aload rfl rfl (w_getIV rfl (by first | rfl | assumption) (by first | exact Or.inl rfl | exact Or.inr rfl) (h1) (w_istore (ls2 := [_, _, _, _, _, _, _]) rfl rfl rfl ?_))
                exact hgo
              · skip
                exfalso; omega
      · have hgo := move (L.length - i) i L.length M rfl hi (Nat.le_refl _) (by omega) (insP_at L i hi hlt (fun R hR => absurd (List.getElem?_eq_some_iff.mp hR).1 (by omega))) ⟨fun _ _ _ => rfl, fun j R hR _ z hz => (h3 j R hR).2 z hz, fun j R hR hj => absurd (List.getElem?_eq_some_iff.mp hR).1 (by omega)⟩
        refine w_aload rfl rfl (w_getIV rfl (by first | rfl | assumption) (by first | exact Or.inl rfl | exact Or.inr rfl) (h1) (w_aload rfl rfl (w_getR rfl (by first | rfl | assumption) rfl (by first | rfl | assumption) (w_alen rfl (by first | rfl | assumption) (by decide) (by decide) ?_))))
        refine w_icmp_ge (tgt := 63) rfl (by first | assumption | exact i32_0 | (unfold i32 at *; omega)) (by first | assumption | exact i32_0 | (unfold i32 at *; omega)) rfl (fun c39 => ?_) (fun c39 => ?_)
        · skip
          exfalso; omega
        · skip
          refine w_iload rfl rfl (w_aload rfl rfl (w_getIV rfl (by first | rfl | assumption) (by first | exact Or.inl rfl | exact Or.inr rfl) (h1) ?_))
          refine w_icmp_ge (tgt := 64) rfl (by first | assumption | exact i32_0 | (unfold i32 at *; omega)) (by first | assumption | exact i32_0 | (unfold i32 at *; omega)) rfl (fun c48 => ?_) (fun c48 => ?_)
          · skip
            refine w_aload rfl rfl (w_getIV rfl (by first | rfl | assumption) (by first | exact Or.inl rfl | exact Or.inr rfl) (h1) (w_istore (ls2 := [_, _, _, _, _, _, _]) rfl rfl rfl ?_))
            exact hgo
          · skip
            exfalso; omega
  have find : ∀ (n i : Nat), L.length - i = n → i ≤ L.length → (∀ j Q, j < i → L[j]? = some Q → ptLt Q P) → Wp mc_74 D 3 [vR p, vI x, vI y, vI d, vI m, vI i, vN] [] M (fun r M1 => r = none ∧ PtR p (capP L P) M1 ∧ ∀ a, (a < p ∨ p + 5 < a) → M1 a = M a) := by
    intro n
    induction n with
    | zero =>
      intro i hn hi hlt
      have hgo := enter i hi hlt (fun Q hQ => absurd (List.getElem?_eq_some_iff.mp hQ).1 (by omega))
      refine w_iload rfl rfl (w_aload rfl rfl (w_getIV rfl (by first | rfl | assumption) (by first | exact Or.inl rfl | exact Or.inr rfl) (h1) ?_))
      refine w_icmp_ge (tgt := 30) rfl (by first | assumption | exact i32_0 | (unfold i32 at *; omega)) (by first | assumption | exact i32_0 | (unfold i32 at *; omega)) rfl (fun c9 => ?_) (fun c9 => ?_)
      · skip
        exact hgo
      · skip
        exfalso; omega
    | succ n ih =>
      intro i hn hi hlt
      obtain ⟨Q, hQ⟩ : ∃ Q, L[i]? = some Q := ⟨L[i], List.getElem?_eq_getElem (by omega)⟩
      have hc := hcmp i Q hQ
      have hr := cmpP_lt (P := Q) (Q := P)
      generalize cmpP Q P = c at hc hr
      by_cases hl : ptLt Q P
      · have hc0 : c < 0 := hr.1.mpr hl
        have hgo := ih (i + 1) (by omega) (by omega) (fun j R hj hR => by
          by_cases z : j = i
          · subst z; rw [hQ] at hR; cases hR; exact hl
          · exact hlt j R (by omega) hR)
        refine w_iload rfl rfl (w_aload rfl rfl (w_getIV rfl (by first | rfl | assumption) (by first | exact Or.inl rfl | exact Or.inr rfl) (h1) ?_))
        refine w_icmp_ge (tgt := 30) rfl (by first | assumption | exact i32_0 | (unfold i32 at *; omega)) (by first | assumption | exact i32_0 | (unfold i32 at *; omega)) rfl (fun c9 => ?_) (fun c9 => ?_)
        · skip
          exfalso; omega
        · skip
          refine w_aload rfl rfl (w_iload rfl rfl (w_iload rfl rfl (w_iload rfl rfl (w_iload rfl rfl ?_))))
          refine w_call (Or.inr rfl) (hc) (by omega) nof_75 rfl rfl rfl rfl (by first | rfl | (show cKB[_]? = _; assumption)) rfl ?_
          refine w_if_ge (tgt := 30) rfl (by first | assumption | exact i32_0 | (unfold i32 at *; omega)) rfl (fun c21 => ?_) (fun c21 => ?_)
          · skip
            exfalso; omega
          · skip
            refine w_iinc (ls2 := [_, _, _, _, _, _, _]) rfl rfl rfl (w_goto (tgt := 3) rfl rfl ?_)
            exact hgo
      · have hc0 : ¬ c < 0 := fun z => hl (hr.1.mp z)
        have hgo := enter i hi hlt (fun R hR => by rw [hQ] at hR; cases hR; exact hl)
        refine w_iload rfl rfl (w_aload rfl rfl (w_getIV rfl (by first | rfl | assumption) (by first | exact Or.inl rfl | exact Or.inr rfl) (h1) ?_))
        refine w_icmp_ge (tgt := 30) rfl (by first | assumption | exact i32_0 | (unfold i32 at *; omega)) (by first | assumption | exact i32_0 | (unfold i32 at *; omega)) rfl (fun c9 => ?_) (fun c9 => ?_)
        · skip
          first | exact hgo | (exfalso; omega)
        · skip
          refine w_aload rfl rfl (w_iload rfl rfl (w_iload rfl rfl (w_iload rfl rfl (w_iload rfl rfl ?_))))
          refine w_call (Or.inr rfl) (hc) (by omega) nof_75 rfl rfl rfl rfl (by first | rfl | (show cKB[_]? = _; assumption)) rfl ?_
          refine w_if_ge (tgt := 30) rfl (by first | assumption | exact i32_0 | (unfold i32 at *; omega)) rfl (fun c21 => ?_) (fun c21 => ?_)
          · skip
            first | exact hgo | (exfalso; omega)
          · skip
            exfalso; omega
  have hgo := find L.length 0 (Nat.sub_zero _) (Nat.zero_le _) (fun j Q hj => absurd hj (Nat.not_lt_zero j))
  refine w_iconst rfl (w_istore (ls2 := [_, _, _, _, _, _, _]) rfl rfl rfl ?_)
  exact hgo
/-- reduced fractions are alike only for the same number -/
theorem frac_inj {X Y : Int} (h1 : numP X = numP Y) (h2 : denP X = denP Y) : X = Y := by
  have a1 := numP_mul X
  have a2 := numP_mul Y
  have b1 := denP_mul X
  have b2 := denP_mul Y
  rw [h2] at b1
  have hg : (Int.gcd X 720720 : Int) = Int.gcd Y 720720 := by
    have hne : denP Y ≠ 0 := fun q => by rw [q] at b2; simp at b2
    exact Int.eq_of_mul_eq_mul_left hne (b1.trans b2.symm)
  rw [← a1, ← a2, h1, hg]
theorem fld_eq {P Q : Pt} : (∀ i, i < 4 → fldP P i = fldP Q i) ↔ ptEq P Q := by
  constructor
  · intro h
    exact ⟨frac_inj (h 0 (by decide)) (h 1 (by decide)), frac_inj (h 2 (by decide)) (h 3 (by decide))⟩
  · intro h i hi
    have hi4 : i = 0 ∨ i = 1 ∨ i = 2 ∨ i = 3 := by omega
    rcases hi4 with rfl | rfl | rfl | rfl
    · exact congrArg numP h.1
    · exact congrArg denP h.1
    · exact congrArg numP h.2
    · exact congrArg denP h.2
theorem fld_i32 {P : Pt} (h : ptOK P) {i : Nat} (hi : i < 4) : i32 (fldP P i) := by
  obtain ⟨h1, h2, h3⟩ := h
  have hi4 : i = 0 ∨ i = 1 ∨ i = 2 ∨ i = 3 := by omega
  unfold i32
  rcases hi4 with rfl | rfl | rfl | rfl
  · show -2147483648 ≤ numP P.1 ∧ numP P.1 ≤ 2147483647; omega
  · show -2147483648 ≤ denP P.1 ∧ denP P.1 ≤ 2147483647; omega
  · show -2147483648 ≤ numP P.2.1 ∧ numP P.2.1 ≤ 2147483647; omega
  · show -2147483648 ≤ denP P.2.1 ∧ denP P.2.1 ≤ 2147483647; omega
theorem e_isSame1 {p q j k : Nat} {L K : List Pt} {M : mM} {P Q : Pt} (hp : isPts p) (hq : isPts q) (h : PtR p L M) (g : PtR q K M) (hP : L[j]? = some P) (hQ : K[k]? = some Q) (e : ptEq P Q) : E 2 130 [vR p, vI j, vR q, vI k] M (some (vI 1)) M := by
  have hp0 : cKB[p]? = some (0, 5) := hp.1.1
  have hq0 : cKB[q]? = some (0, 5) := hq.1.1
  have hf := fld_eq.mpr e
  have o1 := (h.2.2 j P hP).1
  refine e_in (ls := [vR p, vI j, vR q, vI k, vN]) mq_130 (ml_130 rfl) rfl fun D hD => ?_
  have loop : ∀ (n i : Nat), 4 - i = n → i ≤ 4 → Wp mc_130 D 3 [vR p, vI j, vR q, vI k, vI i] [] M (fun r M1 => r = some (vI 1) ∧ M1 = M) := by
    intro n
    induction n with
    | zero =>
      intro i hn hi
      refine w_iload rfl rfl (w_iconst rfl ?_)
      refine w_icmp_ge (tgt := 34) rfl (by first | assumption | exact i32_0 | (unfold i32 at *; omega)) (by first | assumption | exact i32_0 | (unfold i32 at *; omega)) rfl (fun c6 => ?_) (fun c6 => ?_)
      · skip
        refine w_iconst rfl ?_
        exact w_zreturn rfl (by first | exact Or.inl rfl | exact Or.inr rfl | omega | assumption) ⟨by first | rfl | (congr 2; omega), by rfl⟩
      · skip
        exfalso; omega
    | succ n ih =>
      intro i hn hi
      have hc := e_coord hp h hP i (by omega)
      have hd := e_coord hq g hQ i (by omega)
      have he := hf i (by omega)
      have hr := fld_i32 o1 (i := i) (by omega)
      rw [← he] at hd
      have hgo := ih (i + 1) (by omega) (by omega)
      refine w_iload rfl rfl (w_iconst rfl ?_)
      refine w_icmp_ge (tgt := 34) rfl (by first | assumption | exact i32_0 | (unfold i32 at *; omega)) (by first | assumption | exact i32_0 | (unfold i32 at *; omega)) rfl (fun c6 => ?_) (fun c6 => ?_)
      · skip
        exfalso; omega
      · skip
        refine w_aload rfl rfl (w_iload rfl rfl (w_iload rfl rfl ?_))
        refine w_call (Or.inr rfl) (hc) (by omega) nof_92 rfl rfl rfl rfl (by first | rfl | (show cKB[_]? = _; assumption)) rfl ?_
        refine w_aload rfl rfl (w_iload rfl rfl (w_iload rfl rfl ?_))
        refine w_call (Or.inr rfl) (hd) (by omega) nof_92 rfl rfl rfl rfl (by first | rfl | (show cKB[_]? = _; assumption)) rfl ?_
        refine w_icmp_eq (tgt := 28) rfl (by first | assumption | exact i32_0 | (unfold i32 at *; omega)) (by first | assumption | exact i32_0 | (unfold i32 at *; omega)) rfl (fun c23 => ?_) (fun c23 => ?_)
        · skip
          refine w_iinc (ls2 := [_, _, _, _, _]) rfl rfl rfl (w_goto (tgt := 3) rfl rfl ?_)
          exact hgo
        · skip
          exfalso; omega
  have hgo := loop 4 0 rfl (by decide)
  refine w_iconst rfl (w_istore (ls2 := [_, _, _, _, _]) rfl rfl rfl ?_)
  exact hgo
theorem e_isSame0 {p q j k : Nat} {L K : List Pt} {M : mM} {P Q : Pt} (hp : isPts p) (hq : isPts q) (h : PtR p L M) (g : PtR q K M) (hP : L[j]? = some P) (hQ : K[k]? = some Q) (e : ¬ ptEq P Q) : E 2 130 [vR p, vI j, vR q, vI k] M (some (vI 0)) M := by
  have hp0 : cKB[p]? = some (0, 5) := hp.1.1
  have hq0 : cKB[q]? = some (0, 5) := hq.1.1
  have hf : ¬ ∀ i, i < 4 → fldP P i = fldP Q i := fun z => e (fld_eq.mp z)
  have o1 := (h.2.2 j P hP).1
  have o2 := (g.2.2 k Q hQ).1
  refine e_in (ls := [vR p, vI j, vR q, vI k, vN]) mq_130 (ml_130 rfl) rfl fun D hD => ?_
  have loop : ∀ (n i : Nat), 4 - i = n → i ≤ 4 → (∀ z, z < i → fldP P z = fldP Q z) → Wp mc_130 D 3 [vR p, vI j, vR q, vI k, vI i] [] M (fun r M1 => r = some (vI 0) ∧ M1 = M) := by
    intro n
    induction n with
    | zero =>
      intro i hn hi hz
      exact absurd (fun z hz2 => hz z (by omega)) hf
    | succ n ih =>
      intro i hn hi hz
      have hc := e_coord hp h hP i (by omega)
      have hd := e_coord hq g hQ i (by omega)
      have hr := fld_i32 o1 (i := i) (by omega)
      have hr2 := fld_i32 o2 (i := i) (by omega)
      by_cases he : fldP P i = fldP Q i
      · have hgo := ih (i + 1) (by omega) (by omega) (fun z hz2 => by
          by_cases q : z = i
          · rw [q]; exact he
          · exact hz z (by omega))
        refine w_iload rfl rfl (w_iconst rfl ?_)
        refine w_icmp_ge (tgt := 34) rfl (by first | assumption | exact i32_0 | (unfold i32 at *; omega)) (by first | assumption | exact i32_0 | (unfold i32 at *; omega)) rfl (fun c6 => ?_) (fun c6 => ?_)
        · skip
          exfalso; omega
        · skip
          refine w_aload rfl rfl (w_iload rfl rfl (w_iload rfl rfl ?_))
          refine w_call (Or.inr rfl) (hc) (by omega) nof_92 rfl rfl rfl rfl (by first | rfl | (show cKB[_]? = _; assumption)) rfl ?_
          refine w_aload rfl rfl (w_iload rfl rfl (w_iload rfl rfl ?_))
          refine w_call (Or.inr rfl) (hd) (by omega) nof_92 rfl rfl rfl rfl (by first | rfl | (show cKB[_]? = _; assumption)) rfl ?_
          refine w_icmp_eq (tgt := 28) rfl (by first | assumption | exact i32_0 | (unfold i32 at *; omega)) (by first | assumption | exact i32_0 | (unfold i32 at *; omega)) rfl (fun c23 => ?_) (fun c23 => ?_)
          · skip
            refine w_iinc (ls2 := [_, _, _, _, _]) rfl rfl rfl (w_goto (tgt := 3) rfl rfl ?_)
            exact hgo
          · skip
            exfalso; omega
      · skip
        refine w_iload rfl rfl (w_iconst rfl ?_)
        refine w_icmp_ge (tgt := 34) rfl (by first | assumption | exact i32_0 | (unfold i32 at *; omega)) (by first | assumption | exact i32_0 | (unfold i32 at *; omega)) rfl (fun c6 => ?_) (fun c6 => ?_)
        · skip
          exfalso; omega
        · skip
          refine w_aload rfl rfl (w_iload rfl rfl (w_iload rfl rfl ?_))
          refine w_call (Or.inr rfl) (hc) (by omega) nof_92 rfl rfl rfl rfl (by first | rfl | (show cKB[_]? = _; assumption)) rfl ?_
          refine w_aload rfl rfl (w_iload rfl rfl (w_iload rfl rfl ?_))
          refine w_call (Or.inr rfl) (hd) (by omega) nof_92 rfl rfl rfl rfl (by first | rfl | (show cKB[_]? = _; assumption)) rfl ?_
          refine w_icmp_eq (tgt := 28) rfl (by first | assumption | exact i32_0 | (unfold i32 at *; omega)) (by first | assumption | exact i32_0 | (unfold i32 at *; omega)) rfl (fun c23 => ?_) (fun c23 => ?_)
          · skip
            exfalso; omega
          · skip
            refine w_iconst rfl ?_
            exact w_zreturn rfl (by first | exact Or.inl rfl | exact Or.inr rfl | omega | assumption) ⟨by first | rfl | (congr 2; omega), by rfl⟩
  have hgo := loop 4 0 rfl (by decide) (fun z hz => absurd hz (Nat.not_lt_zero z))
  refine w_iconst rfl (w_istore (ls2 := [_, _, _, _, _]) rfl rfl rfl ?_)
  exact hgo
def hasP (L : List Pt) (Q : Pt) : Bool := L.any fun P => decide (ptEq P Q)
theorem e_contains {p q k : Nat} {L K : List Pt} {M : mM} {Q : Pt} (hp : isPts p) (hq : isPts q) (h : PtR p L M) (g : PtR q K M) (hQ : K[k]? = some Q) : E 3 129 [vR p, vR q, vI k] M (some (vI (if hasP L Q = true then 1 else 0))) M := by
  have h1 := h.1
  have h2 := h.2.1
  obtain ⟨⟨k0, -⟩, -⟩ := id hp
  refine e_in (ls := [vR p, vR q, vI k, vN]) mq_129 (ml_129 rfl) rfl fun D hD => ?_
  have loop : ∀ (n i : Nat), L.length - i = n → i ≤ L.length → hasP L Q = hasP (L.drop i) Q → Wp mc_129 D 2 [vR p, vR q, vI k, vI i] [] M (fun r M1 => r = some (vI (if hasP L Q = true then 1 else 0)) ∧ M1 = M) := by
    intro n
    induction n with
    | zero =>
      intro i hn hi hs
      have hz : hasP L Q = false := by rw [hs, List.drop_of_length_le (by omega)]; rfl
      rw [hz]
      refine w_iload rfl rfl (w_aload rfl rfl (w_getIV rfl (by first | rfl | assumption) (by first | exact Or.inl rfl | exact Or.inr rfl) (h1) ?_))
      refine w_icmp_ge (tgt := 28) rfl (by first | assumption | exact i32_0 | (unfold i32 at *; omega)) (by first | assumption | exact i32_0 | (unfold i32 at *; omega)) rfl (fun c7 => ?_) (fun c7 => ?_)
      · skip
        refine w_iconst rfl ?_
        exact w_zreturn rfl (by first | exact Or.inl rfl | exact Or.inr rfl | omega | assumption) ⟨by first | rfl | (congr 2; omega), by rfl⟩
      · skip
        exfalso; omega
    | succ n ih =>
      intro i hn hi hs
      have hil : i < L.length := by omega
      have hP : L[i]? = some L[i] := List.getElem?_eq_getElem hil
      have hcons : L.drop i = L[i] :: L.drop (i + 1) := List.drop_eq_getElem_cons hil
      by_cases he : ptEq L[i] Q
      · have hz : hasP L Q = true := by rw [hs, hcons]; unfold hasP; rw [List.any_cons, decide_eq_true he]; rfl
        rw [hz]
        refine w_iload rfl rfl (w_aload rfl rfl (w_getIV rfl (by first | rfl | assumption) (by first | exact Or.inl rfl | exact Or.inr rfl) (h1) ?_))
        refine w_icmp_ge (tgt := 28) rfl (by first | assumption | exact i32_0 | (unfold i32 at *; omega)) (by first | assumption | exact i32_0 | (unfold i32 at *; omega)) rfl (fun c7 => ?_) (fun c7 => ?_)
        · skip
          exfalso; omega
        · skip
          refine w_aload rfl rfl (w_iload rfl rfl (w_aload rfl rfl (w_iload rfl rfl ?_)))
          refine w_call (Or.inr rfl) (e_isSame1 hp hq h g hP hQ he) (by omega) nof_130 rfl rfl rfl rfl (by first | rfl | (show cKB[_]? = _; assumption)) rfl ?_
          refine w_if_eq (tgt := 22) rfl (by first | assumption | exact i32_0 | (unfold i32 at *; omega)) rfl (fun c => absurd c (by decide)) (fun _ => ?_)
          refine w_iconst rfl ?_
          exact w_zreturn rfl (by first | exact Or.inl rfl | exact Or.inr rfl | omega | assumption) ⟨by first | rfl | (congr 2; omega), by rfl⟩
      · have hgo := ih (i + 1) (by omega) (by omega) (by rw [hs, hcons]; unfold hasP; rw [List.any_cons, decide_eq_false he]; rfl)
        refine w_iload rfl rfl (w_aload rfl rfl (w_getIV rfl (by first | rfl | assumption) (by first | exact Or.inl rfl | exact Or.inr rfl) (h1) ?_))
        refine w_icmp_ge (tgt := 28) rfl (by first | assumption | exact i32_0 | (unfold i32 at *; omega)) (by first | assumption | exact i32_0 | (unfold i32 at *; omega)) rfl (fun c7 => ?_) (fun c7 => ?_)
        · skip
          exfalso; omega
        · skip
          refine w_aload rfl rfl (w_iload rfl rfl (w_aload rfl rfl (w_iload rfl rfl ?_)))
          refine w_call (Or.inr rfl) (e_isSame0 hp hq h g hP hQ he) (by omega) nof_130 rfl rfl rfl rfl (by first | rfl | (show cKB[_]? = _; assumption)) rfl ?_
          refine w_if_eq (tgt := 22) rfl (by first | assumption | exact i32_0 | (unfold i32 at *; omega)) rfl (fun _ => ?_) (fun c => absurd c (by decide))
          refine w_iinc (ls2 := [_, _, _, _]) rfl rfl rfl (w_goto (tgt := 2) rfl rfl ?_)
          exact hgo
  have hgo := loop L.length 0 (Nat.sub_zero _) (Nat.zero_le _) rfl
  refine w_iconst rfl (w_istore (ls2 := [_, _, _, _]) rfl rfl rfl ?_)
  exact hgo
