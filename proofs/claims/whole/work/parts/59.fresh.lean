/-! ===== shapes and meetings up to date ===== -/
def GEO : Prop := ∀ f, Cok 999 f → geoOK f (cornF f)
def sOf (a : Int) : Nat := if a = 0 then 68 else 108
theorem isS_sOf (a : Int) : isS (sOf a) (tOf a) := by
  unfold sOf tOf; split
  · exact isS_68
  · exact isS_108
theorem CI_sh {n : Nat} {s : Sta} {a : Int} {M M1 : mM} (c : CI n s M) (ha : a = 0 ∨ a = 1) (hv : ShV (sOf a) (selF a s.2.1 s.2.2.1) M1) (h1 : M1 (sOf a) 1 = M (tOf a) 1) (w : ∀ b k, (b < sOf a ∨ sOf a + 40 ≤ b) → M1 b k = M b k) : CI n s M1 := by
  obtain ⟨⟨c1, c2⟩, ⟨c3, c4, c5⟩, ⟨c6, c7⟩, c8, ⟨h1a, h2a, h3, h4, h5⟩⟩ := c
  rcases ha with rfl | rfl
  · have e68 : sOf 0 = 68 := rfl
    have e10 : tOf 0 = 10 := rfl
    rw [e68] at hv h1 w
    rw [e10] at h1
    refine ⟨⟨TxR_fr c1 (w 1 1 (by omega)) (fun k => w 2 k (by omega)), RdX_fr c2 (fun b _ _ k => w b k (by omega))⟩, ⟨cur2_fr c3 (fun b _ _ k => w b k (by omega)), c4, c5⟩, ⟨PastR_fr c6 (fun b _ _ k => w b k (by omega)), c7⟩, CSl_fr c8 (w 0 10 (by omega)) (w 0 11 (by omega)) (fun b _ _ k => w b k (by omega)), ?_⟩
    unfold CCa
    rw [h1, w 10 1 (by omega), w 12 1 (by omega), w 108 1 (by omega), w 148 2 (by omega), w 148 3 (by omega)]
    exact ⟨h1a, by omega, fun _ => hv, fun z => ShV_fr (h4 z) (fun b k q1 q2 _ _ => w b k (by omega)), fun z1 z2 => PtR_fr (h5 z1 z2) (fun b q1 q2 k => w b k (by omega))⟩
  · have e68 : sOf 1 = 108 := rfl
    have e10 : tOf 1 = 12 := rfl
    rw [e68] at hv h1 w
    rw [e10] at h1
    refine ⟨⟨TxR_fr c1 (w 1 1 (by omega)) (fun k => w 2 k (by omega)), RdX_fr c2 (fun b _ _ k => w b k (by omega))⟩, ⟨cur2_fr c3 (fun b _ _ k => w b k (by omega)), c4, c5⟩, ⟨PastR_fr c6 (fun b _ _ k => w b k (by omega)), c7⟩, CSl_fr c8 (w 0 10 (by omega)) (w 0 11 (by omega)) (fun b _ _ k => w b k (by omega)), ?_⟩
    unfold CCa
    rw [h1, w 10 1 (by omega), w 12 1 (by omega), w 68 1 (by omega), w 148 2 (by omega), w 148 3 (by omega)]
    exact ⟨h1a, by omega, fun z => ShV_fr (h3 z) (fun b k q1 q2 _ _ => w b k (by omega)), fun _ => hv, fun z1 z2 => PtR_fr (h5 z1 z2) (fun b q1 q2 k => w b k (by omega))⟩
theorem e_fresh {n : Nat} {s : Sta} {a : Int} {M : mM} (hG : GEO) (c : CI n s M) (hn : n ≤ 2000000000) (ha : a = 0 ∨ a = 1) : EQ 7 68 [vR (sOf a)] M (fun r M1 => r = none ∧ CI n s M1 ∧ ShV (sOf a) (selF a s.2.1 s.2.2.1) M1 ∧ M1 (sOf a) 1 = M (tOf a) 1 ∧ ∀ b k, (b < sOf a ∨ sOf a + 40 ≤ b) → M1 b k = M b k) := by
  have hf := Cok_sel (a := a) c.2.1.2.1 c.2.1.2.2
  have hcc := c.2.2.2.2
  obtain ⟨h1a, h2a, h3, h4, h5⟩ := hcc
  refine (e_refresh (isS_sOf a) (cur_sel (a := a) c.2.1.1) hf (hG _ hf) ?_ ?_ ?_).imp fun r M1 w => ⟨w.1, CI_sh c ha w.2.1 w.2.2.1 w.2.2.2, w.2.1, w.2.2.1, w.2.2.2⟩
  · rcases ha with rfl | rfl
    · show i32 (M 68 1); unfold i32; omega
    · show i32 (M 108 1); unfold i32; omega
  · rcases ha with rfl | rfl
    · show i32 (M 10 1); unfold i32; omega
    · show i32 (M 12 1); unfold i32; omega
  · rcases ha with rfl | rfl
    · exact h3
    · exact h4
theorem e_shapeOf {n : Nat} {s : Sta} {a : Int} {M : mM} (hG : GEO) (c : CI n s M) (hn : n ≤ 2000000000) (ha : a = 0 ∨ a = 1) : EQ 8 67 [vR 0, vI a] M (fun r M1 => r = some (vR (sOf a)) ∧ CI n s M1 ∧ ShV (sOf a) (selF a s.2.1 s.2.2.1) M1 ∧ M1 (sOf a) 1 = M (tOf a) 1 ∧ ∀ b k, (b < sOf a ∨ sOf a + 40 ≤ b) → M1 b k = M b k) := by
  have hr := e_fresh hG c hn ha
  have hs0 := (isS_sOf a).1.1
  refine q_in (ls := [vR 0, vI a, vN]) mq_67 (ml_67 rfl) rfl fun D hD => ?_
  rcases ha with rfl | rfl
  · have hr : EQ 7 68 [vR 68] M _ := hr
    refine w_iload rfl rfl ?_
    refine w_if_ne (tgt := 11) rfl (by first | assumption | exact i32_0 | (unfold i32 at *; omega)) rfl (fun c => absurd c (by decide)) (fun _ => ?_)
    refine w_aload rfl rfl (w_getR rfl (by first | rfl | assumption) rfl (by first | rfl | assumption) (w_goto (tgt := 15) rfl rfl (w_astore (ls2 := [_, _, _]) rfl rfl rfl (w_aload rfl rfl ?_))))
    refine w_callQ (Or.inr rfl) (hr) (by omega) nof_68 rfl rfl rfl rfl (by first | rfl | (show cKB[_]? = _; assumption)) (fun r17 M17 hq17 => ?_)
    obtain ⟨rfl, w⟩ := hq17
    refine w_aload rfl rfl ?_
    exact w_areturn rfl ⟨by first | rfl | (congr 2; omega), by exact w⟩
  · have hr : EQ 7 68 [vR 108] M _ := hr
    refine w_iload rfl rfl ?_
    refine w_if_ne (tgt := 11) rfl (by first | assumption | exact i32_0 | (unfold i32 at *; omega)) rfl (fun _ => ?_) (fun c => absurd c (by decide))
    refine w_aload rfl rfl (w_getR rfl (by first | rfl | assumption) rfl (by first | rfl | assumption) (w_astore (ls2 := [_, _, _]) rfl rfl rfl (w_aload rfl rfl ?_)))
    refine w_callQ (Or.inr rfl) (hr) (by omega) nof_68 rfl rfl rfl rfl (by first | rfl | (show cKB[_]? = _; assumption)) (fun r17 M17 hq17 => ?_)
    obtain ⟨rfl, w⟩ := hq17
    refine w_aload rfl rfl ?_
    exact w_areturn rfl ⟨by first | rfl | (congr 2; omega), by exact w⟩
def NowQ (n : Nat) (s : Sta) (M : mM) : mP := fun r M1 => r = some (vR 148) ∧ CI n s M1 ∧ ShV 68 s.2.1 M1 ∧ ShV 108 s.2.2.1 M1 ∧ PtR 149 (meetF s.2.1 s.2.2.1) M1 ∧ ∀ b, 155 ≤ b → M1 b = M b
theorem e_now {n : Nat} {s : Sta} {M : mM} (hG : GEO) (c : CI n s M) (hn : n ≤ 2000000000) : EQ 8 125 [vR 0] M (NowQ n s M) := by
  have hr : EQ 7 68 [vR 68] M _ := e_fresh (a := 0) hG c hn (Or.inl rfl)
  refine q_in (ls := [vR 0]) mq_125 (ml_125 rfl) rfl fun D hD => ?_
  have step2 : ∀ N : mM, CI n s N → ShV 68 s.2.1 N → N 68 1 = N 10 1 → EQ 7 68 [vR 108] N (fun r M1 => r = none ∧ CI n s M1 ∧ ShV 68 s.2.1 M1 ∧ ShV 108 s.2.2.1 M1 ∧ ∀ b k, (b < 108 ∨ 148 ≤ b) → M1 b k = N b k) := by
    intro N cN v1 h1
    have hr2 : EQ 7 68 [vR 108] N _ := e_fresh (a := 1) hG cN hn (Or.inr rfl)
    exact hr2.imp fun r M1 w => ⟨w.1, w.2.1, ShV_fr v1 (fun b k q1 q2 _ _ => w.2.2.2.2 b k (Or.inl (by show b < 108; omega))), w.2.2.1, fun b k hb => w.2.2.2.2 b k hb⟩
  have step3 : ∀ N : mM, CI n s N → ShV 68 s.2.1 N → ShV 108 s.2.2.1 N → EQ 5 126 [vR 148] N (fun r M1 => r = none ∧ CI n s M1 ∧ ShV 68 s.2.1 M1 ∧ ShV 108 s.2.2.1 M1 ∧ PtR 149 (meetF s.2.1 s.2.2.1) M1 ∧ ∀ b, 155 ≤ b → M1 b = N b) := by
    intro N cN v1 v2
    obtain ⟨⟨c1, c2⟩, ⟨c3, c4, c5⟩, ⟨c6, c7⟩, c8, ⟨h1a, h2a, h3, h4, h5⟩⟩ := id cN
    refine (e_mrefresh c3.1 c3.2 c4 c5 v1 v2 (by unfold i32; omega) (by unfold i32; omega) (by unfold i32; omega) (by unfold i32; omega) h5).imp fun r M1 w => ?_
    obtain ⟨w1, w2, w3, w4, w5⟩ := w
    have wk : ∀ b, (b < 148 ∨ 155 ≤ b) → ∀ k, M1 b k = N b k := fun b hb k => by rw [w5 b hb]
    have v1' : ShV 68 s.2.1 M1 := ShV_fr v1 (fun b k q1 q2 _ _ => wk b (by omega) k)
    have v2' : ShV 108 s.2.2.1 M1 := ShV_fr v2 (fun b k q1 q2 _ _ => wk b (by omega) k)
    refine ⟨w1, ⟨⟨TxR_fr c1 (wk 1 (by omega) 1) (fun k => wk 2 (by omega) k), RdX_fr c2 (fun b _ _ k => wk b (by omega) k)⟩, ⟨cur2_fr c3 (fun b _ _ k => wk b (by omega) k), c4, c5⟩, ⟨PastR_fr c6 (fun b _ _ k => wk b (by omega) k), c7⟩, CSl_fr c8 (wk 0 (by omega) 10) (wk 0 (by omega) 11) (fun b _ _ k => wk b (by omega) k), ?_⟩, v1', v2', w2, fun b hb => w5 b (Or.inr hb)⟩
    unfold CCa
    rw [w3, w4, wk 10 (by omega) 1, wk 12 (by omega) 1, wk 68 (by omega) 1, wk 108 (by omega) 1]
    exact ⟨h1a, by omega, fun _ => v1', fun _ => v2', fun _ _ => w2⟩
  refine w_aload rfl rfl (w_getR rfl (by first | rfl | assumption) rfl (by first | rfl | assumption) ?_)
  refine w_callQ (Or.inr rfl) (hr) (by omega) nof_68 rfl rfl rfl rfl (by first | rfl | (show cKB[_]? = _; assumption)) (fun r4 M4 hq4 => ?_)
  obtain ⟨rfl, a1, a2, a3, a4⟩ := hq4
  have hr2 := step2 M4 a1 a2 (a3.trans (a4 10 1 (Or.inl (by decide))).symm)
  refine w_aload rfl rfl (w_getR rfl (by first | rfl | assumption) rfl (by first | rfl | assumption) ?_)
  refine w_callQ (Or.inr rfl) (hr2) (by omega) nof_68 rfl rfl rfl rfl (by first | rfl | (show cKB[_]? = _; assumption)) (fun r11 M11 hq11 => ?_)
  obtain ⟨rfl, b1, b2, b3, b4⟩ := hq11
  have hr3 := step3 M11 b1 b2 b3
  refine w_aload rfl rfl (w_getR rfl (by first | rfl | assumption) rfl (by first | rfl | assumption) ?_)
  refine w_callQ (Or.inr rfl) (hr3) (by omega) nof_126 rfl rfl rfl rfl (by first | rfl | (show cKB[_]? = _; assumption)) (fun r18 M18 hq18 => ?_)
  obtain ⟨rfl, d1, d2, d3, d4, d5⟩ := hq18
  refine w_aload rfl rfl (w_getR rfl (by first | rfl | assumption) rfl (by first | rfl | assumption) ?_)
  exact w_areturn rfl ⟨by first | rfl | (congr 2; omega), by exact ⟨d1, d2, d3, d4, fun b hb => by rw [d5 b hb]; exact funext fun k => by rw [b4 b k (by omega)]; exact a4 b k (Or.inr (by show 68 + 40 ≤ b; omega))⟩⟩
