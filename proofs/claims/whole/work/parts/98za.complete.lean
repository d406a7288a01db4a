/-! ===== the vertices are all there ===== -/
theorem hasP_iff {L : List Pt} {Q : Pt} : hasP L Q = true ↔ ∃ P ∈ L, ptEq P Q := by
  unfold hasP
  rw [List.any_eq_true]
  constructor
  · rintro ⟨P, h1, h2⟩; exact ⟨P, h1, of_decide_eq_true h2⟩
  · rintro ⟨P, h1, h2⟩; exact ⟨P, h1, decide_eq_true h2⟩
theorem insP_has {P Q : Pt} : ∀ {L : List Pt}, (∃ R ∈ insP L P, ptEq R Q) ↔ (∃ R ∈ L, ptEq R Q) ∨ ptEq P Q
  | [] => by
    constructor
    · rintro ⟨R, h1, h2⟩
      rw [insP, List.mem_singleton] at h1
      rw [h1] at h2
      exact Or.inr h2
    · rintro (⟨R, h1, -⟩ | h)
      · cases h1
      · exact ⟨P, by rw [insP]; exact List.mem_singleton.mpr rfl, h⟩
  | R0 :: L => by
    have ih := insP_has (P := P) (Q := Q) (L := L)
    rw [insP]
    split
    · constructor
      · rintro ⟨R, h1, h2⟩
        rcases List.mem_cons.mp h1 with z | z
        · exact Or.inl ⟨R0, List.mem_cons_self, by rw [← z]; exact h2⟩
        · rcases ih.mp ⟨R, z, h2⟩ with ⟨R2, y1, y2⟩ | y
          · exact Or.inl ⟨R2, List.mem_cons_of_mem _ y1, y2⟩
          · exact Or.inr y
      · rintro (⟨R, h1, h2⟩ | h)
        · rcases List.mem_cons.mp h1 with z | z
          · exact ⟨R0, List.mem_cons_self, by rw [← z]; exact h2⟩
          · obtain ⟨R2, y1, y2⟩ := ih.mpr (Or.inl ⟨R, z, h2⟩)
            exact ⟨R2, List.mem_cons_of_mem _ y1, y2⟩
        · obtain ⟨R2, y1, y2⟩ := ih.mpr (Or.inr h)
          exact ⟨R2, List.mem_cons_of_mem _ y1, y2⟩
    · split
      · next he =>
        constructor
        · exact fun h => Or.inl h
        · rintro (h | h)
          · exact h
          · exact ⟨R0, List.mem_cons_self, by unfold ptEq at *; omega⟩
      · constructor
        · rintro ⟨R, h1, h2⟩
          rcases List.mem_cons.mp h1 with z | z
          · exact Or.inr (by rw [← z]; exact h2)
          · exact Or.inl ⟨R, z, h2⟩
        · rintro (⟨R, h1, h2⟩ | h)
          · exact ⟨R, List.mem_cons_of_mem _ h1, h2⟩
          · exact ⟨P, List.mem_cons_self, h⟩
def srt (L : List Pt) : Prop := L.Pairwise fun P Q => ptLt P Q
theorem insP_srt {P : Pt} : ∀ {L : List Pt}, srt L → srt (insP L P)
  | [], _ => by rw [insP]; exact List.pairwise_singleton _ _
  | R0 :: L, h => by
    have h1 := (List.pairwise_cons.mp h).1
    have h2 := (List.pairwise_cons.mp h).2
    have ih := insP_srt (P := P) (L := L) h2
    rw [insP]
    split
    · next q =>
      refine List.pairwise_cons.mpr ⟨fun R hR => ?_, ih⟩
      rcases insP_mem hR with z | z
      · exact h1 R z
      · rw [z]; exact q
    · split
      · exact h
      · next q1 q2 =>
        have q3 : ptLt P R0 := by unfold ptLt ptEq at *; omega
        refine List.pairwise_cons.mpr ⟨fun R hR => ?_, h⟩
        rcases List.mem_cons.mp hR with z | z
        · rw [z]; exact q3
        · have := h1 R z
          unfold ptLt at *
          omega
theorem insP_len {P : Pt} : ∀ {L : List Pt}, (¬ ∃ R ∈ L, ptEq R P) → (insP L P).length = L.length + 1
  | [], _ => rfl
  | R0 :: L, h => by
    rw [insP]
    split
    · rw [List.length_cons, insP_len (L := L) (fun ⟨R, z1, z2⟩ => h ⟨R, List.mem_cons_of_mem _ z1, z2⟩), List.length_cons]
    · split
      · next q => exact absurd ⟨R0, List.mem_cons_self, q⟩ h
      · rfl
def Goo (f : Cv) (L : List Pt) : Prop := srt L ∧ ∀ P ∈ L, isCo f P.1 P.2.1
theorem Goo_len {f : Cv} {B : Int} (hf : Cok B f) {L : List Pt} (h : Goo f L) : L.length ≤ 16 := by
  refine pigeon (fun (P : Pt) i => genAt f P.1 P.2.1 i) 16 L (fun P hP => co_gen hf (h.2 P hP)) ?_
  refine List.Pairwise.imp (fun {P Q} hl i h1 h2 => ?_) h.1
  have := gen_inj hf h1 h2
  unfold ptLt at hl
  omega
theorem capP_good {f : Cv} {B : Int} (hf : Cok B f) {L : List Pt} {P : Pt} (h : Goo f L) (hc : isCo f P.1 P.2.1) : Goo f (capP L P) ∧ ∀ Q, (∃ R ∈ capP L P, ptEq R Q) ↔ (∃ R ∈ L, ptEq R Q) ∨ ptEq P Q := by
  have hg : Goo f (insP L P) := ⟨insP_srt h.1, fun R hR => by
    rcases insP_mem hR with z | z
    · exact h.2 R z
    · rw [z]; exact hc⟩
  unfold capP
  split
  · next q =>
    refine ⟨h, fun Q => ⟨fun z => Or.inl z, ?_⟩⟩
    rintro (z | z)
    · exact z
    · by_cases e : ∃ R ∈ L, ptEq R P
      · obtain ⟨R, r1, r2⟩ := e
        exact ⟨R, r1, by unfold ptEq at *; omega⟩
      · have h1 := Goo_len hf hg
        rw [insP_len e] at h1
        omega
  · exact ⟨hg, fun Q => insP_has⟩
theorem cr_eq {f : Cv} {a b d : Nat} (h : -16 ≤ turn a b d ∧ turn a b d ≤ 16) (h0 : turn a b d ≠ 0) : vl f a (crX f a b d) (crY f a b d) = vl f b (crX f a b d) (crY f a b d) ∧ vl f a (crX f a b d) (crY f a b d) = vl f d (crX f a b d) (crY f a b d) := by
  have hw := turnW h h0
  unfold crX crY vl
  generalize (720720 : Int).tdiv (turn a b d) = t at *
  unfold turn at hw
  generalize cv f a = ca at *
  generalize cv f b = cb at *
  generalize cv f d = cd at *
  generalize pi a = ia at *
  generalize pi b = ib at *
  generalize pi d = id at *
  generalize pj a = ja at *
  generalize pj b = jb at *
  generalize pj d = jd at *
  constructor <;> grind
theorem corn_co {f : Cv} {B : Int} {a b d : Nat} (hf : Cok B f) (h : isCorn f a b d = true) : isCo f (crX f a b d) (crY f a b d) := by
  unfold isCorn at h
  simp only [Bool.and_eq_true, Bool.not_eq_true', decide_eq_false_iff_not] at h
  obtain ⟨ha, hb, hd, h0, ht⟩ := h
  have hl := (led_iff hf).mp ht
  have ce := cr_eq (f := f) (turn_L hf ha hb hd) h0
  exact ⟨a, b, d, h0, hl, ⟨hb, fun j hj => by rw [← ce.1]; exact hl.2 j hj⟩, hd, fun j hj => by rw [← ce.2]; exact hl.2 j hj⟩
theorem cornStep_good {f : Cv} {B : Int} (hf : Cok B f) {a b d : Nat} {L : List Pt} (h : Goo f L) : Goo f (cornStep f a b d L) ∧ (∀ Q, (∃ R ∈ L, ptEq R Q) → ∃ R ∈ cornStep f a b d L, ptEq R Q) ∧ (isCorn f a b d = true → ∀ m, ∃ R ∈ cornStep f a b d L, ptEq R (crX f a b d, crY f a b d, m)) := by
  unfold cornStep
  split
  · next q =>
    obtain ⟨h1, h2⟩ := capP_good hf (P := (crX f a b d, crY f a b d, (ledW f (crX f a b d) (crY f a b d) : Int))) h (corn_co hf q)
    exact ⟨h1, fun Q hQ => (h2 Q).mpr (Or.inl hQ), fun _ m => (h2 _).mpr (Or.inr ⟨rfl, rfl⟩)⟩
  · next q => exact ⟨h, fun Q hQ => hQ, fun z => absurd z q⟩
theorem cornD_good {f : Cv} {B : Int} (hf : Cok B f) {a b : Nat} {L : List Pt} (h : Goo f L) : ∀ n, Goo f (cornD f a b L n) ∧ (∀ Q, (∃ R ∈ L, ptEq R Q) → ∃ R ∈ cornD f a b L n, ptEq R Q) ∧ ∀ d, b < d → d < n → isCorn f a b d = true → ∀ m, ∃ R ∈ cornD f a b L n, ptEq R (crX f a b d, crY f a b d, m)
  | 0 => ⟨h, fun _ z => z, fun d _ z => absurd z (Nat.not_lt_zero d)⟩
  | n + 1 => by
    obtain ⟨h1, h2, h3⟩ := cornD_good hf (a := a) (b := b) h n
    unfold cornD
    split
    · obtain ⟨g1, g2, g3⟩ := cornStep_good hf (a := a) (b := b) (d := n) h1
      refine ⟨g1, fun Q z => g2 Q (h2 Q z), fun d d1 d2 d3 m => ?_⟩
      by_cases e : d = n
      · subst e; exact g3 d3 m
      · exact g2 _ (h3 d d1 (by omega) d3 m)
    · exact ⟨h1, h2, fun d d1 d2 => h3 d d1 (by omega)⟩
theorem cornB_good {f : Cv} {B : Int} (hf : Cok B f) {N a : Nat} {L : List Pt} (h : Goo f L) : ∀ n, Goo f (cornB f N a L n) ∧ (∀ Q, (∃ R ∈ L, ptEq R Q) → ∃ R ∈ cornB f N a L n, ptEq R Q) ∧ ∀ b d, a < b → b < n → b < d → d < N → isCorn f a b d = true → ∀ m, ∃ R ∈ cornB f N a L n, ptEq R (crX f a b d, crY f a b d, m)
  | 0 => ⟨h, fun _ z => z, fun b _ _ z => absurd z (Nat.not_lt_zero b)⟩
  | n + 1 => by
    obtain ⟨h1, h2, h3⟩ := cornB_good hf (N := N) (a := a) h n
    unfold cornB
    split
    · obtain ⟨g1, g2, g3⟩ := cornD_good hf (a := a) (b := n) h1 N
      refine ⟨g1, fun Q z => g2 Q (h2 Q z), fun b d b1 b2 d1 d2 d3 m => ?_⟩
      by_cases e : b = n
      · subst e; exact g3 d d1 d2 d3 m
      · exact g2 _ (h3 b d b1 (by omega) d1 d2 d3 m)
    · exact ⟨h1, h2, fun b d b1 b2 => h3 b d b1 (by omega)⟩
theorem cornA_good {f : Cv} {B : Int} (hf : Cok B f) {N : Nat} : ∀ n, Goo f (cornA f N n) ∧ ∀ a b d, a < n → a < b → b < N → b < d → d < N → isCorn f a b d = true → ∀ m, ∃ R ∈ cornA f N n, ptEq R (crX f a b d, crY f a b d, m)
  | 0 => ⟨⟨List.Pairwise.nil, fun P h => by cases h⟩, fun a _ _ z => absurd z (Nat.not_lt_zero a)⟩
  | n + 1 => by
    obtain ⟨h1, h3⟩ := cornA_good hf (N := N) n
    unfold cornA
    obtain ⟨g1, g2, g3⟩ := cornB_good hf (N := N) (a := n) h1 N
    refine ⟨g1, fun a b d a1 a2 b1 d1 d2 d3 m => ?_⟩
    by_cases e : a = n
    · subst e; exact g3 b d a2 b1 d1 d2 d3 m
    · exact g2 _ (h3 a b d (by omega) a2 b1 d1 d2 d3 m)
theorem turn_sw (p q r : Nat) : turn q p r = -turn p q r ∧ turn p r q = -turn p q r := by
  unfold turn
  constructor <;> grind
theorem co_tri {f : Cv} {X Y : Int} (h : isCo f X Y) : ∃ p q r, p < q ∧ q < r ∧ turn p q r ≠ 0 ∧ LdP f X Y p ∧ LdP f X Y q ∧ LdP f X Y r := by
  obtain ⟨p, q, r, h0, h1, h2, h3⟩ := h
  have hz : ∀ p q r : Nat, turn p q r ≠ 0 → p ≠ q ∧ q ≠ r ∧ p ≠ r := by
    intro p q r h
    refine ⟨fun e => h ?_, fun e => h ?_, fun e => h ?_⟩ <;> subst e <;> unfold turn <;> grind
  have hd := hz p q r h0
  have s1 := turn_sw p q r
  have s2 := turn_sw q p r
  have s3 := turn_sw p r q
  have s4 := turn_sw q r p
  have s5 := turn_sw r p q
  have s6 := turn_sw r q p
  rcases Nat.lt_or_ge p q with a | a <;> rcases Nat.lt_or_ge q r with b | b <;> rcases Nat.lt_or_ge p r with c | c
  · exact ⟨p, q, r, a, b, h0, h1, h2, h3⟩
  · omega
  · exact ⟨p, r, q, c, by omega, by omega, h1, h3, h2⟩
  · exact ⟨r, p, q, by omega, a, by omega, h3, h1, h2⟩
  · exact ⟨q, p, r, by omega, c, by omega, h2, h1, h3⟩
  · exact ⟨q, r, p, b, by omega, by omega, h2, h3, h1⟩
  · omega
  · exact ⟨r, q, p, by omega, by omega, by omega, h3, h2, h1⟩
theorem corn_iff {f : Cv} {B : Int} (hf : Cok B f) {X Y : Int} : isCo f X Y ↔ ∃ R ∈ cornF f, R.1 = X ∧ R.2.1 = Y := by
  have hA := cornA_good hf (N := 21) 21
  constructor
  · intro h
    obtain ⟨p, q, r, pq, qr, h0, h1, h2, h3⟩ := co_tri h
    have ht := turn_L hf h1.1 h2.1 h3.1
    have ce := cr_eq (f := f) ht h0
    have e := tri_point h0 (LdP_eq h1 h2) (LdP_eq h1 h3) ce.1 ce.2
    have hr := (hf r _ (hasF_cv h3.1)).1
    obtain ⟨R, r1, r2⟩ := hA.2 p q r (by omega) pq (by omega) qr hr (by
      unfold isCorn
      rw [h1.1, h2.1, h3.1, decide_eq_false h0, ← e.1, ← e.2, (led_iff hf).mpr h1]
      rfl) 0
    rw [← e.1, ← e.2] at r2
    exact ⟨R, r1, r2⟩
  · rintro ⟨R, h1, rfl, rfl⟩
    exact hA.1.2 R h1
