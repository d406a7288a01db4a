set_option maxHeartbeats 4000000 in
theorem stp_mo {nn : mN} {call : Nat → List mV → mS → Option mV → mS → Prop} {out : Option mV × mS} {k : Nat → List mV → List mV → mS → Prop} {i : Instr} {nx : Nat} {ls st : List mV} {S : mS}
    (hc : ∀ y as S r S1, call y as S r S1 → Mo S S1) (hk : ∀ nx ls st S2, k nx ls st S2 → Mo S2 out.2) (h : stp nn call out k i nx ls st S) : Mo S out.2 := by
  have hput : ∀ (a f : Nat) (v : Int) (c : Nat) (nx : Nat) (ls r : List mV), S.1[a]? = some (0, c) → k nx ls r (S.1, S.2.1, upI S.2.2 a f v) → Mo S out.2 := fun a f v c nx ls r h1 h2 => (Mo.up h1).tr (hk _ _ _ _ h2)
  cases i
  case invokeinterface c f =>
    unfold stp at h
    dsimp only at h
    split at h
    · obtain ⟨x, r, rfl, h5⟩ := pI_inv h
      obtain ⟨a, r, rfl, h1, h6⟩ := pR_inv h5
      exact (Mo.up h1).tr (hk _ _ _ _ h6)
    · obtain ⟨x, r, rfl, h5⟩ := pI_inv h
      obtain ⟨a, r, rfl, h1, -, h6⟩ := pR_inv h5
      exact (Mo.up h1).tr (hk _ _ _ _ h6)
    · obtain ⟨x, r, rfl, h5⟩ := pL_inv h
      obtain ⟨a, r, rfl, h1, h6⟩ := pR_inv h5
      exact (Mo.up h1).tr (hk _ _ _ _ h6)
    · obtain ⟨x, r, rfl, h5⟩ := pR_inv h
      obtain ⟨a, r, rfl, h1, -, h6⟩ := pR_inv h5
      exact Mo.upR.tr (hk _ _ _ _ h6)
    · exact h.elim
  case iastore =>
    obtain ⟨x, r, rfl, h5⟩ := pI_inv h
    obtain ⟨i, r, rfl, h6⟩ := pI_inv h5
    obtain ⟨a, r, rfl, n, h1, -, -, h7⟩ := pR_inv h6
    exact (Mo.up h1).tr (hk _ _ _ _ h7)
  case lastore =>
    obtain ⟨x, r, rfl, h5⟩ := pL_inv h
    obtain ⟨i, r, rfl, h6⟩ := pI_inv h5
    obtain ⟨a, r, rfl, n, h1, -, -, h7⟩ := pR_inv h6
    exact (Mo.up h1).tr (hk _ _ _ _ h7)
  case bastore =>
    obtain ⟨x, r, rfl, h5⟩ := pI_inv h
    obtain ⟨i, r, rfl, h6⟩ := pI_inv h5
    obtain ⟨a, r, rfl, n, h1, -, -, -, h7⟩ := pR_inv h6
    exact (Mo.up h1).tr (hk _ _ _ _ h7)
  case aastore =>
    obtain ⟨x, r, rfl, h5⟩ := pR_inv h
    obtain ⟨i, r, rfl, h6⟩ := pI_inv h5
    obtain ⟨a, r, rfl, n, t, h1, -, -, -, h7⟩ := pR_inv h6
    exact Mo.upR.tr (hk _ _ _ _ h7)
  case new c => exact (Mo.new (show c < 10000 from Nat.lt_trans h.1 (Nat.le_of_ble_eq_true rfl))).tr (hk _ _ _ _ h.2)
  case newarray t =>
    obtain ⟨x, r, rfl, -, hx, h5⟩ := pI_inv h
    exact (Mo.new (show x.toNat < 10000 by omega)).tr (hk _ _ _ _ h5)
  case anewarray t =>
    obtain ⟨x, r, rfl, -, hx, h5⟩ := pI_inv h
    exact (Mo.new (show x.toNat < 10000 by omega)).tr (hk _ _ _ _ h5)
  case invokestatic y =>
    obtain ⟨-, -, -, r, S1, h1, h⟩ := h
    exact (hc _ _ _ _ _ h1).tr (hk _ _ _ _ h)
  case invokevirtual y =>
    obtain ⟨-, -, -, r, S1, h1, h⟩ := h
    exact (hc _ _ _ _ _ h1).tr (hk _ _ _ _ h)
  case invokespecial y =>
    obtain ⟨-, -, -, r, S1, h1, h⟩ := h
    exact (hc _ _ _ _ _ h1).tr (hk _ _ _ _ h)
  case ireturn =>
    obtain ⟨x, r, rfl, -, h5⟩ := pI_inv h
    rw [show out = _ from h5]; exact Mo.rf
  case freturn =>
    obtain ⟨x, r, rfl, -, -, h5⟩ := pI_inv h
    rw [show out = _ from h5]; exact Mo.rf
  case dreturn =>
    obtain ⟨x, r, rfl, -, -, h5⟩ := pI_inv h
    rw [show out = _ from h5]; exact Mo.rf
  case lreturn =>
    obtain ⟨x, r, rfl, -, h5⟩ := pL_inv h
    rw [show out = _ from h5]; exact Mo.rf
  case areturn =>
    obtain ⟨x, r, rfl, -, h5⟩ := pR_inv h
    rw [show out = _ from h5]; exact Mo.rf
  case return_ =>
    obtain ⟨-, h⟩ := h
    rw [show out = _ from h]; exact Mo.rf
  case iaload =>
    obtain ⟨i, r, rfl, h5⟩ := pI_inv h
    obtain ⟨a, r, rfl, n, -, -, -, h6⟩ := pR_inv h5
    exact hk _ _ _ _ h6
  case laload =>
    obtain ⟨i, r, rfl, h5⟩ := pI_inv h
    obtain ⟨a, r, rfl, n, -, -, -, h6⟩ := pR_inv h5
    exact hk _ _ _ _ h6
  case baload =>
    obtain ⟨i, r, rfl, h5⟩ := pI_inv h
    obtain ⟨a, r, rfl, n, -, -, -, h6⟩ := pR_inv h5
    exact hk _ _ _ _ h6
  case aaload =>
    obtain ⟨i, r, rfl, h5⟩ := pI_inv h
    obtain ⟨a, r, rfl, n, t, -, -, -, -, h6⟩ := pR_inv h5
    exact hk _ _ _ _ h6
  case caload =>
    obtain ⟨i, r, rfl, h5⟩ := pI_inv h
    obtain ⟨a, r, rfl, -, -, -, h6⟩ := pR_inv h5
    exact hk _ _ _ _ h6
  case saload =>
    obtain ⟨a, r, rfl, -, h5⟩ := pR_inv h
    exact hk _ _ _ _ h5
  case arraylength =>
    obtain ⟨a, r, rfl, n, t, -, -, -, h5⟩ := pR_inv h
    exact hk _ _ _ _ h5
  case dup2 =>
    obtain ⟨x, r, rfl, h5⟩ := pV_inv h
    obtain ⟨y, r, rfl, -, -, h6⟩ := pV_inv h5
    exact hk _ _ _ _ h6
  case dup =>
    obtain ⟨x, r, rfl, -, h5⟩ := pV_inv h
    exact hk _ _ _ _ h5
  case pop =>
    obtain ⟨x, r, rfl, -, h5⟩ := pV_inv h
    exact hk _ _ _ _ h5
  case goto t => exact hk _ _ _ _ h
  case iconst t => exact hk _ _ _ _ h
  case sipush t => exact hk _ _ _ _ h
  case multianewarray c f =>
    obtain ⟨a, r, rfl, -, h5⟩ := pR_inv h
    exact hk _ _ _ _ h5
  case nop =>
    obtain ⟨a, r, rfl, -, h5⟩ := pR_inv h
    exact hk _ _ _ _ h5
  case if_acmp c t =>
    obtain ⟨x, r, rfl, h5⟩ := pR_inv h
    obtain ⟨y, r, rfl, -, -, h6⟩ := pR_inv h5
    exact hk _ _ _ _ h6
  case istore j =>
    obtain ⟨x, r, rfl, -, h5⟩ := pI_inv h
    exact hk _ _ _ _ h5
  case lstore j =>
    obtain ⟨x, r, rfl, -, h5⟩ := pL_inv h
    exact hk _ _ _ _ h5
  case astore j =>
    obtain ⟨x, r, rfl, -, h5⟩ := pR_inv h
    exact hk _ _ _ _ h5
  case iload j =>
    obtain ⟨x, -, h5⟩ := gI_inv h
    exact hk _ _ _ _ h5
  case iinc j n =>
    obtain ⟨x, -, h5⟩ := gI_inv h
    exact hk _ _ _ _ h5
  case lload j =>
    obtain ⟨x, -, h5⟩ := gL_inv h
    exact hk _ _ _ _ h5
  case aload j =>
    obtain ⟨x, -, h5⟩ := gR_inv h
    exact hk _ _ _ _ h5
  case ineg =>
    obtain ⟨x, r, rfl, h5⟩ := pI_inv h
    exact hk _ _ _ _ h5
  case lneg =>
    obtain ⟨x, r, rfl, h5⟩ := pL_inv h
    exact hk _ _ _ _ h5
  case l2i =>
    obtain ⟨x, r, rfl, h5⟩ := pL_inv h
    exact hk _ _ _ _ h5
  case i2l =>
    obtain ⟨x, r, rfl, -, h5⟩ := pI_inv h
    exact hk _ _ _ _ h5
  case ifCond c t =>
    obtain ⟨x, r, rfl, -, h5⟩ := pI_inv h
    exact hk _ _ _ _ h5
  case tableswitch d lo hi os =>
    obtain ⟨x, r, rfl, -, h5⟩ := pI_inv h
    exact hk _ _ _ _ h5
  case if_icmp c t =>
    obtain ⟨x, r, rfl, h5⟩ := pI_inv h
    obtain ⟨y, r, rfl, -, h6⟩ := pI_inv h5
    exact hk _ _ _ _ h6
  case idiv =>
    obtain ⟨x, r, rfl, h5⟩ := pI_inv h
    obtain ⟨y, r, rfl, -, -, -, h6⟩ := pI_inv h5
    exact hk _ _ _ _ h6
  case irem =>
    obtain ⟨x, r, rfl, h5⟩ := pI_inv h
    obtain ⟨y, r, rfl, -, -, -, h6⟩ := pI_inv h5
    exact hk _ _ _ _ h6
  case ldiv =>
    obtain ⟨x, r, rfl, h5⟩ := pL_inv h
    obtain ⟨y, r, rfl, -, -, -, h6⟩ := pL_inv h5
    exact hk _ _ _ _ h6
  case lrem =>
    obtain ⟨x, r, rfl, h5⟩ := pL_inv h
    obtain ⟨y, r, rfl, -, -, -, h6⟩ := pL_inv h5
    exact hk _ _ _ _ h6
  case lcmp =>
    obtain ⟨x, r, rfl, h5⟩ := pL_inv h
    obtain ⟨y, r, rfl, -, h6⟩ := pL_inv h5
    exact hk _ _ _ _ h6
  all_goals first
    | exact False.elim h
    | (obtain ⟨x, r, rfl, h5⟩ := pI_inv h
       obtain ⟨y, r, rfl, h6⟩ := pI_inv h5
       exact hk _ _ _ _ h6)
    | (obtain ⟨x, r, rfl, h5⟩ := pL_inv h
       obtain ⟨y, r, rfl, h6⟩ := pL_inv h5
       exact hk _ _ _ _ h6)
theorem Rs_mo {nn : mN} {call : Nat → List mV → mS → Option mV → mS → Prop} {cd : mQ} {out : Option mV × mS}
    (hc : ∀ y as S r S1, call y as S r S1 → Mo S S1) : ∀ (n pc : Nat) (ls st : List mV) (S : mS), Rs nn call cd out n pc ls st S → Mo S out.2
  | 0, _, _, _, _, h => False.elim h
  | n + 1, pc, ls, st, S, h => by
    unfold Rs at h
    split at h
    · exact h.elim
    · exact stp_mo hc (fun nx ls st S2 h2 => Rs_mo hc n nx ls st S2 h2) h
theorem Ev_mo {X : Nat → mX} : ∀ (d y : Nat) (as : List mV) (S : mS) (r : Option mV) (S1 : mS), Ev X d y as S r S1 → Mo S S1
  | 0, _, _, _, _, _, h => False.elim h
  | d + 1, y, as, S, r, S1, h => by
    obtain ⟨-, n, h⟩ := h
    exact Rs_mo (Ev_mo d) n _ _ _ _ h
