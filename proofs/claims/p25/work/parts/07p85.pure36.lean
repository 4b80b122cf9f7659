/-! one order carried out by both -/
theorem k_order {se na un ma fi vo ba wr st : Nat → Int32} {bl : Int32} (r : RT se bl na un ma fi vo ba wr st) {K N T V U M G hu nm : Int32} {B : Int64} {nu : Nat → Int32} (O : ORD K N T V U M B G hu nu nm) (fd : Nat → Int32) :
    ∃ q, ∃ (t : TV), ∃ ok st' fd', den_X6_carryOrderOut se bl na un ma fi vo ba wr K N T V U M B G = some (q, t.2.1, t.2.2.1, t.2.2.2.1, t.2.2.2.2.1, t.2.2.2.2.2.1, t.2.2.2.2.2.2.1, t.2.2.2.2.2.2.2.1, t.2.2.2.2.2.2.2.2) ∧ den_X7_doesOrder st fd K hu nu nm = some (ok, st', fd') ∧ t.1 = se ∧ RTv t st' ∧ (((0 : Int32) ≤ q ∧ ok = 1) ∨ (¬ (0 : Int32) ≤ q ∧ ok = 0)) := by
  unfold den_X6_carryOrderOut den_X7_doesOrder
  rcases O with ⟨hK, v, off, cnt, -, hN, h0, hc1, hoc, hM, hnm, hB, hU⟩ | ⟨hK, h0, h1, h2⟩ | ⟨hK, h0⟩
  · subst hK
    obtain ⟨q, t, ok, st', fd', e1, e2, e3, e4, e5⟩ := k_blockO r hN h0 hc1 hoc hM hnm hB hU fd
    have hz : isZ ok = true := by rcases e5 with ⟨-, z⟩ | ⟨-, z⟩ <;> subst z <;> decide
    rw [if_pos rfl, if_pos rfl, e1, e2, bnd_s, bnd_s, gd_t hz]
    exact ⟨q, t, ok, st', fd', rfl, rfl, e3, e4, e5⟩
  · subst hK
    obtain ⟨q, vo', st', ok, e1, e2, e4, e5⟩ := k_fadeO r h0 h1 h2
    have hz : isZ ok = true := by rcases e5 with ⟨-, z⟩ | ⟨-, z⟩ <;> subst z <;> decide
    rw [if_neg (show ¬ (102 : Int32) = 43 by decide), if_neg (show ¬ (102 : Int32) = 43 by decide), if_pos rfl, if_pos rfl, e1, e2, bnd_s, bnd_s, gd_t hz]
    exact ⟨q, (se, bl, na, un, ma, fi, vo', ba, wr), ok, st', fd, rfl, rfl, rfl, e4, e5⟩
  · subst hK
    obtain ⟨q, ba', st', ok, e1, e2, e4, e5⟩ := k_spoilO r h0 fd
    rw [if_neg (show ¬ (120 : Int32) = 43 by decide), if_neg (show ¬ (120 : Int32) = 43 by decide), if_neg (show ¬ (120 : Int32) = 102 by decide), if_neg (show ¬ (120 : Int32) = 102 by decide), e2]
    refine ⟨q, (se, bl, na, un, ma, fi, vo, ba', wr), ok, st', fd, ?_, rfl, rfl, e4, e5⟩
    rw [c_isC r, bnd_s] at e1 ⊢
    by_cases c : isB (FF st (nB st)) N = true
    · rw [if_pos c, if_neg (show ¬ (1 : Int32) = 0 by decide)] at e1 ⊢
      cases hs : den_X4_spoilCell ba N with
      | none => rw [hs] at e1; cases e1
      | some x =>
        rw [hs, bnd_s] at e1
        have e1 := Option.some.inj e1
        injection e1 with z1 z2
        rw [bnd_s, z1, z2]
    · rw [if_neg c, if_pos rfl] at e1 ⊢
      have e1 := Option.some.inj e1
      injection e1 with z1 z2
      rw [← z1, ← z2]
