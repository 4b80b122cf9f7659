/-! an order carried out: fading -/
theorem cnt_nn {se na un ma fi vo ba wr st : Nat → Int32} {bl : Int32} (r : RT se bl na un ma fi vo ba wr st) {a b v : Nat} (ha : a ≤ b) (hb : b < FF st (nB st)) (hv : v ≤ 99) : ∀ (d fu n y : Nat) (vo2 : Nat → Int32), n + d = b + 1 → d < fu → y + d < 2 ^ 31 → ∀ q vo3, den_X4_fadeCells_L6 (nI b) (nI v) fu (nI y) (nI n) vo2 = some (q, vo3) → ∃ y', q = nI y' ∧ y' < 2 ^ 31 := by
  have hF := FF_2464 r.1 (Nat.le_refl _)
  intro d
  induction d with
  | zero =>
    intro fu n y vo2 hn hf hy q vo3 h
    cases fu with
    | zero => omega
    | succ fu =>
      rw [den_X4_fadeCells_L6, if_pos (nI_lt (by omega) (by omega))] at h
      have h := Option.some.inj h
      injection h with h1 h2
      exact ⟨y, h1.symm, by omega⟩
  | succ d ih =>
    intro fu n y vo2 hn hf hy q vo3 h
    cases fu with
    | zero => omega
    | succ fu =>
      rw [den_X4_fadeCells_L6, if_neg (nI_nlt (by omega) (by omega)), gdI (by omega) (by omega), nI_clamp (by omega), gdI (by omega) (by omega), li1, nI_add, nI_add] at h
      by_cases c : vo2 n ≤ nI v
      · rw [if_pos c] at h
        exact ih fu (n + 1) y vo2 (by omega) (by omega) (by omega) q vo3 h
      · rw [if_neg c] at h
        exact ih fu (n + 1) (y + 1) _ (by omega) (by omega) (by omega) q vo3 h
theorem k_fadeO {se na un ma fi vo ba wr st : Nat → Int32} {bl : Int32} (r : RT se bl na un ma fi vo ba wr st) {nu : Nat → Int32} {N T V : Int32} (h0 : nu 0 = N) (h1 : nu 1 = T) (h2 : nu 2 = V) : ∃ q vo' st' ok, den_X6_carryFadingOut bl fi vo N T V = some (q, vo') ∧ den_X7_doesFade st nu = some (ok, st') ∧ RT se bl na un ma fi vo' ba wr st' ∧ (((0 : Int32) ≤ q ∧ ok = 1) ∨ (¬ (0 : Int32) ≤ q ∧ ok = 0)) := by
  obtain ⟨q, e1, e2, hq⟩ := k_why r N T V
  have hF := FF_2464 r.1 (Nat.le_refl _)
  unfold den_X6_carryFadingOut den_X7_doesFade
  rw [h0, h1, h2, e1, e2, bnd_s, bnd_s]
  rcases hq with ⟨hq, a, b, v, g1, g2, g3, g4, g5, g6⟩ | hq | hq
  · subst hq; subst g1; subst g2; subst g3
    obtain ⟨q, vo', st', y1, y2, y3⟩ := k_fadeCells r g4 g5 g6
    have hnn : (0 : Int32) ≤ q := by
      have y1' := y1
      unfold den_X4_fadeCells at y1'
      cases hL : den_X4_fadeCells_L6 (nI b) (nI v) FU (0 : Int32) (nI a) vo with
      | none => rw [hL] at y1'; cases y1'
      | some x =>
        obtain ⟨x1, x2⟩ := x
        rw [hL, bnd_s] at y1'
        have y1' := Option.some.inj y1'
        injection y1' with z1 z2
        obtain ⟨y', w1, w2⟩ := cnt_nn r g4 g5 g6 (b + 1 - a) FU a 0 vo (by omega) (by rw [FU_eq]; omega) (by omega) x1 x2 hL
        have z1 : x1 = q := z1
        rw [← z1, w1]
        exact nI_le (a := 0) (by omega) w2
    rw [if_pos rfl, if_pos rfl, bnd_s, if_neg (show ¬ (1 : Int32) = 0 by decide), y1, y2, bnd_s, bnd_s, gd_t (show isZ 1 = true by decide)]
    exact ⟨_, _, _, _, rfl, rfl, y3, Or.inl ⟨hnn, rfl⟩⟩
  · subst hq
    rw [if_neg (show ¬ (-1 : Int32) = 0 by decide), if_neg (show ¬ (-1 : Int32) = 0 by decide), bnd_s, if_pos rfl, gd_t (show isZ 0 = true by decide)]
    exact ⟨_, _, _, _, rfl, rfl, r, Or.inr ⟨by decide, rfl⟩⟩
  · subst hq
    rw [if_neg (show ¬ (-2 : Int32) = 0 by decide), if_neg (show ¬ (-2 : Int32) = 0 by decide), bnd_s, if_pos rfl, gd_t (show isZ 0 = true by decide)]
    exact ⟨_, _, _, _, rfl, rfl, r, Or.inr ⟨by decide, rfl⟩⟩
theorem k_spoilO {se na un ma fi vo ba wr st : Nat → Int32} {bl : Int32} (r : RT se bl na un ma fi vo ba wr st) {nu : Nat → Int32} {N : Int32} (h0 : nu 0 = N) (fd : Nat → Int32) : ∃ q ba' st' ok,
    bnd (den_X4_hasCell bl fi N) (fun q3 => if q3 = (0 : Int32) then some ((-1 : Int32), ba) else bnd (den_X4_spoilCell ba N) (fun q5 => some (q5.1, q5.2))) = some (q, ba') ∧
    bnd (den_X7_isCell st (nu 0)) (fun q3 => if q3 = (0 : Int32) then gd (isZ q3) (some (q3, st, fd)) else bnd (den_X7_turns st (nu 0)) (fun q6 => gd (isZ q3) (some (q3, q6.2, fd)))) = some (ok, st', fd) ∧ RT se bl na un ma fi vo ba' wr st' ∧ (((0 : Int32) ≤ q ∧ ok = 1) ∨ (¬ (0 : Int32) ≤ q ∧ ok = 0)) := by
  have w := r.1
  have hF := FF_2464 w (Nat.le_refl _)
  rw [h0, c_isC r, m_isC w, bnd_s, bnd_s]
  by_cases c : isB (FF st (nB st)) N = true
  · obtain ⟨k, hk, e⟩ := isB_nI c hF
    subst e
    obtain ⟨q, ba', st', y1, y2, y3⟩ := k_turn r hk
    have hcc := r.2.2.2.2.2.1 k hk
    have hw := (w.c hk).2.1
    have hnn : (0 : Int32) ≤ q := by
      have y1' := y1
      unfold den_X4_spoilCell at y1'
      rw [gdI (by omega) (by omega), gdI (by omega) (by omega), nI_clamp (by omega), hcc.2, li1, nIs (by omega)] at y1'
      have y1' := Option.some.inj y1'
      injection y1' with z1 z2
      rw [← z1]
      exact nI_le (a := 0) (by omega) (by omega)
    rw [if_pos c, if_neg (show ¬ (1 : Int32) = 0 by decide), if_neg (show ¬ (1 : Int32) = 0 by decide), y1, y2, bnd_s, bnd_s, gd_t (show isZ 1 = true by decide)]
    exact ⟨_, _, _, _, rfl, rfl, y3, Or.inl ⟨hnn, rfl⟩⟩
  · rw [if_neg c, if_pos rfl, if_pos rfl, gd_t (show isZ 0 = true by decide)]
    exact ⟨_, _, _, _, rfl, rfl, r, Or.inr ⟨by decide, rfl⟩⟩
