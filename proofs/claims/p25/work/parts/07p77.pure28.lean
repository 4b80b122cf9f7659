/-! an order's numbers one behind another -/
theorem bytes_L {pc mp : Nat → Int32} {len : Nat} (P : PDc pc mp len) (hl : len ≤ 80) {off : Nat} (ho : off ≤ 2) : ∀ (d fu fu2 cnt a : Nat) (B : Int64) (tg : Int32) (nu : Nat → Int32), len + 1 - a ≤ d → d < fu → d < fu2 → a ≤ len → 3 + 2 * cnt ≤ a → BY B tg nu off cnt →
    (∃ a' cnt' B' tg' nu', a < a' ∧ a' ≤ len ∧ 1 ≤ cnt' ∧ off + cnt' ≤ 44 ∧ den_X2_takeBytes_L17 pc (nI len) fu (nI cnt) (nI a) (nI cnt) B tg = some (1, nI a', nI cnt', B', tg') ∧ bnd (den_X7_takesNumber mp (nI len) (nI a) nu (nI (off + cnt))) (fun q => den_X7_takesBytes_L5 mp (nI len) fu2 q.1 q.2.1 q.2.2.1 q.2.2.2) = some (1, nI a', nu', nI (off + cnt')) ∧ BY B' tg' nu' off cnt' ∧ ∀ j, j < off → nu' j = nu j) ∨
    (∃ a' m' B' tg' nu' n', a' ≤ len ∧ den_X2_takeBytes_L17 pc (nI len) fu (nI cnt) (nI a) (nI cnt) B tg = some (0, nI a', m', B', tg') ∧ bnd (den_X7_takesNumber mp (nI len) (nI a) nu (nI (off + cnt))) (fun q => den_X7_takesBytes_L5 mp (nI len) fu2 q.1 q.2.1 q.2.2.1 q.2.2.2) = some (0, nI a', nu', n')) := by
  intro d
  induction d with
  | zero => intro fu fu2 cnt a B tg nu h1 h2 h3 h4; omega
  | succ d ih =>
    intro fu fu2 cnt a B tg nu h1 h2 h3 h4 h5 hB
    cases fu with
    | zero => omega
    | succ fu =>
      cases fu2 with
      | zero => omega
      | succ fu2 =>
        rw [den_X2_takeBytes_L17, if_neg (show ¬ (80 : Int32) ≤ nI cnt from nI_ge (b := 80) (by omega) (by omega))]
        rcases num P hl h4 nu (k := off + cnt) (by omega) with ⟨v, a1, hv, ha1, ha2, e1, e2⟩ | ⟨e1, e2⟩
        · obtain ⟨B', tg', e3, hB'⟩ := c_addB hB (by omega) hv
          rw [e1, e2, bnd_s, bnd_s, if_pos (show (0 : Int32) ≤ nI v from nI_le (a := 0) (by omega) (by omega)), e3, bnd_s, show (44 : Int32) = nI 44 from rfl, c_sign P hl (by omega) (by omega) (by omega), bnd_s, den_X7_takesBytes_L5, if_neg (show ¬ (1 : Int32) = 0 by decide), show (44 : Int32) = nI 44 from rfl, m_next P hl (by omega) (by omega), bnd_s]
          by_cases c : nx mp len a1 44 = true
          · have hc : a1 < len := (of_decide_eq_true c).1
            rw [if_pos c, if_neg (show ¬ (1 : Int32) = 0 by decide), if_neg (show ¬ (1 : Int32) = 0 by decide), li1, nI_add]
            rcases ih fu fu2 (cnt + 1) (a1 + 1) B' tg' (upd nu (off + cnt) (nI v)) (by omega) (by omega) (by omega) (by omega) (by omega) hB' with ⟨a', cnt', B2, tg2, nu2, g1, g2, g3, g4, g5, g6, g7, g8⟩ | ⟨a', m', B2, tg2, nu2, n', g2, g5, g6⟩
            · exact Or.inl ⟨a', cnt', B2, tg2, nu2, by omega, g2, g3, g4, g5, g6, g7, fun j hj => by rw [g8 j hj, pk_un (by omega)]⟩
            · exact Or.inr ⟨a', m', B2, tg2, nu2, n', g2, g5, g6⟩
          · rw [if_neg c, if_pos rfl, if_pos rfl]
            exact Or.inl ⟨a1, cnt + 1, B', tg', _, ha1, ha2, by omega, by omega, rfl, rfl, hB', fun j hj => pk_un (by omega)⟩
        · rw [e1, e2, bnd_s, bnd_s, if_neg (show ¬ (0 : Int32) ≤ -6 by decide), den_X7_takesBytes_L5, if_pos rfl]
          exact Or.inr ⟨a, _, _, _, _, _, h4, rfl, rfl⟩
theorem bytes2 {pc mp : Nat → Int32} {len : Nat} (P : PDc pc mp len) (hl : len ≤ 80) {off : Nat} (ho : off ≤ 2) {a : Nat} (ha : a ≤ len) (h3 : 3 ≤ a) (m0 : Int32) (B0 : Int64) (t0 : Int32) (nu : Nat → Int32) :
    (∃ a' cnt' B' tg' nu', a < a' ∧ a' ≤ len ∧ 1 ≤ cnt' ∧ off + cnt' ≤ 44 ∧ den_X2_takeBytes pc (nI len) (nI a) m0 B0 t0 = some (1, nI a', nI cnt', B', tg') ∧ den_X7_takesBytes mp (nI len) (nI a) nu (nI off) = some (1, nI a', nu', nI (off + cnt')) ∧ BY B' tg' nu' off cnt' ∧ ∀ j, j < off → nu' j = nu j) ∨
    (∃ a' m' B' tg' nu' n', a' ≤ len ∧ den_X2_takeBytes pc (nI len) (nI a) m0 B0 t0 = some (0, nI a', m', B', tg') ∧ den_X7_takesBytes mp (nI len) (nI a) nu (nI off) = some (0, nI a', nu', n')) := by
  have h := bytes_L P hl ho 81 FU FU 0 a 0 0 nu (by omega) (by rw [FU_eq]; omega) (by rw [FU_eq]; omega) ha (by omega) (BY_0 nu off)
  rw [show nI 0 = (0 : Int32) from rfl, Nat.add_zero] at h
  have e : den_X7_takesBytes mp (nI len) (nI a) nu (nI off) = bnd (bnd (den_X7_takesNumber mp (nI len) (nI a) nu (nI off)) (fun q => den_X7_takesBytes_L5 mp (nI len) FU q.1 q.2.1 q.2.2.1 q.2.2.2)) (fun q2 => gd (isZ q2.1) (some (q2.1, q2.2.1, q2.2.2.1, q2.2.2.2))) := by
    unfold den_X7_takesBytes
    cases den_X7_takesNumber mp (nI len) (nI a) nu (nI off) <;> rfl
  unfold den_X2_takeBytes
  rw [e]
  rcases h with ⟨a', cnt', B', tg', nu', g1, g2, g3, g4, g5, g6, g7, g8⟩ | ⟨a', m', B', tg', nu', n', g2, g5, g6⟩
  · exact Or.inl ⟨a', cnt', B', tg', nu', g1, g2, g3, g4, g5, by rw [g6, bnd_s, gd_t (show isZ 1 = true by decide)], g7, g8⟩
  · exact Or.inr ⟨a', m', B', tg', nu', n', g2, g5, by rw [g6, bnd_s, gd_t (show isZ 0 = true by decide)]⟩
