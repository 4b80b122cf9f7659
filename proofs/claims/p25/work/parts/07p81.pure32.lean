theorem ord_b {pc mp : Nat → Int32} {len : Nat} (P : PDc pc mp len) (hl : len ≤ 80) {a : Nat} (ha : a < len) (he : mp a = 43) (k0 n0 t0 v0 u0 m0 : Int32) (b0 : Int64) (g0 l0 hu0 : Int32) (nu : Nat → Int32) (nm0 : Int32) :
    OK2 len a (den_X2_takeOrder pc (nI len) (nI a) k0 n0 t0 v0 u0 m0 b0 g0) (den_X7_readsOrder mp (nI len) (nI a) l0 hu0 nu nm0) := by
  obtain ⟨-, n, hn, e⟩ := P a ha
  have hc := ord_ch hn
  rw [← e, he] at hc
  unfold den_X2_takeOrder den_X7_readsOrder
  rw [c_chr P hl (by omega), m_chr P hl (by omega), bnd_s, bnd_s, if_pos ha, if_pos ha, he, gd_t hc, nm_d, if_pos rfl, if_pos rfl, show nI a + (1 : Int32) = nI (a + 1) by rw [li1, nI_add]]
  rcases num P hl (a := a + 1) (by omega) nu (k := 0) (by omega) with ⟨v, a1, hv, ha1, ha2, e1, e2⟩ | ⟨e1, e2⟩
  · rw [show nI 0 = (0 : Int32) from rfl, show nI (0 + 1) = nI 1 from rfl] at e2
    rw [e1, bnd_s, if_pos (show (0 : Int32) ≤ nI v from nI_le (a := 0) (by omega) (by omega)), if_pos rfl]
    rcases under2 P hl ha2 u0 (upd nu 0 (nI v)) with ⟨a', U, hu, nu', off, g1, g2, g3, g4, g5, g6, g7, g8⟩ | ⟨a', U, g2, g5, g6, g7⟩
    · rw [g5, bnd_s, if_neg (show ¬ (1 : Int32) = 0 by decide), blk_m P hl ha2 hu0 e2 g6, show (58 : Int32) = nI 58 from rfl, c_sign P hl (by omega) (by omega) (by omega), bnd_s, m_next P hl (by omega) (by omega), bnd_s]
      by_cases c : nx mp len a' 58 = true
      · have hc1 : a' < len := (of_decide_eq_true c).1
        rw [if_pos c, if_neg (show ¬ (1 : Int32) = 0 by decide), if_neg (show ¬ (1 : Int32) = 0 by decide)]
        rcases bytes2 P hl g3 (a := a' + 1) (by omega) (by omega) m0 b0 g0 nu' with ⟨a2, cnt, B', tg', nu2, f1, f2, f3, f4, f5, f6, f7, f8⟩ | ⟨a2, m', B', tg', nu2, n', f2, f5, f6⟩
        · rw [f5, f6, bnd_s, bnd_s, if_neg (show ¬ (1 : Int32) = 0 by decide), if_neg (show ¬ (1 : Int32) = 0 by decide), bnd_s, gd_t (show isZ 1 = true by decide)]
          refine Or.inl ⟨a2, 43, nI v, t0, v0, U, nI cnt, B', tg', hu, nu2, nI (off + cnt), by omega, f2, rfl, rfl, Or.inl ⟨rfl, v, off, cnt, hv, rfl, ?_, f3, f4, rfl, rfl, f7, ?_⟩⟩
          · rw [f8 0 (by omega), g7]; exact pk_us
          · rcases g8 with ⟨q1, q2, q3⟩ | ⟨q1, q2, u, q3, q4, q5⟩
            · exact Or.inl ⟨q1, q2, q3⟩
            · exact Or.inr ⟨q1, q2, u, q3, q4, by rw [f8 1 (by omega)]; exact q5⟩
        · rw [f5, f6, bnd_s, bnd_s, if_pos rfl, if_pos rfl, bnd_s, gd_t (show isZ 0 = true by decide)]
          exact Or.inr ⟨a2, 43, nI v, t0, v0, U, m', B', tg', 43, hu, nu2, n', f2, rfl, rfl⟩
      · rw [if_neg c, if_pos rfl, if_pos rfl, bnd_s, gd_t (show isZ 0 = true by decide)]
        exact Or.inr ⟨a', 43, nI v, t0, v0, U, m0, b0, g0, 43, hu, nu', nI off, by omega, rfl, rfl⟩
    · rw [g5, bnd_s, if_pos rfl]
      unfold den_X7_takesBlock
      rw [e2, bnd_s, if_neg (show ¬ (1 : Int32) = 0 by decide), show (94 : Int32) = nI 94 from rfl, m_next P hl (by omega) (by omega), bnd_s, if_pos g6, if_neg (show ¬ (1 : Int32) = 0 by decide), bnd_s, gd_t (show isZ 1 = true by decide), if_neg (show ¬ (1 : Int32) = 0 by decide), nm_d, if_neg (show ¬ (1 : Int32) = 0 by decide), g7, bnd_s, if_pos rfl, bnd_s, gd_t (show isZ 0 = true by decide)]
      exact Or.inr ⟨a', 43, nI v, t0, v0, U, m0, b0, g0, 43, 1, upd nu 0 (nI v), nI 1, g2, rfl, rfl⟩
  · rw [show nI 0 = (0 : Int32) from rfl] at e2
    unfold den_X7_takesBlock
    rw [e1, bnd_s, if_neg (show ¬ (0 : Int32) ≤ -6 by decide), e2, bnd_s, if_pos rfl, bnd_s, gd_t (show isZ 0 = true by decide), if_pos rfl, bnd_s, gd_t (show isZ 0 = true by decide)]
    exact Or.inr ⟨a + 1, 43, -6, t0, v0, u0, m0, b0, g0, 43, 0, nu, 0, by omega, rfl, rfl⟩
theorem ord {pc mp : Nat → Int32} {len : Nat} (P : PDc pc mp len) (hl : len ≤ 80) {a : Nat} (ha : a ≤ len) (k0 n0 t0 v0 u0 m0 : Int32) (b0 : Int64) (g0 l0 hu0 : Int32) (nu : Nat → Int32) (nm0 : Int32) :
    OK2 len a (den_X2_takeOrder pc (nI len) (nI a) k0 n0 t0 v0 u0 m0 b0 g0) (den_X7_readsOrder mp (nI len) (nI a) l0 hu0 nu nm0) := by
  by_cases c : a < len
  · by_cases c1 : mp a = 43
    · exact ord_b P hl c c1 ..
    · by_cases c2 : mp a = 102
      · exact ord_f P hl c c2 ..
      · by_cases c3 : mp a = 120
        · exact ord_x P hl c c3 ..
        · obtain ⟨-, n, hn, e⟩ := P a c
          have hc := ord_ch hn
          rw [← e] at hc
          unfold den_X2_takeOrder den_X7_readsOrder
          rw [c_chr P hl (by omega), m_chr P hl (by omega), bnd_s, bnd_s, if_pos c, if_pos c, gd_t hc, nm_d, if_neg c1, if_neg c2, if_neg c3, if_neg c1, if_neg c2, if_neg c3, li1, nI_add, nIs (by omega), Nat.add_sub_cancel]
          exact Or.inr ⟨a, _, _, _, _, _, _, _, _, _, _, _, _, ha, rfl, rfl⟩
  · unfold den_X2_takeOrder den_X7_readsOrder
    rw [c_chr P hl (by omega), m_chr P hl (by omega), bnd_s, bnd_s, if_neg c, if_neg c, gd_t (show isC 0 = true by decide), nm_d, if_neg (show ¬ (0 : Int32) = 43 by decide), if_neg (show ¬ (0 : Int32) = 102 by decide), if_neg (show ¬ (0 : Int32) = 120 by decide), if_neg (show ¬ (-1 : Int32) = 43 by decide), if_neg (show ¬ (-1 : Int32) = 102 by decide), if_neg (show ¬ (-1 : Int32) = 120 by decide), show (1 : Int32) = nI 1 from rfl, nI_add, nIs (by omega), Nat.add_sub_cancel]
    exact Or.inr ⟨a, _, _, _, _, _, _, _, _, _, _, _, _, ha, rfl, rfl⟩
