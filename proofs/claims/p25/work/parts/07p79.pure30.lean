theorem ord_ch {n : Nat} (hn : isCh n) : isC (nI n) = true := by
  have h := hn.2
  unfold isC
  rw [(pk_charN (q := n) (by omega)).2, Bool.and_true, decide_eq_true_eq]
  unfold vp_nar
  rw [(pk_charN (q := n) (by omega)).1]
def OK2 (len a : Nat) (x : Option (Int32 × Int32 × Int32 × Int32 × Int32 × Int32 × Int32 × Int32 × Int64 × Int32)) (m : Option (Int32 × Int32 × Int32 × Int32 × (Nat → Int32) × Int32)) : Prop :=
  (∃ a' K N T V U M B G hu nu' nm', a < a' ∧ a' ≤ len ∧ x = some (1, nI a', K, N, T, V, U, M, B, G) ∧ m = some (1, nI a', K, hu, nu', nm') ∧ ORD K N T V U M B G hu nu' nm') ∨
  (∃ a' K N T V U M B G L hu nu' nm', a' ≤ len ∧ x = some (0, nI a', K, N, T, V, U, M, B, G) ∧ m = some (0, nI a', L, hu, nu', nm'))
theorem ord_x {pc mp : Nat → Int32} {len : Nat} (P : PDc pc mp len) (hl : len ≤ 80) {a : Nat} (ha : a < len) (he : mp a = 120) (k0 n0 t0 v0 u0 m0 : Int32) (b0 : Int64) (g0 l0 hu0 : Int32) (nu : Nat → Int32) (nm0 : Int32) :
    OK2 len a (den_X2_takeOrder pc (nI len) (nI a) k0 n0 t0 v0 u0 m0 b0 g0) (den_X7_readsOrder mp (nI len) (nI a) l0 hu0 nu nm0) := by
  obtain ⟨-, n, hn, e⟩ := P a ha
  have hc := ord_ch hn
  rw [← e, he] at hc
  unfold den_X2_takeOrder den_X7_readsOrder
  rw [c_chr P hl (by omega), m_chr P hl (by omega), bnd_s, bnd_s, if_pos ha, if_pos ha, he, gd_t hc, nm_d, if_neg (show ¬ (120 : Int32) = 43 by decide), if_neg (show ¬ (120 : Int32) = 102 by decide), if_pos rfl, if_neg (show ¬ (120 : Int32) = 43 by decide), if_neg (show ¬ (120 : Int32) = 102 by decide), if_pos rfl, show nI a + (1 : Int32) = nI (a + 1) by rw [li1, nI_add]]
  rcases num P hl (a := a + 1) (by omega) nu (k := 0) (by omega) with ⟨v, a1, hv, ha1, ha2, e1, e2⟩ | ⟨e1, e2⟩
  · rw [show nI 0 = (0 : Int32) from rfl] at e2
    rw [e1, e2, bnd_s, bnd_s, if_pos (show (0 : Int32) ≤ nI v from nI_le (a := 0) (by omega) (by omega)), gd_t (show isZ 1 = true by decide)]
    exact Or.inl ⟨a1, 120, nI v, t0, v0, u0, m0, b0, g0, hu0, _, _, by omega, ha2, by first | rfl | (rw [if_neg (show ¬ (120 : Int32) = 43 by decide), if_pos rfl]), rfl, Or.inr (Or.inr ⟨rfl, (show upd nu 0 (nI v) 0 = nI v from pk_us)⟩)⟩
  · rw [show nI 0 = (0 : Int32) from rfl] at e2
    rw [e1, e2, bnd_s, bnd_s, if_neg (show ¬ (0 : Int32) ≤ -6 by decide), gd_t (show isZ 0 = true by decide)]
    exact Or.inr ⟨a + 1, 120, -6, t0, v0, u0, m0, b0, g0, 120, hu0, _, _, by omega, rfl, rfl⟩
theorem ord_f {pc mp : Nat → Int32} {len : Nat} (P : PDc pc mp len) (hl : len ≤ 80) {a : Nat} (ha : a < len) (he : mp a = 102) (k0 n0 t0 v0 u0 m0 : Int32) (b0 : Int64) (g0 l0 hu0 : Int32) (nu : Nat → Int32) (nm0 : Int32) :
    OK2 len a (den_X2_takeOrder pc (nI len) (nI a) k0 n0 t0 v0 u0 m0 b0 g0) (den_X7_readsOrder mp (nI len) (nI a) l0 hu0 nu nm0) := by
  obtain ⟨-, n, hn, e⟩ := P a ha
  have hc := ord_ch hn
  rw [← e, he] at hc
  unfold den_X2_takeOrder den_X7_readsOrder den_X2_takeFading
  rw [c_chr P hl (by omega), m_chr P hl (by omega), bnd_s, bnd_s, if_pos ha, if_pos ha, he, gd_t hc, nm_d, if_neg (show ¬ (102 : Int32) = 43 by decide), if_pos rfl, if_neg (show ¬ (102 : Int32) = 43 by decide), if_pos rfl, show nI a + (1 : Int32) = nI (a + 1) by rw [li1, nI_add]]
  rcases num P hl (a := a + 1) (by omega) nu (k := 0) (by omega) with ⟨v, a1, hv, ha1, ha2, e1, e2⟩ | ⟨e1, e2⟩
  · rw [show nI 0 = (0 : Int32) from rfl] at e2
    rw [e1, e2, bnd_s, bnd_s, if_pos (show (0 : Int32) ≤ nI v from nI_le (a := 0) (by omega) (by omega)), if_neg (show ¬ (1 : Int32) = 0 by decide), if_neg (show ¬ (102 : Int32) = 43 by decide), if_neg (show ¬ (102 : Int32) = 120 by decide), show (45 : Int32) = nI 45 from rfl, c_sign P hl (by omega) (by omega) (by omega), bnd_s, m_next P hl (by omega) (by omega), bnd_s]
    by_cases c : nx mp len a1 45 = true
    · have hc1 : a1 < len := (of_decide_eq_true c).1
      rw [if_pos c, if_neg (show ¬ (1 : Int32) = 0 by decide), if_neg (show ¬ (1 : Int32) = 0 by decide)]
      rcases num P hl (a := a1 + 1) (by omega) (upd nu 0 (nI v)) (k := 0 + 1) (by omega) with ⟨w, a2, hw, ha3, ha4, e3, e4⟩ | ⟨e3, e4⟩
      · rw [e3, e4, bnd_s, bnd_s, if_neg (nI_pos (by omega)), if_neg (show ¬ (1 : Int32) = 0 by decide), show (61 : Int32) = nI 61 from rfl, c_sign P hl (by omega) (by omega) (by omega), bnd_s, m_next P hl (by omega) (by omega), bnd_s]
        by_cases c2 : nx mp len a2 61 = true
        · have hc2 : a2 < len := (of_decide_eq_true c2).1
          rw [if_pos c2, if_neg (show ¬ (1 : Int32) = 0 by decide), if_neg (show ¬ (1 : Int32) = 0 by decide)]
          rcases num P hl (a := a2 + 1) (by omega) (upd (upd nu 0 (nI v)) (0 + 1) (nI w)) (k := 0 + 1 + 1) (by omega) with ⟨z, a3, hz, ha5, ha6, e5, e6⟩ | ⟨e5, e6⟩
          · rw [e5, e6, bnd_s, bnd_s, if_neg (nI_pos (by omega)), if_neg (show ¬ (1 : Int32) = 0 by decide), bnd_s, if_neg (show ¬ (1 : Int32) = 0 by decide)]
            refine Or.inl ⟨a3, 102, nI v, nI w, nI z, u0, m0, b0, g0, hu0, upd (upd (upd nu 0 (nI v)) (0 + 1) (nI w)) (0 + 1 + 1) (nI z), _, by omega, ha6, rfl, rfl, Or.inr (Or.inl ⟨rfl, ?_, ?_, ?_⟩)⟩
            · rw [pk_un (by omega), pk_un (by omega), pk_us]
            · rw [pk_un (by omega)]; exact pk_us
            · exact pk_us
          · rw [e5, e6, bnd_s, bnd_s, if_pos (show (-6 : Int32) < 0 by decide), if_pos rfl, bnd_s, if_pos rfl]
            exact Or.inr ⟨a2 + 1, 102, nI v, nI w, -6, u0, m0, b0, g0, 102, hu0, _, _, by omega, rfl, rfl⟩
        · rw [if_neg c2, if_pos rfl, if_pos rfl, bnd_s, if_pos rfl]
          exact Or.inr ⟨a2, 102, nI v, nI w, v0, u0, m0, b0, g0, 102, hu0, _, _, by omega, rfl, rfl⟩
      · rw [e3, e4, bnd_s, bnd_s, if_pos (show (-6 : Int32) < 0 by decide), if_pos rfl, bnd_s, if_pos rfl]
        exact Or.inr ⟨a1 + 1, 102, nI v, -6, v0, u0, m0, b0, g0, 102, hu0, _, _, by omega, rfl, rfl⟩
    · rw [if_neg c, if_pos rfl, if_pos rfl, bnd_s, if_pos rfl]
      exact Or.inr ⟨a1, 102, nI v, t0, v0, u0, m0, b0, g0, 102, hu0, _, _, by omega, rfl, rfl⟩
  · rw [show nI 0 = (0 : Int32) from rfl] at e2
    rw [e1, e2, bnd_s, bnd_s, if_neg (show ¬ (0 : Int32) ≤ -6 by decide), if_pos rfl]
    exact Or.inr ⟨a + 1, 102, -6, t0, v0, u0, m0, b0, g0, 102, hu0, _, _, by omega, rfl, rfl⟩
