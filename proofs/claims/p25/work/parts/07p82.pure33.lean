/-! fault -/
theorem fault_L {pc mp : Nat → Int32} {len : Nat} (P : PDc pc mp len) (hl : len ≤ 80) : ∀ (d fu fu2 k a : Nat) (k0 n0 t0 v0 u0 m0 : Int32) (b0 : Int64) (g0 l0 hu0 : Int32) (nu : Nat → Int32) (nm0 : Int32), len + 1 - a ≤ d → d < fu → d < fu2 → a ≤ len → 2 * k ≤ a →
    ∃ v p K N T V U M B G p2 L hu nu' nm', den_X2_findFault_L7 pc (nI len) fu (nI k) (nI a) k0 n0 t0 v0 u0 m0 b0 g0 = some (v, p, K, N, T, V, U, M, B, G) ∧ den_X7_findFault_L5 mp (nI len) fu2 (nI a) l0 hu0 nu nm0 = some (v, p2, L, hu, nu', nm') := by
  intro d
  induction d with
  | zero => intro fu fu2 k a k0 n0 t0 v0 u0 m0 b0 g0 l0 hu0 nu nm0 h1 h2 h3 h4; omega
  | succ d ih =>
    intro fu fu2 k a k0 n0 t0 v0 u0 m0 b0 g0 l0 hu0 nu nm0 h1 h2 h3 h4 h5
    cases fu with
    | zero => omega
    | succ fu =>
      cases fu2 with
      | zero => omega
      | succ fu2 =>
        rw [den_X2_findFault_L7, den_X7_findFault_L5, if_neg (show ¬ (80 : Int32) ≤ nI k from nI_ge (b := 80) (by omega) (by omega))]
        rcases ord P hl h4 k0 n0 t0 v0 u0 m0 b0 g0 l0 hu0 nu nm0 with ⟨a', K, N, T, V, U, M, B, G, hu, nu', nm', g1, g2, e1, e2, -⟩ | ⟨a', K, N, T, V, U, M, B, G, L, hu, nu', nm', g2, e1, e2⟩
        · rw [e1, e2, bnd_s, bnd_s, if_neg (show ¬ (1 : Int32) = 0 by decide), if_neg (show ¬ (1 : Int32) = 0 by decide)]
          by_cases c : a' = len
          · rw [if_pos (show nI a' = nI len by rw [c]), if_pos (show nI a' = nI len by rw [c])]
            exact ⟨_, _, _, _, _, _, _, _, _, _, _, _, _, _, _, rfl, rfl⟩
          · have hne : ¬ nI a' = nI len := fun q => c ((nI_eq (by omega) (by omega)).mp q)
            rw [if_neg hne, if_neg hne, show (59 : Int32) = nI 59 from rfl, c_sign P hl (by omega) (by omega) (by omega), bnd_s, m_next P hl (by omega) (by omega), bnd_s]
            by_cases c2 : nx mp len a' 59 = true
            · have hc := (of_decide_eq_true c2).1
              rw [if_pos c2, if_neg (show ¬ (1 : Int32) = 0 by decide), if_neg (show ¬ (1 : Int32) = 0 by decide), li1, nI_add]
              exact ih fu fu2 (k + 1) (a' + 1) K N T V U M B G K hu nu' nm' (by omega) (by omega) (by omega) (by omega) (by omega)
            · rw [if_neg c2, if_pos rfl, if_pos rfl]
              exact ⟨_, _, _, _, _, _, _, _, _, _, _, _, _, _, _, rfl, rfl⟩
        · rw [e1, e2, bnd_s, bnd_s, if_pos rfl, if_pos rfl]
          exact ⟨_, _, _, _, _, _, _, _, _, _, _, _, _, _, _, rfl, rfl⟩
theorem k_fault {pc mp : Nat → Int32} {pl ml : Int32} (P : PD pc mp pl ml) (a0 k0 n0 t0 v0 u0 m0 : Int32) (b0 : Int64) (g0 a1 l0 hu0 : Int32) (nu : Nat → Int32) (nm0 : Int32) :
    ∃ v p K N T V U M B G p2 L hu nu' nm', den_X6_fault pc pl a0 k0 n0 t0 v0 u0 m0 b0 g0 = some (v, p, K, N, T, V, U, M, B, G) ∧ den_X7_fault mp ml a1 l0 hu0 nu nm0 = some (v, p2, L, hu, nu', nm') := by
  obtain ⟨len, e1, e2, hl, hP⟩ := P
  subst e1; subst e2
  obtain ⟨v, p, K, N, T, V, U, M, B, G, p2, L, hu, nu', nm', f1, f2⟩ := fault_L hP hl 81 FU FU 0 0 k0 n0 t0 v0 u0 m0 b0 g0 l0 hu0 nu nm0 (by omega) (by rw [FU_eq]; omega) (by rw [FU_eq]; omega) (by omega) (by omega)
  rw [show nI 0 = (0 : Int32) from rfl] at f1 f2
  refine ⟨v, p, K, N, T, V, U, M, B, G, p2, L, hu, nu', nm', ?_, ?_⟩
  · unfold den_X6_fault den_X2_findFault
    rw [f1, bnd_s]
  · unfold den_X7_fault den_X7_findFault
    rw [f2, bnd_s]
