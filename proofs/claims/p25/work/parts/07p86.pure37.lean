/-! a text carried out: the second reading goes as the first, whatever the fields held before -/
theorem bnd_map {α β γ : Type} (x : Option α) (f : α → Option β) (g : β → γ) : (bnd x f).map g = bnd x (fun q => (f q).map g) := by cases x <;> rfl
theorem bnd_asc {α β γ : Type} (x : Option α) (f : α → Option β) (g : β → Option γ) : bnd (bnd x f) g = bnd x (fun q => bnd (f q) g) := by cases x <;> rfl
theorem gd_map {α β : Type} (b : Bool) (x : Option α) (g : α → β) : (gd b x).map g = gd b (x.map g) := by cases b <;> rfl
theorem ite_map {α β : Type} {c : Prop} [Decidable c] (x y : Option α) (g : α → β) : (if c then x else y).map g = if c then x.map g else y.map g := by
  by_cases h : c
  · rw [if_pos h, if_pos h]
  · rw [if_neg h, if_neg h]
theorem map_s {α β : Type} (a : α) (g : α → β) : (some a).map g = some (g a) := rfl
theorem tO_i (pc : Nat → Int32) (len a k0 n0 t0 v0 u0 m0 : Int32) (b0 : Int64) (g0 k1 n1 t1 v1 u1 m1 : Int32) (b1 : Int64) (g1 : Int32) : (den_X2_takeOrder pc len a k0 n0 t0 v0 u0 m0 b0 g0).map (fun q => (q.1, q.2.1)) = (den_X2_takeOrder pc len a k1 n1 t1 v1 u1 m1 b1 g1).map (fun q => (q.1, q.2.1)) := by
  unfold den_X2_takeOrder den_X2_takeFading den_X2_takeUnder den_X2_takeBytes
  simp only [nm_d, bnd_map, gd_map, ite_map, map_s, bnd_asc, bnd_ite, bnd_s]
theorem carry_L {pc mp : Nat → Int32} {len : Nat} (P : PDc pc mp len) (hl : len ≤ 80) (se : Nat → Int32) (q3 : Int32 × Int32 × (Nat → TV)) : ∀ (d fu fuc fum k a : Nat) (k0 n0 t0 v0 u0 m0 : Int32) (b0 : Int64) (g0 k1 n1 t1 v1 u1 m1 : Int32) (b1 : Int64) (g1 l0 hu0 : Int32) (nu : Nat → Int32) (nm0 y bl : Int32) (na un ma fi vo ba wr st fd : Nat → Int32) (rr : Int32 × Int32 × Int32 × Int32 × Int32 × Int32 × Int32 × Int64 × Int32), len + 1 - a ≤ d → d < fuc → d + 1 < fum → a ≤ len → 2 * k ≤ a → den_X2_findFault_L7 pc (nI len) fu (nI k) (nI a) k0 n0 t0 v0 u0 m0 b0 g0 = some ((-6 : Int32), rr) → RT se bl na un ma fi vo ba wr st →
    ∃ v, ∃ (t : TV), ∃ p K N T V U M B G st' fd' p2 L hu nu' nm', den_X6_carryOut_L38 se pc (nI len) q3 fuc y (nI k) bl na un ma fi vo ba wr (nI a) k1 n1 t1 v1 u1 m1 b1 g1 = some (v, t.2.1, t.2.2.1, t.2.2.2.1, t.2.2.2.2.1, t.2.2.2.2.2.1, t.2.2.2.2.2.2.1, t.2.2.2.2.2.2.2.1, t.2.2.2.2.2.2.2.2, 0, p, K, N, T, V, U, M, B, G, q3.1, q3.2.1, q3.2.2) ∧ den_X7_carryOut_L25 mp (nI len) fum y 1 st fd (nI a) l0 hu0 nu nm0 = some (v, st', fd', p2, L, hu, nu', nm') ∧ t.1 = se ∧ RTv t st' := by
  intro d
  induction d with
  | zero => intro fu fuc fum k a k0 n0 t0 v0 u0 m0 b0 g0 k1 n1 t1 v1 u1 m1 b1 g1 l0 hu0 nu nm0 y bl na un ma fi vo ba wr st fd rr h1 h2 h3 h4; omega
  | succ d ih =>
    intro fu fuc fum k a k0 n0 t0 v0 u0 m0 b0 g0 k1 n1 t1 v1 u1 m1 b1 g1 l0 hu0 nu nm0 y bl na un ma fi vo ba wr st fd rr h1 h2 h3 h4 h5 hF r
    cases fu with
    | zero => rw [den_X2_findFault_L7] at hF; cases hF
    | succ fu =>
      cases fuc with
      | zero => omega
      | succ fuc =>
        cases fum with
        | zero => omega
        | succ fum =>
          cases fum with
          | zero => omega
          | succ fum =>
            have hk : ¬ (80 : Int32) ≤ nI k := nI_ge (b := 80) (by omega) (by omega)
            have ek : nI k + (1 : Int32) = nI (k + 1) := by rw [li1, nI_add]
            rw [den_X2_findFault_L7, if_neg hk] at hF
            rcases ord P hl h4 k0 n0 t0 v0 u0 m0 b0 g0 l0 hu0 nu nm0 with ⟨a', K0, N0, T0, V0, U0, M0, B0, G0, hx0, nx0, mx0, j1, j2, e1, -, -⟩ | ⟨a', K0, N0, T0, V0, U0, M0, B0, G0, L0, hx0, nx0, mx0, j2, e1, -⟩
            · rw [e1, bnd_s, if_neg (show ¬ (1 : Int32) = 0 by decide)] at hF
              have hi := tO_i pc (nI len) (nI a) k0 n0 t0 v0 u0 m0 b0 g0 k1 n1 t1 v1 u1 m1 b1 g1
              rw [e1, map_s] at hi
              rcases ord P hl h4 k1 n1 t1 v1 u1 m1 b1 g1 l0 hu0 nu nm0 with ⟨a2, K, N, T, V, U, M, B, G, hu, nu', nm', j3, j4, e2, e3, O⟩ | ⟨a2, K, N, T, V, U, M, B, G, L, hu, nu', nm', j4, e2, e3⟩
              · rw [e2, map_s] at hi
                have hi := Option.some.inj hi
                injection hi with z1 z2
                have z2 : nI a' = nI a2 := z2
                have ha2 : a' = a2 := (nI_eq (by omega) (by omega)).mp z2
                subst ha2
                obtain ⟨q, t, ok, st', fd', f1, f2, f3, f4, f5⟩ := k_order r O fd
                have f6 : RT se t.2.1 t.2.2.1 t.2.2.2.1 t.2.2.2.2.1 t.2.2.2.2.2.1 t.2.2.2.2.2.2.1 t.2.2.2.2.2.2.2.1 t.2.2.2.2.2.2.2.2 st' := by
                  have f4' := f4
                  unfold RTv at f4'
                  rw [f3] at f4'
                  exact f4'
                rw [den_X6_carryOut_L38, nm_d, if_neg hk, e2, bnd_s, if_neg (show ¬ (1 : Int32) = 0 by decide), f1, bnd_s, den_X7_carryOut_L25, if_neg (show ¬ (1 : Int32) = 0 by decide), if_neg (show ¬ nI len ≤ nI a from nI_ge (by omega) (by omega)), e3, bnd_s, show (59 : Int32) = nI 59 from rfl, m_next P hl (by omega) (by omega), bnd_s, f2, bnd_s, c_sign P hl (by omega) (by omega) (by omega)]
                rcases f5 with ⟨q1, q2⟩ | ⟨q1, q2⟩
                · subst q2
                  rw [if_pos q1, if_neg (show ¬ (1 : Int32) = 0 by decide), bnd_s]
                  by_cases c : a' = len
                  · have hn : ¬ nx mp len a' 59 = true := fun w => by
                      have := (of_decide_eq_true w).1
                      omega
                    rw [if_neg hn, if_pos rfl, den_X7_carryOut_L25, if_neg (show ¬ (1 : Int32) = 0 by decide), if_pos (show nI len ≤ nI a' from nI_le (by omega) (by omega))]
                    exact ⟨y + 1, t, nI a', K, N, T, V, U, M, B, G, st', fd', nI a', K, hu, nu', nm', rfl, rfl, f3, f4⟩
                  · have hne : ¬ nI a' = nI len := fun w => c ((nI_eq (by omega) (by omega)).mp w)
                    rw [if_neg hne, show (59 : Int32) = nI 59 from rfl, c_sign P hl (by omega) (by omega) (by omega), bnd_s] at hF
                    by_cases c2 : nx mp len a' 59 = true
                    · have hc := (of_decide_eq_true c2).1
                      rw [if_pos c2, if_neg (show ¬ (1 : Int32) = 0 by decide), ek] at hF
                      rw [if_pos c2, if_neg (show ¬ (1 : Int32) = 0 by decide), ek]
                      exact ih fu fuc (fum + 1) (k + 1) (a' + 1) _ _ _ _ _ _ _ _ _ _ _ _ _ _ _ _ _ _ _ _ _ _ _ _ _ _ _ _ _ _ _ _ (by omega) (by omega) (by omega) (by omega) (by omega) hF f6
                    · rw [if_neg c2, if_pos rfl] at hF
                      have hF := Option.some.inj hF
                      injection hF with z1 z2
                      exact absurd z1 (nI_ne6 (by omega))
                · subst q2
                  rw [if_neg q1, if_pos rfl, den_X7_carryOut_L25, if_pos rfl, Int32.add_zero]
                  exact ⟨y, t, nI a', K, N, T, V, U, M, B, G, st', fd', _, K, hu, nu', nm', rfl, rfl, f3, f4⟩
              · rw [e2, map_s] at hi
                have hi := Option.some.inj hi
                injection hi with z1 z2
                exact absurd z1 (show ¬ (1 : Int32) = 0 by decide)
            · rw [e1, bnd_s, if_pos rfl] at hF
              have hF := Option.some.inj hF
              injection hF with z1 z2
              exact absurd z1 (nI_ne6 (by omega))
