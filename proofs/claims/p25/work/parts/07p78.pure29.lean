/-! an order -/
def ORD (K N T V U M : Int32) (B : Int64) (G hu : Int32) (nu : Nat → Int32) (nm : Int32) : Prop :=
  (K = 43 ∧ ∃ v off cnt, v ≤ 9999 ∧ N = nI v ∧ nu 0 = nI v ∧ 1 ≤ cnt ∧ off + cnt ≤ 44 ∧ M = nI cnt ∧ nm = nI (off + cnt) ∧ BY B G nu off cnt ∧ ((hu = 0 ∧ off = 1 ∧ U = -6) ∨ (hu = 1 ∧ off = 2 ∧ ∃ u, u ≤ 9999 ∧ U = nI u ∧ nu 1 = nI u))) ∨
  (K = 102 ∧ nu 0 = N ∧ nu 1 = T ∧ nu 2 = V) ∨ (K = 120 ∧ nu 0 = N)
/-- behind the number: an under or none, then ':' and the bytes -/
theorem under2 {pc mp : Nat → Int32} {len : Nat} (P : PDc pc mp len) (hl : len ≤ 80) {a : Nat} (ha : a ≤ len) (u0 : Int32) (nu : Nat → Int32) :
    (∃ a' U hu nu' off, a ≤ a' ∧ a' ≤ len ∧ off ≤ 2 ∧ 1 ≤ off ∧ den_X2_takeUnder pc (nI len) (nI a) u0 = some (1, nI a', U) ∧ (if nx mp len a 94 = true then bnd (den_X7_takesNumber mp (nI len) (nI (a + 1)) nu (nI 1)) (fun q14 => some (q14.1, (1 : Int32), q14.2.1, q14.2.2.1, q14.2.2.2)) else some (1, 0, nI a, nu, nI 1)) = some (1, hu, nI a', nu', nI off) ∧ nu' 0 = nu 0 ∧ ((hu = 0 ∧ off = 1 ∧ U = -6) ∨ (hu = 1 ∧ off = 2 ∧ ∃ u, u ≤ 9999 ∧ U = nI u ∧ nu' 1 = nI u))) ∨
    (∃ a' U, a' ≤ len ∧ den_X2_takeUnder pc (nI len) (nI a) u0 = some (0, nI a', U) ∧ nx mp len a 94 = true ∧ den_X7_takesNumber mp (nI len) (nI (a + 1)) nu (nI 1) = some (0, nI a', nu, nI 1)) := by
  unfold den_X2_takeUnder
  rw [show (94 : Int32) = nI 94 from rfl, c_sign P hl (by omega) (by omega) (by omega), bnd_s]
  by_cases c : nx mp len a 94 = true
  · have hc : a < len := (of_decide_eq_true c).1
    rw [if_pos c, if_pos c, if_neg (show ¬ (1 : Int32) = 0 by decide)]
    rcases num P hl (a := a + 1) (by omega) nu (k := 1) (by omega) with ⟨v, a1, hv, ha1, ha2, e1, e2⟩ | ⟨e1, e2⟩
    · rw [e1, e2, bnd_s, bnd_s, if_neg (nI_pos (by omega))]
      exact Or.inl ⟨a1, nI v, 1, upd nu 1 (nI v), 2, by omega, ha2, by omega, by omega, rfl, rfl, (show upd nu 1 (nI v) 0 = nu 0 from pk_un (by omega)), Or.inr ⟨rfl, rfl, v, hv, rfl, (show upd nu 1 (nI v) 1 = nI v from pk_us)⟩⟩
    · rw [e1, bnd_s, if_pos (show (-6 : Int32) < 0 by decide)]
      exact Or.inr ⟨a + 1, -6, by omega, rfl, c, e2⟩
  · rw [if_neg c, if_neg c, if_pos rfl]
    exact Or.inl ⟨a, -6, 0, nu, 1, Nat.le_refl _, ha, by omega, by omega, rfl, rfl, rfl, Or.inl ⟨rfl, rfl, rfl⟩⟩
