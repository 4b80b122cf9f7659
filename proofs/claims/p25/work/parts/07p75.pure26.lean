/-! the pad read: characters, signs, numbers -/
def nx (mp : Nat → Int32) (len a s : Nat) : Bool := decide (a < len ∧ mp a = nI s)
theorem c_chr {pc mp : Nat → Int32} {len : Nat} (P : PDc pc mp len) (hl : len ≤ 80) {a : Nat} (ha : a < 2 ^ 31) : den_X2_nextCharacter pc (nI len) (nI a) = some (if a < len then mp a else 0) := by
  unfold den_X2_nextCharacter
  rw [if_neg (nI_pos ha)]
  by_cases c : a < len
  · obtain ⟨h1, n, h2, h3⟩ := P a c
    have hn := h2.2
    rw [if_neg (nI_ge c (by omega)), if_neg (show ¬ (80 : Int32) ≤ nI a from nI_ge (b := 80) (by omega) (by omega)), if_pos c, gdI (by omega) (by omega), nI_clamp ha, h1, gd_t]
    rw [h3]
    unfold isC
    rw [(pk_charN (q := n) (by omega)).2, Bool.and_true, decide_eq_true_eq]
    unfold vp_nar
    rw [(pk_charN (q := n) (by omega)).1]
  · rw [if_pos (nI_le (by omega) ha), if_neg c]
theorem m_chr {pc mp : Nat → Int32} {len : Nat} (P : PDc pc mp len) (hl : len ≤ 80) {a : Nat} (ha : a < 2 ^ 31) : den_X7_character mp (nI len) (nI a) = some (if a < len then mp a else -1) := by
  unfold den_X7_character
  by_cases c : a < len
  · rw [if_neg (nI_ge c (by omega)), if_pos c, gdI (by omega) (by omega), nI_clamp ha]
  · rw [if_pos (nI_le (by omega) ha), if_neg c]
theorem c_sign {pc mp : Nat → Int32} {len : Nat} (P : PDc pc mp len) (hl : len ≤ 80) {a s : Nat} (ha : a < 2 ^ 31) (hs : 0 < s) (hs2 : s < 2 ^ 31) : den_X2_takeSign pc (nI len) (nI a) (nI s) = some (if nx mp len a s = true then (1, nI (a + 1)) else (0, nI a)) := by
  unfold den_X2_takeSign nx
  rw [c_chr P hl ha, bnd_s]
  by_cases c : a < len
  · rw [if_pos c]
    by_cases c2 : mp a = nI s
    · rw [if_pos c2, if_pos (decide_eq_true ⟨c, c2⟩), li1, nI_add]
    · rw [if_neg c2, if_neg (fun q => c2 (of_decide_eq_true q).2)]
  · rw [if_neg c, if_neg (show ¬ (0 : Int32) = nI s from fun q => by rw [show (0 : Int32) = nI 0 from rfl, nI_eq (by omega) hs2] at q; omega), if_neg (fun q => c (of_decide_eq_true q).1)]
theorem m_next {pc mp : Nat → Int32} {len : Nat} (P : PDc pc mp len) (hl : len ≤ 80) {a s : Nat} (ha : a < 2 ^ 31) (hs : s < 2 ^ 31) : den_X7_isNext mp (nI len) (nI a) (nI s) = some (if nx mp len a s = true then (1, nI (a + 1)) else (0, nI a)) := by
  unfold den_X7_isNext nx
  rw [m_chr P hl ha, bnd_s]
  by_cases c : a < len
  · rw [if_pos c]
    by_cases c2 : mp a = nI s
    · rw [if_pos c2, bnd_s, if_neg (show ¬ (1 : Int32) = 0 by decide), bnd_s, gd_t (show isZ _ = true by decide), if_pos (decide_eq_true ⟨c, c2⟩), li1, nI_add]
    · rw [if_neg c2, bnd_s, if_pos rfl, bnd_s, gd_t (show isZ _ = true by decide), if_neg (fun q => c2 (of_decide_eq_true q).2), Int32.add_zero]
  · rw [if_neg c, if_neg (show ¬ (-1 : Int32) = nI s from fun q => by
      have := congrArg Int32.toInt q
      rw [nI_toInt hs, m1_toInt] at this; omega), bnd_s, if_pos rfl, bnd_s, gd_t (show isZ _ = true by decide), if_neg (fun q => c (of_decide_eq_true q).1), Int32.add_zero]
/-- the digit at a, if one stands there -/
theorem dig {pc mp : Nat → Int32} {len : Nat} (P : PDc pc mp len) (hl : len ≤ 80) {a : Nat} (ha : a < 2 ^ 31) :
    (∃ d, d ≤ 9 ∧ a < len ∧ den_X2_nextDigit pc (nI len) (nI a) = some (nI d) ∧ den_X7_isDigit mp (nI len) (nI a) = some 1 ∧ den_X7_character mp (nI len) (nI a) = some (nI (48 + d))) ∨
    (den_X2_nextDigit pc (nI len) (nI a) = some (-6) ∧ den_X7_isDigit mp (nI len) (nI a) = some 0) := by
  unfold den_X2_nextDigit den_X7_isDigit
  rw [c_chr P hl ha, m_chr P hl ha, bnd_s, bnd_s, m_within, bnd_s]
  have hz : ∀ x : Int32, gd (isZ (if x < (48 : Int32) then (0 : Int32) else if (57 : Int32) < x then 0 else 1)) (some (if x < (48 : Int32) then (0 : Int32) else if (57 : Int32) < x then 0 else 1)) = some (if x < (48 : Int32) then (0 : Int32) else if (57 : Int32) < x then 0 else 1) := fun x => by
    refine gd_t ?_
    split
    · rfl
    · split <;> rfl
  rw [hz]
  by_cases c : a < len
  · obtain ⟨-, n, h2, h3⟩ := P a c
    have hn := h2.2
    rw [if_pos c, if_pos c, h3]
    by_cases c1 : n < 48
    · have e1 : nI n < (48 : Int32) := nI_lt (b := 48) c1 (by omega)
      rw [if_pos e1, if_pos e1]; exact Or.inr ⟨rfl, rfl⟩
    · have e1 : ¬ nI n < (48 : Int32) := nI_nlt (a := n) (b := 48) (by omega) (by omega)
      rw [if_neg e1, if_neg e1]
      by_cases c2 : n ≤ 57
      · have e2 : ¬ (57 : Int32) < nI n := nI_nlt (a := 57) (b := n) c2 (by omega)
        rw [if_neg e2, if_neg e2]
        refine Or.inl ⟨n - 48, by omega, c, ?_, rfl, by rw [show 48 + (n - 48) = n by omega]⟩
        rw [show (48 : Int32) = nI 48 from rfl, nIs (by omega)]
      · have e2 : (57 : Int32) < nI n := nI_lt (a := 57) (by omega) (by omega)
        rw [if_pos e2, if_pos e2]; exact Or.inr ⟨rfl, rfl⟩
  · rw [if_neg c, if_neg c, if_pos (show (0 : Int32) < 48 by decide), if_pos (show (-1 : Int32) < 48 by decide)]
    exact Or.inr ⟨rfl, rfl⟩
theorem num_L {pc mp : Nat → Int32} {len : Nat} (P : PDc pc mp len) (hl : len ≤ 80) : ∀ (d fu k v a : Nat), k + d = 4 → d < fu → 1 ≤ k → a ≤ len → ((v = 0 ∧ k = 1) ∨ (10 ^ (k - 1) ≤ v ∧ v < 10 ^ k)) →
    ∃ v' a', den_X2_takeNumber_L26 pc (nI len) fu (nI v) (nI k) (nI a) = some (nI v', nI a') ∧ den_X7_takesNumber_L31 mp (nI len) fu (nI v) (nI a) = some (nI v', nI a') ∧ v' ≤ 9999 ∧ a ≤ a' ∧ a' ≤ len := by
  intro d
  induction d with
  | zero =>
    intro fu k v a hk hf h1 ha hv
    cases fu with
    | zero => omega
    | succ fu =>
      have : k = 4 := by omega
      subst this
      have hv2 : 1000 ≤ v ∧ v < 10000 := by
        rcases hv with h | h
        · omega
        · exact h
      refine ⟨v, a, ?_, ?_, by omega, Nat.le_refl _, ha⟩
      · rw [den_X2_takeNumber_L26, if_pos (show (4 : Int32) ≤ nI 4 by decide)]
      · rw [den_X7_takesNumber_L31, if_neg (show ¬ nI v ≤ (0 : Int32) from nI_nle (by omega) (by omega)), if_pos (show (1000 : Int32) ≤ nI v from nI_le (a := 1000) hv2.1 (by omega))]
  | succ d ih =>
    intro fu k v a hk hf h1 ha hv
    cases fu with
    | zero => omega
    | succ fu =>
      have hk3 : k = 1 ∨ k = 2 ∨ k = 3 := by omega
      have hv9 : v ≤ 999 := by
        rcases hv with h | h
        · omega
        · rcases hk3 with e | e | e <;> subst e <;> omega
      rw [den_X2_takeNumber_L26, if_neg (show ¬ (4 : Int32) ≤ nI k from nI_ge (b := 4) (by omega) (by omega)), den_X7_takesNumber_L31]
      by_cases c0 : v = 0
      · subst c0
        rw [if_pos (show nI 0 ≤ (0 : Int32) by decide)]
        rcases dig P hl (a := a) (by omega) with ⟨q, hq, -, e1, -, -⟩ | ⟨e1, -⟩
        · rw [e1, bnd_s, if_neg (nI_pos (by omega)), if_pos (show nI 0 = (0 : Int32) from rfl)]
          exact ⟨0, a, rfl, rfl, by omega, Nat.le_refl _, ha⟩
        · rw [e1, bnd_s, if_pos (show (-6 : Int32) < 0 by decide)]
          exact ⟨0, a, rfl, rfl, by omega, Nat.le_refl _, ha⟩
      · rw [if_neg (show ¬ nI v ≤ (0 : Int32) from nI_nle (by omega) (by omega)), if_neg (show ¬ (1000 : Int32) ≤ nI v from nI_ge (b := 1000) (by omega) (by omega))]
        rcases dig P hl (a := a) (by omega) with ⟨q, hq, hal, e1, e2, e3⟩ | ⟨e1, e2⟩
        · rw [e1, e2, e3, bnd_s, bnd_s, if_neg (nI_pos (by omega)), if_neg (show ¬ nI v = (0 : Int32) by rw [nI_0iff (by omega)]; exact c0), if_neg (show ¬ (1 : Int32) = 0 by decide), bnd_s, nm_d, li10, pk_mul, pk_mul, nI_add, nI_add, show (48 : Int32) = nI 48 from rfl, nIs (by omega), li1, nI_add, nI_add, show 10 * v + (48 + q) - 48 = v * 10 + q by omega]
          obtain ⟨v', a', r1, r2, r3, r4, r5⟩ := ih fu (k + 1) (v * 10 + q) (a + 1) (by omega) (by omega) (by omega) (by omega) (by
            rcases hv with h | h
            · omega
            · rcases hk3 with e | e | e <;> subst e <;> right <;> omega)
          exact ⟨v', a', r1, r2, r3, by omega, r5⟩
        · rw [e1, e2, bnd_s, bnd_s, if_pos (show (-6 : Int32) < 0 by decide), if_pos rfl]
          exact ⟨v, a, rfl, rfl, by omega, Nat.le_refl _, ha⟩
/-- a number taken, or none -/
theorem num {pc mp : Nat → Int32} {len : Nat} (P : PDc pc mp len) (hl : len ≤ 80) {a : Nat} (ha : a ≤ len) (nu : Nat → Int32) {k : Nat} (hk : k < 44) :
    (∃ v a', v ≤ 9999 ∧ a < a' ∧ a' ≤ len ∧ den_X2_takeNumber pc (nI len) (nI a) = some (nI v, nI a') ∧ den_X7_takesNumber mp (nI len) (nI a) nu (nI k) = some (1, nI a', upd nu k (nI v), nI (k + 1))) ∨
    (den_X2_takeNumber pc (nI len) (nI a) = some (-6, nI a) ∧ den_X7_takesNumber mp (nI len) (nI a) nu (nI k) = some (0, nI a, nu, nI k)) := by
  unfold den_X2_takeNumber den_X7_takesNumber
  rcases dig P hl (a := a) (by omega) with ⟨q, hq, hal, e1, e2, e3⟩ | ⟨e1, e2⟩
  · obtain ⟨v', a', r1, r2, r3, r4, r5⟩ := num_L P hl 3 FU 1 q (a + 1) (by omega) (by rw [FU_eq]; omega) (by omega) (by omega) (by
      by_cases c : q = 0
      · exact Or.inl ⟨c, rfl⟩
      · right; omega)
    left
    refine ⟨v', a', r3, by omega, r5, ?_, ?_⟩
    · rw [e1, bnd_s, if_pos (show (0 : Int32) ≤ nI q from nI_le (a := 0) (by omega) (by omega)), li1, nI_add, r1]
    · rw [e2, bnd_s, if_neg (show ¬ (1 : Int32) = 0 by decide), e3, bnd_s, show (48 : Int32) = nI 48 from rfl, nIs (by omega), Nat.add_sub_cancel_left, show (1 : Int32) = nI 1 from rfl, nI_add, r2, bnd_s, gdI hk (by omega), nI_clamp (by omega), nI_add]
  · right
    rw [e1, e2, bnd_s, bnd_s, if_neg (show ¬ (0 : Int32) ≤ -6 by decide), if_pos rfl]
    exact ⟨rfl, rfl⟩
