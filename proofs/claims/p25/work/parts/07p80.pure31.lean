theorem blk_m {pc mp : Nat → Int32} {len : Nat} (P : PDc pc mp len) (hl : len ≤ 80) {a1 : Nat} (ha : a1 ≤ len) (hu0 : Int32) {nu nu1 : Nat → Int32} {at0 : Int32} (e2 : den_X7_takesNumber mp (nI len) at0 nu (0 : Int32) = some (1, nI a1, nu1, nI 1)) {hu : Int32} {a' off : Nat} {nu' : Nat → Int32}
    (h : (if nx mp len a1 94 = true then bnd (den_X7_takesNumber mp (nI len) (nI (a1 + 1)) nu1 (nI 1)) (fun q14 => some (q14.1, (1 : Int32), q14.2.1, q14.2.2.1, q14.2.2.2)) else some (1, 0, nI a1, nu1, nI 1)) = some (1, hu, nI a', nu', nI off)) :
    den_X7_takesBlock mp (nI len) at0 hu0 nu (0 : Int32) = bnd (den_X7_isNext mp (nI len) (nI a') (58 : Int32)) (fun q9 => if q9.1 = (0 : Int32) then some ((0 : Int32), q9.2, hu, nu', nI off) else bnd (den_X7_takesBytes mp (nI len) q9.2 nu' (nI off)) (fun q11 => if q11.1 = (0 : Int32) then some ((0 : Int32), q11.2.1, hu, q11.2.2.1, q11.2.2.2) else some ((1 : Int32), q11.2.1, hu, q11.2.2.1, q11.2.2.2))) := by
  unfold den_X7_takesBlock
  rw [e2, bnd_s, if_neg (show ¬ (1 : Int32) = 0 by decide), show (94 : Int32) = nI 94 from rfl, m_next P hl (by omega) (by omega), bnd_s]
  by_cases c : nx mp len a1 94 = true
  · rw [if_pos c] at h ⊢
    rw [if_neg (show ¬ (1 : Int32) = 0 by decide), bnd_s, gd_t (show isZ 1 = true by decide), if_neg (show ¬ (1 : Int32) = 0 by decide), nm_d, if_neg (show ¬ (1 : Int32) = 0 by decide)]
    cases hq : den_X7_takesNumber mp (nI len) (nI (a1 + 1)) nu1 (nI 1) with
    | none => rw [hq] at h; cases h
    | some q =>
      rw [hq, bnd_s] at h
      have h := Option.some.inj h
      obtain ⟨q1, q2, q3, q4⟩ := q
      injection h with h1 h
      injection h with h2 h
      injection h with h3 h
      injection h with h4 h5
      have h1 : q1 = 1 := h1
      have h3 : q2 = nI a' := h3
      have h4 : q3 = nu' := h4
      have h5 : q4 = nI off := h5
      subst h1; subst h3; subst h4; subst h5; subst h2
      rw [bnd_s, if_neg (show ¬ (1 : Int32) = 0 by decide)]
  · rw [if_neg c] at h ⊢
    have h := Option.some.inj h
    injection h with h1 h
    injection h with h2 h
    injection h with h3 h
    injection h with h4 h5
    rw [if_pos rfl, bnd_s, gd_t (show isZ 0 = true by decide), if_neg (show ¬ (1 : Int32) = 0 by decide), nm_d, if_pos rfl, h3, h4, h5, h2]
