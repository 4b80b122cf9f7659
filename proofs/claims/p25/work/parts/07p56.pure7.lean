/-! one call by one: the same answer, the relation kept -/
def RHx (ho hz : Int32) (hs : Nat → TV) (mh : Nat → Int32) (mr : Int32) : Prop := ∃ o z : Nat, ho = nI o ∧ hz = nI z ∧ mr = nI z ∧ RH o z hs mh
theorem rec_x {se na un ma fi vo ba wr st : Nat → Int32} {bl : Int32} {ho hz mr : Int32} {hs : Nat → TV} {mh : Nat → Int32} (r : RT se bl na un ma fi vo ba wr st) (H : RHx ho hz hs mh mr) : ∃ a b c h' m', den_X1_keep ho hz se bl na un ma fi vo ba wr hs = some (a, b, c) ∧ den_X7_record st mh mr = some (h', m') ∧ RHx a b c h' m' := by
  obtain ⟨o, z, e1, e2, e3, hR⟩ := H
  obtain ⟨o', z', ss', h', a1, a2, a3⟩ := rh_record r hR
  subst e1; subst e2; subst e3
  exact ⟨_, _, _, _, _, a1, a2, o', z', rfl, rfl, rfl, a3⟩
def mxS (k : Nat) : Nat := if k = 2 then 20 else 99
theorem mxS_le (k : Nat) : mxS k ≤ 99 := by unfold mxS; split <;> omega
theorem m_isValue {k : Nat} (hk : k < 3) (p : Int32) : den_X7_isValue (nI k) p = some (if p < 0 then 0 else if nI (mxS k) < p then 0 else 1) := by
  unfold den_X7_isValue
  rw [m_within, m_within, bnd_s, bnd_s, nm_d]
  have hJ : gd (isZ (if p < 0 then (0 : Int32) else if (99 : Int32) < p then 0 else 1)) (some (if p < 0 then (0 : Int32) else if (99 : Int32) < p then 0 else 1)) = some (if p < 0 then (0 : Int32) else if (99 : Int32) < p then 0 else 1) := by
    refine gd_t ?_
    split
    · rfl
    · split <;> rfl
  have hk3 : k = 0 ∨ k = 1 ∨ k = 2 := by omega
  rcases hk3 with e | e | e <;> subst e
  · rw [if_pos (show nI 0 = (0 : Int32) from rfl)]; exact hJ
  · rw [if_neg (show ¬ nI 1 = (0 : Int32) by decide), if_pos (show nI 1 = (1 : Int32) from rfl)]; exact hJ
  · rw [if_neg (show ¬ nI 2 = (0 : Int32) by decide), if_neg (show ¬ nI 2 = (1 : Int32) by decide), if_pos (show nI 2 = (2 : Int32) from rfl), show mxS 2 = 20 from rfl, show (20 : Int32) = nI 20 from rfl]
    by_cases c : p < 0
    · rw [if_pos c, if_pos rfl]
    · rw [if_neg c]
      by_cases c2 : nI 20 < p
      · rw [if_pos c2, if_pos rfl]
      · rw [if_neg c2, if_neg (show ¬ (1 : Int32) = 0 by decide)]
theorem c_mostOf {k : Nat} (hk : k < 3) : den_X6_mostOf (nI k) = some (nI (mxS k)) := by
  unfold den_X6_mostOf
  have hk3 : k = 0 ∨ k = 1 ∨ k = 2 := by omega
  rcases hk3 with e | e | e <;> subst e <;> rfl
theorem m_isValue_0 {p1 : Int32} (h0 : p1 ≠ 0) (h1 : p1 ≠ 1) (h2 : p1 ≠ 2) (p : Int32) : den_X7_isValue p1 p = some 0 := by
  unfold den_X7_isValue
  rw [nm_d, if_neg h0, if_neg h1, if_neg h2]
theorem RT.se3 {se na un ma fi vo ba wr st : Nat → Int32} {bl : Int32} (r : RT se bl na un ma fi vo ba wr st) {k : Nat} (hk : k < 3) : se k = st k := by
  have hk3 : k = 0 ∨ k = 1 ∨ k = 2 := by omega
  rcases hk3 with e | e | e <;> subst e
  · exact r.2.1.1
  · exact r.2.1.2.1
  · exact r.2.1.2.2
theorem k_set {se na un ma fi vo ba wr st : Nat → Int32} {bl : Int32} {ho hz mr : Int32} {hs : Nat → TV} {mh : Nat → Int32} (r : RT se bl na un ma fi vo ba wr st) (H : RHx ho hz hs mh mr) (p1 p2 : Int32) :
    ∃ v se' a b c st' h' m', den_X6_set se bl na un ma fi vo ba wr ho hz hs p1 p2 = some (v, se', a, b, c) ∧ den_X7_set st mh mr p1 p2 = some (v, st', h', m') ∧ RT se' bl na un ma fi vo ba wr st' ∧ RHx a b c h' m' := by
  unfold den_X6_set den_X7_set
  have bad : ∀ {x : Option (Int32 × (Nat → Int32) × Int32 × Int32 × (Nat → TV))}, x = some ((-2), se, ho, hz, hs) → den_X7_isValue p1 p2 = some 0 → ∃ v se' a b c st' h' m', x = some (v, se', a, b, c) ∧ bnd (den_X7_isValue p1 p2) (fun q1 => if q1 = (0 : Int32) then some ((-2 : Int32), st, mh, mr) else bnd (den_X7_record st mh mr) (fun q3 => gd (inb p1 2628) (gd (inb p1 2628) (some (st p1.toNatClampNeg, upd st p1.toNatClampNeg p2, q3.1, q3.2))))) = some (v, st', h', m') ∧ RT se' bl na un ma fi vo ba wr st' ∧ RHx a b c h' m' := by
    intro x e1 e2
    rw [e2, bnd_s, if_pos rfl]
    exact ⟨_, _, _, _, _, _, _, _, e1, rfl, r, H⟩
  by_cases c1 : p1 < 0
  · refine bad (by rw [if_pos c1]) (m_isValue_0 ?_ ?_ ?_ p2) <;> (intro e; subst e; revert c1; decide)
  · obtain ⟨k, hk, e⟩ := nI_of c1
    subst e
    by_cases c2 : k < 3
    · rw [if_neg c1, if_neg (by rw [li3]; exact nI_ge c2 (by omega))]
      by_cases c3 : p2 < 0
      · refine bad (by rw [if_pos c3]) (by rw [m_isValue c2, if_pos c3])
      · rw [if_neg c3, c_mostOf c2, bnd_s]
        by_cases c4 : p2 ≤ nI (mxS k)
        · obtain ⟨v, hv, e⟩ := nI_of c3
          subst e
          have hm := mxS_le k
          have hv2 : v ≤ mxS k := by
            rw [le_iff, nI_toInt hv, nI_toInt (by omega)] at c4; omega
          obtain ⟨a, b, c, h', m', x1, x2, x3⟩ := rec_x r H
          rw [if_pos c4, x1, bnd_s, m_isValue c2, bnd_s, if_neg c3, if_neg (show ¬ nI (mxS k) < nI v by rw [lt_iff, nI_toInt hv, nI_toInt (by omega)]; omega), if_neg (show ¬ (1 : Int32) = 0 by decide), x2, bnd_s, gdI c2 (by omega), gdI c2 (by omega), gdI (by omega) (by omega), gdI (by omega) (by omega), nI_clamp hk]
          exact ⟨_, _, _, _, _, _, _, _, rfl, by rw [r.se3 c2], RT_set r c2 (by unfold mxS at hv2; exact hv2), x3⟩
        · refine bad (by rw [if_neg c4]) (by rw [m_isValue c2, if_neg c3, if_pos]; rw [le_iff] at c4; rw [lt_iff]; omega)
    · refine bad (by rw [if_neg c1, if_pos]; rw [li3, le_iff, nI_toInt (by omega), nI_toInt hk]; omega) (m_isValue_0 ?_ ?_ ?_ p2) <;> (intro e; have e2 := congrArg Int32.toNatClampNeg e; rw [nI_clamp hk] at e2; revert e2; first | (show ¬ k = 0; omega) | (show ¬ k = 1; omega) | (show ¬ k = 2; omega))
theorem nIs {a b : Nat} (h : b ≤ a) : nI a - nI b = nI (a - b) := by
  obtain ⟨d, e⟩ : ∃ d, a = d + b := ⟨a - b, by omega⟩
  subst e
  rw [← nI_add, Int32.add_sub_cancel, Nat.add_sub_cancel]
theorem nI_0iff {n : Nat} (hn : n < 2 ^ 31) : nI n = (0 : Int32) ↔ n = 0 := by
  constructor
  · intro h
    have := congrArg Int32.toNatClampNeg h
    rw [nI_clamp hn] at this
    exact this
  · intro h; subst h; rfl
theorem k_wipeLast {se na un ma fi vo ba wr st : Nat → Int32} {bl : Int32} {ho hz mr : Int32} {hs : Nat → TV} {mh : Nat → Int32} (r : RT se bl na un ma fi vo ba wr st) (H : RHx ho hz hs mh mr) :
    ∃ v bl' a b c st' h' m', den_X6_wipeLast se bl na un ma fi vo ba wr ho hz hs = some (v, bl', a, b, c) ∧ den_X7_wipeLast st mh mr = some (v, st', h', m') ∧ RT se bl' na un ma fi vo ba wr st' ∧ RHx a b c h' m' := by
  have hb := r.2.2.1
  have w := r.1
  have h16 := w.n16
  unfold den_X6_wipeLast den_X7_wipeLast
  have e3 : st 3 = nI (nB st) := w.n
  have hbl : bl = nI (nB st) := by rw [hb]; exact e3
  by_cases c : nB st = 0
  · rw [if_neg, if_pos]
    · exact ⟨_, _, _, _, _, _, _, _, rfl, rfl, r, H⟩
    · rw [e3, c]; rfl
    · rw [hbl, c]; decide
  · obtain ⟨a, b, c', h', m', x1, x2, x3⟩ := rec_x r H
    rw [if_pos (show (0 : Int32) < bl by rw [hbl]; exact nI_lt (a := 0) (by omega) (by omega)), x1, bnd_s, if_neg (by rw [e3, nI_0iff (by omega)]; exact c), x2, bnd_s]
    have e : bl - 1 = nI (nB st - 1) := by rw [hbl, li1, nIs (by omega)]
    have e4 : st 3 - 1 = nI (nB st - 1) := by rw [← e, hb]
    rw [e4, e]
    exact ⟨_, _, _, _, _, _, _, _, rfl, by rw [pk_us], RT_wipe r (by omega), x3⟩
