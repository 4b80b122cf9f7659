/-! p25: the counter, how far a block is, the order by distance -/
theorem l_counter {q st : Nat → Int32} (h2 : q 2 = st 2) (x : Int32) : den_L_counter 5 q x = some (ctN st x) := by
  unfold den_L_counter
  rw [gd_t (show inb (2 : Int32) 5 = true by decide), h2]
  rfl
theorem ctN_n {st : Nat → Int32} (w : WF st) {c : Nat} (hc : c ≤ 2464) : ∃ C, C < 1000 ∧ ctN st (nI c) = nI C := by
  obtain ⟨a, ha, e⟩ := w.2.2.2.2.2.2.2
  have h1 : c * a ≤ c * 20 := Nat.mul_le_mul_left c ha
  have h2 : c * a / 100 ≤ c := by omega
  refine ⟨(c - c * a / 100) % 1000, Nat.mod_lt _ (by omega), ?_⟩
  unfold ctN
  rw [e, pk_mul, li100, pk_div (by omega) (by omega) (by omega), nIs h2, li1000, pk_rem (by omega) (by omega) (by omega)]
theorem sub_1000 {C p : Nat} (h : C < p) (hp : p < 1000) : nI C - nI p + (1000 : Int32) = nI (1000 - (p - C)) := by
  rw [li1000, Int32.sub_eq_add_neg, Int32.add_assoc, Int32.add_comm (-nI p), ← Int32.add_assoc, ← Int32.sub_eq_add_neg, nI_add, nIs (by omega)]
  congr 1
  omega
theorem l_far {q bl st : Nat → Int32} {me : Nat → Int64} (w : WF st) (L : LB bl me st) (h2 : q 2 = st 2) {b p : Nat} (hb : b < nB st) (hp : p < 1000) : den_L_far 5 48 q bl (nI b) (nI p) = some (dsI st (nI p) b) := by
  have h5 := L.1
  have hF := FF_2464 w (b := b) (by omega)
  obtain ⟨C, hC, eC⟩ := ctN_n w (c := FF st b) hF
  unfold den_L_far
  rw [show (8 : Int32) * nI b = nI (8 * b) by rw [li8, pk_mul], li3, nI_add, gdI (by omega) (by omega), nI_clamp (by omega), (L.2.1 b hb).2.2.2.2.1, l_counter h2, bnd_s, eC]
  unfold dsI
  rw [eC]
  by_cases c : C < p
  · have hs : szI (nI C - nI p) = nI (p - C) := by
      unfold szI
      rw [if_pos (pk_sneg (by omega) c), Int32.zero_sub, Int32.neg_sub, nIs (by omega)]
    rw [sub_1000 c hp, hs, li1000, pk_rem (by omega) (by omega) (by omega), nm_d, Nat.mod_eq_of_lt (by omega), nIs (by omega), nIs (by omega)]
    by_cases d : p - C ≤ 1000 - (p - C)
    · rw [show 1000 - (1000 - (p - C)) = p - C by omega, if_pos (nI_le d (by omega)), if_neg (nI_nlt d (by omega))]
    · rw [show 1000 - (1000 - (p - C)) = p - C by omega, if_neg (nI_ge (by omega) (by omega)), if_pos (nI_lt (by omega) (by omega))]
  · have hs : szI (nI C - nI p) = nI (C - p) := by
      unfold szI
      rw [nIs (by omega), if_neg (nI_pos (by omega))]
    rw [hs, li1000, nIs (by omega), nI_add, pk_rem (by omega) (by omega) (by omega), nm_d, show (C - p + 1000) % 1000 = C - p by omega, nIs (by omega)]
    by_cases d : 1000 - (C - p) ≤ C - p
    · rw [if_pos (nI_le d (by omega))]
      by_cases d2 : 1000 - (C - p) < C - p
      · rw [if_pos (nI_lt d2 (by omega))]
      · rw [if_neg (nI_nlt (by omega) (by omega)), show 1000 - (C - p) = C - p by omega]
    · rw [if_neg (nI_ge (by omega) (by omega)), if_neg (nI_nlt (by omega) (by omega))]
/-- the blocks behind k that aren't done: the nearest of them, the first of the nearest -/
def isNx (st : Nat → Int32) (p : Int32) (D : Nat → Bool) (k i : Nat) : Prop := k ≤ i ∧ i < nB st ∧ D i = false ∧ ∀ j, k ≤ j → j < nB st → D j = false → j ≠ i → nrB st p j i = true
theorem nr_tot {st : Nat → Int32} {p : Int32} {i j : Nat} (h : i ≠ j) : nrB st p i j = true ∨ nrB st p j i = true := by
  rw [nrB_iff, nrB_iff]; omega
theorem l_next_L {q bl st : Nat → Int32} {me : Nat → Int64} (w : WF st) (L : LB bl me st) (h2 : q 2 = st 2) {p : Nat} (hp : p < 1000) (D : Nat → Bool) : ∀ (k fu : Nat) (y : Int32), k ≤ nB st → k < fu →
    ((y = -1 ∧ ∀ j, k ≤ j → j < nB st → D j = true) ∨ ∃ i, y = nI i ∧ isNx st (nI p) D k i) →
    ∃ y', den_L_same_L780 q bl (nI p) (nI (setN D (nB st))) fu y (nI k - 1) = some y' ∧ ((y' = -1 ∧ ∀ j, j < nB st → D j = true) ∨ ∃ i, y' = nI i ∧ isNx st (nI p) D 0 i) := by
  have h5 := L.1
  have hS : setN D (nB st) < 2 ^ 31 := Nat.lt_of_lt_of_le (setN_lt D (nB st)) (Nat.pow_le_pow_right (by omega) (by omega))
  intro k
  induction k with
  | zero =>
    intro fu y hk hf hy
    cases fu with
    | zero => omega
    | succ fu =>
      rw [den_L_same_L780, if_pos (show nI 0 - 1 < 0 by decide)]
      refine ⟨y, rfl, ?_⟩
      rcases hy with ⟨e, h⟩ | ⟨i, e, h⟩
      · exact Or.inl ⟨e, fun j hj => h j (by omega) hj⟩
      · exact Or.inr ⟨i, e, h⟩
  | succ k ih =>
    intro fu y hk hf hy
    cases fu with
    | zero => omega
    | succ fu =>
      have hb := setN_bit (g := D) (n := nB st) (k := k) (by omega)
      have e1 : (nI (setN D (nB st)) >>> (nI k &&& 31)) &&& (1 : Int32) = nI (setN D (nB st) / 2 ^ k % 2) := by rw [shrJ hS (by omega), li1, and1]
      rw [den_L_same_L780, nI_pred, if_neg (nI_pos (by omega)), e1, show nI k + (-1 : Int32) = nI k - 1 from (Int32.sub_eq_add_neg _ _).symm]
      cases hD : D k with
      | true =>
        rw [if_neg (show ¬ nI (setN D (nB st) / 2 ^ k % 2) = (0 : Int32) by rw [hb.mpr hD]; decide)]
        refine ih fu y (by omega) (by omega) ?_
        rcases hy with ⟨e, h⟩ | ⟨i, e, h1, h2', h3, h4⟩
        · refine Or.inl ⟨e, fun j hj hn => ?_⟩
          by_cases c : j = k
          · subst c; exact hD
          · exact h j (by omega) hn
        · refine Or.inr ⟨i, e, by omega, h2', h3, fun j hj hn hd hne => ?_⟩
          by_cases c : j = k
          · subst c; rw [hD] at hd; cases hd
          · exact h4 j (by omega) hn hd hne
      | false =>
        have h0 : setN D (nB st) / 2 ^ k % 2 = 0 := by
          have : ¬ setN D (nB st) / 2 ^ k % 2 = 1 := fun z => by rw [hb.mp z] at hD; cases hD
          omega
        rw [h0, if_pos (show nI 0 = (0 : Int32) from rfl), nm_d]
        rcases hy with ⟨e, h⟩ | ⟨i, e, h1, h2', h3, h4⟩
        · rw [e, if_pos (show (-1 : Int32) < 0 by decide)]
          refine ih fu (nI k) (by omega) (by omega) (Or.inr ⟨k, rfl, Nat.le_refl _, by omega, hD, fun j hj hn hd hne => ?_⟩)
          rw [h j (by omega) hn] at hd
          cases hd
        · rw [e, if_neg (nI_pos (by omega)), l_far w L h2 (b := k) (by omega) hp, bnd_s, l_far w L h2 (b := i) h2' hp, bnd_s]
          by_cases c : dsI st (nI p) i < dsI st (nI p) k
          · rw [if_pos c]
            refine ih fu (nI i) (by omega) (by omega) (Or.inr ⟨i, rfl, by omega, h2', h3, fun j hj hn hd hne => ?_⟩)
            by_cases cj : j = k
            · subst cj
              rw [nrB_iff]
              rw [lt_iff] at c
              exact Or.inl c
            · exact h4 j (by omega) hn hd hne
          · rw [if_neg c]
            have hki : nrB st (nI p) i k = true := by
              rw [nrB_iff]
              rw [lt_iff] at c
              omega
            refine ih fu (nI k) (by omega) (by omega) (Or.inr ⟨k, rfl, Nat.le_refl _, by omega, hD, fun j hj hn hd hne => ?_⟩)
            by_cases cj : j = i
            · subst cj; exact hki
            · have h6 := h4 j (by omega) hn hd cj
              rw [nrB_iff] at h6 hki ⊢
              omega
/-- done are just those of a rank below r -/
def Dn (st : Nat → Int32) (p : Int32) (r k : Nat) : Bool := decide (cntN (nrB st p k) (nB st) < r)
theorem rank_lt {st : Nat → Int32} {p : Int32} {i j : Nat} (hi : i < nB st) (h : nrB st p j i = true) : cntN (nrB st p i) (nB st) < cntN (nrB st p j) (nB st) := by
  refine cntN_strict (k := i) (nrB_self st p i) h hi (fun z _ hz => ?_)
  rw [nrB_iff] at *
  omega
theorem rank_sur (st : Nat → Int32) (p : Int32) (n r : Nat) (hr : r < n) : ∃ x, x < n ∧ cntN (nrB st p x) n = r := pigeon n (fun b => cntN (nrB st p b) n) (fun i hi => cntN_lt (nrB_self st p i) hi) (fun i j hi hj h => rank_inj st p n i j hi hj h) r hr
theorem nx_rank {st : Nat → Int32} {p : Int32} {r i : Nat} (hr : r < nB st) (h : isNx st p (Dn st p r) 0 i) : cntN (nrB st p i) (nB st) = r := by
  obtain ⟨-, h2, h3, h4⟩ := h
  have h5 : ¬ cntN (nrB st p i) (nB st) < r := of_decide_eq_false h3
  obtain ⟨x, hx, ex⟩ := rank_sur st p (nB st) r hr
  by_cases c : x = i
  · subst c; exact ex
  · have h6 : Dn st p r x = false := decide_eq_false (by omega)
    have h7 := h4 x (by omega) hx h6 c
    have h8 := rank_lt h2 h7
    omega
theorem Dn_s {st : Nat → Int32} {p : Int32} {r i : Nat} (hi : i < nB st) (h : cntN (nrB st p i) (nB st) = r) {k : Nat} (hk : k < nB st) : Dn st p (r + 1) k = (Dn st p r k || decide (k = i)) := by
  unfold Dn
  by_cases c : k = i
  · subst c
    rw [h, decide_eq_true (show r < r + 1 by omega), decide_eq_true rfl, Bool.or_true]
  · have h1 : cntN (nrB st p k) (nB st) ≠ r := fun e => c (rank_inj st p (nB st) k i hk hi (e.trans h.symm))
    rw [decide_eq_false c, Bool.or_false]
    by_cases d : cntN (nrB st p k) (nB st) < r
    · rw [decide_eq_true d, decide_eq_true (by omega)]
    · rw [decide_eq_false d, decide_eq_false (by omega)]
