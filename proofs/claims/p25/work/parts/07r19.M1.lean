/-! p25: the law's first loop: what every block answers -/
theorem of_L {T : TV} {bl st : Nat → Int32} {me : Nat → Int64} (r : RTv T st) (L : LB bl me st) {b : Nat} (hb : b < nB st) (B : Nat → Int32) : ∀ (d fu k : Nat) (R : RV), k + d = 4 → d < fu → ∃ R' : RV, den_L_same_L82 bl T (nI b) fu (nI k) R B = some (R', B) := by
  have w := r.1
  have h5 := L.1
  intro d
  induction d with
  | zero =>
    intro fu k R hk hf
    cases fu with
    | zero => omega
    | succ fu =>
      have : k = 4 := by omega
      subst this
      exact ⟨R, by rw [den_L_same_L82, if_pos (show (4 : Int32) ≤ nI 4 by decide)]⟩
  | succ d ih =>
    intro fu k R hk hf
    cases fu with
    | zero => omega
    | succ fu =>
      obtain ⟨-, l0, l1, l2, l3, -⟩ := L.2.1 b hb
      have h0 : ∃ R' : RV, wd_of T R B (nI b) (nI k) = some (bl (8 * b + k), R', B) := by
        obtain ⟨v, R', fd', e1, e2⟩ := a_of r R B (nI b) (nI k) (fun _ => 0)
        refine ⟨R', ?_⟩
        rw [e1]
        have hk4 : k = 0 ∨ k = 1 ∨ k = 2 ∨ k = 3 := by omega
        rcases hk4 with e | e | e | e <;> subst e
        · rw [show nI 0 = (0 : Int32) from rfl, m_of0 w hb] at e2
          cases e2
          rw [show bl (8 * b + 0) = st (4 + 10 * b + 0) from l0]
        · rw [show nI 1 = (1 : Int32) from rfl, m_of1 w hb] at e2
          cases e2
          rw [l1]
        · rw [show nI 2 = (2 : Int32) from rfl, m_of2 w hb] at e2
          cases e2
          rw [l2]
        · rw [show nI 3 = (3 : Int32) from rfl, m_of3 w hb] at e2
          cases e2
          rw [l3]
      obtain ⟨R1, e1⟩ := h0
      obtain ⟨R2, e2⟩ := ih fu (k + 1) R1 (by omega) (by omega)
      refine ⟨R2, ?_⟩
      rw [den_L_same_L82, if_neg (show ¬ (4 : Int32) ≤ nI k from nI_ge (b := 4) (by omega) (by omega)), e1, bnd_s, show (8 : Int32) * nI b = nI (8 * b) by rw [li8, pk_mul], nI_add, gdI (by omega) (by omega), nI_clamp (by omega), if_pos rfl, li1, nI_add]
      exact e2
theorem m_readN {st : Nat → Int32} (w : WF st) {b t k : Nat} (hb : b < nB st) (ht : t < 2) (hk : k ≤ mB st b) : den_X7_read st (nI b) (nI t) (nI k) = some (if lost (lB st) st b t = true then -6 else rV (lB st) st b t k) := by
  have h16 := w.n16
  have h7 := w.m7 hb
  unfold den_X7_read
  rw [m_isB w, bnd_s, if_pos (isB_t hb (by omega)), if_neg (show ¬ (1 : Int32) = 0 by decide), m_part2 st (by omega), bnd_s, m_within, bnd_s, w.m hb, if_neg (nI_pos (by omega)), if_neg (nI_nlt hk (by omega)), if_neg (show ¬ (1 : Int32) = 0 by decide), m_within, bnd_s, if_neg (nI_pos (by omega)), if_neg (show ¬ (1 : Int32) < nI t from nI_nlt (b := t) (a := 1) (by omega) (by omega)), if_neg (show ¬ (1 : Int32) = 0 by decide), m_lost w hb ht, bnd_s, m_read w hb ht hk, bnd_s]
  by_cases d : lost (lB st) st b t = true
  · rw [if_pos d, if_pos d, if_neg (show ¬ (1 : Int32) = 0 by decide)]
  · rw [if_neg d, if_neg d, if_pos rfl]
theorem read_L {T : TV} {q bl st : Nat → Int32} {me : Nat → Int64} (r : RTv T st) (L : LB bl me st) (h1 : q 1 = st 1) {b t : Nat} (hb : b < nB st) (ht : t < 2) (B : Nat → Int32) : ∀ (d fu k : Nat) (R : RV), k + d = mB st b + 1 → d < fu → ∃ R' : RV, den_L_same_L284 q bl me T (nI b) (nI t) fu (nI k) R B = some (R', B) := by
  have w := r.1
  have h5 := L.1
  have hl := w.l
  obtain ⟨h3, -, -, l2, -, -⟩ := L.2.1 b hb
  intro d
  induction d with
  | zero =>
    intro fu k R hk hf
    cases fu with
    | zero => omega
    | succ fu =>
      exact ⟨R, by rw [den_L_same_L284, show (8 : Int32) * nI b = nI (8 * b) by rw [li8, pk_mul], li2, nI_add, gdI (by omega) (by omega), nI_clamp (by omega), l2, if_pos (nI_lt (by omega) (by omega))]⟩
  | succ d ih =>
    intro fu k R hk hf
    cases fu with
    | zero => omega
    | succ fu =>
      obtain ⟨v, R1, e1, e2⟩ := a_read r R B (nI b) (nI t) (nI k)
      rw [m_readN w hb ht (by omega)] at e2
      cases e2
      obtain ⟨R2, e3⟩ := ih fu (k + 1) R1 (by omega) (by omega)
      refine ⟨R2, ?_⟩
      have ev : (if (if lost (lB st) st b t = true then (1 : Int32) else 0) = 0 then bnd (den_L_byteOf 48 64 bl me (nI b) (nI t) (nI k) (q 1)) (fun q170 => some q170) else some (-6 : Int32)) = some (if lost (lB st) st b t = true then -6 else rV (lB st) st b t k) := by
        by_cases c : lost (lB st) st b t = true
        · rw [if_pos c, if_pos c, if_neg (show ¬ (1 : Int32) = 0 by decide)]
        · rw [if_neg c, if_neg c, if_pos rfl, h1, hl.1, l_byte w L hb ht (by omega) hl.2, bnd_s]
      have el : den_L_lost 48 64 bl me (nI b) (nI t) (q 1) = some (if lost (lB st) st b t = true then 1 else 0) := by rw [h1, hl.1, l_lost w L hb ht hl.2]
      rw [den_L_same_L284, show (8 : Int32) * nI b = nI (8 * b) by rw [li8, pk_mul], li2, nI_add, gdI (by omega) (by omega), nI_clamp (by omega), l2, if_neg (nI_nlt (by omega) (by omega)), e1, bnd_s, el, bnd_s, ev, bnd_s, if_pos rfl, li1, nI_add]
      exact e3
theorem reads_L {T : TV} {q bl st : Nat → Int32} {me : Nat → Int64} (r : RTv T st) (L : LB bl me st) (h1 : q 1 = st 1) {b : Nat} (hb : b < nB st) (R : RV) (B : Nat → Int32) : ∃ R' : RV, den_L_same_L275 q bl me T (nI b) FU (0 : Int32) R B = some (R', B) := by
  have h3 := (L.2.1 b hb).1
  have h : ∀ (d fu t : Nat) (R : RV), t + d = 2 → d < fu → ∃ R' : RV, den_L_same_L275 q bl me T (nI b) fu (nI t) R B = some (R', B) := by
    intro d
    induction d with
    | zero =>
      intro fu t R ht hf
      cases fu with
      | zero => omega
      | succ fu =>
        have : t = 2 := by omega
        subst this
        exact ⟨R, by rw [den_L_same_L275, if_pos (show (2 : Int32) ≤ nI 2 by decide)]⟩
    | succ d ih =>
      intro fu t R ht hf
      cases fu with
      | zero => omega
      | succ fu =>
        obtain ⟨R1, e1⟩ := read_L r L h1 hb (t := t) (by omega) B (mB st b + 1) FU 0 R (by omega) (by rw [FU_eq]; omega)
        obtain ⟨R2, e2⟩ := ih fu (t + 1) R1 (by omega) (by omega)
        rw [show nI 0 = (0 : Int32) from rfl] at e1
        refine ⟨R2, ?_⟩
        rw [den_L_same_L275, if_neg (show ¬ (2 : Int32) ≤ nI t from nI_ge (b := 2) (by omega) (by omega)), e1, bnd_s, li1, nI_add]
        exact e2
  exact h 2 FU 0 R (by omega) (by rw [FU_eq]; omega)
theorem a_ofN {T : TV} {st : Nat → Int32} (r : RTv T st) (R : RV) (B : Nat → Int32) {p1 p2 v : Int32} (h : ∃ fd', den_X7_of st (fun _ => 0) p1 p2 = some (v, fd')) : ∃ R' : RV, wd_of T R B p1 p2 = some (v, R', B) := by
  obtain ⟨v', R', fd', e1, e2⟩ := a_of r R B p1 p2 (fun _ => 0)
  obtain ⟨fd2, e3⟩ := h
  rw [e3] at e2
  cases e2
  exact ⟨R', e1⟩
