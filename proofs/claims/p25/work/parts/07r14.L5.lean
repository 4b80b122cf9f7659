/-! p25: what the class answers, in words of the ghost state -/
theorem isB_t {n b : Nat} (h : b < n) (hn : n ≤ 2464) : isB n (nI b) = true := by
  unfold isB
  rw [nI_clamp (by omega), Bool.and_eq_true]
  exact ⟨decide_eq_true (nI_pos (by omega)), decide_eq_true h⟩
theorem a_of {T : TV} {st : Nat → Int32} (r : RTv T st) (R : RV) (B : Nat → Int32) (p1 p2 : Int32) (fd : Nat → Int32) : ∃ v R' fd', wd_of T R B p1 p2 = some (v, R', B) ∧ den_X7_of st fd p1 p2 = some (v, fd') := by
  obtain ⟨v, m0, l0, v0, w0, m1, l1, v1, w1, fd', e1, e2⟩ := k_of r R.1 R.2.1 R.2.2.1 R.2.2.2.1 R.2.2.2.2.1 R.2.2.2.2.2.1 R.2.2.2.2.2.2.1 R.2.2.2.2.2.2.2 fd p1 p2
  exact ⟨v, (m0, l0, v0, w0, m1, l1, v1, w1), fd', by unfold wd_of; rw [e1, bnd_s], e2⟩
theorem a_read {T : TV} {st : Nat → Int32} (r : RTv T st) (R : RV) (B : Nat → Int32) (p1 p2 p3 : Int32) : ∃ v R', wd_read T R B p1 p2 p3 = some (v, R', B) ∧ den_X7_read st p1 p2 p3 = some v := by
  obtain ⟨v, m0, l0, v0, w0, m1, l1, v1, w1, e1, e2⟩ := k_read r R.1 R.2.1 R.2.2.1 R.2.2.2.1 R.2.2.2.2.1 R.2.2.2.2.2.1 R.2.2.2.2.2.2.1 R.2.2.2.2.2.2.2 p1 p2 p3
  exact ⟨v, (m0, l0, v0, w0, m1, l1, v1, w1), by unfold wd_read; rw [e1, bnd_s], e2⟩
theorem a_cell {T : TV} {st : Nat → Int32} (r : RTv T st) (R : RV) (B : Nat → Int32) (p1 p2 : Int32) : ∃ v, wd_cell T R B p1 p2 = some (v, R, B) ∧ den_X7_cell st p1 p2 = some v := by
  obtain ⟨v, e1, e2⟩ := k_cell r p1 p2
  exact ⟨v, by unfold wd_cell; rw [e1, bnd_s], e2⟩
theorem a_near {T : TV} {st : Nat → Int32} (r : RTv T st) (R : RV) (B : Nat → Int32) (p1 p2 : Int32) : ∃ v, wd_near T R B p1 p2 = some (v, R, B) ∧ den_X7_near st p1 p2 = some v := by
  obtain ⟨v, e1, e2⟩ := k_near r p1 p2
  exact ⟨v, by unfold wd_near; rw [e1, bnd_s], e2⟩
theorem a_count {T : TV} {st : Nat → Int32} (r : RTv T st) (R : RV) (B : Nat → Int32) (P : PV) (Y : HV) (p1 : Int32) (fd : Nat → Int32) : ∃ v R' fd', wd_count T R B P Y p1 = some (v, R', B) ∧ den_X7_count st Y.2.1 P.2.1 fd p1 = some (v, fd') := by
  obtain ⟨v, m0, l0, v0, w0, m1, l1, v1, w1, fd', e1, e2⟩ := k_count r R.1 R.2.1 R.2.2.1 R.2.2.2.1 R.2.2.2.2.1 R.2.2.2.2.2.1 R.2.2.2.2.2.2.1 R.2.2.2.2.2.2.2 fd P.2.1 Y.2.1 p1
  exact ⟨v, (m0, l0, v0, w0, m1, l1, v1, w1), fd', by unfold wd_count; rw [e1, bnd_s], e2⟩
theorem a_weak {T : TV} {st : Nat → Int32} (r : RTv T st) (R : RV) (B : Nat → Int32) {b t : Nat} (hb : b < nB st) (ht : t < 2) : ∃ R', wd_weak T R B (nI b) (nI t) = some (if hw (lB st) st b t = 0 then nI (9 * mB st b + 9) else -5, R', B) := by
  have w := r.1
  have h16 := w.n16
  have ht4 : 4 ≤ tl st b := by unfold tl; omega
  obtain ⟨m0, l0, v0, w0, m1, l1, v1, w1, e⟩ := c_st r hb ht R.1 R.2.1 R.2.2.1 R.2.2.2.1 R.2.2.2.2.1 R.2.2.2.2.2.1 R.2.2.2.2.2.2.1 R.2.2.2.2.2.2.2
  refine ⟨(m0, l0, v0, w0, m1, l1, v1, w1), ?_⟩
  unfold wd_weak den_X6_weak
  have hnt : ¬ nI t < 0 := nI_pos (by omega)
  rw [r.blI, c_isB (by omega), bnd_s, if_pos (isB_t hb (by omega)), if_neg (show ¬ (1 : Int32) = 0 by decide), if_neg hnt, if_pos (show nI t < (2 : Int32) from nI_lt (b := 2) ht (by omega)), e, bnd_s]
  by_cases c5 : hw (lB st) st b t = 0
  · rw [if_pos (show nI (hw (lB st) st b t) = (0 : Int32) from hw_0.mpr c5), c_tl r hb, bnd_s, li4, nIs ht4, bnd_s, if_pos c5, show tl st b - 4 = 9 * mB st b + 9 by unfold tl; omega]
  · rw [if_neg (show ¬ nI (hw (lB st) st b t) = (0 : Int32) from fun q => c5 (hw_0.mp q)), bnd_s, if_neg c5]
theorem a_reached {T : TV} {st : Nat → Int32} (r : RTv T st) (R : RV) (B : Nat → Int32) : ∃ R', wd_reached T R B = some (nI (rS st (nB st)), R', B) := by
  obtain ⟨m0, l0, v0, w0, m1, l1, v1, w1, e⟩ := c_reached r R.1 R.2.1 R.2.2.1 R.2.2.2.1 R.2.2.2.2.1 R.2.2.2.2.2.1 R.2.2.2.2.2.2.1 R.2.2.2.2.2.2.2
  exact ⟨(m0, l0, v0, w0, m1, l1, v1, w1), by unfold wd_reached; rw [e, bnd_s]⟩
theorem m_of0 {st : Nat → Int32} (w : WF st) {b : Nat} (hb : b < nB st) (fd : Nat → Int32) : den_X7_of st fd (nI b) (0 : Int32) = some (st (4 + 10 * b + 0), fd) := by
  have h16 := w.n16
  unfold den_X7_of
  rw [m_isB w, bnd_s, if_pos (isB_t hb (by omega)), if_neg (show ¬ (1 : Int32) = 0 by decide), if_pos (show (0 : Int32) = 0 from rfl), show (0 : Int32) = nI 0 from rfl, m_part st (by omega) (by omega), bnd_s]
theorem m_of1 {st : Nat → Int32} (w : WF st) {b : Nat} (hb : b < nB st) (fd : Nat → Int32) : den_X7_of st fd (nI b) (1 : Int32) = some (st (4 + 10 * b + 1), fd) := by
  have h16 := w.n16
  unfold den_X7_of
  rw [m_isB w, bnd_s, if_pos (isB_t hb (by omega)), if_neg (show ¬ (1 : Int32) = 0 by decide), if_neg (show ¬ (1 : Int32) = 0 by decide), if_pos (show (1 : Int32) = 1 from rfl), m_part1 st (by omega), bnd_s]
theorem m_of2 {st : Nat → Int32} (w : WF st) {b : Nat} (hb : b < nB st) (fd : Nat → Int32) : den_X7_of st fd (nI b) (2 : Int32) = some (nI (mB st b), fd) := by
  have h16 := w.n16
  unfold den_X7_of
  rw [m_isB w, bnd_s, if_pos (isB_t hb (by omega)), if_neg (show ¬ (1 : Int32) = 0 by decide), if_neg (show ¬ (2 : Int32) = 0 by decide), if_neg (show ¬ (2 : Int32) = 1 by decide), if_pos (show (2 : Int32) = 2 from rfl), m_part2 st (by omega), bnd_s, w.m hb]
theorem m_of3 {st : Nat → Int32} (w : WF st) {b : Nat} (hb : b < nB st) (fd : Nat → Int32) : den_X7_of st fd (nI b) (3 : Int32) = some (nI (FF st b), fd) := by
  have h16 := w.n16
  unfold den_X7_of
  rw [m_isB w, bnd_s, if_pos (isB_t hb (by omega)), if_neg (show ¬ (1 : Int32) = 0 by decide), if_neg (show ¬ (3 : Int32) = 0 by decide), if_neg (show ¬ (3 : Int32) = 1 by decide), if_neg (show ¬ (3 : Int32) = 2 by decide), if_pos (show (3 : Int32) = 3 from rfl), m_first w (by omega), bnd_s]
theorem m_of4 {st : Nat → Int32} (w : WF st) {b : Nat} (hb : b < nB st) (fd : Nat → Int32) : den_X7_of st fd (nI b) (4 : Int32) = some (nI (2 * tl st b + 2), fd) := by
  have h16 := w.n16
  unfold den_X7_of
  rw [m_isB w, bnd_s, if_pos (isB_t hb (by omega)), if_neg (show ¬ (1 : Int32) = 0 by decide), if_neg (show ¬ (4 : Int32) = 0 by decide), if_neg (show ¬ (4 : Int32) = 1 by decide), if_neg (show ¬ (4 : Int32) = 2 by decide), if_neg (show ¬ (4 : Int32) = 3 by decide), if_pos (show (4 : Int32) = 4 from rfl), m_cells w hb, bnd_s]
theorem m_of5 {st : Nat → Int32} (w : WF st) {b : Nat} (hb : b < nB st) (fd : Nat → Int32) : den_X7_of st fd (nI b) (5 : Int32) = some (nI (hw (lB st) st b 0), fd) := by
  have h16 := w.n16
  unfold den_X7_of
  rw [m_isB w, bnd_s, if_pos (isB_t hb (by omega)), if_neg (show ¬ (1 : Int32) = 0 by decide), if_neg (show ¬ (5 : Int32) = 0 by decide), if_neg (show ¬ (5 : Int32) = 1 by decide), if_neg (show ¬ (5 : Int32) = 2 by decide), if_neg (show ¬ (5 : Int32) = 3 by decide), if_neg (show ¬ (5 : Int32) = 4 by decide), if_pos (show (5 : Int32) = 5 from rfl), show (5 : Int32) - 5 = nI 0 from rfl, m_how w hb (t := 0) (by omega), bnd_s]
theorem m_of6 {st : Nat → Int32} (w : WF st) {b : Nat} (hb : b < nB st) (fd : Nat → Int32) : den_X7_of st fd (nI b) (6 : Int32) = some (nI (hw (lB st) st b 1), fd) := by
  have h16 := w.n16
  unfold den_X7_of
  rw [m_isB w, bnd_s, if_pos (isB_t hb (by omega)), if_neg (show ¬ (1 : Int32) = 0 by decide), if_neg (show ¬ (6 : Int32) = 0 by decide), if_neg (show ¬ (6 : Int32) = 1 by decide), if_neg (show ¬ (6 : Int32) = 2 by decide), if_neg (show ¬ (6 : Int32) = 3 by decide), if_neg (show ¬ (6 : Int32) = 4 by decide), if_neg (show ¬ (6 : Int32) = 5 by decide), if_pos (show (6 : Int32) = 6 from rfl), show (6 : Int32) - 5 = nI 1 from rfl, m_how w hb (t := 1) (by omega), bnd_s]
theorem m_of9 {st : Nat → Int32} (w : WF st) {b : Nat} (hb : b < nB st) (fd : Nat → Int32) : den_X7_of st fd (nI b) (9 : Int32) = some (ctN st (nI (FF st b)), fd) := by
  have h16 := w.n16
  unfold den_X7_of
  rw [m_isB w, bnd_s, if_pos (isB_t hb (by omega)), if_neg (show ¬ (1 : Int32) = 0 by decide), if_neg (show ¬ (9 : Int32) = 0 by decide), if_neg (show ¬ (9 : Int32) = 1 by decide), if_neg (show ¬ (9 : Int32) = 2 by decide), if_neg (show ¬ (9 : Int32) = 3 by decide), if_neg (show ¬ (9 : Int32) = 4 by decide), if_neg (show ¬ (9 : Int32) = 5 by decide), if_neg (show ¬ (9 : Int32) = 6 by decide), if_neg (show ¬ (9 : Int32) = 7 by decide), if_neg (show ¬ (9 : Int32) = 8 by decide), if_pos (show (9 : Int32) = 9 from rfl), m_first w (by omega), bnd_s, show den_X7_counterOf st (nI (FF st b)) = some (ctN st (nI (FF st b))) from rfl, bnd_s]
theorem m_of7 {st : Nat → Int32} (w : WF st) {b : Nat} (hb : b < nB st) (fd : Nat → Int32) : ∃ fd', den_X7_of st fd (nI b) (7 : Int32) = some (ld (lB st) st b, fd') := by
  refine ⟨fdL (lB st) st b fd, ?_⟩
  have h16 := w.n16
  unfold den_X7_of
  rw [m_isB w, bnd_s, if_pos (isB_t hb (by omega)), if_neg (show ¬ (1 : Int32) = 0 by decide), if_neg (show ¬ (7 : Int32) = 0 by decide), if_neg (show ¬ (7 : Int32) = 1 by decide), if_neg (show ¬ (7 : Int32) = 2 by decide), if_neg (show ¬ (7 : Int32) = 3 by decide), if_neg (show ¬ (7 : Int32) = 4 by decide), if_neg (show ¬ (7 : Int32) = 5 by decide), if_neg (show ¬ (7 : Int32) = 6 by decide), if_pos (show (7 : Int32) = 7 from rfl), m_loaded w hb fd, bnd_s]
theorem m_of8 {st : Nat → Int32} (w : WF st) {b : Nat} (hb : b < nB st) (fd : Nat → Int32) {q : Int32} (e : den_X7_depthOf st (nI b) = some q) : den_X7_of st fd (nI b) (8 : Int32) = some (q, fd) := by
  have h16 := w.n16
  unfold den_X7_of
  rw [m_isB w, bnd_s, if_pos (isB_t hb (by omega)), if_neg (show ¬ (1 : Int32) = 0 by decide), if_neg (show ¬ (8 : Int32) = 0 by decide), if_neg (show ¬ (8 : Int32) = 1 by decide), if_neg (show ¬ (8 : Int32) = 2 by decide), if_neg (show ¬ (8 : Int32) = 3 by decide), if_neg (show ¬ (8 : Int32) = 4 by decide), if_neg (show ¬ (8 : Int32) = 5 by decide), if_neg (show ¬ (8 : Int32) = 6 by decide), if_neg (show ¬ (8 : Int32) = 7 by decide), if_pos (show (8 : Int32) = 8 from rfl), e, bnd_s]
theorem l_depth_L {bl st : Nat → Int32} {me : Nat → Int64} (w : WF st) (L : LB bl me st) : ∀ (K fu d : Nat) (y : Int32), (y = -6 ∨ ∃ u, u < K ∧ y = nI u) → K ≤ nB st → d + K ≤ 16 → K < fu →
    ∃ q, den_L_same_L57 bl fu (nI d) y = some q ∧ den_X7_depthOf_L9 st fu (nI d) y = some q := by
  have h16 := w.n16
  have h5 := L.1
  intro K
  induction K using Nat.strongRecOn with
  | ind K ih =>
    intro fu d y hy hB hd hf
    cases fu with
    | zero => omega
    | succ fu =>
      rcases hy with hy | ⟨u, hu, hy⟩
      · subst hy
        exact ⟨nI d, by rw [den_L_same_L57, if_pos (show (-6 : Int32) < 0 by decide)], by rw [den_X7_depthOf_L9, if_pos rfl]⟩
      · subst hy
        have hub : u < nB st := by omega
        obtain ⟨q, e1, e2⟩ := ih u hu fu (d + 1) (st (4 + 10 * u + 1)) (w.u hub) (by omega) (by omega) (by omega)
        refine ⟨q, ?_, ?_⟩
        · rw [den_L_same_L57, if_neg (nI_pos (by omega)), show (8 : Int32) * nI u = nI (8 * u) by rw [li8, pk_mul], show nI (8 * u) + (1 : Int32) = nI (8 * u + 1) by rw [li1, nI_add], gdI (by omega) (by omega), nI_clamp (by omega), (L.2.1 u hub).2.2.1, nm_d, li1, nI_add]
          exact e1
        · rw [den_X7_depthOf_L9, if_neg (nI_ne6 (by omega)), m_part1 st (by omega), bnd_s, li1, nI_add]
          exact e2
theorem l_depth {bl st : Nat → Int32} {me : Nat → Int64} (w : WF st) (L : LB bl me st) {b : Nat} (hb : b < nB st) : ∃ q, den_L_same_L57 bl FU (0 : Int32) (st (4 + 10 * b + 1)) = some q ∧ den_X7_depthOf st (nI b) = some q := by
  have h16 := w.n16
  obtain ⟨q, e1, e2⟩ := l_depth_L w L b FU 0 (st (4 + 10 * b + 1)) (w.u hb) (by omega) (by omega) (by rw [FU_eq]; omega)
  refine ⟨q, by rw [show (0 : Int32) = nI 0 from rfl]; exact e1, ?_⟩
  unfold den_X7_depthOf
  rw [m_part1 st (by omega), bnd_s, show (0 : Int32) = nI 0 from rfl, e2, bnd_s]
