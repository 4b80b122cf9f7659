/-! p25: one cell, the order by a counter, the greatest LEAST, weak cells; the widest, the counts: same has its answer -/
def QI (q st : Nat → Int32) : Prop := q 0 = st 0 ∧ q 1 = st 1 ∧ q 2 = st 2 ∧ q 3 = nI (nB st) ∧ q 4 = nI (FF st (nB st))
theorem isB_f {n : Nat} (hn : n ≤ 2464) : ¬ isB n (nI n) = true := by
  unfold isB
  rw [nI_clamp (by omega), decide_eq_false (show ¬ n < n by omega), Bool.and_false]
  decide
theorem setN_0 {g : Nat → Bool} (h : ∀ k, g k = false) : ∀ n, setN g n = 0
  | 0 => rfl
  | n + 1 => by
    show setN g n + (if g n = true then 2 ^ n else 0) = 0
    rw [setN_0 h n, h n]
    rfl
theorem a_cellN {T : TV} {st : Nat → Int32} (r : RTv T st) (R : RV) (B : Nat → Int32) {p1 p2 v : Int32} (h : den_X7_cell st p1 p2 = some v) : wd_cell T R B p1 p2 = some (v, R, B) := by
  obtain ⟨v', e1, e2⟩ := a_cell r R B p1 p2
  rw [h] at e2
  cases e2
  exact e1
theorem a_countN {T : TV} {st : Nat → Int32} (r : RTv T st) (R : RV) (B : Nat → Int32) (P : PV) (Y : HV) {p1 v : Int32} (h : ∃ fd', den_X7_count st Y.2.1 P.2.1 (fun _ => 0) p1 = some (v, fd')) : ∃ R' : RV, wd_count T R B P Y p1 = some (v, R', B) := by
  obtain ⟨v', R', fd', e1, e2⟩ := a_count r R B P Y p1 (fun _ => 0)
  obtain ⟨fd2, e3⟩ := h
  rw [e3] at e2
  cases e2
  exact ⟨R', e1⟩
theorem m_c0 {st : Nat → Int32} (w : WF st) (hz pl : Int32) (fd : Nat → Int32) : ∃ fd', den_X7_count st hz pl fd (0 : Int32) = some (nI (nB st), fd') := by
  refine ⟨fd, ?_⟩
  unfold den_X7_count
  rw [if_pos rfl, w.n]
theorem m_c1 {st : Nat → Int32} (w : WF st) (hz pl : Int32) (fd : Nat → Int32) : ∃ fd', den_X7_count st hz pl fd (1 : Int32) = some (nI (FF st (nB st)), fd') := by
  refine ⟨fd, ?_⟩
  unfold den_X7_count
  rw [if_neg (show ¬ (1 : Int32) = 0 by decide), if_pos rfl, m_all w, bnd_s]
theorem m_c2 {st : Nat → Int32} (w : WF st) (hz pl : Int32) (fd : Nat → Int32) : ∃ fd', den_X7_count st hz pl fd (2 : Int32) = some (nI (setN (gL st 0) (nB st)), fd') := by
  obtain ⟨fd', e⟩ := m_ls w (md := 0) (by omega) fd
  rw [show nI 0 = (0 : Int32) from rfl] at e
  refine ⟨fd', ?_⟩
  unfold den_X7_count
  rw [if_neg (show ¬ (2 : Int32) = 0 by decide), if_neg (show ¬ (2 : Int32) = 1 by decide), if_pos rfl, e, bnd_s]
theorem m_c3 {st : Nat → Int32} (w : WF st) (hz pl : Int32) (fd : Nat → Int32) : ∃ fd', den_X7_count st hz pl fd (3 : Int32) = some (nI (setN (gL st 1) (nB st)), fd') := by
  obtain ⟨fd', e⟩ := m_ls w (md := 1) (by omega) fd
  rw [show nI 1 = (1 : Int32) from rfl] at e
  refine ⟨fd', ?_⟩
  unfold den_X7_count
  rw [if_neg (show ¬ (3 : Int32) = 0 by decide), if_neg (show ¬ (3 : Int32) = 1 by decide), if_neg (show ¬ (3 : Int32) = 2 by decide), if_pos rfl, e, bnd_s]
theorem m_c4 {st : Nat → Int32} (w : WF st) (hz pl : Int32) (fd : Nat → Int32) : ∃ fd', den_X7_count st hz pl fd (4 : Int32) = some (nI (siN st (FF st (nB st))), fd') := by
  refine ⟨fd, ?_⟩
  unfold den_X7_count
  rw [if_neg (show ¬ (4 : Int32) = 0 by decide), if_neg (show ¬ (4 : Int32) = 1 by decide), if_neg (show ¬ (4 : Int32) = 2 by decide), if_neg (show ¬ (4 : Int32) = 3 by decide), if_pos rfl, m_silent w, bnd_s]
theorem m_c5 {st : Nat → Int32} (w : WF st) (hz pl : Int32) (fd : Nat → Int32) : ∃ fd', den_X7_count st hz pl fd (5 : Int32) = some (nI (baN st (FF st (nB st))), fd') := by
  refine ⟨fd, ?_⟩
  unfold den_X7_count
  rw [if_neg (show ¬ (5 : Int32) = 0 by decide), if_neg (show ¬ (5 : Int32) = 1 by decide), if_neg (show ¬ (5 : Int32) = 2 by decide), if_neg (show ¬ (5 : Int32) = 3 by decide), if_neg (show ¬ (5 : Int32) = 4 by decide), if_pos rfl, m_badN w, bnd_s]
theorem m_c6 {st : Nat → Int32} (hz pl : Int32) (fd : Nat → Int32) : ∃ fd', den_X7_count st hz pl fd (6 : Int32) = some (st 0, fd') := by
  refine ⟨fd, ?_⟩
  unfold den_X7_count
  rw [if_neg (show ¬ (6 : Int32) = 0 by decide), if_neg (show ¬ (6 : Int32) = 1 by decide), if_neg (show ¬ (6 : Int32) = 2 by decide), if_neg (show ¬ (6 : Int32) = 3 by decide), if_neg (show ¬ (6 : Int32) = 4 by decide), if_neg (show ¬ (6 : Int32) = 5 by decide), if_pos rfl, show (6 : Int32) - 6 = nI 0 by decide, gdI (by omega) (by omega), nI_clamp (by omega)]
theorem m_c7 {st : Nat → Int32} (hz pl : Int32) (fd : Nat → Int32) : ∃ fd', den_X7_count st hz pl fd (7 : Int32) = some (st 1, fd') := by
  refine ⟨fd, ?_⟩
  unfold den_X7_count
  rw [if_neg (show ¬ (7 : Int32) = 0 by decide), if_neg (show ¬ (7 : Int32) = 1 by decide), if_neg (show ¬ (7 : Int32) = 2 by decide), if_neg (show ¬ (7 : Int32) = 3 by decide), if_neg (show ¬ (7 : Int32) = 4 by decide), if_neg (show ¬ (7 : Int32) = 5 by decide), if_neg (show ¬ (7 : Int32) = 6 by decide), if_pos rfl, show (7 : Int32) - 6 = nI 1 by decide, gdI (by omega) (by omega), nI_clamp (by omega)]
theorem m_c8 {st : Nat → Int32} (hz pl : Int32) (fd : Nat → Int32) : ∃ fd', den_X7_count st hz pl fd (8 : Int32) = some (st 2, fd') := by
  refine ⟨fd, ?_⟩
  unfold den_X7_count
  rw [if_neg (show ¬ (8 : Int32) = 0 by decide), if_neg (show ¬ (8 : Int32) = 1 by decide), if_neg (show ¬ (8 : Int32) = 2 by decide), if_neg (show ¬ (8 : Int32) = 3 by decide), if_neg (show ¬ (8 : Int32) = 4 by decide), if_neg (show ¬ (8 : Int32) = 5 by decide), if_neg (show ¬ (8 : Int32) = 6 by decide), if_neg (show ¬ (8 : Int32) = 7 by decide), if_pos rfl, show (8 : Int32) - 6 = nI 2 by decide, gdI (by omega) (by omega), nI_clamp (by omega)]
theorem m_ofX {st : Nat → Int32} (w : WF st) (p2 : Int32) (fd : Nat → Int32) : ∃ fd', den_X7_of st fd (nI (nB st)) p2 = some (-1, fd') := by
  have h16 := w.n16
  refine ⟨fd, ?_⟩
  unfold den_X7_of
  rw [m_isB w, bnd_s, if_neg (isB_f (by omega)), if_pos rfl]
theorem m_cellX {st : Nat → Int32} (w : WF st) (p2 : Int32) : den_X7_cell st (nI (FF st (nB st))) p2 = some (-1) := by
  unfold den_X7_cell
  rw [m_isC w, bnd_s, if_neg (isB_f (FF_2464 w (Nat.le_refl _))), if_pos rfl]
