/-! a block read, and what is asked of it -/
theorem RT.lev {se na un ma fi vo ba wr st : Nat → Int32} {bl : Int32} (r : RT se bl na un ma fi vo ba wr st) : se 1 = nI (lB st) := by rw [r.2.1.2.1]; exact r.1.l.1
theorem RT.un {se na un ma fi vo ba wr st : Nat → Int32} {bl : Int32} (r : RT se bl na un ma fi vo ba wr st) {b : Nat} (hb : b < nB st) : un b = st (4 + 10 * b + 1) := (r.2.2.2.1 b hb).2.1
theorem RT.na {se na un ma fi vo ba wr st : Nat → Int32} {bl : Int32} (r : RT se bl na un ma fi vo ba wr st) {b : Nat} (hb : b < nB st) : na b = st (4 + 10 * b + 0) := (r.2.2.2.1 b hb).1
theorem RT.ma {se na un ma fi vo ba wr st : Nat → Int32} {bl : Int32} (r : RT se bl na un ma fi vo ba wr st) {b : Nat} (hb : b < nB st) : ma b = nI (mB st b) := (r.2.2.2.1 b hb).2.2
theorem RT.fi {se na un ma fi vo ba wr st : Nat → Int32} {bl : Int32} (r : RT se bl na un ma fi vo ba wr st) {b : Nat} (hb : b ≤ nB st) : fi b = nI (FF st b) := r.2.2.2.2.1 b hb
theorem RT.blI {se na un ma fi vo ba wr st : Nat → Int32} {bl : Int32} (r : RT se bl na un ma fi vo ba wr st) : bl = nI (nB st) := by rw [r.2.2.1]; exact r.1.n
theorem RT.cells {se na un ma fi vo ba wr st : Nat → Int32} {bl : Int32} (r : RT se bl na un ma fi vo ba wr st) {b t : Nat} (hb : b < nB st) (ht : t < 2) (mn lh : Int32) (va wu : Nat → Int32) : ∃ lh' va' wu', den_X5_readCells mn lh va wu vo ba wr (nI (bs st b t)) (nI (mB st b)) = some (nI (mB st b), lh', va', wu') ∧ TD (nI (mB st b)) lh' va' wu' st b t :=
  c_cells r.1 r.2.2.2.2.2.1 r.2.2.2.2.2.2 hb ht mn lh va wu
theorem c_rb {se na un ma fi vo ba wr st : Nat → Int32} {bl : Int32} (r : RT se bl na un ma fi vo ba wr st) {b : Nat} (hb : b < nB st) (a0 a1 : Int32) (a2 a3 : Nat → Int32) (a4 a5 : Int32) (a6 a7 : Nat → Int32) :
    ∃ m0 l0 v0 w0 m1 l1 v1 w1, den_X0_readBlock a0 a1 a2 a3 a4 a5 a6 a7 ma fi vo ba wr (nI b) = some (m0, l0, v0, w0, m1, l1, v1, w1) ∧ TD m0 l0 v0 w0 st b 0 ∧ TD m1 l1 v1 w1 st b 1 := by
  have w := r.1
  have h16 := w.n16
  have h7 := w.m7 hb
  have hF := FF_2464 w (b := b) (by omega)
  obtain ⟨l0, v0, w0, e0, T0⟩ := r.cells hb (t := 0) (by omega) a0 a1 a2 a3
  obtain ⟨l1, v1, w1, e1, T1⟩ := r.cells hb (t := 1) (by omega) a4 a5 a6 a7
  rw [show bs st b 0 = FF st b by unfold bs; omega] at e0
  rw [show bs st b 1 = FF st b + tl st b by unfold bs; omega] at e1
  refine ⟨_, l0, v0, w0, _, l1, v1, w1, ?_, T0, T1⟩
  have et : den_X4_tellingCells ma (nI b) = some (nI (tl st b)) := by
    unfold den_X4_tellingCells tl
    rw [gdI (by omega) (by omega), nI_clamp (by omega), r.ma hb, li1, nI_add, li9, pk_mul, li4, nI_add, Nat.mul_comm 9]
  unfold den_X0_readBlock
  rw [gdI (by omega) (by omega), gdI (by omega) (by omega), nI_clamp (by omega), r.fi (by omega), r.ma hb, e0, bnd_s, et, bnd_s, nI_add, e1, bnd_s]
theorem c_st {se na un ma fi vo ba wr st : Nat → Int32} {bl : Int32} (r : RT se bl na un ma fi vo ba wr st) {b t : Nat} (hb : b < nB st) (ht : t < 2) (a0 a1 : Int32) (a2 a3 : Nat → Int32) (a4 a5 : Int32) (a6 a7 : Nat → Int32) :
    ∃ m0 l0 v0 w0 m1 l1 v1 w1, den_X6_stateOfTelling se ma fi vo ba wr a0 a1 a2 a3 a4 a5 a6 a7 (nI b) (nI t) = some (nI (hw (lB st) st b t), m0, l0, v0, w0, m1, l1, v1, w1) := by
  have hl := r.1.l.2
  obtain ⟨m0, l0, v0, w0, m1, l1, v1, w1, e, T0, T1⟩ := c_rb r hb a0 a1 a2 a3 a4 a5 a6 a7
  refine ⟨m0, l0, v0, w0, m1, l1, v1, w1, ?_⟩
  unfold den_X6_stateOfTelling
  rw [e, bnd_s, r.lev]
  have ht2 : t = 0 ∨ t = 1 := by omega
  rcases ht2 with q | q <;> subst q
  · rw [if_pos (show nI 0 = (0 : Int32) from rfl), c_state r.1 hb (by omega) T0 hl, bnd_s]
  · rw [if_neg (show ¬ nI 1 = (0 : Int32) by decide), gd_t (decide_eq_true (show nI 1 = (1 : Int32) from rfl)), c_state r.1 hb (by omega) T1 hl, bnd_s]
theorem c_wl {se na un ma fi vo ba wr st : Nat → Int32} {bl : Int32} (r : RT se bl na un ma fi vo ba wr st) {b : Nat} (hb : b < nB st) (a0 a1 : Int32) (a2 a3 : Nat → Int32) (a4 a5 : Int32) (a6 a7 : Nat → Int32) :
    ∃ m0 l0 v0 w0 m1 l1 v1 w1, den_X6_wayOfLoading se ma fi vo ba wr a0 a1 a2 a3 a4 a5 a6 a7 (nI b) = some (ld (lB st) st b, m0, l0, v0, w0, m1, l1, v1, w1) ∧ TD m0 l0 v0 w0 st b 0 ∧ TD m1 l1 v1 w1 st b 1 := by
  have hl := r.1.l.2
  obtain ⟨m0, l0, v0, w0, m1, l1, v1, w1, e, T0, T1⟩ := c_rb r hb a0 a1 a2 a3 a4 a5 a6 a7
  refine ⟨m0, l0, v0, w0, m1, l1, v1, w1, ?_, T0, T1⟩
  unfold den_X6_wayOfLoading
  rw [e, bnd_s, r.lev, c_way r.1 hb T0 T1 hl, bnd_s]
theorem k_depth_L {se na un ma fi vo ba wr st : Nat → Int32} {bl : Int32} (r : RT se bl na un ma fi vo ba wr st) : ∀ (B fu d : Nat) (y : Int32), (y = -6 ∨ ∃ u, u < B ∧ y = nI u) → B ≤ nB st → d + B ≤ 16 → B < fu →
    ∃ q, den_X4_depthOf_L11 un fu (nI d) y = some q ∧ den_X7_depthOf_L9 st fu (nI d) y = some q := by
  have w := r.1
  have h16 := w.n16
  intro B
  induction B using Nat.strongRecOn with
  | ind B ih =>
    intro fu d y hy hB hd hf
    cases fu with
    | zero => omega
    | succ fu =>
      rcases hy with hy | ⟨u, hu, hy⟩
      · subst hy
        exact ⟨nI d, by rw [den_X4_depthOf_L11, if_pos rfl], by rw [den_X7_depthOf_L9, if_pos rfl]⟩
      · subst hy
        have hub : u < nB st := by omega
        obtain ⟨q, e1, e2⟩ := ih u hu fu (d + 1) (st (4 + 10 * u + 1)) (w.u hub) (by omega) (by omega) (by omega)
        refine ⟨q, ?_, ?_⟩
        · rw [den_X4_depthOf_L11, if_neg (nI_ne6 (by omega)), if_neg (by rw [li16]; exact nI_ge (by omega) (by omega)), gdI (by omega) (by omega), nI_clamp (by omega), r.un hub, li1, nI_add]
          exact e1
        · rw [den_X7_depthOf_L9, if_neg (nI_ne6 (by omega)), m_part1 st (by omega), bnd_s, li1, nI_add]
          exact e2
theorem k_depth {se na un ma fi vo ba wr st : Nat → Int32} {bl : Int32} (r : RT se bl na un ma fi vo ba wr st) {b : Nat} (hb : b < nB st) : ∃ q, den_X4_depthOf un (nI b) = some q ∧ den_X7_depthOf st (nI b) = some q := by
  have h16 := r.1.n16
  obtain ⟨q, e1, e2⟩ := k_depth_L r b FU 0 (st (4 + 10 * b + 1)) (r.1.u hb) (by omega) (by omega) (by rw [FU_eq]; omega)
  refine ⟨q, ?_, ?_⟩
  · unfold den_X4_depthOf
    rw [gdI (by omega) (by omega), nI_clamp (by omega), r.un hb, show (0 : Int32) = nI 0 from rfl, e1, bnd_s]
  · unfold den_X7_depthOf
    rw [m_part1 st (by omega), bnd_s, show (0 : Int32) = nI 0 from rfl, e2, bnd_s]
theorem k_of {se na un ma fi vo ba wr st : Nat → Int32} {bl : Int32} (r : RT se bl na un ma fi vo ba wr st) (a0 a1 : Int32) (a2 a3 : Nat → Int32) (a4 a5 : Int32) (a6 a7 fd : Nat → Int32) (p1 p2 : Int32) :
    ∃ v m0 l0 v0 w0 m1 l1 v1 w1 fd', den_X6_of se bl na un ma fi vo ba wr a0 a1 a2 a3 a4 a5 a6 a7 p1 p2 = some (v, m0, l0, v0, w0, m1, l1, v1, w1) ∧ den_X7_of st fd p1 p2 = some (v, fd') := by
  have w := r.1
  have h16 := w.n16
  unfold den_X6_of den_X7_of
  rw [r.blI, c_isB (by omega), m_isB w, bnd_s, bnd_s]
  by_cases c : isB (nB st) p1 = true
  · obtain ⟨b, hb, e⟩ := isB_nI c (by omega)
    subst e
    have h7 := w.m7 hb
    have hF := FF_2464 w (b := b) (by omega)
    have hF1 := FF_2464 w (b := b + 1) (by omega)
    rw [FF_s] at hF1
    rw [if_pos c, if_neg (show ¬ (1 : Int32) = 0 by decide), if_neg (show ¬ (1 : Int32) = 0 by decide)]
    by_cases d0 : p2 = 0
    · subst d0
      rw [if_pos rfl, if_pos rfl, gdI (by omega) (by omega), nI_clamp (by omega), r.na hb, show (0 : Int32) = nI 0 from rfl, m_part st (by omega) (by omega), bnd_s]
      exact ⟨_, _, _, _, _, _, _, _, _, _, rfl, rfl⟩
    rw [if_neg d0, if_neg d0]
    by_cases d1 : p2 = 1
    · subst d1
      rw [if_pos rfl, if_pos rfl, gdI (by omega) (by omega), nI_clamp (by omega), r.un hb, m_part1 st (by omega), bnd_s]
      exact ⟨_, _, _, _, _, _, _, _, _, _, rfl, rfl⟩
    rw [if_neg d1, if_neg d1]
    by_cases d2 : p2 = 2
    · subst d2
      rw [if_pos rfl, if_pos rfl, gdI (by omega) (by omega), nI_clamp (by omega), r.ma hb, m_part2 st (by omega), bnd_s, w.m hb]
      exact ⟨_, _, _, _, _, _, _, _, _, _, rfl, rfl⟩
    rw [if_neg d2, if_neg d2]
    by_cases d3 : p2 = 3
    · subst d3
      rw [if_pos rfl, if_pos rfl, gdI (by omega) (by omega), nI_clamp (by omega), r.fi (by omega), m_first w (by omega), bnd_s]
      exact ⟨_, _, _, _, _, _, _, _, _, _, rfl, rfl⟩
    rw [if_neg d3, if_neg d3]
    by_cases d4 : p2 = 4
    · subst d4
      rw [if_pos rfl, if_pos rfl, li1, nI_add, gdI (by omega) (by omega), gdI (by omega) (by omega), nI_clamp (by omega), nI_clamp (by omega), r.fi (by omega), r.fi (by omega), m_cells w hb, bnd_s, FF_s, nIs (by omega), Nat.add_sub_cancel_left]
      exact ⟨_, _, _, _, _, _, _, _, _, _, rfl, rfl⟩
    rw [if_neg d4, if_neg d4]
    by_cases d5 : p2 = 5
    · subst d5
      obtain ⟨m0, l0, v0, w0, m1, l1, v1, w1, e⟩ := c_st r hb (t := 0) (by omega) a0 a1 a2 a3 a4 a5 a6 a7
      rw [show nI 0 = (0 : Int32) from rfl] at e
      rw [if_pos rfl, if_pos rfl, e, bnd_s, show (5 : Int32) - 5 = nI 0 by decide, m_how w hb (by omega), bnd_s]
      exact ⟨_, _, _, _, _, _, _, _, _, _, rfl, rfl⟩
    rw [if_neg d5, if_neg d5]
    by_cases d6 : p2 = 6
    · subst d6
      obtain ⟨m0, l0, v0, w0, m1, l1, v1, w1, e⟩ := c_st r hb (t := 1) (by omega) a0 a1 a2 a3 a4 a5 a6 a7
      rw [show nI 1 = (1 : Int32) from rfl] at e
      rw [if_pos rfl, if_pos rfl, e, bnd_s, show (6 : Int32) - 5 = nI 1 by decide, m_how w hb (by omega), bnd_s]
      exact ⟨_, _, _, _, _, _, _, _, _, _, rfl, rfl⟩
    rw [if_neg d6, if_neg d6]
    by_cases d7 : p2 = 7
    · subst d7
      obtain ⟨m0, l0, v0, w0, m1, l1, v1, w1, e, -, -⟩ := c_wl r hb a0 a1 a2 a3 a4 a5 a6 a7
      rw [if_pos rfl, if_pos rfl, e, bnd_s, m_loaded w hb, bnd_s]
      exact ⟨_, _, _, _, _, _, _, _, _, _, rfl, rfl⟩
    rw [if_neg d7, if_neg d7]
    by_cases d8 : p2 = 8
    · subst d8
      obtain ⟨q, e1, e2⟩ := k_depth r hb
      rw [if_pos rfl, if_pos rfl, e1, e2, bnd_s, bnd_s]
      exact ⟨_, _, _, _, _, _, _, _, _, _, rfl, rfl⟩
    rw [if_neg d8, if_neg d8]
    by_cases d9 : p2 = 9
    · subst d9
      rw [if_pos rfl, if_pos rfl, gdI (by omega) (by omega), nI_clamp (by omega), r.fi (by omega), m_first w (by omega), bnd_s]
      unfold den_X4_counterOf den_X7_counterOf
      rw [r.2.1.2.2, bnd_s, bnd_s]
      exact ⟨_, _, _, _, _, _, _, _, _, _, rfl, rfl⟩
    rw [if_neg d9, if_neg d9]
    exact ⟨_, _, _, _, _, _, _, _, _, _, rfl, rfl⟩
  · rw [if_neg c, if_pos rfl, if_pos rfl]
    exact ⟨_, _, _, _, _, _, _, _, _, _, rfl, rfl⟩
