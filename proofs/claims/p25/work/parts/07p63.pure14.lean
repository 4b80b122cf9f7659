/-! mostLeast -/
theorem upd_upd {f : Nat → Int32} {k : Nat} {a b : Int32} : upd (upd f k a) k b = upd f k b := by
  funext j
  by_cases e : j = k
  · subst e; rw [pk_us, pk_us]
  · rw [pk_un e, pk_un e, pk_un e]
theorem k_most_L {se na un ma fi vo ba wr st : Nat → Int32} {bl : Int32} (r : RT se bl na un ma fi vo ba wr st) {b : Nat} (hb : b < nB st) {a0 a1 : Int32} {a2 a3 : Nat → Int32} {a4 a5 : Int32} {a6 a7 : Nat → Int32} {q : Int32 × Int32 × (Nat → Int32) × (Nat → Int32) × Int32 × Int32 × (Nat → Int32) × (Nat → Int32)} (eq : den_X0_readBlock a0 a1 a2 a3 a4 a5 a6 a7 ma fi vo ba wr (nI b) = some q) : ∀ (n fu : Nat) (w : Int32) (fd : Nat → Int32), n ≤ 100 → n + 1 < fu →
    ∃ v w' fd', den_X6_mostLeast_L28 q fu (nI n - 1) = some (v, q) ∧ den_X7_mostLeast_L24 (nI b) fu (-6) (nI n - 1) (upd st 1 w) fd = some (v, upd st 1 w', fd') := by
  intro n
  induction n with
  | zero =>
    intro fu w fd hn hf
    cases fu with
    | zero => omega
    | succ fu =>
      refine ⟨-6, w, fd, ?_, ?_⟩
      · rw [den_X6_mostLeast_L28, if_pos (show nI 0 - 1 < 0 by decide)]
      · rw [den_X7_mostLeast_L24, if_pos (show nI 0 - 1 < 0 by decide)]
  | succ n ih =>
    intro fu w fd hn hf
    cases fu with
    | zero => omega
    | succ fu =>
      have r2 := RT_set r (k := 1) (v := n) (by omega) (by rw [if_neg (by omega)]; omega)
      have w2 := r2.1
      have hnB2 : nB (upd st 1 (nI n)) = nB st := nB_of (pk_un (by omega))
      have hlB2 : lB (upd st 1 (nI n)) = n := by
        show (upd st 1 (nI n) 1).toNatClampNeg = n
        rw [pk_us, nI_clamp (by omega)]
      obtain ⟨m0, l0, v0, w0, m1, l1, v1, w1, e, T0, T1⟩ := c_rb r2 (by rw [hnB2]; exact hb) a0 a1 a2 a3 a4 a5 a6 a7
      rw [eq] at e
      have e := Option.some.inj e
      have hw := c_way w2 (by rw [hnB2]; exact hb) T0 T1 (l := n) (by omega)
      have hm := m_loaded w2 (b := b) (by rw [hnB2]; exact hb) fd
      rw [hlB2] at hm
      obtain ⟨v, w', fd', i1, i2⟩ := ih fu (nI n) (fdL n (upd st 1 (nI n)) b fd) (by omega) (by omega)
      have hp : nI n + (-1 : Int32) = nI n - 1 := (Int32.sub_eq_add_neg _ _).symm
      rw [den_X6_mostLeast_L28, den_X7_mostLeast_L24, nI_pred, if_neg (nI_pos (by omega)), if_neg (nI_pos (by omega)), if_pos rfl, upd_upd, hm, bnd_s, hp]
      have hq : den_X0_wayBy q.1 q.2.1 q.2.2.1 q.2.2.2.1 q.2.2.2.2.1 q.2.2.2.2.2.1 q.2.2.2.2.2.2.1 q.2.2.2.2.2.2.2 (nI n) = some (ld n (upd st 1 (nI n)) b) := by rw [e]; exact hw
      rw [hq, bnd_s]
      by_cases c : ld n (upd st 1 (nI n)) b = -6
      · rw [if_pos c, if_pos c]
        exact ⟨v, w', fd', i1, i2⟩
      · rw [if_neg c, if_neg c]
        refine ⟨nI n, nI n, fdL n (upd st 1 (nI n)) b fd, rfl, ?_⟩
        cases fu with
        | zero => omega
        | succ fu =>
          rw [den_X7_mostLeast_L24]
          by_cases c0 : nI n - 1 < 0
          · rw [if_pos c0]
          · rw [if_neg c0, if_neg (nI_ne6 (by omega))]
theorem k_mostLeast {se na un ma fi vo ba wr st : Nat → Int32} {bl : Int32} (r : RT se bl na un ma fi vo ba wr st) (a0 a1 : Int32) (a2 a3 : Nat → Int32) (a4 a5 : Int32) (a6 a7 fd : Nat → Int32) (p1 : Int32) :
    ∃ v m0 l0 v0 w0 m1 l1 v1 w1 st' fd', den_X6_mostLeast bl ma fi vo ba wr a0 a1 a2 a3 a4 a5 a6 a7 p1 = some (v, m0, l0, v0, w0, m1, l1, v1, w1) ∧ den_X7_mostLeast st fd p1 = some (v, st', fd') ∧ st' = st := by
  have w := r.1
  have h16 := w.n16
  unfold den_X6_mostLeast den_X7_mostLeast
  rw [r.blI, c_isB (by omega), m_isB w, bnd_s, bnd_s]
  by_cases c : isB (nB st) p1 = true
  · obtain ⟨b, hb, e⟩ := isB_nI c (by omega)
    subst e
    obtain ⟨m0, l0, v0, w0, m1, l1, v1, w1, e, -, -⟩ := c_rb r hb a0 a1 a2 a3 a4 a5 a6 a7
    obtain ⟨v, w', fd', x1, x2⟩ := k_most_L r hb e 100 FU (st 1) fd (by omega) (by rw [FU_eq]; omega)
    rw [upd_self rfl, show nI 100 - 1 = (99 : Int32) by decide] at x2
    rw [show nI 100 - 1 = (99 : Int32) by decide] at x1
    rw [if_pos c, if_neg (show ¬ (1 : Int32) = 0 by decide), if_neg (show ¬ (1 : Int32) = 0 by decide), e, bnd_s, x1, x2, bnd_s]
    exact ⟨_, _, _, _, _, _, _, _, _, _, _, rfl, rfl, by rw [upd_upd, upd_self rfl]⟩
  · rw [if_neg c, if_pos rfl, if_pos rfl]
    exact ⟨_, _, _, _, _, _, _, _, _, _, _, rfl, rfl, rfl⟩
