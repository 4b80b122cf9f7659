/-! widest, both -/
theorem c_reached {se na un ma fi vo ba wr st : Nat → Int32} {bl : Int32} (r : RT se bl na un ma fi vo ba wr st) (a0 a1 : Int32) (a2 a3 : Nat → Int32) (a4 a5 : Int32) (a6 a7 : Nat → Int32) :
    ∃ m0 l0 v0 w0 m1 l1 v1 w1, den_X6_reached se bl un ma fi vo ba wr a0 a1 a2 a3 a4 a5 a6 a7 = some (nI (rS st (nB st)), m0, l0, v0, w0, m1, l1, v1, w1) := by
  have h16 := r.1.n16
  obtain ⟨m0, l0, v0, w0, m1, l1, v1, w1, e⟩ := c_rs_L r (nB st) FU 0 a0 a1 a2 a3 a4 a5 a6 a7 (by omega) (by rw [FU_eq]; omega)
  rw [show nI (rS st 0) = (0 : Int32) from rfl, show nI 0 = (0 : Int32) from rfl] at e
  refine ⟨m0, l0, v0, w0, m1, l1, v1, w1, ?_⟩
  unfold den_X6_reached
  rw [e, bnd_s]
theorem m_reachedSet {st : Nat → Int32} (w : WF st) (fd : Nat → Int32) : ∃ fd', den_X7_reachedSet st fd = some (nI (rS st (nB st)), fd') := by
  have h16 := w.n16
  obtain ⟨fd', e2⟩ := m_ls w (md := 0) (by omega) fd
  have e3 := m_rs_L w (q := (nI (setN (gL st 0) (nB st)), fd')) rfl (nB st) FU 0 (by omega) (by rw [FU_eq]; omega)
  rw [show nI (rS st 0) = (0 : Int32) from rfl, show nI 0 = (0 : Int32) from rfl] at e3
  rw [show nI 0 = (0 : Int32) from rfl] at e2
  refine ⟨fd', ?_⟩
  unfold den_X7_reachedSet
  rw [e2, bnd_s, e3, bnd_s]
theorem bits0 : ∀ (n x : Nat), x < 2 ^ n → (∀ j, j < n → ¬ x / 2 ^ j % 2 = 1) → x = 0
  | 0, x, h, _ => by rw [Nat.pow_zero] at h; omega
  | n + 1, x, h, hb => by
    have h1 := hb n (by omega)
    have h2 : x / 2 ^ n < 2 := Nat.div_lt_of_lt_mul (by rw [Nat.pow_succ] at h; exact h)
    have h3 : x / 2 ^ n = 0 := by
      generalize x / 2 ^ n = y at h1 h2
      omega
    exact bits0 n x (Nat.lt_of_not_le (fun q => by have := Nat.div_pos q (Nat.two_pow_pos n); omega)) (fun j hj => hb j (by omega))
theorem k_widest {se na un ma fi vo ba wr st : Nat → Int32} {bl : Int32} (r : RT se bl na un ma fi vo ba wr st) (a0 a1 : Int32) (a2 a3 : Nat → Int32) (a4 a5 : Int32) (a6 a7 bw fd : Nat → Int32) (p1 : Int32) :
    ∃ v m0 l0 v0 w0 m1 l1 v1 w1 bw' fd', den_X6_widest se bl un ma fi vo ba wr a0 a1 a2 a3 a4 a5 a6 a7 bw p1 = some (v, m0, l0, v0, w0, m1, l1, v1, w1, bw') ∧ den_X7_widest st fd p1 = some (v, fd') := by
  have w := r.1
  have h16 := w.n16
  have hS := p2_31 (rS_lt st (nB st)) h16
  obtain ⟨m0, l0, v0, w0, m1, l1, v1, w1, e⟩ := c_reached r a0 a1 a2 a3 a4 a5 a6 a7
  obtain ⟨fd', e2⟩ := m_reachedSet w fd
  obtain ⟨bw', e3, hb⟩ := c_below r bw
  obtain ⟨y, z, f1, f2, f3, f4, f5⟩ := k_pick_L r (q5 := (nI (rS st (nB st)), m0, l0, v0, w0, m1, l1, v1, w1)) (q6 := (nI (rS st (nB st)), fd')) rfl rfl hb (nB st) FU 0 (-6) (-6) (by omega) (by rw [FU_eq]; omega) (Or.inl ⟨rfl, rfl⟩) (fun _ j hj => by omega)
  rw [show nI 0 = (0 : Int32) from rfl] at f1 f2
  unfold den_X6_widest den_X7_widest
  rw [nm_d, e, bnd_s, e3, bnd_s, f1, bnd_s, e2, bnd_s, f2, bnd_s, m_within, bnd_s]
  have main : ∀ p : Int32, (p = 0 ∨ p = 1) → ∃ v m0' l0' v0' w0' m1' l1' v1' w1' bw'' fd'', (if nI (rS st (nB st)) = (0 : Int32) then some ((-6 : Int32), m0, l0, v0, w0, m1, l1, v1, w1, bw) else if p = (0 : Int32) then some (y, m0, l0, v0, w0, m1, l1, v1, w1, bw') else gd (inb y 16) (some (bw' y.toNatClampNeg, m0, l0, v0, w0, m1, l1, v1, w1, bw'))) = some (v, m0', l0', v0', w0', m1', l1', v1', w1', bw'') ∧ (if p = (0 : Int32) then some (y, fd') else some (z, fd')) = some (v, fd'') := by
    intro p hp
    by_cases c : rS st (nB st) = 0
    · have hyz : y = -6 ∧ z = -6 := by
        rcases f4 with q | ⟨j, hj, q⟩
        · exact q
        · rw [c, Nat.zero_div] at q; omega
      rw [if_pos (show nI (rS st (nB st)) = (0 : Int32) by rw [c]; rfl), hyz.1, hyz.2]
      rcases hp with q | q <;> subst q
      · rw [if_pos rfl]; exact ⟨_, _, _, _, _, _, _, _, _, _, _, rfl, rfl⟩
      · rw [if_neg (show ¬ (1 : Int32) = 0 by decide)]; exact ⟨_, _, _, _, _, _, _, _, _, _, _, rfl, rfl⟩
    · rw [if_neg (show ¬ nI (rS st (nB st)) = (0 : Int32) by rw [nI_0iff hS]; exact c)]
      rcases f3 with ⟨g1, g2⟩ | ⟨i, hi, g1, g2⟩
      · subst g1; subst g2
        exact absurd (bits0 _ _ (rS_lt st (nB st)) (f5 rfl)) c
      · subst g1; subst g2
        rcases hp with q | q <;> subst q
        · rw [if_pos rfl, if_pos rfl]; exact ⟨_, _, _, _, _, _, _, _, _, _, _, rfl, rfl⟩
        · rw [if_neg (show ¬ (1 : Int32) = 0 by decide), if_neg (show ¬ (1 : Int32) = 0 by decide), gdI (by omega) (by omega), nI_clamp (by omega), hb i hi]
          exact ⟨_, _, _, _, _, _, _, _, _, _, _, rfl, rfl⟩
  by_cases d0 : p1 = 0
  · subst d0
    rw [if_pos rfl, if_neg (show ¬ (if (0 : Int32) < 0 then (0 : Int32) else if (1 : Int32) < 0 then 0 else 1) = 0 by decide)]
    exact main 0 (Or.inl rfl)
  · rw [if_neg d0]
    by_cases d1 : p1 = 1
    · subst d1
      rw [if_pos rfl, if_neg (show ¬ (if (1 : Int32) < 0 then (0 : Int32) else if (1 : Int32) < 1 then 0 else 1) = 0 by decide)]
      exact main 1 (Or.inr rfl)
    · have hz : (if p1 < 0 then (0 : Int32) else if (1 : Int32) < p1 then 0 else 1) = 0 := by
        by_cases c : p1 < 0
        · rw [if_pos c]
        · obtain ⟨k, hk, e⟩ := nI_of c
          subst e
          have hk1 : ¬ k = 0 := fun q => d0 (by rw [q]; rfl)
          have hk2 : ¬ k = 1 := fun q => d1 (by rw [q]; rfl)
          rw [if_neg c, if_pos (show (1 : Int32) < nI k from nI_lt (a := 1) (by omega) (by omega))]
      rw [if_neg d1, if_pos hz]
      exact ⟨_, _, _, _, _, _, _, _, _, _, _, rfl, rfl⟩
