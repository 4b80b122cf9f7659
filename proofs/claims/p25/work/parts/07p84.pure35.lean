/-! an order carried out: a block -/
theorem m_fill_L {nu nv : Nat → Int32} {off cnt : Nat} {g : Nat → Nat} (hc : cnt ≤ 7) (ho : off + cnt ≤ 44) (hnu : ∀ k, k < cnt → nu (off + k) = nI (g k)) (hg : ∀ k, k < cnt → g k < 256) (fd : Nat → Int32) : ∀ (d fu k : Nat), k + d = cnt → d < fu →
    den_X7_doesBlock_L64 nu (nI (off + cnt)) (nI off) fu 1 (nI k) (fl fd 0 k (fun k => nI (g k))) = some (1, fl fd 0 cnt (fun k => nI (g k))) := by
  intro d
  induction d with
  | zero =>
    intro fu k hk hf
    cases fu with
    | zero => omega
    | succ fu =>
      have : k = cnt := by omega
      subst this
      rw [den_X7_doesBlock_L64, nIs (by omega), Nat.add_sub_cancel_left, if_pos (nI_le (Nat.le_refl _) (by omega))]
  | succ d ih =>
    intro fu k hk hf
    cases fu with
    | zero => omega
    | succ fu =>
      have hs := fl_s fd 0 k (fun k => nI (g k))
      rw [Nat.zero_add] at hs
      have h1 := hg k (by omega)
      rw [den_X7_doesBlock_L64, nIs (by omega), Nat.add_sub_cancel_left, if_neg (nI_ge (by omega) (by omega)), if_neg (show ¬ (1 : Int32) = 0 by decide), nI_add, gdI (by omega) (by omega), nI_clamp (by omega), hnu k (by omega), if_neg (show ¬ (256 : Int32) ≤ nI (g k) from nI_ge (b := 256) (by omega) (by omega)), bnd_s, gdI (by omega) (by omega), gdI (by omega) (by omega), nI_clamp (by omega), hs, li1, nI_add]
      exact ih fu (k + 1) (by omega) (by omega)
theorem m_fillx_L {nu : Nat → Int32} {off cnt : Nat} {g : Nat → Nat} (hc : cnt ≤ 7) (ho : off + cnt ≤ 44) (hnu : ∀ k, k < cnt → nu (off + k) = nI (g k) ∧ g k ≤ 9999) : ∀ (d fu k : Nat) (fd : Nat → Int32), k + d = cnt → d < fu → (∃ j, k ≤ j ∧ j < cnt ∧ 256 ≤ g j) →
    ∃ fd', den_X7_doesBlock_L64 nu (nI (off + cnt)) (nI off) fu 1 (nI k) fd = some (0, fd') := by
  intro d
  induction d with
  | zero => intro fu k fd hk hf ⟨j, h1, h2, h3⟩; omega
  | succ d ih =>
    intro fu k fd hk hf ⟨j, h1, h2, h3⟩
    cases fu with
    | zero => omega
    | succ fu =>
      obtain ⟨e1, e2⟩ := hnu k (by omega)
      rw [den_X7_doesBlock_L64, nIs (by omega), Nat.add_sub_cancel_left, if_neg (nI_ge (by omega) (by omega)), if_neg (show ¬ (1 : Int32) = 0 by decide), nI_add, gdI (by omega) (by omega), nI_clamp (by omega), e1]
      by_cases c : 256 ≤ g k
      · rw [if_pos (show (256 : Int32) ≤ nI (g k) from nI_le (a := 256) c (by omega)), bnd_s, gdI (by omega) (by omega), gdI (by omega) (by omega)]
        cases fu with
        | zero => omega
        | succ fu =>
          rw [den_X7_doesBlock_L64]
          split
          · exact ⟨_, rfl⟩
          · rw [if_pos rfl]; exact ⟨_, rfl⟩
      · rw [if_neg (show ¬ (256 : Int32) ≤ nI (g k) from nI_ge (b := 256) (by omega) (by omega)), bnd_s, gdI (by omega) (by omega), gdI (by omega) (by omega), li1, nI_add]
        refine ih fu (k + 1) _ (by omega) (by omega) ⟨j, ?_, h2, h3⟩
        by_cases e : j = k
        · subst e; omega
        · omega
theorem k_blockO {se na un ma fi vo ba wr st : Nat → Int32} {bl : Int32} (r : RT se bl na un ma fi vo ba wr st) {nu : Nat → Int32} {N U M nm G hu : Int32} {B : Int64} {v off cnt : Nat} (hN : N = nI v) (h0 : nu 0 = nI v) (hc1 : 1 ≤ cnt) (hoc : off + cnt ≤ 44) (hM : M = nI cnt) (hnm : nm = nI (off + cnt)) (hB : BY B G nu off cnt) (hU : (hu = 0 ∧ off = 1 ∧ U = -6) ∨ (hu = 1 ∧ off = 2 ∧ ∃ u, u ≤ 9999 ∧ U = nI u ∧ nu 1 = nI u)) (fd : Nat → Int32) :
    ∃ q, ∃ (t : TV), ∃ ok st' fd', den_X6_carryBlockOut se bl na un ma fi vo ba wr N U M B G = some (q, t.2.1, t.2.2.1, t.2.2.2.1, t.2.2.2.2.1, t.2.2.2.2.2.1, t.2.2.2.2.2.2.1, t.2.2.2.2.2.2.2.1, t.2.2.2.2.2.2.2.2) ∧ den_X7_doesBlock st fd hu nu nm = some (ok, st', fd') ∧ t.1 = se ∧ RTv t st' ∧ (((0 : Int32) ≤ q ∧ ok = 1) ∨ (¬ (0 : Int32) ≤ q ∧ ok = 0)) := by
  have w := r.1
  subst hN; subst hM; subst hnm
  have eo : (if hu = (0 : Int32) then some (1 : Int32) else some 2) = some (nI off) := by
    rcases hU with ⟨q1, q2, -⟩ | ⟨q1, q2, -⟩ <;> subst q1 <;> subst q2
    · rw [if_pos rfl]; rfl
    · rw [if_neg (show ¬ (1 : Int32) = 0 by decide)]; rfl
  have eu : (if hu = (0 : Int32) then some (-6 : Int32) else some (nu 1)) = some U := by
    rcases hU with ⟨q1, -, q3⟩ | ⟨q1, -, u, -, q4, q5⟩ <;> subst q1
    · rw [if_pos rfl, q3]
    · rw [if_neg (show ¬ (1 : Int32) = 0 by decide), q5, q4]
  obtain ⟨q, e1, e2, hq⟩ := k_whyW r (nI v) U (nI cnt)
  unfold den_X6_carryBlockOut den_X7_doesBlock
  rw [eo, bnd_s, eu, bnd_s, h0, nIs (by omega), Nat.add_sub_cancel_left, e1, e2, bnd_s, bnd_s]
  have bad : ∀ q : Int32, q ≠ 0 → ¬ (0 : Int32) ≤ q → den_X7_doesBlock_L64 nu (nI (off + cnt)) (nI off) FU 0 (0 : Int32) fd = some (0, fd) := fun q _ _ => by
    rw [show FU = 39999 + 1 from FU_eq, den_X7_doesBlock_L64, nIs (by omega), Nat.add_sub_cancel_left, if_neg (show ¬ nI cnt ≤ (0 : Int32) from nI_nle (by omega) (by omega)), if_pos rfl]
  have fin : ∀ q : Int32, q ≠ 0 → ¬ (0 : Int32) ≤ q → ∃ q', ∃ (t : TV), ∃ ok st' fd', some (q, bl, na, un, ma, fi, vo, ba, wr) = some (q', t.2.1, t.2.2.1, t.2.2.2.1, t.2.2.2.2.1, t.2.2.2.2.2.1, t.2.2.2.2.2.2.1, t.2.2.2.2.2.2.2.1, t.2.2.2.2.2.2.2.2) ∧ some ((0 : Int32), st, fd) = some (ok, st', fd') ∧ t.1 = se ∧ RTv t st' ∧ (((0 : Int32) ≤ q' ∧ ok = 1) ∨ (¬ (0 : Int32) ≤ q' ∧ ok = 0)) := fun q h1 h2 => ⟨q, (se, bl, na, un, ma, fi, vo, ba, wr), 0, st, fd, rfl, rfl, rfl, r, Or.inr ⟨h2, rfl⟩⟩
  rcases hq with ⟨hq, hn16, -, ⟨m, hm1, hm, em⟩, hp2⟩ | hq | hq | hq
  · subst hq
    have hcm : cnt = m := (nI_eq (by omega) (by omega)).mp em
    subst hcm
    obtain ⟨-, nv, g2, g3, g4⟩ := hB
    rw [if_pos rfl, if_pos rfl, bnd_s]
    rcases g4 with ⟨g5, g6⟩ | ⟨g5, g6⟩
    · subst g5
      have ef := m_fill_L (nv := fun _ => 0) (nu := nu) (off := off) (cnt := cnt) (g := nv) hm hoc (fun k hk => (g2 k hk).1) g6 fd cnt FU 0 (by omega) (by rw [FU_eq]; omega)
      rw [fl_0, show nI 0 = (0 : Int32) from rfl] at ef
      obtain ⟨wr', y1, y2, y3⟩ := c_append r hn16 hm1 hm (nI v) U B
      obtain ⟨s3, z1, z2⟩ := m_writes w hn16 hm (N := uN B) (fd := fl fd 0 cnt (fun k => nI (nv k))) (fun k hk => by
        have := fl_in (f := fd) (A := 0) (n := cnt) (g := fun k => nI (nv k)) hk
        rw [Nat.zero_add] at this
        have h5 := g6 k hk
        rw [this, g3 k hk (by omega), Nat.mod_eq_of_lt h5]) (nI v) U
      have R2 := RT_app r rfl hn16 rfl hm1 hm rfl hp2 z2 rfl rfl rfl y2 y3
      rw [if_pos rfl, y1, bnd_s, ef, bnd_s, if_neg (show ¬ (1 : Int32) = 0 by decide), z1, bnd_s, gd_t (show isZ 1 = true by decide)]
      exact ⟨nI (nB st), (se, nI (nB st + 1), _, _, _, _, _, _, wr'), 1, s3, _, rfl, rfl, rfl, R2, Or.inl ⟨nI_le (a := 0) (by omega) (by omega), rfl⟩⟩
    · subst g5
      obtain ⟨j, j1, j2⟩ := g6
      obtain ⟨fd', ef⟩ := m_fillx_L (nu := nu) (off := off) (cnt := cnt) (g := nv) hm hoc g2 cnt FU 0 fd (by omega) (by rw [FU_eq]; omega) ⟨j, by omega, j1, j2⟩
      rw [show nI 0 = (0 : Int32) from rfl] at ef
      rw [if_neg (show ¬ (1 : Int32) = 0 by decide), ef, bnd_s, if_pos rfl, gd_t (show isZ 0 = true by decide)]
      exact ⟨-2, (se, bl, na, un, ma, fi, vo, ba, wr), 0, st, fd', rfl, rfl, rfl, r, Or.inr ⟨by decide, rfl⟩⟩
  · subst hq
    rw [if_neg (show ¬ (-1 : Int32) = 0 by decide), if_neg (show ¬ (-1 : Int32) = 0 by decide), bnd_s, bad (-1) (by decide) (by decide), bnd_s, if_pos rfl, gd_t (show isZ 0 = true by decide)]
    exact fin _ (by decide) (by decide)
  · subst hq
    rw [if_neg (show ¬ (-2 : Int32) = 0 by decide), if_neg (show ¬ (-2 : Int32) = 0 by decide), bnd_s, bad (-2) (by decide) (by decide), bnd_s, if_pos rfl, gd_t (show isZ 0 = true by decide)]
    exact fin _ (by decide) (by decide)
  · subst hq
    rw [if_neg (show ¬ (-4 : Int32) = 0 by decide), if_neg (show ¬ (-4 : Int32) = 0 by decide), bnd_s, bad (-4) (by decide) (by decide), bnd_s, if_pos rfl, gd_t (show isZ 0 = true by decide)]
    exact fin _ (by decide) (by decide)
