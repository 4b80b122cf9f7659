/-! write -/
theorem m_writes {st fd : Nat → Int32} (w : WF st) (hn : nB st < 16) {m N : Nat} (hm : m ≤ 7) (hfd : ∀ k, k < m → fd k = nI (bN N k)) (p1 p2 : Int32) :
    ∃ s3, den_X7_writes st fd p1 p2 (nI m) = some (nI (nB st), s3) ∧ W3 st s3 (nB st) (FF st (nB st)) (2 * (4 + 9 * (m + 1)) + 2) m N p1 p2 := by
  have hFle := FF_le w (b := nB st) (Nat.le_refl _)
  obtain ⟨n, hnn⟩ : ∃ n, n = nB st := ⟨_, rfl⟩
  obtain ⟨F, hFF⟩ : ∃ F, F = FF st (nB st) := ⟨_, rfl⟩
  obtain ⟨s0, hs0⟩ : ∃ s0, s0 = upd (upd (upd st (4 + 10 * n + 0) p1) (4 + 10 * n + 1) p2) (4 + 10 * n + 2) (nI m) := ⟨_, rfl⟩
  obtain ⟨s1, hs1⟩ : ∃ s1, s1 = fl s0 (4 + 10 * n + 3) 7 (fun k => if k < m then nI (bN N k) else 0) := ⟨_, rfl⟩
  obtain ⟨s2, hs2⟩ : ∃ s2, s2 = fl s1 (164 + F) (2 * (4 + 9 * (m + 1)) + 2) (fun _ => s1 0) := ⟨_, rfl⟩
  have hst : st 3 = nI n := by rw [hnn]; exact w.n
  have a0 : ∀ j, j < 4 + 10 * n → s0 j = st j := fun j hj => by rw [hs0, pk_un (by omega), pk_un (by omega), pk_un (by omega)]
  have a0' : ∀ j, 164 ≤ j → s0 j = st j := fun j hj => by rw [hs0, pk_un (by omega), pk_un (by omega), pk_un (by omega)]
  have a1 : ∀ j, j < 4 + 10 * n → s1 j = st j := fun j hj => by rw [hs1, fl_out (Or.inl (by omega)), a0 j hj]
  have a1' : ∀ j, 164 ≤ j → s1 j = st j := fun j hj => by rw [hs1, fl_out (Or.inr (by omega)), a0' j hj]
  have b0 : s1 (4 + 10 * n + 0) = p1 := by rw [hs1, fl_out (Or.inl (by omega)), hs0, pk_un (by omega), pk_un (by omega), pk_us]
  have b1 : s1 (4 + 10 * n + 1) = p2 := by rw [hs1, fl_out (Or.inl (by omega)), hs0, pk_un (by omega), pk_us]
  have b2 : s1 (4 + 10 * n + 2) = nI m := by rw [hs1, fl_out (Or.inl (by omega)), hs0, pk_us]
  have b3 : ∀ k, k < 7 → s1 (4 + 10 * n + (3 + k)) = if k < m then nI (bN N k) else 0 := fun k hk => by
    rw [hs1, show 4 + 10 * n + (3 + k) = 4 + 10 * n + 3 + k by omega, fl_in hk]
  have ag1 : agN (nB st) st s1 := fun j _ h2 => a1 j (by omega)
  have w1 : WF s1 := wk_WF w (fun j hj => a1 j (by omega)) ag1 (fun c hc => a1' _ (by omega))
  have hn1 : nB s1 = n := by rw [nB_of (a1 3 (by omega)), hnn]
  have hF1 : FF s1 n = F := by rw [hnn, ag_FF ag1 (Nat.le_refl _), hFF]
  have e1 := m_bytes_L (s0 := s0) (n := n) (by omega) hm hfd 7 FU 0 (by omega) (by rw [FU_eq]; omega)
  rw [fl_0, ← hs1] at e1
  have e2 := m_first w1 (b := n) (by omega)
  rw [hF1] at e2
  have e3 := m_fillc_L (s0 := s1) hst (by omega) hm b2 (F := F) (by omega) (2 * (4 + 9 * (m + 1)) + 2) FU 0 (by omega) (by rw [FU_eq]; omega)
  rw [fl_0, ← hs2] at e3
  have c3 : s2 3 = nI n := by rw [hs2, fl_out (Or.inl (by omega)), a1 3 (by omega), hst]
  rw [← hFF, ← hnn]
  refine ⟨upd s2 3 (nI (n + 1)), ?_, fun j hj => ?_, pk_us, fun j h1 h2 => ?_, ?_, ?_, ?_, fun k hk => ?_, fun c hc => ?_, fun c hc1 hc2 => ?_⟩
  · unfold den_X7_writes
    rw [hst, show (4 : Int32) + 10 * nI n = nI (4 + 10 * n) by rw [li4, li10, pk_mul, nI_add], nm_d, show (0 : Int32) = nI 0 from rfl, show (1 : Int32) = nI 1 from rfl, show (2 : Int32) = nI 2 from rfl, nI_add, nI_add, nI_add, gdI (by omega) (by omega), gdI (by omega) (by omega), gdI (by omega) (by omega), nI_clamp (by omega), nI_clamp (by omega), nI_clamp (by omega), ← hs0, e1, bnd_s, e2, bnd_s, e3, bnd_s, c3, nI_add]
  · rw [pk_un (by omega), hs2, fl_out (Or.inl (by omega)), a1 j (by omega)]
  · rw [pk_un (by omega), hs2, fl_out (Or.inl (by omega)), a1 j (by omega)]
  · rw [pk_un (by omega), hs2, fl_out (Or.inl (by omega)), b0]
  · rw [pk_un (by omega), hs2, fl_out (Or.inl (by omega)), b1]
  · rw [pk_un (by omega), hs2, fl_out (Or.inl (by omega)), b2]
  · rw [pk_un (by omega), hs2, fl_out (Or.inl (by omega)), b3 k hk]
  · rw [pk_un (by omega), hs2, fl_out (Or.inl (by omega)), a1' _ (by omega)]
  · obtain ⟨i, hi⟩ : ∃ i, c = F + i := ⟨c - F, by omega⟩
    subst hi
    rw [pk_un (by omega), hs2, ← Nat.add_assoc, fl_in (by omega), a1 0 (by omega)]
theorem k_write {se na un ma fi vo ba wr st : Nat → Int32} {bl : Int32} {ho hz mr : Int32} {hs : Nat → TV} {mh : Nat → Int32} (r : RT se bl na un ma fi vo ba wr st) (H : RHx ho hz hs mh mr) (fd : Nat → Int32) (p1 p2 p3 : Int32) (x : Int64) :
    ∃ v, ∃ (t : TV), ∃ a b c st' h' m' fd', den_X6_write se bl na un ma fi vo ba wr ho hz hs p1 p2 p3 x = some (v, t.2.1, t.2.2.1, t.2.2.2.1, t.2.2.2.2.1, t.2.2.2.2.2.1, t.2.2.2.2.2.2.1, t.2.2.2.2.2.2.2.1, t.2.2.2.2.2.2.2.2, a, b, c) ∧ den_X7_write st mh mr fd p1 p2 p3 x = some (v, st', h', m', fd') ∧ t.1 = se ∧ RTv t st' ∧ RHx a b c h' m' := by
  obtain ⟨q, e1, e2, hq⟩ := k_whyW r p1 p2 p3
  unfold den_X6_write den_X7_write
  rw [e1, e2, bnd_s, bnd_s]
  have bad : ∀ q : Int32, q ≠ 0 → ¬ (0 : Int32) ≤ q → ∃ v, ∃ (t : TV), ∃ a b c st' h' m' fd', (if q = (0 : Int32) then (bnd (den_X1_keep ho hz se bl na un ma fi vo ba wr hs) (fun q3 => bnd (den_X4_appendBlock se bl na un ma fi vo ba wr p1 p2 p3 x) (fun q4 => some (q4.1, q4.2.1, q4.2.2.1, q4.2.2.2.1, q4.2.2.2.2.1, q4.2.2.2.2.2.1, q4.2.2.2.2.2.2.1, q4.2.2.2.2.2.2.2.1, q4.2.2.2.2.2.2.2.2, q3.1, q3.2.1, q3.2.2)))) else some (q, bl, na, un, ma, fi, vo, ba, wr, ho, hz, hs)) = some (v, t.2.1, t.2.2.1, t.2.2.2.1, t.2.2.2.2.1, t.2.2.2.2.2.1, t.2.2.2.2.2.2.1, t.2.2.2.2.2.2.2.1, t.2.2.2.2.2.2.2.2, a, b, c) ∧ (if (0 : Int32) ≤ q then (bnd (den_X7_record st mh mr) (fun q3 => bnd (den_X7_write_L24 p3 x FU (0 : Int32) fd) (fun q4 => bnd (den_X7_writes st q4 p1 p2 p3) (fun q5 => some (q5.1, q5.2, q3.1, q3.2, q4))))) else some (q, st, mh, mr, fd)) = some (v, st', h', m', fd') ∧ t.1 = se ∧ RTv t st' ∧ RHx a b c h' m' := fun q h1 h2 => by
    rw [if_neg h1, if_neg h2]
    exact ⟨q, (se, bl, na, un, ma, fi, vo, ba, wr), ho, hz, hs, st, mh, mr, fd, rfl, rfl, rfl, r, H⟩
  rcases hq with ⟨hq, hn16, ⟨a, ha, ea⟩, ⟨m, hm1, hm, em⟩, hp2⟩ | hq | hq | hq
  · subst hq; subst em
    have w := r.1
    obtain ⟨a', b', c', h', m', x1, x2, x3⟩ := rec_x r H
    obtain ⟨wr', y1, y2, y3⟩ := c_append r hn16 hm1 hm p1 p2 x
    have ef := m_found_L (x := x) hm fd m FU 0 (by omega) (by rw [FU_eq]; omega)
    rw [fl_0, show nI 0 = (0 : Int32) from rfl] at ef
    obtain ⟨s3, z1, z2⟩ := m_writes w hn16 hm (N := uN x) (fd := fl fd 0 m (fun k => nI (bN (uN x) k))) (fun k hk => by
      have := fl_in (f := fd) (A := 0) (n := m) (g := fun k => nI (bN (uN x) k)) hk
      rw [Nat.zero_add] at this
      exact this) p1 p2
    have R2 := RT_app r rfl hn16 rfl hm1 hm rfl hp2 z2 rfl rfl rfl y2 y3
    rw [if_pos rfl, if_pos (show (0 : Int32) ≤ 0 by decide), x1, x2, bnd_s, bnd_s, y1, bnd_s, ef, bnd_s, z1, bnd_s]
    exact ⟨nI (nB st), (se, nI (nB st + 1), _, _, _, _, _, _, wr'), a', b', c', s3, h', m', _, rfl, rfl, rfl, R2, x3⟩
  · subst hq; exact bad _ (by decide) (by decide)
  · subst hq; exact bad _ (by decide) (by decide)
  · subst hq; exact bad _ (by decide) (by decide)
