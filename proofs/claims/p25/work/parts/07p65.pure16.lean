/-! count; undo, save, restore -/
theorem k_silent_L {se na un ma fi vo ba wr st : Nat → Int32} {bl : Int32} (r : RT se bl na un ma fi vo ba wr st) : ∀ (d fu k : Nat) (y : Int32), k + d = FF st (nB st) → d < fu →
    ∃ v, den_X4_silentCells_L9 se vo (nI (FF st (nB st))) fu y (nI k) = some v ∧ den_X7_silentMany_L4 st fu y (nI k) = some v := by
  have w := r.1
  have hF := FF_2464 w (Nat.le_refl _)
  intro d
  induction d with
  | zero =>
    intro fu k y hk hf
    cases fu with
    | zero => omega
    | succ fu =>
      refine ⟨y, ?_, ?_⟩
      · rw [den_X4_silentCells_L9, if_pos (nI_le (by omega) (by omega))]
      · rw [den_X7_silentMany_L4, m_all w, bnd_s, if_pos (nI_le (by omega) (by omega))]
  | succ d ih =>
    intro fu k y hk hf
    cases fu with
    | zero => omega
    | succ fu =>
      have hc := r.2.2.2.2.2.1 k (by omega)
      have h2 := (w.c (c := k) (by omega)).2.2
      have hl := w.l.2
      have hn : ¬ nI (FF st (nB st)) ≤ nI k := nI_ge (by omega) (by omega)
      rw [den_X4_silentCells_L9, if_neg hn, gdI (by omega) (by omega), nI_clamp (by omega), hc.1, r.lev, den_X7_silentMany_L4, m_all w, bnd_s, if_neg hn, m_heard w (by omega), bnd_s, show nI k + (1 : Int32) = nI (k + 1) by rw [li1, nI_add]]
      by_cases c : lB st ≤ cB st k % 128
      · rw [if_pos (nI_le c (by omega)), if_pos c, if_neg (show ¬ (1 : Int32) = 0 by decide), bnd_s, Int32.add_zero]
        exact ih fu (k + 1) y (by omega) (by omega)
      · rw [if_neg (nI_ge (by omega) (by omega)), if_neg c, if_pos rfl, bnd_s]
        exact ih fu (k + 1) _ (by omega) (by omega)
theorem k_bad_L {se na un ma fi vo ba wr st : Nat → Int32} {bl : Int32} (r : RT se bl na un ma fi vo ba wr st) : ∀ (d fu k : Nat) (y : Int32), k + d = FF st (nB st) → d < fu →
    ∃ v, den_X4_badCells_L9 ba (nI (FF st (nB st))) fu y (nI k) = some v ∧ den_X7_badMany_L4 st fu y (nI k) = some v := by
  have w := r.1
  have hF := FF_2464 w (Nat.le_refl _)
  intro d
  induction d with
  | zero =>
    intro fu k y hk hf
    cases fu with
    | zero => omega
    | succ fu =>
      refine ⟨y, ?_, ?_⟩
      · rw [den_X4_badCells_L9, if_pos (nI_le (by omega) (by omega))]
      · rw [den_X7_badMany_L4, m_all w, bnd_s, if_pos (nI_le (by omega) (by omega))]
  | succ d ih =>
    intro fu k y hk hf
    cases fu with
    | zero => omega
    | succ fu =>
      have hc := r.2.2.2.2.2.1 k (by omega)
      rw [den_X4_badCells_L9, if_neg (nI_ge (by omega) (by omega)), gdI (by omega) (by omega), nI_clamp (by omega), hc.2, den_X7_badMany_L4, m_all w, bnd_s, if_neg (nI_ge (by omega) (by omega)), m_bad w (by omega), bnd_s, show nI k + (1 : Int32) = nI (k + 1) by rw [li1, nI_add]]
      exact ih fu (k + 1) _ (by omega) (by omega)
theorem k_count {se na un ma fi vo ba wr st : Nat → Int32} {bl : Int32} (r : RT se bl na un ma fi vo ba wr st) (a0 a1 : Int32) (a2 a3 : Nat → Int32) (a4 a5 : Int32) (a6 a7 fd : Nat → Int32) (pl hz p1 : Int32) :
    ∃ v m0 l0 v0 w0 m1 l1 v1 w1 fd', den_X6_count se bl ma fi vo ba wr a0 a1 a2 a3 a4 a5 a6 a7 pl hz p1 = some (v, m0, l0, v0, w0, m1, l1, v1, w1) ∧ den_X7_count st hz pl fd p1 = some (v, fd') := by
  have w := r.1
  have h16 := w.n16
  unfold den_X6_count den_X7_count
  by_cases d0 : p1 = 0
  · rw [if_pos d0, if_pos d0, r.2.2.1]
    exact ⟨_, _, _, _, _, _, _, _, _, _, rfl, rfl⟩
  rw [if_neg d0, if_neg d0]
  by_cases d1 : p1 = 1
  · rw [if_pos d1, if_pos d1, c_cellsN r, m_all w, bnd_s, bnd_s]
    exact ⟨_, _, _, _, _, _, _, _, _, _, rfl, rfl⟩
  rw [if_neg d1, if_neg d1]
  by_cases d2 : p1 = 2
  · obtain ⟨m0, l0, v0, w0, m1, l1, v1, w1, e⟩ := c_ls r (md := 0) (by omega) a0 a1 a2 a3 a4 a5 a6 a7
    obtain ⟨fd', e2⟩ := m_ls w (md := 0) (by omega) fd
    rw [show nI 0 = (0 : Int32) from rfl] at e e2
    rw [if_pos d2, if_pos d2, e, e2, bnd_s, bnd_s]
    exact ⟨_, _, _, _, _, _, _, _, _, _, rfl, rfl⟩
  rw [if_neg d2, if_neg d2]
  by_cases d3 : p1 = 3
  · obtain ⟨m0, l0, v0, w0, m1, l1, v1, w1, e⟩ := c_ls r (md := 1) (by omega) a0 a1 a2 a3 a4 a5 a6 a7
    obtain ⟨fd', e2⟩ := m_ls w (md := 1) (by omega) fd
    rw [show nI 1 = (1 : Int32) from rfl] at e e2
    rw [if_pos d3, if_pos d3, e, e2, bnd_s, bnd_s]
    exact ⟨_, _, _, _, _, _, _, _, _, _, rfl, rfl⟩
  rw [if_neg d3, if_neg d3]
  have hF := FF_2464 w (Nat.le_refl _)
  by_cases d4 : p1 = 4
  · obtain ⟨v, e, e2⟩ := k_silent_L r (FF st (nB st)) FU 0 0 (by omega) (by rw [FU_eq]; omega)
    rw [show nI 0 = (0 : Int32) from rfl] at e e2
    unfold den_X4_silentCells den_X7_silentMany
    rw [if_pos d4, if_pos d4, c_cellsN r, bnd_s, e, e2, bnd_s, bnd_s, bnd_s]
    exact ⟨_, _, _, _, _, _, _, _, _, _, rfl, rfl⟩
  rw [if_neg d4, if_neg d4]
  by_cases d5 : p1 = 5
  · obtain ⟨v, e, e2⟩ := k_bad_L r (FF st (nB st)) FU 0 0 (by omega) (by rw [FU_eq]; omega)
    rw [show nI 0 = (0 : Int32) from rfl] at e e2
    unfold den_X4_badCells den_X7_badMany
    rw [if_pos d5, if_pos d5, c_cellsN r, bnd_s, e, e2, bnd_s, bnd_s, bnd_s]
    exact ⟨_, _, _, _, _, _, _, _, _, _, rfl, rfl⟩
  rw [if_neg d5, if_neg d5]
  by_cases d6 : p1 = 6
  · subst d6
    rw [if_pos rfl, if_pos rfl, show (6 : Int32) - 6 = nI 0 by decide, gdI (by omega) (by omega), nI_clamp (by omega), r.2.1.1]
    exact ⟨_, _, _, _, _, _, _, _, _, _, rfl, rfl⟩
  rw [if_neg d6, if_neg d6]
  by_cases d7 : p1 = 7
  · subst d7
    rw [if_pos rfl, if_pos rfl, show (7 : Int32) - 6 = nI 1 by decide, gdI (by omega) (by omega), nI_clamp (by omega), r.2.1.2.1]
    exact ⟨_, _, _, _, _, _, _, _, _, _, rfl, rfl⟩
  rw [if_neg d7, if_neg d7]
  by_cases d8 : p1 = 8
  · subst d8
    rw [if_pos rfl, if_pos rfl, show (8 : Int32) - 6 = nI 2 by decide, gdI (by omega) (by omega), nI_clamp (by omega), r.2.1.2.2]
    exact ⟨_, _, _, _, _, _, _, _, _, _, rfl, rfl⟩
  rw [if_neg d8, if_neg d8]
  by_cases d9 : p1 = 9
  · rw [if_pos d9, if_pos d9]
    exact ⟨_, _, _, _, _, _, _, _, _, _, rfl, rfl⟩
  rw [if_neg d9, if_neg d9]
  by_cases d10 : p1 = 10
  · rw [if_pos d10, if_pos d10]
    exact ⟨_, _, _, _, _, _, _, _, _, _, rfl, rfl⟩
  rw [if_neg d10, if_neg d10]
  exact ⟨_, _, _, _, _, _, _, _, _, _, rfl, rfl⟩
theorem mv_at {a c : Nat → Int32} {f t n j : Nat} (h : j < n) : mv a f c t n (t + j) = a (f + j) := by
  unfold mv
  rw [if_pos (by omega)]
  exact congrArg a (by omega)
theorem k_undo {se na un ma fi vo ba wr st : Nat → Int32} {bl : Int32} {ho hz mr : Int32} {hs : Nat → TV} {mh : Nat → Int32} (r : RT se bl na un ma fi vo ba wr st) (H : RHx ho hz hs mh mr) :
    ∃ v, ∃ (t : TV), ∃ hz' st' mr', den_X6_undo se bl na un ma fi vo ba wr ho hz hs = some (v, t.1, t.2.1, t.2.2.1, t.2.2.2.1, t.2.2.2.2.1, t.2.2.2.2.2.1, t.2.2.2.2.2.2.1, t.2.2.2.2.2.2.2.1, t.2.2.2.2.2.2.2.2, hz') ∧ den_X7_undo st mh mr = some (v, st', mr') ∧ RTv t st' ∧ RHx ho hz' hs mh mr' := by
  obtain ⟨o, z, e1, e2, e3, hR⟩ := H
  subst e1; subst e2; subst e3
  obtain ⟨ho, hz, hr⟩ := hR
  unfold den_X6_undo den_X7_undo den_X1_takeBack
  by_cases c : z = 0
  · subst c
    rw [if_neg (show ¬ (0 : Int32) < nI 0 by decide), if_pos (show nI 0 = (0 : Int32) from rfl)]
    exact ⟨-5, (se, bl, na, un, ma, fi, vo, ba, wr), _, _, _, rfl, rfl, r, o, 0, rfl, rfl, rfl, ho, by omega, hr⟩
  · have hp : (0 : Int32) < nI z := nI_lt (a := 0) (by omega) (by omega)
    have hv := hr (z - 1) (by omega)
    obtain ⟨v, ev, rv⟩ := c_copy hv se bl na un ma fi vo ba wr
    rw [if_pos hp, if_neg (show ¬ nI z = (0 : Int32) by rw [nI_0iff (by omega)]; exact c), nI_add, li1, show nI (o + z) - nI 1 = nI (o + (z - 1)) by rw [nIs (by omega), show o + z - 1 = o + (z - 1) by omega], show nI z - nI 1 = nI (z - 1) from nIs (by omega), fm6 (by omega), bnd_s, gdI (by omega) (by omega), nI_clamp (by omega), nm_d, if_neg (show ¬ nI z ≤ (0 : Int32) from nI_ge (a := 0) (by omega) (by omega)), ev, bnd_s, bnd_s, show (2628 : Int32) = nI 2628 from rfl, pk_mul, show (0 : Int32) = nI 0 from rfl, m_moves mh st (by omega) (by omega) (by omega) (by omega), bnd_s]
    refine ⟨nI (z - 1), v, nI (z - 1), _, nI (z - 1), rfl, rfl, ?_, o, z - 1, rfl, rfl, rfl, ho, by omega, fun i hi => hr i (by omega)⟩
    refine ag_RT (fun j hj => ?_) rv
    have := mv_at (a := mh) (c := st) (f := (z - 1) * 2628) (t := 0) hj
    rw [Nat.zero_add] at this
    exact this
def RSx (xs : Nat → Int32) (ss : Nat → TV) (ms mi : Nat → Int32) : Prop := ∀ k, k < 2 → (xs k = 0 ∧ mi k = 0) ∨ (xs k = 1 ∧ mi k = 1 ∧ RTv (ss k) (fun j => ms (2628 * k + j)))
theorem k_save {se na un ma fi vo ba wr st : Nat → Int32} {bl : Int32} (r : RT se bl na un ma fi vo ba wr st) {xs ms mi : Nat → Int32} {ss : Nat → TV} (S : RSx xs ss ms mi) (p1 : Int32) :
    ∃ v xs' ss' ms' mi', den_X6_save se bl na un ma fi vo ba wr xs ss p1 = some (v, xs', ss') ∧ den_X7_save st ms mi p1 = some (v, ms', mi') ∧ RSx xs' ss' ms' mi' := by
  unfold den_X6_save den_X7_save
  rw [m_within, bnd_s]
  by_cases c : p1 < 0
  · rw [if_pos c, if_pos c, if_pos rfl]; exact ⟨_, _, _, _, _, rfl, rfl, S⟩
  obtain ⟨k, hk, e⟩ := nI_of c
  subst e
  rw [if_neg c, if_neg c]
  by_cases c2 : k < 2
  · obtain ⟨v, ev, rv⟩ := c_copy r (ss k).1 (ss k).2.1 (ss k).2.2.1 (ss k).2.2.2.1 (ss k).2.2.2.2.1 (ss k).2.2.2.2.2.1 (ss k).2.2.2.2.2.2.1 (ss k).2.2.2.2.2.2.2.1 (ss k).2.2.2.2.2.2.2.2
    rw [if_pos (show nI k < (2 : Int32) from nI_lt (b := 2) c2 (by omega)), if_neg (show ¬ (1 : Int32) < nI k from nI_nlt (b := k) (a := 1) (by omega) (by omega)), if_neg (show ¬ (1 : Int32) = 0 by decide), gdI (by omega) (by omega), nI_clamp hk, nm_d, ev, bnd_s, show (2628 : Int32) = nI 2628 from rfl, pk_mul, show (0 : Int32) = nI 0 from rfl, m_moves st ms (by omega) (by omega) (by omega) (by omega), bnd_s, gdI (by omega) (by omega), r.2.2.1]
    refine ⟨_, _, _, _, _, rfl, rfl, fun j hj => ?_⟩
    by_cases e : j = k
    · subst e
      refine Or.inr ⟨?_, by rw [pk_us], ?_⟩
      · rw [pk_us]
      · unfold va_up
        rw [if_pos rfl]
        exact ag_RT (fun i hi => by
          have := mv_at (a := st) (c := ms) (f := 0) (t := 2628 * j) hi
          rw [Nat.zero_add] at this
          exact this) rv
    · rcases S j hj with ⟨s1, s2⟩ | ⟨s1, s2, s3⟩
      · exact Or.inl ⟨by rw [pk_un e]; exact s1, by rw [pk_un e]; exact s2⟩
      · refine Or.inr ⟨by rw [pk_un e]; exact s1, by rw [pk_un e]; exact s2, ?_⟩
        unfold va_up
        rw [if_neg e]
        refine ag_RT (fun i hi => ?_) s3
        show mv st 0 ms (2628 * k) 2628 (2628 * j + i) = ms (2628 * j + i)
        unfold mv
        rw [if_neg (by omega)]
  · rw [if_neg (show ¬ nI k < (2 : Int32) from nI_nlt (a := k) (b := 2) (by omega) (by omega)), if_pos (show (1 : Int32) < nI k from nI_lt (a := 1) (by omega) (by omega)), if_pos rfl]
    exact ⟨_, _, _, _, _, rfl, rfl, S⟩
theorem k_restore {se na un ma fi vo ba wr st : Nat → Int32} {bl : Int32} {ho hz mr : Int32} {hs : Nat → TV} {mh : Nat → Int32} (r : RT se bl na un ma fi vo ba wr st) (H : RHx ho hz hs mh mr) {xs ms mi : Nat → Int32} {ss : Nat → TV} (S : RSx xs ss ms mi) (p1 : Int32) :
    ∃ v, ∃ (t : TV), ∃ a b c st' h' m', den_X6_restore se bl na un ma fi vo ba wr ho hz xs hs ss p1 = some (v, t.1, t.2.1, t.2.2.1, t.2.2.2.1, t.2.2.2.2.1, t.2.2.2.2.2.1, t.2.2.2.2.2.2.1, t.2.2.2.2.2.2.2.1, t.2.2.2.2.2.2.2.2, a, b, c) ∧ den_X7_restore st mh mr ms mi p1 = some (v, st', h', m') ∧ RTv t st' ∧ RHx a b c h' m' := by
  unfold den_X6_restore den_X7_restore
  rw [m_within, bnd_s]
  have bad : ∀ q : Int32, ∃ v, ∃ (t : TV), ∃ a b c st' h' m', some (q, se, bl, na, un, ma, fi, vo, ba, wr, ho, hz, hs) = some (v, t.1, t.2.1, t.2.2.1, t.2.2.2.1, t.2.2.2.2.1, t.2.2.2.2.2.1, t.2.2.2.2.2.2.1, t.2.2.2.2.2.2.2.1, t.2.2.2.2.2.2.2.2, a, b, c) ∧ some (q, st, mh, mr) = some (v, st', h', m') ∧ RTv t st' ∧ RHx a b c h' m' := fun q => ⟨q, (se, bl, na, un, ma, fi, vo, ba, wr), ho, hz, hs, st, mh, mr, rfl, rfl, r, H⟩
  by_cases c : p1 < 0
  · rw [if_pos c, if_pos c, if_pos rfl]; exact bad _
  obtain ⟨k, hk, e⟩ := nI_of c
  subst e
  rw [if_neg c, if_neg c]
  by_cases c2 : k < 2
  · rw [if_pos (show nI k < (2 : Int32) from nI_lt (b := 2) c2 (by omega)), if_neg (show ¬ (1 : Int32) < nI k from nI_nlt (b := k) (a := 1) (by omega) (by omega)), if_neg (show ¬ (1 : Int32) = 0 by decide), gdI (by omega) (by omega), gdI (by omega) (by omega), nI_clamp hk, nm_d]
    rcases S k c2 with ⟨s1, s2⟩ | ⟨s1, s2, s3⟩
    · rw [s1, s2, if_pos rfl, if_pos rfl]; exact bad _
    · obtain ⟨a', b', c', h', m', x1, x2, x3⟩ := rec_x r H
      obtain ⟨v, ev, rv⟩ := c_copy s3 se bl na un ma fi vo ba wr
      rw [s1, s2, if_neg (show ¬ (1 : Int32) = 0 by decide), if_neg (show ¬ (1 : Int32) = 0 by decide), x1, x2, bnd_s, bnd_s, ev, bnd_s, show (2628 : Int32) = nI 2628 from rfl, pk_mul, show (0 : Int32) = nI 0 from rfl, m_moves ms st (by omega) (by omega) (by omega) (by omega), bnd_s]
      have rt : RTv v (mv ms (2628 * k) st 0 2628) := ag_RT (fun j hj => by
        have := mv_at (a := ms) (c := st) (f := 2628 * k) (t := 0) hj
        rw [Nat.zero_add] at this
        exact this) rv
      exact ⟨v.2.1, v, a', b', c', _, h', m', rfl, by rw [rt.2.2.1], rt, x3⟩
  · rw [if_neg (show ¬ nI k < (2 : Int32) from nI_nlt (a := k) (b := 2) (by omega) (by omega)), if_pos (show (1 : Int32) < nI k from nI_lt (a := 1) (by omega) (by omega)), if_pos rfl]
    exact bad _
