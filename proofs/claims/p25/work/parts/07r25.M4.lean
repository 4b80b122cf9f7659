/-! p25: the acts: set, wipeLast, spoil, fade: each keeps the law's rows beside the tape -/
def INV (q bl : Nat → Int32) (me : Nat → Int64) (T : TV) (Y : HV) : Prop := ∃ (st mh : Nat → Int32) (mr : Int32), RTv T st ∧ LB bl me st ∧ QI q st ∧ RHx Y.1 Y.2.1 Y.2.2 mh mr
theorem ag_LBb {bl st s2 : Nat → Int32} {n b : Nat} (h : agN n st s2) (hb : b < n) (l : LBb bl st b) : LBb bl s2 b := by
  obtain ⟨a0, a1, a2, a3, a4, a5⟩ := l
  refine ⟨by rw [ag_mB h hb]; exact a0, by rw [h _ (by omega) (by omega)]; exact a1, by rw [h _ (by omega) (by omega)]; exact a2, by rw [ag_mB h hb]; exact a3, by rw [ag_FF h (by omega)]; exact a4, fun k hk => ?_⟩
  rw [ag_mB h hb, ag_yB h hb (by omega)]
  exact a5 k hk
theorem QI_ag {q st s2 : Nat → Int32} (h16 : nB st ≤ 16) (h : ∀ j, j < 164 → s2 j = st j) (Q : QI q st) : QI q s2 := by
  obtain ⟨g0, g1, g2, g3, g4⟩ := Q
  have hn : nB s2 = nB st := nB_of (h 3 (by omega))
  have hN : agN 16 st s2 := fun j _ h2 => h j (by omega)
  refine ⟨by rw [h 0 (by omega)]; exact g0, by rw [h 1 (by omega)]; exact g1, by rw [h 2 (by omega)]; exact g2, by rw [hn]; exact g3, by rw [hn, ag_FF hN h16]; exact g4⟩
theorem LB_cell {bl st : Nat → Int32} {me : Nat → Int64} (L : LB bl me st) {c x : Nat} (hx : x < 256) : LB bl (vp_updL me (c / 8) (lyL (me (c / 8)) (c % 8) x)) (upd st (164 + c) (nI x)) := by
  have h5 := L.1
  have hn : nB (upd st (164 + c) (nI x)) = nB st := nB_of (pk_un (by omega))
  have hN : agN 16 st (upd st (164 + c) (nI x)) := fun j _ h2 => pk_un (by omega)
  refine ⟨by rw [hn]; exact h5, fun b hb => ?_, fun d hd => ?_⟩
  · rw [hn] at hb; exact ag_LBb hN (by omega) (L.2.1 b hb)
  · rw [hn, ag_FF hN (by omega)] at hd
    rw [mN_lay me hx]
    by_cases e : d = c
    · subst e
      rw [if_pos rfl]
      unfold cB
      rw [pk_us, nI_clamp (by omega)]
    · rw [if_neg e, cB_of (pk_un (by omega))]; exact L.2.2 d hd
theorem a_set {T : TV} {Y : HV} {st mh : Nat → Int32} {mr : Int32} (r : RTv T st) (H : RHx Y.1 Y.2.1 Y.2.2 mh mr) {k v : Nat} (hk : k < 3) (hv : v ≤ mxS k) : ∃ (T' : TV) (Y' : HV) (mh' : Nat → Int32) (mr' : Int32), wd_set T Y (nI k) (nI v) = some (st k, T', Y') ∧ RTv T' (upd st k (nI v)) ∧ RHx Y'.1 Y'.2.1 Y'.2.2 mh' mr' := by
  obtain ⟨v', se', a, b, c, st', h', m', e1, e2, r', H'⟩ := k_set r H (nI k) (nI v)
  obtain ⟨a2, b2, c2, h2, m2, x1, x2, x3⟩ := rec_x r H
  have hm := mxS_le k
  have e : den_X7_set st mh mr (nI k) (nI v) = some (st k, upd st k (nI v), h2, m2) := by
    unfold den_X7_set
    rw [m_isValue hk, bnd_s, if_neg (nI_pos (by omega)), if_neg (nI_nlt hv (by omega)), if_neg (show ¬ (1 : Int32) = 0 by decide), x2, bnd_s, gdI (by omega) (by omega), gdI (by omega) (by omega), nI_clamp (by omega)]
  rw [e] at e2
  cases e2
  exact ⟨(se', T.2.1, T.2.2.1, T.2.2.2.1, T.2.2.2.2.1, T.2.2.2.2.2.1, T.2.2.2.2.2.2.1, T.2.2.2.2.2.2.2.1, T.2.2.2.2.2.2.2.2), (a, b, c), h', m', by unfold wd_set; rw [e1, bnd_s], r', H'⟩
theorem a_wipe0 {T : TV} {Y : HV} {st mh : Nat → Int32} {mr : Int32} (r : RTv T st) (H : RHx Y.1 Y.2.1 Y.2.2 mh mr) (hn : nB st = 0) : ∃ (T' : TV) (Y' : HV) (mh' : Nat → Int32) (mr' : Int32), wd_wipeLast T Y = some (-5, T', Y') ∧ RTv T' st ∧ RHx Y'.1 Y'.2.1 Y'.2.2 mh' mr' := by
  obtain ⟨v', bl', a, b, c, st', h', m', e1, e2, r', H'⟩ := k_wipeLast r H
  have e : den_X7_wipeLast st mh mr = some (-5, st, mh, mr) := by
    unfold den_X7_wipeLast
    rw [if_pos (show st 3 = 0 by rw [r.1.n, hn]; rfl)]
  rw [e] at e2
  cases e2
  exact ⟨(T.1, bl', T.2.2.1, T.2.2.2.1, T.2.2.2.2.1, T.2.2.2.2.2.1, T.2.2.2.2.2.2.1, T.2.2.2.2.2.2.2.1, T.2.2.2.2.2.2.2.2), (a, b, c), mh, mr, by unfold wd_wipeLast; rw [e1, bnd_s], r', H'⟩
theorem a_wipe1 {T : TV} {Y : HV} {st mh : Nat → Int32} {mr : Int32} (r : RTv T st) (H : RHx Y.1 Y.2.1 Y.2.2 mh mr) (hn : 0 < nB st) : ∃ (T' : TV) (Y' : HV) (mh' : Nat → Int32) (mr' : Int32), wd_wipeLast T Y = some (nI (nB st - 1), T', Y') ∧ RTv T' (upd st 3 (nI (nB st - 1))) ∧ RHx Y'.1 Y'.2.1 Y'.2.2 mh' mr' := by
  have h16 := r.1.n16
  obtain ⟨v', bl', a, b, c, st', h', m', e1, e2, r', H'⟩ := k_wipeLast r H
  obtain ⟨a2, b2, c2, h2, m2, x1, x2, x3⟩ := rec_x r H
  have e : den_X7_wipeLast st mh mr = some (nI (nB st - 1), upd st 3 (nI (nB st - 1)), h2, m2) := by
    unfold den_X7_wipeLast
    rw [r.1.n, if_neg (show ¬ nI (nB st) = (0 : Int32) by rw [nI_0iff (by omega)]; omega), x2, bnd_s, li1, nIs (by omega), pk_us]
  rw [e] at e2
  cases e2
  exact ⟨(T.1, bl', T.2.2.1, T.2.2.2.1, T.2.2.2.2.1, T.2.2.2.2.2.1, T.2.2.2.2.2.2.1, T.2.2.2.2.2.2.2.1, T.2.2.2.2.2.2.2.2), (a, b, c), h', m', by unfold wd_wipeLast; rw [e1, bnd_s], r', H'⟩
theorem wipe_INV {T' : TV} {Y' : HV} {q bl st mh' : Nat → Int32} {me : Nat → Int64} {mr' : Int32} (w : WF st) (L : LB bl me st) (Q : QI q st) (hn : 0 < nB st) (r' : RTv T' (upd st 3 (nI (nB st - 1)))) (H' : RHx Y'.1 Y'.2.1 Y'.2.2 mh' mr') : INV (upd (upd q 3 (nI (nB st - 1))) 4 (nI (FF st (nB st - 1)))) bl me T' Y' := by
  have h5 := L.1
  have hnB : nB (upd st 3 (nI (nB st - 1))) = nB st - 1 := by
    show ((upd st 3 (nI (nB st - 1))) 3).toNatClampNeg = _
    rw [pk_us, nI_clamp (by omega)]
  have hN : agN 16 st (upd st 3 (nI (nB st - 1))) := fun j h1 h2 => pk_un (by omega)
  have hm := FF_mono (st := st) (show nB st - 1 ≤ nB st by omega)
  obtain ⟨g0, g1, g2, g3, g4⟩ := Q
  refine ⟨upd st 3 (nI (nB st - 1)), mh', mr', r', ⟨by rw [hnB]; omega, fun b hb => ?_, fun d hd => ?_⟩, ⟨?_, ?_, ?_, ?_, ?_⟩, H'⟩
  · rw [hnB] at hb; exact ag_LBb hN (by omega) (L.2.1 b (by omega))
  · rw [hnB, ag_FF hN (by omega)] at hd
    rw [cB_of (pk_un (by omega))]; exact L.2.2 d (by omega)
  · rw [pk_un (by omega), pk_un (by omega), pk_un (by omega)]; exact g0
  · rw [pk_un (by omega), pk_un (by omega), pk_un (by omega)]; exact g1
  · rw [pk_un (by omega), pk_un (by omega), pk_un (by omega)]; exact g2
  · rw [pk_un (by omega), pk_us, hnB]
  · rw [pk_us, hnB, ag_FF hN (by omega)]
theorem x128 : ∀ v : Fin 256, (v.1 ^^^ 128) < 256 ∧ (v.1 ^^^ 128) % 128 = v.1 % 128 ∧ (v.1 ^^^ 128) / 128 = 1 - v.1 / 128 := by decide +kernel
theorem a_spoil {T : TV} {Y : HV} {st mh : Nat → Int32} {mr : Int32} (r : RTv T st) (H : RHx Y.1 Y.2.1 Y.2.2 mh mr) {c x : Nat} (hc : c < FF st (nB st)) (ex : x = cB st c ^^^ 128) : ∃ (T' : TV) (Y' : HV) (mh' : Nat → Int32) (mr' : Int32), wd_spoil T Y (nI c) = some (nI (x / 128), T', Y') ∧ RTv T' (upd st (164 + c) (nI x)) ∧ RHx Y'.1 Y'.2.1 Y'.2.2 mh' mr' := by
  have w := r.1
  have hF := FF_2464 w (Nat.le_refl _)
  have hw := w.c hc
  obtain ⟨v', ba', a, b, c', st', h', m', e1, e2, r', H'⟩ := k_spoil r H (nI c)
  obtain ⟨a2, b2, c2, h2, m2, x1, x2, x3⟩ := rec_x r H
  obtain ⟨hx1, hx2, hx3⟩ := x128 ⟨_, hw.2.1⟩
  rw [← ex] at hx1 hx2 hx3
  have hx2 : x % 128 = cB st c % 128 := hx2
  have hx3 : x / 128 = 1 - cB st c / 128 := hx3
  have hx4 : st (164 + c) + (if nI (cB st c / 128) = (1 : Int32) then (-128 : Int32) else 128) = nI x := by
    have h2 : cB st c / 128 = 0 ∨ cB st c / 128 = 1 := by omega
    rcases h2 with e | e
    · rw [e, if_neg (show ¬ nI 0 = (1 : Int32) by decide), hw.1, li128, nI_add, show cB st c + 128 = x by omega]
    · rw [e, if_pos (show nI 1 = (1 : Int32) from rfl), hw.1, show (-128 : Int32) = - nI 128 from rfl, ← Int32.sub_eq_add_neg, nIs (by omega), show cB st c - 128 = x by omega]
  have r2 := RT_cell1 r (c := c) (x := x) hx1 (by omega)
  have w2 := r2.1
  have e5 : cB (upd st (164 + c) (nI x)) c = x := by unfold cB; rw [pk_us, nI_clamp (by omega)]
  have et : den_X7_turns st (nI c) = some (nI (x / 128), upd st (164 + c) (nI x)) := by
    unfold den_X7_turns
    rw [m_bad w hc, bnd_s, li164, nI_add, gdI (by omega) (by omega)]
    rw [show (if nI (cB st c / 128) = (1 : Int32) then some (-128 : Int32) else some 128) = some (if nI (cB st c / 128) = (1 : Int32) then (-128 : Int32) else 128) by split <;> rfl, bnd_s, gdI (by omega) (by omega), nI_clamp (by omega), hx4, m_bad w2 (by rw [up_FF w]; exact hc), bnd_s, e5]
  have e : den_X7_spoil st mh mr (nI c) = some (nI (x / 128), upd st (164 + c) (nI x), h2, m2) := by
    unfold den_X7_spoil
    rw [m_isC w, bnd_s, if_pos (isB_t hc hF), if_neg (show ¬ (1 : Int32) = 0 by decide), x2, bnd_s, et, bnd_s]
  rw [e] at e2
  cases e2
  exact ⟨(T.1, T.2.1, T.2.2.1, T.2.2.2.1, T.2.2.2.2.1, T.2.2.2.2.2.1, T.2.2.2.2.2.2.1, ba', T.2.2.2.2.2.2.2.2), (a, b, c'), h', m', by unfold wd_spoil; rw [e1, bnd_s], r', H'⟩
theorem a_spoil0 {T : TV} {Y : HV} {st mh : Nat → Int32} {mr : Int32} (r : RTv T st) (H : RHx Y.1 Y.2.1 Y.2.2 mh mr) (hF : FF st (nB st) = 0) : ∃ (T' : TV) (Y' : HV) (mh' : Nat → Int32) (mr' : Int32), wd_spoil T Y (0 : Int32) = some (-1, T', Y') ∧ RTv T' st ∧ RHx Y'.1 Y'.2.1 Y'.2.2 mh' mr' := by
  have w := r.1
  obtain ⟨v', ba', a, b, c', st', h', m', e1, e2, r', H'⟩ := k_spoil r H 0
  have e : den_X7_spoil st mh mr (0 : Int32) = some (-1, st, mh, mr) := by
    unfold den_X7_spoil
    rw [m_isC w, bnd_s, hF, if_neg (show ¬ isB 0 (0 : Int32) = true from isB_f (n := 0) (by omega)), if_pos rfl]
  rw [e] at e2
  cases e2
  exact ⟨(T.1, T.2.1, T.2.2.1, T.2.2.2.1, T.2.2.2.2.1, T.2.2.2.2.2.1, T.2.2.2.2.2.2.1, ba', T.2.2.2.2.2.2.2.2), (a, b, c'), mh, mr, by unfold wd_spoil; rw [e1, bnd_s], r', H'⟩
theorem spoil_L {q bl : Nat → Int32} (y : Int32) : ∀ (d fu k : Nat) (me : Nat → Int64) (T : TV) (Y : HV) (st mh : Nat → Int32) (mr : Int32), k + d = 2 → d < fu → RTv T st → LB bl me st → QI q st → RHx Y.1 Y.2.1 Y.2.2 mh mr → 0 < FF st (nB st) →
    ∃ (me' : Nat → Int64) (T' : TV) (Y' : HV), den_L_law_L441 q y fu (nI k) me T Y = some (me', T', Y') ∧ INV q bl me' T' Y' := by
  intro d
  induction d with
  | zero =>
    intro fu k me T Y st mh mr hk hf r L Q H hF
    cases fu with
    | zero => omega
    | succ fu =>
      have : k = 2 := by omega
      subst this
      exact ⟨me, T, Y, by rw [den_L_law_L441, if_pos (show (2 : Int32) ≤ nI 2 by decide)], st, mh, mr, r, L, Q, H⟩
  | succ d ih =>
    intro fu k me T Y st mh mr hk hf r L Q H hF
    cases fu with
    | zero => omega
    | succ fu =>
      have w := r.1
      have hF4 := FF_410 L
      obtain ⟨c, hc, ec⟩ := l_low (y >>> (((5 : Int32) * nI k) &&& 31)) hF (by omega)
      have hcc := w.c hc
      obtain ⟨x, ex⟩ : ∃ x, x = cB st c ^^^ 128 := ⟨_, rfl⟩
      have hx1 : x < 256 := by rw [ex]; exact (x128 ⟨_, hcc.2.1⟩).1
      obtain ⟨T2, Y2, mh2, mr2, e1, r2, H2⟩ := a_spoil r H hc ex
      have L2 := LB_cell L (c := c) hx1
      have Q2 := QI_ag (s2 := upd st (164 + c) (nI x)) (by have := L.1; omega) (fun j hj => pk_un (by omega)) Q
      have hF2 := up_FF w (c := c) (v := nI x)
      obtain ⟨me', T', Y', e2, I⟩ := ih fu (k + 1) _ T2 Y2 _ mh2 mr2 (by omega) (by omega) r2 L2 Q2 H2 (by rw [hF2]; exact hF)
      have em : den_L_mem 64 (vp_updL me (c / 8) (lyL (me (c / 8)) (c % 8) x)) (nI c) = some (nI x) := by
        rw [l_mem0 _ (by omega), mN_lay me hx1, if_pos rfl]
      refine ⟨me', T', Y', ?_, I⟩
      rw [den_L_law_L441, if_neg (show ¬ (2 : Int32) ≤ nI k from nI_ge (b := 2) (by omega) (by omega)), Q.2.2.2.2, ec, bnd_s, l_mem L hc, bnd_s, show nI (cB st c) ^^^ (128 : Int32) = nI x by rw [ex, li128, fb_xorI], l_lay0 me (by omega), bnd_s, e1, bnd_s, em, bnd_s, if_pos (show nI (x / 128) = nI x / (128 : Int32) by rw [li128, pk_div (by omega) (by omega) (by omega)]), show nI k + (1 : Int32) = nI (k + 1) by rw [li1, nI_add]]
      exact e2
theorem fade_L {q : Nat → Int32} {se bl na un ma fi ba wr : Nat → Int32} {b1 : Int32} {F b v : Nat} (hb : b < F) (hF : F ≤ 410) (hv : v ≤ 99) : ∀ (d fu n : Nat) (y : Int32) (vo st : Nat → Int32) (me : Nat → Int64), n + d = b + 1 → d < fu → RT se b1 na un ma fi vo ba wr st → LB bl me st → FF st (nB st) = F → QI q st →
    ∃ (y' : Int32) (me' : Nat → Int64) (st' : Nat → Int32), den_L_law_L597 (nI b) (nI v) fu y (nI n) me = some (y', me') ∧ den_X7_fades_L6 (nI b) (nI v) fu y (nI n) st = some (y', st') ∧ LB bl me' st' ∧ QI q st' := by
  intro d
  induction d with
  | zero =>
    intro fu n y vo st me hn hf r L hFF Q
    cases fu with
    | zero => omega
    | succ fu =>
      refine ⟨y, me, st, ?_, ?_, L, Q⟩
      · rw [den_L_law_L597, if_pos (nI_lt (by omega) (by omega))]
      · rw [den_X7_fades_L6, if_pos (nI_lt (by omega) (by omega))]
  | succ d ih =>
    intro fu n y vo st me hn hf r L hFF Q
    cases fu with
    | zero => omega
    | succ fu =>
      have w := r.1
      have hc : n < FF st (nB st) := by omega
      have hw := w.c hc
      have er : nI (cB st n) - nI (cB st n) / (128 : Int32) * (128 : Int32) = nI (cB st n % 128) := by rw [li128, pk_rem (by omega) (by omega) (by omega)]
      rw [den_L_law_L597, if_neg (show ¬ nI b < nI n from nI_nlt (by omega) (by omega)), l_mem L hc, bnd_s, er]
      rw [den_X7_fades_L6, if_neg (show ¬ nI b < nI n from nI_nlt (by omega) (by omega)), m_vol w hc]
      by_cases c : cB st n % 128 ≤ v
      · rw [if_neg (nI_nlt c (by omega)), bnd_s, if_pos (nI_le c (by omega)), bnd_s, if_pos rfl, bnd_s, if_pos rfl, li164, nI_add, gdI (by omega) (by omega), bnd_s, gdI (by omega) (by omega), nI_clamp (by omega), upd_self rfl, li1, nI_add, show y + 0 = y from Int32.add_zero y]
        exact ih fu (n + 1) y vo st me (by omega) (by omega) r L hFF Q
      · have hge : ¬ nI (cB st n % 128) ≤ nI v := nI_ge (by omega) (by omega)
        have hx : v + 128 * (cB st n / 128) < 256 := by omega
        have r2 := RT_cell1 r (c := n) (x := v + 128 * (cB st n / 128)) hx (by omega)
        have hcc := r.2.2.2.2.2.1 n hc
        rw [show (v + 128 * (cB st n / 128)) / 128 = cB st n / 128 by omega, upd_self hcc.2] at r2
        have L2 := LB_cell L (c := n) hx
        have Q2 := QI_ag (s2 := upd st (164 + n) (nI (v + 128 * (cB st n / 128)))) (by have := L.1; omega) (fun j hj => pk_un (by omega)) Q
        rw [if_pos (show nI v < nI (cB st n % 128) from nI_lt (by omega) (by omega)), bnd_s, show nI (cB st n) / (128 : Int32) * (128 : Int32) + nI v = nI (v + 128 * (cB st n / 128)) by rw [li128, pk_div (by omega) (by omega) (by omega), pk_mul, nI_add, Nat.mul_comm, Nat.add_comm], l_lay0 me (by omega), bnd_s]
        rw [bnd_s, if_neg hge, bnd_s, if_neg (show ¬ (1 : Int32) = 0 by decide), bnd_s, if_neg (show ¬ (1 : Int32) = 0 by decide), m_bad w hc, bnd_s, bnd_s, li164, nI_add, gdI (by omega) (by omega), nI_clamp (by omega), li128, pk_mul, nI_add, show nI n + (1 : Int32) = nI (n + 1) by rw [li1, nI_add]]
        exact ih fu (n + 1) _ _ _ _ (by omega) (by omega) r2 L2 (by rw [up_FF w]; exact hFF) Q2
theorem a_fade {T : TV} {Y : HV} {q bl st mh : Nat → Int32} {me : Nat → Int64} {mr : Int32} (r : RTv T st) (L : LB bl me st) (Q : QI q st) (H : RHx Y.1 Y.2.1 Y.2.2 mh mr) {a b v : Nat} (ha : a ≤ b) (hb : b < FF st (nB st)) (hv : v ≤ 99) : ∃ (y : Int32) (me' : Nat → Int64) (T' : TV) (Y' : HV), den_L_law_L597 (nI b) (nI v) FU (0 : Int32) (nI a) me = some (y, me') ∧ wd_fade T Y (nI a) (nI b) (nI v) = some (y, T', Y') ∧ INV q bl me' T' Y' := by
  have w := r.1
  have hF := FF_410 L
  obtain ⟨v', vo', x, y, z, st', h', m', e1, e2, r', H'⟩ := k_fade r H (nI a) (nI b) (nI v)
  obtain ⟨a2, b2, c2, h2, m2, x1, x2, x3⟩ := rec_x r H
  obtain ⟨y2, me2, st2, f1, f2, L2, Q2⟩ := fade_L hb hF hv (b + 1 - a) FU a 0 _ st me (by omega) (by rw [FU_eq]; omega) r L rfl Q
  have ew : den_X7_whyNotFaded st (nI a) (nI b) (nI v) = some 0 := by
    unfold den_X7_whyNotFaded
    rw [m_isC w, bnd_s, if_pos (isB_t (show a < FF st (nB st) by omega) (by omega)), if_neg (show ¬ (1 : Int32) = 0 by decide), m_isC w, bnd_s, if_pos (isB_t hb (by omega)), if_neg (show ¬ (1 : Int32) = 0 by decide), if_neg (nI_nlt ha (by omega)), m_within, bnd_s, if_neg (nI_pos (by omega)), if_neg (show ¬ (99 : Int32) < nI v from nI_nlt (b := v) (a := 99) hv (by omega)), if_neg (show ¬ (1 : Int32) = 0 by decide)]
  have e : den_X7_fade st mh mr (nI a) (nI b) (nI v) = some (y2, st2, h2, m2) := by
    unfold den_X7_fade
    rw [ew, bnd_s, if_pos (show (0 : Int32) ≤ 0 by decide), x2, bnd_s]
    unfold den_X7_fades
    rw [f2, bnd_s, bnd_s]
  rw [e] at e2
  cases e2
  exact ⟨v', me2, (T.1, T.2.1, T.2.2.1, T.2.2.2.1, T.2.2.2.2.1, T.2.2.2.2.2.1, vo', T.2.2.2.2.2.2.2.1, T.2.2.2.2.2.2.2.2), (x, y, z), f1, by unfold wd_fade; rw [e1, bnd_s], st', h', m', r', L2, Q2, H'⟩
