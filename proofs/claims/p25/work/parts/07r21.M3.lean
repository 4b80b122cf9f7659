/-! p25: one cell, the order by a counter, the greatest LEAST, weak cells; the widest, the counts: same has its answer -/
def QI (q st : Nat → Int32) : Prop := q 0 = st 0 ∧ q 1 = st 1 ∧ q 2 = st 2 ∧ q 3 = nI (nB st) ∧ q 4 = nI (FF st (nB st))
theorem isB_f {n : Nat} (hn : n ≤ 2464) : ¬ isB n (nI n) = true := by
  unfold isB
  rw [nI_clamp (by omega), decide_eq_false (show ¬ n < n by omega), Bool.and_false]
  decide
theorem setN_0 {g : Nat → Bool} (h : ∀ k, g k = false) : ∀ n, setN g n = 0
  | 0 => rfl
  | n + 1 => by
    show setN g n + (if g n = true then 2 ^ n else 0) = 0
    rw [setN_0 h n, h n]
    rfl
theorem a_cellN {T : TV} {st : Nat → Int32} (r : RTv T st) (R : RV) (B : Nat → Int32) {p1 p2 v : Int32} (h : den_X7_cell st p1 p2 = some v) : wd_cell T R B p1 p2 = some (v, R, B) := by
  obtain ⟨v', e1, e2⟩ := a_cell r R B p1 p2
  rw [h] at e2
  cases e2
  exact e1
theorem a_countN {T : TV} {st : Nat → Int32} (r : RTv T st) (R : RV) (B : Nat → Int32) (P : PV) (Y : HV) {p1 v : Int32} (h : ∃ fd', den_X7_count st Y.2.1 P.2.1 (fun _ => 0) p1 = some (v, fd')) : ∃ R' : RV, wd_count T R B P Y p1 = some (v, R', B) := by
  obtain ⟨v', R', fd', e1, e2⟩ := a_count r R B P Y p1 (fun _ => 0)
  obtain ⟨fd2, e3⟩ := h
  rw [e3] at e2
  cases e2
  exact ⟨R', e1⟩
theorem m_c0 {st : Nat → Int32} (w : WF st) (hz pl : Int32) (fd : Nat → Int32) : ∃ fd', den_X7_count st hz pl fd (0 : Int32) = some (nI (nB st), fd') := by
  refine ⟨fd, ?_⟩
  unfold den_X7_count
  rw [if_pos rfl, w.n]
theorem m_c1 {st : Nat → Int32} (w : WF st) (hz pl : Int32) (fd : Nat → Int32) : ∃ fd', den_X7_count st hz pl fd (1 : Int32) = some (nI (FF st (nB st)), fd') := by
  refine ⟨fd, ?_⟩
  unfold den_X7_count
  rw [if_neg (show ¬ (1 : Int32) = 0 by decide), if_pos rfl, m_all w, bnd_s]
theorem m_c2 {st : Nat → Int32} (w : WF st) (hz pl : Int32) (fd : Nat → Int32) : ∃ fd', den_X7_count st hz pl fd (2 : Int32) = some (nI (setN (gL st 0) (nB st)), fd') := by
  obtain ⟨fd', e⟩ := m_ls w (md := 0) (by omega) fd
  rw [show nI 0 = (0 : Int32) from rfl] at e
  refine ⟨fd', ?_⟩
  unfold den_X7_count
  rw [if_neg (show ¬ (2 : Int32) = 0 by decide), if_neg (show ¬ (2 : Int32) = 1 by decide), if_pos rfl, e, bnd_s]
theorem m_c3 {st : Nat → Int32} (w : WF st) (hz pl : Int32) (fd : Nat → Int32) : ∃ fd', den_X7_count st hz pl fd (3 : Int32) = some (nI (setN (gL st 1) (nB st)), fd') := by
  obtain ⟨fd', e⟩ := m_ls w (md := 1) (by omega) fd
  rw [show nI 1 = (1 : Int32) from rfl] at e
  refine ⟨fd', ?_⟩
  unfold den_X7_count
  rw [if_neg (show ¬ (3 : Int32) = 0 by decide), if_neg (show ¬ (3 : Int32) = 1 by decide), if_neg (show ¬ (3 : Int32) = 2 by decide), if_pos rfl, e, bnd_s]
theorem m_c4 {st : Nat → Int32} (w : WF st) (hz pl : Int32) (fd : Nat → Int32) : ∃ fd', den_X7_count st hz pl fd (4 : Int32) = some (nI (siN st (FF st (nB st))), fd') := by
  refine ⟨fd, ?_⟩
  unfold den_X7_count
  rw [if_neg (show ¬ (4 : Int32) = 0 by decide), if_neg (show ¬ (4 : Int32) = 1 by decide), if_neg (show ¬ (4 : Int32) = 2 by decide), if_neg (show ¬ (4 : Int32) = 3 by decide), if_pos rfl, m_silent w, bnd_s]
theorem m_c5 {st : Nat → Int32} (w : WF st) (hz pl : Int32) (fd : Nat → Int32) : ∃ fd', den_X7_count st hz pl fd (5 : Int32) = some (nI (baN st (FF st (nB st))), fd') := by
  refine ⟨fd, ?_⟩
  unfold den_X7_count
  rw [if_neg (show ¬ (5 : Int32) = 0 by decide), if_neg (show ¬ (5 : Int32) = 1 by decide), if_neg (show ¬ (5 : Int32) = 2 by decide), if_neg (show ¬ (5 : Int32) = 3 by decide), if_neg (show ¬ (5 : Int32) = 4 by decide), if_pos rfl, m_badN w, bnd_s]
theorem m_c6 {st : Nat → Int32} (hz pl : Int32) (fd : Nat → Int32) : ∃ fd', den_X7_count st hz pl fd (6 : Int32) = some (st 0, fd') := by
  refine ⟨fd, ?_⟩
  unfold den_X7_count
  rw [if_neg (show ¬ (6 : Int32) = 0 by decide), if_neg (show ¬ (6 : Int32) = 1 by decide), if_neg (show ¬ (6 : Int32) = 2 by decide), if_neg (show ¬ (6 : Int32) = 3 by decide), if_neg (show ¬ (6 : Int32) = 4 by decide), if_neg (show ¬ (6 : Int32) = 5 by decide), if_pos rfl, show (6 : Int32) - 6 = nI 0 by decide, gdI (by omega) (by omega), nI_clamp (by omega)]
theorem m_c7 {st : Nat → Int32} (hz pl : Int32) (fd : Nat → Int32) : ∃ fd', den_X7_count st hz pl fd (7 : Int32) = some (st 1, fd') := by
  refine ⟨fd, ?_⟩
  unfold den_X7_count
  rw [if_neg (show ¬ (7 : Int32) = 0 by decide), if_neg (show ¬ (7 : Int32) = 1 by decide), if_neg (show ¬ (7 : Int32) = 2 by decide), if_neg (show ¬ (7 : Int32) = 3 by decide), if_neg (show ¬ (7 : Int32) = 4 by decide), if_neg (show ¬ (7 : Int32) = 5 by decide), if_neg (show ¬ (7 : Int32) = 6 by decide), if_pos rfl, show (7 : Int32) - 6 = nI 1 by decide, gdI (by omega) (by omega), nI_clamp (by omega)]
theorem m_c8 {st : Nat → Int32} (hz pl : Int32) (fd : Nat → Int32) : ∃ fd', den_X7_count st hz pl fd (8 : Int32) = some (st 2, fd') := by
  refine ⟨fd, ?_⟩
  unfold den_X7_count
  rw [if_neg (show ¬ (8 : Int32) = 0 by decide), if_neg (show ¬ (8 : Int32) = 1 by decide), if_neg (show ¬ (8 : Int32) = 2 by decide), if_neg (show ¬ (8 : Int32) = 3 by decide), if_neg (show ¬ (8 : Int32) = 4 by decide), if_neg (show ¬ (8 : Int32) = 5 by decide), if_neg (show ¬ (8 : Int32) = 6 by decide), if_neg (show ¬ (8 : Int32) = 7 by decide), if_pos rfl, show (8 : Int32) - 6 = nI 2 by decide, gdI (by omega) (by omega), nI_clamp (by omega)]
theorem m_ofX {st : Nat → Int32} (w : WF st) (p2 : Int32) (fd : Nat → Int32) : ∃ fd', den_X7_of st fd (nI (nB st)) p2 = some (-1, fd') := by
  have h16 := w.n16
  refine ⟨fd, ?_⟩
  unfold den_X7_of
  rw [m_isB w, bnd_s, if_neg (isB_f (by omega)), if_pos rfl]
theorem m_cellX {st : Nat → Int32} (w : WF st) (p2 : Int32) : den_X7_cell st (nI (FF st (nB st))) p2 = some (-1) := by
  unfold den_X7_cell
  rw [m_isC w, bnd_s, if_neg (isB_f (FF_2464 w (Nat.le_refl _))), if_pos rfl]
theorem mid_L {T : TV} {q bl st : Nat → Int32} {me : Nat → Int64} (r : RTv T st) (L : LB bl me st) (Q : QI q st) (R : RV) (B : Nat → Int32) (p2 : Int32) : ∃ R' : RV, (if (q 3) ≤ 0 then (some (R, B)) else (bnd (den_L_low p2 (q 4)) (fun q49 => bnd (den_L_same_L539 q bl q49 FU (0 : Int32)) (fun q50 => gd (inb (((8 : Int32) * q50) + (3 : Int32)) 48) (nm (q49 - (bl (((8 : Int32) * q50) + (3 : Int32)).toNatClampNeg)) (fun x52 => bnd (den_L_size 48 bl q50) (fun q53 => gd (decide (¬ q53 = 0)) (bnd (den_L_size 48 bl q50) (fun q55 => gd (decide (¬ q55 = 0)) (bnd (if (x52 / q53) = (2 : Int32) then (some (0 : Int32)) else (if 0 ≤ ((x52 - x52 / q55 * q55) - (4 : Int32)) then (bnd (den_L_nine 48 64 bl me q50 (x52 / q53) (((x52 - x52 / q55 * q55) - (4 : Int32)) / (9 : Int32))) (fun q110 => some ((q110 >>> ((((x52 - x52 / q55 * q55) - (4 : Int32)) - ((x52 - x52 / q55 * q55) - (4 : Int32)) / (9 : Int32) * (9 : Int32)) &&& 31)) &&& (1 : Int32)))) else (some (0 : Int32)))) (fun q57 => bnd (wd_cell T R B q49 (0 : Int32)) (fun q58 => bnd (den_L_mem 64 me q49) (fun q59 => if q58.1 = (q59 - q59 / (128 : Int32) * (128 : Int32)) then (bnd (wd_cell T q58.2.1 q58.2.2 q49 (1 : Int32)) (fun q61 => bnd (den_L_mem 64 me q49) (fun q62 => if q61.1 = (q62 / (128 : Int32)) then (bnd (wd_cell T q61.2.1 q61.2.2 q49 (2 : Int32)) (fun q64 => if q64.1 = q57 then (bnd (wd_cell T q64.2.1 q64.2.2 q49 (3 : Int32)) (fun q66 => if q66.1 = q50 then (bnd (wd_cell T q66.2.1 q66.2.2 q49 (4 : Int32)) (fun q68 => if q68.1 = (x52 / q53) then (bnd (wd_cell T q68.2.1 q68.2.2 q49 (5 : Int32)) (fun q70 => bnd (den_L_counter 5 q q49) (fun q71 => if q70.1 = q71 then (bnd (den_L_low (p2 >>> ((6 : Int32) &&& 31)) (1000 : Int32)) (fun q73 => bnd (den_L_same_L762 q bl T q73 FU (0 : Int32) (0 : Int32) q70.2.1 q70.2.2) (fun q74 => bnd (den_L_low (p2 >>> ((3 : Int32) &&& 31)) (q 3)) (fun q75 => bnd (den_L_same_L876 bl me q75 FU (99 : Int32)) (fun q76 => bnd (wd_mostLeast T q74.1 q74.2 q75) (fun q77 => bnd (if 0 ≤ q76 then (some q76) else (some (-6 : Int32))) (fun q78 => if q77.1 = q78 then (bnd (den_L_same_L928 q bl me T q75 FU (0 : Int32) q77.2.1 q77.2.2) (fun q80 => some (q80.1, q80.2))) else (none)))))))) else (none)))) else (none))) else (none))) else (none))) else (none)))) else (none)))))))))))))) = some (R', B) := by
  have w := r.1
  have h5 := L.1
  have hl := w.l
  obtain ⟨g0, g1, g2, g3, g4⟩ := Q
  by_cases hn : nB st = 0
  · exact ⟨R, by rw [g3, if_pos (show nI (nB st) ≤ 0 by rw [hn]; decide)]⟩
  have hF := FF_410 L
  have hF0 : 0 < FF st (nB st) := by
    have h1 := FF_mono (st := st) (show 0 + 1 ≤ nB st by omega)
    have h2 : FF st (0 + 1) = FF st 0 + (2 * tl st 0 + 2) := rfl
    omega
  obtain ⟨c, hc, ec⟩ := l_low p2 hF0 (by omega)
  obtain ⟨b, hb, h1, h2⟩ := blk_of hc
  obtain ⟨p, hp, ep⟩ := l_low (p2 >>> ((6 : Int32) &&& 31)) (n := 1000) (by omega) (by omega)
  obtain ⟨k, hk, ek⟩ := l_low (p2 >>> ((3 : Int32) &&& 31)) (n := nB st) (by omega) (by omega)
  rw [show nI 1000 = (1000 : Int32) from rfl] at ep
  have eb := l_blk_L w L g3 hb h1 h2 b FU 0 (by omega) (by rw [FU_eq]; omega)
  rw [show nI 0 = (0 : Int32) from rfl] at eb
  obtain ⟨-, -, -, -, lf, -⟩ := L.2.1 b hb
  have htl := tl_le w hb
  have ht4 : 4 < tl st b := by unfold tl; omega
  have hz : ¬ nI (tl st b) = (0 : Int32) := fun z => by rw [nI_0iff (by omega)] at z; omega
  obtain ⟨c0, c1, c2, c3, c4, c5⟩ := m_cell w hb h1 h2
  have hcc := (w.c hc).2.1
  have en := near_L r L g2 g3 hp R B (nB st) FU 0 (by omega) (by rw [FU_eq]; omega)
  rw [setN_0 (fun z => decide_eq_false (by omega)) (nB st), show nI 0 = (0 : Int32) from rfl] at en
  obtain ⟨y, R1, ey, em⟩ := a_most r L R B hk
  obtain ⟨R2, ew⟩ := weak_L r L g1 hk R1 B
  have e78 : (if (0 : Int32) ≤ y then some y else some (-6 : Int32)) = some (if (0 : Int32) ≤ y then y else -6) := by split <;> rfl
  refine ⟨R2, ?_⟩
  have hs1 : nI (c - FF st b) / nI (tl st b) = nI ((c - FF st b) / tl st b) := pk_div (by omega) (by omega) (by omega)
  have hs2 : nI (c - FF st b) - nI ((c - FF st b) / tl st b) * nI (tl st b) = nI ((c - FF st b) % tl st b) := by
    rw [← hs1, pk_rem (by omega) (by omega) (by omega)]
  rw [g3, if_neg (show ¬ nI (nB st) ≤ 0 from nI_ge (a := 0) (by omega) (by omega)), g4, ec, bnd_s, eb, bnd_s, show (8 : Int32) * nI b = nI (8 * b) by rw [li8, pk_mul], show nI (8 * b) + (3 : Int32) = nI (8 * b + 3) by rw [li3, nI_add], gdI (by omega) (by omega), nI_clamp (by omega), lf, nIs h1, nm_d, l_size L hb, bnd_s, gd_t (decide_eq_true hz), bnd_s, gd_t (decide_eq_true hz), hs1, hs2, l_cbit w L hb h1 h2, bnd_s, a_cellN r R B c0, bnd_s, l_mem L hc, bnd_s, show nI (cB st c) - nI (cB st c) / (128 : Int32) * (128 : Int32) = nI (cB st c % 128) by rw [li128, pk_rem (by omega) (by omega) (by omega)], if_pos rfl, a_cellN r R B c1, bnd_s, bnd_s, show nI (cB st c) / (128 : Int32) = nI (cB st c / 128) by rw [li128, pk_div (by omega) (by omega) (by omega)], if_pos rfl, a_cellN r R B c2, bnd_s, if_pos rfl, a_cellN r R B c3, bnd_s, if_pos rfl, a_cellN r R B c4, bnd_s, if_pos rfl, a_cellN r R B c5, bnd_s, l_counter g2, bnd_s, if_pos rfl, ep, bnd_s, en, bnd_s, ek, bnd_s, ey, bnd_s, em, bnd_s, e78, bnd_s, if_pos rfl, ew, bnd_s]
theorem end_L {T : TV} {q bl st : Nat → Int32} {me : Nat → Int64} (r : RTv T st) (L : LB bl me st) (Q : QI q st) (R : RV) (B : Nat → Int32) (P : PV) (Y : HV) {q1 : Int32 × Int32 × Int32 × RV × (Nat → Int32)} {q2 : Int32 × Int32} (x1 : q1.1 = nI (setN (gL st 0) (nB st))) (x2 : q1.2.1 = nI (setN (gL st 1) (nB st))) (x3 : q1.2.2.1 = nI (rS st (nB st))) (x4 : q2.1 = nI (siN st (FF st (nB st)))) (x5 : q2.2 = nI (baN st (FF st (nB st)))) : ∃ z : RV × (Nat → Int32), (bnd (den_L_same_L1004 q bl q1 FU (-6 : Int32) (-6 : Int32) ((q 3) - (1 : Int32))) (fun q4 => bnd (wd_widest T R B (0 : Int32)) (fun q5 => if q5.1 = q4.1 then (bnd (wd_widest T q5.2.1 q5.2.2 (1 : Int32)) (fun q7 => if q7.1 = q4.2 then (bnd (wd_reached T q7.2.1 q7.2.2) (fun q9 => if q9.1 = q1.2.2.1 then (bnd (wd_count T q9.2.1 q9.2.2 P Y (0 : Int32)) (fun q11 => if q11.1 = (q 3) then (bnd (wd_count T q11.2.1 q11.2.2 P Y (1 : Int32)) (fun q13 => if q13.1 = (q 4) then (bnd (wd_count T q13.2.1 q13.2.2 P Y (2 : Int32)) (fun q15 => if q15.1 = q1.1 then (bnd (wd_count T q15.2.1 q15.2.2 P Y (3 : Int32)) (fun q17 => if q17.1 = q1.2.1 then (bnd (wd_count T q17.2.1 q17.2.2 P Y (4 : Int32)) (fun q19 => if q19.1 = q2.1 then (bnd (wd_count T q19.2.1 q19.2.2 P Y (5 : Int32)) (fun q21 => if q21.1 = q2.2 then (bnd (wd_count T q21.2.1 q21.2.2 P Y (6 : Int32)) (fun q23 => if q23.1 = (q 0) then (bnd (wd_count T q23.2.1 q23.2.2 P Y (7 : Int32)) (fun q25 => if q25.1 = (q 1) then (bnd (wd_count T q25.2.1 q25.2.2 P Y (8 : Int32)) (fun q27 => if q27.1 = (q 2) then (bnd (wd_of T q27.2.1 q27.2.2 (q 3) (0 : Int32)) (fun q29 => if q29.1 = (-1 : Int32) then (bnd (wd_cell T q29.2.1 q29.2.2 (q 4) (0 : Int32)) (fun q31 => if q31.1 = (-1 : Int32) then (some (q31.2.1, q31.2.2)) else (none))) else (none))) else (none))) else (none))) else (none))) else (none))) else (none))) else (none))) else (none))) else (none))) else (none))) else (none))) else (none))) else (none)))) = some z := by
  have w := r.1
  have h5 := L.1
  obtain ⟨g0, g1, g2, g3, g4⟩ := Q
  obtain ⟨y, z, e4, hb4⟩ := l_wide_L w L g3 x3 (nB st) FU (-6) (-6) (Nat.le_refl _) (by rw [FU_eq]; omega) (Or.inl ⟨rfl, rfl, fun j h1 h2 => by omega⟩)
  obtain ⟨y1, z1, hb1, ⟨R1, B1, d1⟩, -⟩ := a_widest r R B
  obtain ⟨y2, z2, hb2, -, ⟨R2, B2, d2⟩⟩ := a_widest r R1 B1
  have hy := (bst_one hb1 hb4).1
  have hz := (bst_one hb2 hb4).2
  subst hy
  subst hz
  obtain ⟨R3, d3⟩ := a_reached r R2 B2
  obtain ⟨R4, d4⟩ := a_countN r R3 B2 P Y (m_c0 w _ _ _)
  obtain ⟨R5, d5⟩ := a_countN r R4 B2 P Y (m_c1 w _ _ _)
  obtain ⟨R6, d6⟩ := a_countN r R5 B2 P Y (m_c2 w _ _ _)
  obtain ⟨R7, d7⟩ := a_countN r R6 B2 P Y (m_c3 w _ _ _)
  obtain ⟨R8, d8⟩ := a_countN r R7 B2 P Y (m_c4 w _ _ _)
  obtain ⟨R9, d9⟩ := a_countN r R8 B2 P Y (m_c5 w _ _ _)
  obtain ⟨Ra, da⟩ := a_countN r R9 B2 P Y (m_c6 _ _ _)
  obtain ⟨Rb, db⟩ := a_countN r Ra B2 P Y (m_c7 _ _ _)
  obtain ⟨Rc, dc⟩ := a_countN r Rb B2 P Y (m_c8 _ _ _)
  obtain ⟨Rd, dd⟩ := a_ofN r Rc B2 (m_ofX w (0 : Int32) _)
  have de := a_cellN r Rd B2 (m_cellX w (0 : Int32))
  refine ⟨(Rd, B2), ?_⟩
  rw [g3, e4, bnd_s, d1, bnd_s, if_pos rfl, d2, bnd_s, if_pos rfl, d3, bnd_s, x3, if_pos rfl, d4, bnd_s, if_pos rfl, d5, bnd_s, g4, if_pos rfl, d6, bnd_s, x1, if_pos rfl, d7, bnd_s, x2, if_pos rfl, d8, bnd_s, x4, if_pos rfl, d9, bnd_s, x5, if_pos rfl, da, bnd_s, g0, if_pos rfl, db, bnd_s, g1, if_pos rfl, dc, bnd_s, g2, if_pos rfl, dd, bnd_s, if_pos rfl, de, bnd_s, if_pos rfl]
theorem same_some {T : TV} {q bl st : Nat → Int32} {me : Nat → Int64} (r : RTv T st) (L : LB bl me st) (Q : QI q st) (R : RV) (Y : HV) (B : Nat → Int32) (P : PV) (p2 : Int32) : ∃ z : RV × (Nat → Int32), den_L_same q bl me T R Y B P p2 = some z := by
  have w := r.1
  have hF := FF_410 L
  obtain ⟨R1, e1⟩ := l_first r L Q.2.1 Q.2.2.1 Q.2.2.2.1 R B
  have e2 := l_sil_L w L Q.2.1 Q.2.2.2.2 (FF st (nB st)) FU 0 (by omega) (by rw [FU_eq]; omega)
  rw [show nI (siN st 0) = (0 : Int32) from rfl, show nI (baN st 0) = (0 : Int32) from rfl, show nI 0 = (0 : Int32) from rfl] at e2
  obtain ⟨R2, e3⟩ := mid_L r L Q R1 B p2
  obtain ⟨z, e4⟩ := end_L r L Q R2 B P Y (q1 := (nI (setN (gL st 0) (nB st)), nI (setN (gL st 1) (nB st)), nI (rS st (nB st)), R1, B)) (q2 := (nI (siN st (FF st (nB st))), nI (baN st (FF st (nB st))))) rfl rfl rfl rfl rfl
  refine ⟨z, ?_⟩
  unfold den_L_same
  rw [e1, bnd_s, e2, bnd_s]
  refine (congrArg (fun o => bnd o _) e3).trans ?_
  exact e4
