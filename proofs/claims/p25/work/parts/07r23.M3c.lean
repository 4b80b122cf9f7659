/-! p25: the widest, the counts -/
theorem end_L {T : TV} {q bl st : Nat → Int32} {me : Nat → Int64} (r : RTv T st) (L : LB bl me st) (Q : QI q st) (R : RV) (B : Nat → Int32) (P : PV) (Y : HV) {q1 : Int32 × Int32 × Int32 × RV × (Nat → Int32)} {q2 : Int32 × Int32} (x1 : q1.1 = nI (setN (gL st 0) (nB st))) (x2 : q1.2.1 = nI (setN (gL st 1) (nB st))) (x3 : q1.2.2.1 = nI (rS st (nB st))) (x4 : q2.1 = nI (siN st (FF st (nB st)))) (x5 : q2.2 = nI (baN st (FF st (nB st)))) : ∃ z : RV × (Nat → Int32), (bnd (den_L_same_L1004 q bl q1 FU (-6 : Int32) (-6 : Int32) ((q 3) - (1 : Int32))) (fun q4 => bnd (wd_widest T R B (0 : Int32)) (fun q5 => if q5.1 = q4.1 then (bnd (wd_widest T q5.2.1 q5.2.2 (1 : Int32)) (fun q7 => if q7.1 = q4.2 then (bnd (wd_reached T q7.2.1 q7.2.2) (fun q9 => if q9.1 = q1.2.2.1 then (bnd (wd_count T q9.2.1 q9.2.2 P Y (0 : Int32)) (fun q11 => if q11.1 = (q 3) then (bnd (wd_count T q11.2.1 q11.2.2 P Y (1 : Int32)) (fun q13 => if q13.1 = (q 4) then (bnd (wd_count T q13.2.1 q13.2.2 P Y (2 : Int32)) (fun q15 => if q15.1 = q1.1 then (bnd (wd_count T q15.2.1 q15.2.2 P Y (3 : Int32)) (fun q17 => if q17.1 = q1.2.1 then (bnd (wd_count T q17.2.1 q17.2.2 P Y (4 : Int32)) (fun q19 => if q19.1 = q2.1 then (bnd (wd_count T q19.2.1 q19.2.2 P Y (5 : Int32)) (fun q21 => if q21.1 = q2.2 then (bnd (wd_count T q21.2.1 q21.2.2 P Y (6 : Int32)) (fun q23 => if q23.1 = (q 0) then (bnd (wd_count T q23.2.1 q23.2.2 P Y (7 : Int32)) (fun q25 => if q25.1 = (q 1) then (bnd (wd_count T q25.2.1 q25.2.2 P Y (8 : Int32)) (fun q27 => if q27.1 = (q 2) then (bnd (wd_of T q27.2.1 q27.2.2 (q 3) (0 : Int32)) (fun q29 => if q29.1 = (-1 : Int32) then (bnd (wd_cell T q29.2.1 q29.2.2 (q 4) (0 : Int32)) (fun q31 => if q31.1 = (-1 : Int32) then (some (q31.2.1, q31.2.2)) else (none))) else (none))) else (none))) else (none))) else (none))) else (none))) else (none))) else (none))) else (none))) else (none))) else (none))) else (none))) else (none))) else (none)))) = some z := by
  have w := r.1
  have h5 := L.1
  obtain ⟨g0, g1, g2, g3, g4⟩ := Q
  obtain ⟨y, z, e4, hb4⟩ := l_wide_L w L g3 x3 (nB st) FU (-6) (-6) (Nat.le_refl _) (by rw [FU_eq]; omega) (Or.inl ⟨rfl, rfl, fun j h1 h2 => by omega⟩)
  obtain ⟨y1, z1, hb1, ⟨R1, B1, d1⟩, -⟩ := a_widest r R B
  obtain ⟨y2, z2, hb2, -, ⟨R2, B2, d2⟩⟩ := a_widest r R1 B1
  have hy := (bst_one hb1 hb4).1
  have hz := (bst_one hb2 hb4).2
  subst hy
  subst hz
  obtain ⟨R3, d3⟩ := a_reached r R2 B2
  obtain ⟨R4, d4⟩ := a_countN r R3 B2 P Y (m_c0 w _ _ _)
  obtain ⟨R5, d5⟩ := a_countN r R4 B2 P Y (m_c1 w _ _ _)
  obtain ⟨R6, d6⟩ := a_countN r R5 B2 P Y (m_c2 w _ _ _)
  obtain ⟨R7, d7⟩ := a_countN r R6 B2 P Y (m_c3 w _ _ _)
  obtain ⟨R8, d8⟩ := a_countN r R7 B2 P Y (m_c4 w _ _ _)
  obtain ⟨R9, d9⟩ := a_countN r R8 B2 P Y (m_c5 w _ _ _)
  obtain ⟨Ra, da⟩ := a_countN r R9 B2 P Y (m_c6 _ _ _)
  obtain ⟨Rb, db⟩ := a_countN r Ra B2 P Y (m_c7 _ _ _)
  obtain ⟨Rc, dc⟩ := a_countN r Rb B2 P Y (m_c8 _ _ _)
  obtain ⟨Rd, dd⟩ := a_ofN r Rc B2 (m_ofX w (0 : Int32) _)
  have de := a_cellN r Rd B2 (m_cellX w (0 : Int32))
  refine ⟨(Rd, B2), ?_⟩
  rw [g3, e4, bnd_s, d1, bnd_s, if_pos rfl, d2, bnd_s, if_pos rfl, d3, bnd_s, x3, if_pos rfl, d4, bnd_s, if_pos rfl, d5, bnd_s, g4, if_pos rfl, d6, bnd_s, x1, if_pos rfl, d7, bnd_s, x2, if_pos rfl, d8, bnd_s, x4, if_pos rfl, d9, bnd_s, x5, if_pos rfl, da, bnd_s, g0, if_pos rfl, db, bnd_s, g1, if_pos rfl, dc, bnd_s, g2, if_pos rfl, dd, bnd_s, if_pos rfl, de, bnd_s, if_pos rfl]
