/-! p25: one cell, the order, the greatest LEAST, weak cells -/
theorem mid_L {T : TV} {q bl st : Nat → Int32} {me : Nat → Int64} (r : RTv T st) (L : LB bl me st) (Q : QI q st) (R : RV) (B : Nat → Int32) (p2 : Int32) : ∃ R' : RV, (if (q 3) ≤ 0 then (some (R, B)) else (bnd (den_L_low p2 (q 4)) (fun q49 => bnd (den_L_same_L539 q bl q49 FU (0 : Int32)) (fun q50 => gd (inb (((8 : Int32) * q50) + (3 : Int32)) 48) (nm (q49 - (bl (((8 : Int32) * q50) + (3 : Int32)).toNatClampNeg)) (fun x52 => bnd (den_L_size 48 bl q50) (fun q53 => gd (decide (¬ q53 = 0)) (bnd (den_L_size 48 bl q50) (fun q55 => gd (decide (¬ q55 = 0)) (bnd (if (x52 / q53) = (2 : Int32) then (some (0 : Int32)) else (if 0 ≤ ((x52 - x52 / q55 * q55) - (4 : Int32)) then (bnd (den_L_nine 48 64 bl me q50 (x52 / q53) (((x52 - x52 / q55 * q55) - (4 : Int32)) / (9 : Int32))) (fun q110 => some ((q110 >>> ((((x52 - x52 / q55 * q55) - (4 : Int32)) - ((x52 - x52 / q55 * q55) - (4 : Int32)) / (9 : Int32) * (9 : Int32)) &&& 31)) &&& (1 : Int32)))) else (some (0 : Int32)))) (fun q57 => bnd (wd_cell T R B q49 (0 : Int32)) (fun q58 => bnd (den_L_mem 64 me q49) (fun q59 => if q58.1 = (q59 - q59 / (128 : Int32) * (128 : Int32)) then (bnd (wd_cell T q58.2.1 q58.2.2 q49 (1 : Int32)) (fun q61 => bnd (den_L_mem 64 me q49) (fun q62 => if q61.1 = (q62 / (128 : Int32)) then (bnd (wd_cell T q61.2.1 q61.2.2 q49 (2 : Int32)) (fun q64 => if q64.1 = q57 then (bnd (wd_cell T q64.2.1 q64.2.2 q49 (3 : Int32)) (fun q66 => if q66.1 = q50 then (bnd (wd_cell T q66.2.1 q66.2.2 q49 (4 : Int32)) (fun q68 => if q68.1 = (x52 / q53) then (bnd (wd_cell T q68.2.1 q68.2.2 q49 (5 : Int32)) (fun q70 => bnd (den_L_counter 5 q q49) (fun q71 => if q70.1 = q71 then (bnd (den_L_low (p2 >>> ((6 : Int32) &&& 31)) (1000 : Int32)) (fun q73 => bnd (den_L_same_L762 q bl T q73 FU (0 : Int32) (0 : Int32) q70.2.1 q70.2.2) (fun q74 => bnd (den_L_low (p2 >>> ((3 : Int32) &&& 31)) (q 3)) (fun q75 => bnd (den_L_same_L876 bl me q75 FU (99 : Int32)) (fun q76 => bnd (wd_mostLeast T q74.1 q74.2 q75) (fun q77 => bnd (if 0 ≤ q76 then (some q76) else (some (-6 : Int32))) (fun q78 => if q77.1 = q78 then (bnd (den_L_same_L928 q bl me T q75 FU (0 : Int32) q77.2.1 q77.2.2) (fun q80 => some (q80.1, q80.2))) else (none)))))))) else (none)))) else (none))) else (none))) else (none))) else (none)))) else (none)))))))))))))) = some (R', B) := by
  have w := r.1
  have h5 := L.1
  have hl := w.l
  obtain ⟨g0, g1, g2, g3, g4⟩ := Q
  by_cases hn : nB st = 0
  · exact ⟨R, by rw [g3, if_pos (show nI (nB st) ≤ 0 by rw [hn]; decide)]⟩
  have hF := FF_410 L
  have hF0 : 0 < FF st (nB st) := by
    have h1 := FF_mono (st := st) (show 0 + 1 ≤ nB st by omega)
    have h2 : FF st (0 + 1) = FF st 0 + (2 * tl st 0 + 2) := rfl
    omega
  obtain ⟨c, hc, ec⟩ := l_low p2 hF0 (by omega)
  obtain ⟨b, hb, h1, h2⟩ := blk_of hc
  obtain ⟨p, hp, ep⟩ := l_low (p2 >>> ((6 : Int32) &&& 31)) (n := 1000) (by omega) (by omega)
  obtain ⟨k, hk, ek⟩ := l_low (p2 >>> ((3 : Int32) &&& 31)) (n := nB st) (by omega) (by omega)
  rw [show nI 1000 = (1000 : Int32) from rfl] at ep
  have eb := l_blk_L w L g3 hb h1 h2 b FU 0 (by omega) (by rw [FU_eq]; omega)
  rw [show nI 0 = (0 : Int32) from rfl] at eb
  obtain ⟨-, -, -, -, lf, -⟩ := L.2.1 b hb
  have htl := tl_le w hb
  have ht4 : 4 < tl st b := by unfold tl; omega
  have hz : ¬ nI (tl st b) = (0 : Int32) := fun z => by rw [nI_0iff (by omega)] at z; omega
  obtain ⟨c0, c1, c2, c3, c4, c5⟩ := m_cell w hb h1 h2
  have hcc := (w.c hc).2.1
  have en := near_L r L g2 g3 hp R B (nB st) FU 0 (by omega) (by rw [FU_eq]; omega)
  rw [setN_0 (g := Dn st (nI p) 0) (fun z => by unfold Dn; exact decide_eq_false (by omega)) (nB st), show nI 0 = (0 : Int32) from rfl] at en
  obtain ⟨y, R1, ey, em⟩ := a_most r L R B hk
  obtain ⟨R2, ew⟩ := weak_L r L g1 hk R1 B
  have e78 : (if (0 : Int32) ≤ y then some y else some (-6 : Int32)) = some (if (0 : Int32) ≤ y then y else -6) := by split <;> rfl
  refine ⟨R2, ?_⟩
  have hs1 : nI (c - FF st b) / nI (tl st b) = nI ((c - FF st b) / tl st b) := pk_div (by omega) (by omega) (by omega)
  have hs2 : nI (c - FF st b) - nI ((c - FF st b) / tl st b) * nI (tl st b) = nI ((c - FF st b) % tl st b) := by
    rw [← hs1, pk_rem (by omega) (by omega) (by omega)]
  rw [g3, if_neg (show ¬ nI (nB st) ≤ 0 from nI_ge (a := 0) (by omega) (by omega)), g4, ec, bnd_s, eb, bnd_s, show (8 : Int32) * nI b = nI (8 * b) by rw [li8, pk_mul], show nI (8 * b) + (3 : Int32) = nI (8 * b + 3) by rw [li3, nI_add], gdI (by omega) (by omega), nI_clamp (by omega), lf, nIs h1, nm_d, l_size L hb, bnd_s, gd_t (decide_eq_true hz), bnd_s, gd_t (decide_eq_true hz), hs1, hs2, l_cbit w L hb h1 h2, bnd_s, a_cellN r R B c0, bnd_s, l_mem L hc, bnd_s, show nI (cB st c) - nI (cB st c) / (128 : Int32) * (128 : Int32) = nI (cB st c % 128) by rw [li128, pk_rem (by omega) (by omega) (by omega)], if_pos rfl, a_cellN r R B c1, bnd_s, bnd_s, show nI (cB st c) / (128 : Int32) = nI (cB st c / 128) by rw [li128, pk_div (by omega) (by omega) (by omega)], if_pos rfl, a_cellN r R B c2, bnd_s, if_pos rfl, a_cellN r R B c3, bnd_s, if_pos rfl, a_cellN r R B c4, bnd_s, if_pos rfl, a_cellN r R B c5, bnd_s, l_counter g2, bnd_s, if_pos rfl, ep, bnd_s, en, bnd_s, ek, bnd_s, ey, bnd_s, em, bnd_s, e78, bnd_s, if_pos rfl, ew, bnd_s]
