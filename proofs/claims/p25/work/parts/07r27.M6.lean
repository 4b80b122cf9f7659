/-! p25: every act, every turn: the law answers 1 -/
theorem set_INV {T' : TV} {Y' : HV} {q bl st mh' : Nat → Int32} {me : Nat → Int64} {mr' : Int32} (w : WF st) (L : LB bl me st) (Q : QI q st) {k : Nat} (hk : k < 3) (v : Int32) (r' : RTv T' (upd st k v)) (H' : RHx Y'.1 Y'.2.1 Y'.2.2 mh' mr') : INV (upd q k v) bl me T' Y' := by
  have h5 := L.1
  have hn : nB (upd st k v) = nB st := nB_of (pk_un (by omega))
  have hN : agN 16 st (upd st k v) := fun j h1 h2 => pk_un (by omega)
  obtain ⟨g0, g1, g2, g3, g4⟩ := Q
  have hu : ∀ j, q j = st j → upd q k v j = upd st k v j := fun j h => by
    by_cases e : j = k
    · subst e; rw [pk_us, pk_us]
    · rw [pk_un e, pk_un e, h]
  refine ⟨upd st k v, mh', mr', r', ⟨by rw [hn]; exact h5, fun b hb => ?_, fun d hd => ?_⟩, ⟨hu 0 g0, hu 1 g1, hu 2 g2, ?_, ?_⟩, H'⟩
  · rw [hn] at hb; exact ag_LBb hN (by omega) (L.2.1 b hb)
  · rw [hn, ag_FF hN (by omega)] at hd
    rw [cB_of (pk_un (by omega))]; exact L.2.2 d hd
  · rw [pk_un (by omega), hn]; exact g3
  · rw [pk_un (by omega), hn, ag_FF hN (by omega)]; exact g4
theorem wipe_act {T : TV} {Y : HV} {q bl st mh : Nat → Int32} {me : Nat → Int64} {mr : Int32} (r : RTv T st) (L : LB bl me st) (Q : QI q st) (H : RHx Y.1 Y.2.1 Y.2.2 mh mr) :
    ∃ (q' bl' : Nat → Int32) (me' : Nat → Int64) (T' : TV) (Y' : HV), (bnd (wd_wipeLast T Y) (fun q53 => bnd (if (q 3) ≤ 0 then (some (-5 : Int32)) else (some ((q 3) - (1 : Int32)))) (fun q54 => if q53.1 = q54 then (if (q 3) ≤ 0 then (some (q, bl, me, q53.2.1, q53.2.2)) else (gd (inb (((8 : Int32) * ((q 3) - (1 : Int32))) + (3 : Int32)) 48) (some ((upd (upd q 3 ((q 3) - (1 : Int32))) 4 (bl (((8 : Int32) * ((q 3) - (1 : Int32))) + (3 : Int32)).toNatClampNeg)), bl, me, q53.2.1, q53.2.2)))) else (none)))) = some (q', bl', me', T', Y') ∧ INV q' bl' me' T' Y' := by
  have w := r.1
  have h5 := L.1
  have g3 := Q.2.2.2.1
  by_cases hn : nB st = 0
  · obtain ⟨T', Y', mh', mr', e, r', H'⟩ := a_wipe0 r H hn
    refine ⟨q, bl, me, T', Y', ?_, st, mh', mr', r', L, Q, H'⟩
    have h0 : nI (nB st) ≤ 0 := by rw [hn]; decide
    rw [e, bnd_s, g3, if_pos h0, bnd_s, if_pos rfl, if_pos h0]
  · obtain ⟨T', Y', mh', mr', e, r', H'⟩ := a_wipe1 r H (by omega)
    have I := wipe_INV w L Q (by omega) r' H'
    have h0 : ¬ nI (nB st) ≤ 0 := nI_ge (a := 0) (by omega) (by omega)
    have hf := (L.2.1 (nB st - 1) (by omega)).2.2.2.2.1
    refine ⟨_, _, _, _, _, ?_, I⟩
    rw [e, bnd_s, g3, if_neg h0, bnd_s, show nI (nB st) - (1 : Int32) = nI (nB st - 1) by rw [li1, nIs (by omega)], if_pos rfl, if_neg h0, show (8 : Int32) * nI (nB st - 1) + (3 : Int32) = nI (8 * (nB st - 1) + 3) by rw [li8, pk_mul, li3, nI_add], gdI (by omega) (by omega), nI_clamp (by omega), hf]
theorem rest_act {T : TV} {Y : HV} {q bl st mh : Nat → Int32} {me : Nat → Int64} {mr : Int32} (r : RTv T st) (L : LB bl me st) (Q : QI q st) (H : RHx Y.1 Y.2.1 Y.2.2 mh mr) (q3 q4 q5 : Int32) :
    ∃ (q' bl' : Nat → Int32) (me' : Nat → Int64) (T' : TV) (Y' : HV), (if (q 4) = 0 then (bnd (wd_spoil T Y (0 : Int32)) (fun q48 => if q48.1 = (-1 : Int32) then (some (q, bl, me, q48.2.1, q48.2.2)) else (none))) else (if (6 : Int32) ≤ q5 then (if (9 : Int32) ≤ q5 then (bnd (den_L_low q4 (3 : Int32)) (fun q14 => bnd (if q14 = (2 : Int32) then (some (21 : Int32)) else (some (100 : Int32))) (fun q15 => bnd (den_L_low (q4 >>> ((2 : Int32) &&& 31)) q15) (fun q16 => bnd (wd_set T Y q14 q16) (fun q17 => gd (inb q14 5) (if q17.1 = (q q14.toNatClampNeg) then (gd (inb q14 5) (some ((upd q q14.toNatClampNeg q16), bl, me, q17.2.1, q17.2.2))) else (none))))))) else (bnd (den_L_low q4 (q 4)) (fun q22 => bnd (den_L_low (q3 >>> ((5 : Int32) &&& 31)) (2 : Int32)) (fun q23 => bnd (if q23 = 0 then (some (4 : Int32)) else (some (40 : Int32))) (fun q24 => bnd (den_L_low (q4 >>> ((7 : Int32) &&& 31)) q24) (fun q25 => bnd (if (q 4) ≤ (q22 + q25) then (some ((q 4) - (1 : Int32))) else (some (q22 + q25))) (fun q26 => bnd (den_L_low (q4 >>> ((11 : Int32) &&& 31)) (100 : Int32)) (fun q27 => bnd (den_L_law_L597 q26 q27 FU (0 : Int32) q22 me) (fun q28 => bnd (wd_fade T Y q22 q26 q27) (fun q29 => if q29.1 = q28.1 then (some (q, bl, q28.2, q29.2.1, q29.2.2)) else (none))))))))))) else (bnd (den_L_law_L441 q q4 FU (0 : Int32) me T Y) (fun q39 => some (q, bl, q39.1, q39.2.1, q39.2.2))))) = some (q', bl', me', T', Y') ∧ INV q' bl' me' T' Y' := by
  have w := r.1
  have hF4 := FF_410 L
  have g4 := Q.2.2.2.2
  by_cases hF : FF st (nB st) = 0
  · obtain ⟨T', Y', mh', mr', e, r', H'⟩ := a_spoil0 r H hF
    refine ⟨q, bl, me, T', Y', ?_, st, mh', mr', r', L, Q, H'⟩
    rw [g4, if_pos (show nI (FF st (nB st)) = (0 : Int32) by rw [hF]; rfl), e, bnd_s, if_pos rfl]
  rw [g4, if_neg (show ¬ nI (FF st (nB st)) = (0 : Int32) by rw [nI_0iff (by omega)]; exact hF)]
  by_cases c6 : (6 : Int32) ≤ q5
  · rw [if_pos c6]
    by_cases c9 : (9 : Int32) ≤ q5
    · obtain ⟨k, hk, ek⟩ := l_low q4 (n := 3) (by omega) (by omega)
      obtain ⟨v, hv, ev⟩ := l_low (q4 >>> ((2 : Int32) &&& 31)) (n := mxS k + 1) (by omega) (by have := mxS_le k; omega)
      rw [show nI 3 = (3 : Int32) from rfl] at ek
      have e15 : (if nI k = (2 : Int32) then some (21 : Int32) else some (100 : Int32)) = some (nI (mxS k + 1)) := by
        unfold mxS
        by_cases c : k = 2
        · subst c; rfl
        · rw [if_neg c, if_neg (show ¬ nI k = (2 : Int32) from fun z => c ((nI_eq (b := 2) (by omega) (by omega)).mp z))]; rfl
      obtain ⟨T', Y', mh', mr', e, r', H'⟩ := a_set r H hk (v := v) (by omega)
      have hqk : q k = st k := by
        have hk3 : k = 0 ∨ k = 1 ∨ k = 2 := by omega
        rcases hk3 with z | z | z <;> subst z
        · exact Q.1
        · exact Q.2.1
        · exact Q.2.2.1
      refine ⟨_, _, _, _, _, ?_, set_INV w L Q hk (nI v) r' H'⟩
      rw [if_pos c9, ek, bnd_s, e15, bnd_s, ev, bnd_s, e, bnd_s, gdI (by omega) (by omega), nI_clamp (by omega), if_pos hqk.symm, gdI (by omega) (by omega)]
    · obtain ⟨a, ha, ea⟩ := l_low q4 (n := FF st (nB st)) (by omega) (by omega)
      obtain ⟨s, hs, es⟩ := l_low (q3 >>> ((5 : Int32) &&& 31)) (n := 2) (by omega) (by omega)
      rw [show nI 2 = (2 : Int32) from rfl] at es
      have e24 : ∃ n, 0 < n ∧ n ≤ 40 ∧ (if nI s = (0 : Int32) then some (4 : Int32) else some (40 : Int32)) = some (nI n) := by
        by_cases c : nI s = (0 : Int32)
        · exact ⟨4, by omega, by omega, by rw [if_pos c]; rfl⟩
        · exact ⟨40, by omega, by omega, by rw [if_neg c]; rfl⟩
      obtain ⟨n, hn1, hn2, e24⟩ := e24
      obtain ⟨j, hj, ej⟩ := l_low (q4 >>> ((7 : Int32) &&& 31)) (n := n) hn1 (by omega)
      have e26 : ∃ b, a ≤ b ∧ b < FF st (nB st) ∧ (if nI (FF st (nB st)) ≤ nI (a + j) then some (nI (FF st (nB st)) - (1 : Int32)) else some (nI (a + j))) = some (nI b) := by
        by_cases c : FF st (nB st) ≤ a + j
        · exact ⟨FF st (nB st) - 1, by omega, by omega, by rw [if_pos (nI_le c (by omega)), li1, nIs (by omega)]⟩
        · exact ⟨a + j, by omega, by omega, by rw [if_neg (nI_ge (by omega) (by omega))]⟩
      obtain ⟨b, hb1, hb2, e26⟩ := e26
      obtain ⟨v, hv, ev⟩ := l_low (q4 >>> ((11 : Int32) &&& 31)) (n := 100) (by omega) (by omega)
      rw [show nI 100 = (100 : Int32) from rfl] at ev
      obtain ⟨y, me', T', Y', f1, f2, I⟩ := a_fade r L Q H hb1 hb2 (v := v) (by omega)
      refine ⟨_, _, _, _, _, ?_, I⟩
      rw [if_neg c9, ea, bnd_s, es, bnd_s, e24, bnd_s, ej, bnd_s, nI_add, e26, bnd_s, ev, bnd_s, f1, bnd_s, f2, bnd_s, if_pos rfl]
  · obtain ⟨me', T', Y', e, I⟩ := spoil_L (q := q) q4 2 FU 0 me T Y st mh mr (by omega) (by rw [FU_eq]; omega) r L Q H (by omega)
    rw [show nI 0 = (0 : Int32) from rfl] at e
    refine ⟨_, _, _, _, _, ?_, I⟩
    rw [if_neg c6, e, bnd_s]
theorem all_act {T : TV} {Y : HV} {q bl st mh : Nat → Int32} {me : Nat → Int64} {mr : Int32} (r : RTv T st) (L : LB bl me st) (Q : QI q st) (H : RHx Y.1 Y.2.1 Y.2.2 mh mr) (q3 q4 q5 : Int32) :
    ∃ (q' bl' : Nat → Int32) (me' : Nat → Int64) (T' : TV) (Y' : HV), (if (2 : Int32) ≤ q5 then (nm (fun (_ : Unit) => if (q 4) = 0 then (bnd (wd_spoil T Y (0 : Int32)) (fun q48 => if q48.1 = (-1 : Int32) then (some (q, bl, me, q48.2.1, q48.2.2)) else (none))) else (if (6 : Int32) ≤ q5 then (if (9 : Int32) ≤ q5 then (bnd (den_L_low q4 (3 : Int32)) (fun q14 => bnd (if q14 = (2 : Int32) then (some (21 : Int32)) else (some (100 : Int32))) (fun q15 => bnd (den_L_low (q4 >>> ((2 : Int32) &&& 31)) q15) (fun q16 => bnd (wd_set T Y q14 q16) (fun q17 => gd (inb q14 5) (if q17.1 = (q q14.toNatClampNeg) then (gd (inb q14 5) (some ((upd q q14.toNatClampNeg q16), bl, me, q17.2.1, q17.2.2))) else (none))))))) else (bnd (den_L_low q4 (q 4)) (fun q22 => bnd (den_L_low (q3 >>> ((5 : Int32) &&& 31)) (2 : Int32)) (fun q23 => bnd (if q23 = 0 then (some (4 : Int32)) else (some (40 : Int32))) (fun q24 => bnd (den_L_low (q4 >>> ((7 : Int32) &&& 31)) q24) (fun q25 => bnd (if (q 4) ≤ (q22 + q25) then (some ((q 4) - (1 : Int32))) else (some (q22 + q25))) (fun q26 => bnd (den_L_low (q4 >>> ((11 : Int32) &&& 31)) (100 : Int32)) (fun q27 => bnd (den_L_law_L597 q26 q27 FU (0 : Int32) q22 me) (fun q28 => bnd (wd_fade T Y q22 q26 q27) (fun q29 => if q29.1 = q28.1 then (some (q, bl, q28.2, q29.2.1, q29.2.2)) else (none))))))))))) else (bnd (den_L_law_L441 q q4 FU (0 : Int32) me T Y) (fun q39 => some (q, bl, q39.1, q39.2.1, q39.2.2))))) (fun J10 => if q5 = (2 : Int32) then (bnd (den_L_low q4 (3 : Int32)) (fun q51 => if q51 = 0 then (bnd (wd_wipeLast T Y) (fun q53 => bnd (if (q 3) ≤ 0 then (some (-5 : Int32)) else (some ((q 3) - (1 : Int32)))) (fun q54 => if q53.1 = q54 then (if (q 3) ≤ 0 then (some (q, bl, me, q53.2.1, q53.2.2)) else (gd (inb (((8 : Int32) * ((q 3) - (1 : Int32))) + (3 : Int32)) 48) (some ((upd (upd q 3 ((q 3) - (1 : Int32))) 4 (bl (((8 : Int32) * ((q 3) - (1 : Int32))) + (3 : Int32)).toNatClampNeg)), bl, me, q53.2.1, q53.2.2)))) else (none)))) else (J10 ()))) else (J10 ()))) else (if (5 : Int32) ≤ (q 3) then (nm (fun (_ : Unit) => if (q 4) = 0 then (bnd (wd_spoil T Y (0 : Int32)) (fun q98 => if q98.1 = (-1 : Int32) then (some (q, bl, me, q98.2.1, q98.2.2)) else (none))) else (if (6 : Int32) ≤ q5 then (if (9 : Int32) ≤ q5 then (bnd (den_L_low q4 (3 : Int32)) (fun q64 => bnd (if q64 = (2 : Int32) then (some (21 : Int32)) else (some (100 : Int32))) (fun q65 => bnd (den_L_low (q4 >>> ((2 : Int32) &&& 31)) q65) (fun q66 => bnd (wd_set T Y q64 q66) (fun q67 => gd (inb q64 5) (if q67.1 = (q q64.toNatClampNeg) then (gd (inb q64 5) (some ((upd q q64.toNatClampNeg q66), bl, me, q67.2.1, q67.2.2))) else (none))))))) else (bnd (den_L_low q4 (q 4)) (fun q72 => bnd (den_L_low (q3 >>> ((5 : Int32) &&& 31)) (2 : Int32)) (fun q73 => bnd (if q73 = 0 then (some (4 : Int32)) else (some (40 : Int32))) (fun q74 => bnd (den_L_low (q4 >>> ((7 : Int32) &&& 31)) q74) (fun q75 => bnd (if (q 4) ≤ (q72 + q75) then (some ((q 4) - (1 : Int32))) else (some (q72 + q75))) (fun q76 => bnd (den_L_low (q4 >>> ((11 : Int32) &&& 31)) (100 : Int32)) (fun q77 => bnd (den_L_law_L597 q76 q77 FU (0 : Int32) q72 me) (fun q78 => bnd (wd_fade T Y q72 q76 q77) (fun q79 => if q79.1 = q78.1 then (some (q, bl, q78.2, q79.2.1, q79.2.2)) else (none))))))))))) else (bnd (den_L_law_L441 q q4 FU (0 : Int32) me T Y) (fun q89 => some (q, bl, q89.1, q89.2.1, q89.2.2))))) (fun J60 => if q5 = (2 : Int32) then (bnd (den_L_low q4 (3 : Int32)) (fun q101 => if q101 = 0 then (bnd (wd_wipeLast T Y) (fun q103 => bnd (if (q 3) ≤ 0 then (some (-5 : Int32)) else (some ((q 3) - (1 : Int32)))) (fun q104 => if q103.1 = q104 then (if (q 3) ≤ 0 then (some (q, bl, me, q103.2.1, q103.2.2)) else (gd (inb (((8 : Int32) * ((q 3) - (1 : Int32))) + (3 : Int32)) 48) (some ((upd (upd q 3 ((q 3) - (1 : Int32))) 4 (bl (((8 : Int32) * ((q 3) - (1 : Int32))) + (3 : Int32)).toNatClampNeg)), bl, me, q103.2.1, q103.2.2)))) else (none)))) else (J60 ()))) else (J60 ()))) else (bnd (den_L_low q4 (3 : Int32)) (fun q109 => nm ((((q4).toInt64) <<< (((20 : Int32)).toInt64 &&& 63)) ^^^ ((q3).toInt64)) (fun x110 => bnd (den_L_low (q3 >>> ((4 : Int32) &&& 31)) (100 : Int32)) (fun q111 => gd (inb ((8 : Int32) * (q 3)) 48) (bnd (if (q 3) = 0 then (some (-6 : Int32)) else (bnd (den_L_low (q3 >>> ((6 : Int32) &&& 31)) (3 : Int32)) (fun q136 => if q136 = 0 then (some (-6 : Int32)) else (bnd (den_L_low (q3 >>> ((5 : Int32) &&& 31)) (q 3)) (fun q138 => some q138))))) (fun q113 => gd (inb (((8 : Int32) * (q 3)) + (1 : Int32)) 48) (gd (inb (((8 : Int32) * (q 3)) + (2 : Int32)) 48) (gd (inb (((8 : Int32) * (q 3)) + (3 : Int32)) 48) (bnd (den_L_law_L203 q q109 x110 FU (0 : Int32) (upd (upd (upd (upd bl ((8 : Int32) * (q 3)).toNatClampNeg q111) (((8 : Int32) * (q 3)) + (1 : Int32)).toNatClampNeg q113) (((8 : Int32) * (q 3)) + (2 : Int32)).toNatClampNeg ((1 : Int32) + q109)) (((8 : Int32) * (q 3)) + (3 : Int32)).toNatClampNeg (q 4))) (fun q117 => bnd (den_L_size 48 q117 (q 3)) (fun q118 => gd (inb (((8 : Int32) * (q 3)) + (11 : Int32)) 48) (bnd (den_L_law_L275 q q117 q118 FU (q 4) me) (fun q120 => gd (inb (((8 : Int32) * (q 3)) + (11 : Int32)) 48) (gd (inb ((8 : Int32) * (q 3)) 48) (gd (inb (((8 : Int32) * (q 3)) + (1 : Int32)) 48) (bnd (wd_write T Y ((upd q117 (((8 : Int32) * (q 3)) + (11 : Int32)).toNatClampNeg (((q 4) + ((2 : Int32) * q118)) + (2 : Int32))) ((8 : Int32) * (q 3)).toNatClampNeg) ((upd q117 (((8 : Int32) * (q 3)) + (11 : Int32)).toNatClampNeg (((q 4) + ((2 : Int32) * q118)) + (2 : Int32))) (((8 : Int32) * (q 3)) + (1 : Int32)).toNatClampNeg) ((1 : Int32) + q109) x110) (fun q124 => if q124.1 = ((upd q 4 ((upd q117 (((8 : Int32) * (q 3)) + (11 : Int32)).toNatClampNeg (((q 4) + ((2 : Int32) * q118)) + (2 : Int32))) (((8 : Int32) * (q 3)) + (11 : Int32)).toNatClampNeg)) 3) then (some ((upd (upd q 4 ((upd q117 (((8 : Int32) * (q 3)) + (11 : Int32)).toNatClampNeg (((q 4) + ((2 : Int32) * q118)) + (2 : Int32))) (((8 : Int32) * (q 3)) + (11 : Int32)).toNatClampNeg)) 3 (((upd q 4 ((upd q117 (((8 : Int32) * (q 3)) + (11 : Int32)).toNatClampNeg (((q 4) + ((2 : Int32) * q118)) + (2 : Int32))) (((8 : Int32) * (q 3)) + (11 : Int32)).toNatClampNeg)) 3) + (1 : Int32))), (upd q117 (((8 : Int32) * (q 3)) + (11 : Int32)).toNatClampNeg (((q 4) + ((2 : Int32) * q118)) + (2 : Int32))), q120, q124.2.1, q124.2.2)) else (none)))))))))))))))))))) = some (q', bl', me', T', Y') ∧ INV q' bl' me' T' Y' := by
  have h5 := L.1
  have key : ∀ X : Option ((Nat → Int32) × (Nat → Int32) × (Nat → Int64) × TV × HV), (∃ (q' bl' : Nat → Int32) (me' : Nat → Int64) (T' : TV) (Y' : HV), X = some (q', bl', me', T', Y') ∧ INV q' bl' me' T' Y') → ∃ (q' bl' : Nat → Int32) (me' : Nat → Int64) (T' : TV) (Y' : HV), (if q5 = (2 : Int32) then (bnd (den_L_low q4 (3 : Int32)) (fun q51 => if q51 = 0 then (bnd (wd_wipeLast T Y) (fun q53 => bnd (if (q 3) ≤ 0 then (some (-5 : Int32)) else (some ((q 3) - (1 : Int32)))) (fun q54 => if q53.1 = q54 then (if (q 3) ≤ 0 then (some (q, bl, me, q53.2.1, q53.2.2)) else (gd (inb (((8 : Int32) * ((q 3) - (1 : Int32))) + (3 : Int32)) 48) (some ((upd (upd q 3 ((q 3) - (1 : Int32))) 4 (bl (((8 : Int32) * ((q 3) - (1 : Int32))) + (3 : Int32)).toNatClampNeg)), bl, me, q53.2.1, q53.2.2)))) else (none)))) else X)) else X) = some (q', bl', me', T', Y') ∧ INV q' bl' me' T' Y' := fun X hX => by
    by_cases e2 : q5 = (2 : Int32)
    · obtain ⟨v, hv, ev⟩ := l_low q4 (n := 3) (by omega) (by omega)
      rw [show nI 3 = (3 : Int32) from rfl] at ev
      rw [if_pos e2, ev, bnd_s]
      by_cases ez : nI v = (0 : Int32)
      · rw [if_pos ez]; exact wipe_act r L Q H
      · rw [if_neg ez]; exact hX
    · rw [if_neg e2]; exact hX
  by_cases c2 : (2 : Int32) ≤ q5
  · rw [if_pos c2, nm_d]
    exact key _ (rest_act r L Q H q3 q4 q5)
  · rw [if_neg c2]
    by_cases c5 : nB st < 5
    · rw [if_neg (show ¬ (5 : Int32) ≤ q 3 by rw [Q.2.2.2.1]; exact nI_ge (b := 5) c5 (by omega))]
      exact write_act r L Q H c5 q3 q4
    · rw [if_pos (show (5 : Int32) ≤ q 3 by rw [Q.2.2.2.1]; exact nI_le (a := 5) (by omega) (by omega)), nm_d]
      exact key _ (rest_act r L Q H q3 q4 q5)
theorem l_cell {L j : Nat} {xs : Nat → Int32} (hL : L ≤ 260) (hj : j < 2 ^ 31) : ∃ v, den_L_cell L xs (nI j) = some v := by
  unfold den_L_cell
  by_cases c : nI L ≤ nI j
  · exact ⟨_, by rw [if_pos (show Int32.ofNat L ≤ nI j from c)]⟩
  · have hj2 : j < L := by
      rw [nI_leI (by omega) hj] at c
      omega
    exact ⟨_, by rw [if_neg (show ¬ Int32.ofNat L ≤ nI j from c), gdI hj2 hj]⟩
theorem loop25_L {xs : Nat → Int32} {L : Nat} (hL : L ≤ 260) (P : PV) : ∀ (d fu k : Nat) (q bl : Nat → Int32) (me : Nat → Int64) (T : TV) (R : RV) (Y : HV) (B : Nat → Int32), k + d = 26 → d < fu → INV q bl me T Y → ∃ z, den_L_law_L40 xs L P fu (nI k) q bl me T R Y B = some z := by
  intro d
  induction d with
  | zero =>
    intro fu k q bl me T R Y B hk hf I
    cases fu with
    | zero => omega
    | succ fu =>
      have : k = 26 := by omega
      subst this
      exact ⟨_, by rw [den_L_law_L40, if_pos (show (26 : Int32) ≤ nI 26 by decide)]⟩
  | succ d ih =>
    intro fu k q bl me T R Y B hk hf I
    cases fu with
    | zero => omega
    | succ fu =>
      obtain ⟨st, mh, mr, r, L1, Q, H⟩ := I
      obtain ⟨x, ex⟩ := l_cell (xs := xs) hL (j := 2 * k) (by omega)
      obtain ⟨y, ey⟩ := l_cell (xs := xs) hL (j := 2 * k + 1) (by omega)
      have e5 : ∃ v, (if (2 : Int32) ≤ nI k then (bnd (den_L_low x (10 : Int32)) (fun q140 => some q140)) else (some (0 : Int32))) = some v := by
        by_cases c : (2 : Int32) ≤ nI k
        · obtain ⟨v, -, ev⟩ := l_low x (n := 10) (by omega) (by omega)
          rw [show nI 10 = (10 : Int32) from rfl] at ev
          exact ⟨_, by rw [if_pos c, ev, bnd_s]⟩
        · exact ⟨_, by rw [if_neg c]⟩
      obtain ⟨v, ev⟩ := e5
      obtain ⟨q', bl', me', T', Y', ea, I'⟩ := all_act r L1 Q H x y v
      have I2 := I'
      obtain ⟨st', mh', mr', r', L', Q', H'⟩ := I2
      obtain ⟨z, es⟩ := same_some r' L' Q' R Y' B P (y >>> ((1 : Int32) &&& 31))
      obtain ⟨o, eo⟩ := ih fu (k + 1) q' bl' me' T' z.1 Y' z.2 (by omega) (by omega) I'
      refine ⟨o, ?_⟩
      rw [den_L_law_L40, if_neg (show ¬ (26 : Int32) ≤ nI k from nI_ge (b := 26) (by omega) (by omega)), show (2 : Int32) * nI k = nI (2 * k) by rw [li2, pk_mul], show nI (2 * k) + (1 : Int32) = nI (2 * k + 1) by rw [li1, nI_add], ex, bnd_s, ey, bnd_s, ev, bnd_s]
      refine (congrArg (fun o => bnd o _) ea).trans ?_
      rw [bnd_s, es, bnd_s, if_neg (show ¬ (1 : Int32) = 0 by decide), show nI k + (1 : Int32) = nI (k + 1) by rw [li1, nI_add]]
      exact eo
theorem INV_0 : INV (upd (upd (upd (fun _ => 0) 0 60) 1 30) 2 3) (fun _ => 0) (fun _ => 0) ((upd (upd (upd (fun _ => 0) 0 60) 1 30) 2 3), 0, (fun _ => 0), (fun _ => 0), (fun _ => 0), (fun _ => 0), (fun _ => 0), (fun _ => 0), (fun _ => 0)) (0, 0, (fun _ => ((upd (upd (upd (fun _ => 0) 0 60) 1 30) 2 3), 0, (fun _ => 0), (fun _ => 0), (fun _ => 0), (fun _ => 0), (fun _ => 0), (fun _ => 0), (fun _ => 0)))) := by
  have h3 : (upd (upd (upd (fun _ => (0 : Int32)) 0 60) 1 30) 2 3) 3 = 0 := by rw [pk_un (by omega), pk_un (by omega), pk_un (by omega)]
  have h4 : (upd (upd (upd (fun _ => (0 : Int32)) 0 60) 1 30) 2 3) 4 = 0 := by rw [pk_un (by omega), pk_un (by omega), pk_un (by omega)]
  have h0 : (upd (upd (upd (fun _ => (0 : Int32)) 0 60) 1 30) 2 3) 0 = nI 60 := by rw [pk_un (by omega), pk_un (by omega), pk_us]; rfl
  have h1 : (upd (upd (upd (fun _ => (0 : Int32)) 0 60) 1 30) 2 3) 1 = nI 30 := by rw [pk_un (by omega), pk_us]; rfl
  have h2 : (upd (upd (upd (fun _ => (0 : Int32)) 0 60) 1 30) 2 3) 2 = nI 3 := by rw [pk_us]; rfl
  have hn : nB (upd (upd (upd (fun _ => (0 : Int32)) 0 60) 1 30) 2 3) = 0 := (congrArg Int32.toNatClampNeg h3).trans rfl
  have hl : lB (upd (upd (upd (fun _ => (0 : Int32)) 0 60) 1 30) 2 3) = 30 := (congrArg Int32.toNatClampNeg h1).trans (nI_clamp (by omega))
  refine ⟨upd (upd (upd (fun _ => 0) 0 60) 1 30) 2 3, fun _ => 0, 0, ⟨⟨?_, ?_, ?_, ?_, ?_, ?_, ⟨60, by omega, h0⟩, ⟨3, by omega, h2⟩⟩, ⟨rfl, rfl, rfl⟩, h3.symm, ?_, ?_, ?_, ?_⟩, ⟨?_, ?_, ?_⟩, ⟨rfl, rfl, rfl, ?_, ?_⟩, ⟨0, 0, rfl, rfl, rfl, by omega, by omega, fun i hi => absurd hi (Nat.not_lt_zero i)⟩⟩
  · rw [hn, h3]; rfl
  · rw [hn]; omega
  · rw [hn]; exact fun b hb => absurd hb (Nat.not_lt_zero b)
  · rw [hn]; exact fun b hb => absurd hb (Nat.not_lt_zero b)
  · rw [hl, h1]
  · rw [hl]; omega
  · rw [hn]; exact fun b hb => absurd hb (Nat.not_lt_zero b)
  · rw [hn]; intro b hb
    have : b = 0 := by omega
    subst this; rfl
  · rw [hn]; exact fun b hb => absurd hb (Nat.not_lt_zero b)
  · rw [hn]; exact fun b t p hb => absurd hb (Nat.not_lt_zero b)
  · rw [hn]; omega
  · rw [hn]; exact fun b hb => absurd hb (Nat.not_lt_zero b)
  · rw [hn]; exact fun b hb => absurd hb (Nat.not_lt_zero b)
  · rw [h3, hn]; rfl
  · rw [h4, hn]; rfl
theorem law_true {xs : Nat → Int32} {L : Nat} (hL : L ≤ 260) : den_L_law xs L (upd (upd (upd (fun _ => 0) 0 60) 1 30) 2 3) (fun _ => 0) (fun _ => 0) ((upd (upd (upd (fun _ => 0) 0 60) 1 30) 2 3), 0, (fun _ => 0), (fun _ => 0), (fun _ => 0), (fun _ => 0), (fun _ => 0), (fun _ => 0), (fun _ => 0)) (0, 0, (fun _ => 0), (fun _ => 0), 0, 0, (fun _ => 0), (fun _ => 0)) (0, 0, (fun _ => ((upd (upd (upd (fun _ => 0) 0 60) 1 30) 2 3), 0, (fun _ => 0), (fun _ => 0), (fun _ => 0), (fun _ => 0), (fun _ => 0), (fun _ => 0), (fun _ => 0)))) (fun _ => 0) ((fun _ => 0), 0, 0, 0, 0, 0, 0, 0, 0, 0, 0) (0 : Int32) = some 1 := by
  unfold den_L_law
  obtain ⟨z, e⟩ := loop25_L (xs := xs) hL ((fun _ => 0), 0, 0, 0, 0, 0, 0, 0, 0, 0, 0) 26 FU 0 _ _ _ _ (0, 0, (fun _ => 0), (fun _ => 0), 0, 0, (fun _ => 0), (fun _ => 0)) _ (fun _ => 0) (by omega) (by rw [FU_eq]; omega) INV_0
  rw [show nI 0 = (0 : Int32) from rfl] at e
  rw [e, bnd_s]
