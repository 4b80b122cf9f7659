set_option linter.unusedVariables false
def rmL_same : Room := { frames := 8, cells := 0, slots := 0, locals := 186 }
theorem kL_same_1 : (Cond.constantLong RL 61 (3)) ∈ wsL_same := List.mem_of_getElem? (i := 1) (by decide +kernel)
theorem kL_same_2 : (Cond.constantLong RL 66 (-5)) ∈ wsL_same := List.mem_of_getElem? (i := 2) (by decide +kernel)
theorem kL_same_3 : (Cond.constantLong RL 72 (2)) ∈ wsL_same := List.mem_of_getElem? (i := 3) (by decide +kernel)
theorem hp_L_same : yL_same.cls ≠ "java/lang/invoke/MethodHandle" ∧ yL_same.cls ≠ "java/lang/invoke/VarHandle" ∧ (parseMethodDescriptor yL_same.desc).map (fun d => d.parameters.length) = some 5 := by decide +kernel
set_option maxHeartbeats 8000000 in
set_option maxRecDepth 100000 in
theorem c_L_same (l : Launch) (dC : Nat → ClassId) (dI : Nat → Nat → Nat) (cI cC cT cL : ClassId) (ad : Nat → Nat) (fr : Nat → Option Nat) (hfr0 : fr 0 = some (ad 21)) (hfr1 : fr 1 = some (ad 30)) (hfr2 : fr 2 = some (ad 39)) (hfr3 : fr 3 = some (ad 48)) (hfr4 : fr 4 = some (ad 57)) (hfr5 : fr 5 = some (ad 66)) (aq ab am : Nat) (sz : Nat) (q bl : Nat → Int32) (me : Nat → Int64) (T : TV) (R : RV) (P : PV) (Y : HV) (S : SV) (B : Nat → Int32) (p2 : Int32) (r : (RV × (Nat → Int32))) (hd : den_L_same q bl me T R Y B P p2 = some r) : Met l yL_same wsL_same rmL_same (va_Pc [.ref (ad 0), .int p2, .ref aq, .ref ab, .ref am] (preB sz (dC, dI) ([(aq, .inl (cI, 5, .inl q)), (ab, .inl (cI, 48, .inl bl)), (am, .inl (cL, 64, .inr (.inl me)))] ++ mod cI cC cT cL ad fr T R P Y S B) [(cI, .int), (cC, .char), (cT, .object "CassetteTones$Tape"), (cL, .long)])) (va_Qi (S := Unit) (fun v _ => v = (1 : Int32)) (fun _ t => posB (dC, dI) ([(aq, .inl (cI, 5, .inl q)), (ab, .inl (cI, 48, .inl bl)), (am, .inl (cL, 64, .inr (.inl me)))] ++ mod cI cC cT cL ad fr T r.1 P Y S r.2) [(cI, .int), (cC, .char), (cT, .object "CassetteTones$Tape"), (cL, .long)] (va_A ([(aq, .inl (cI, 5, .inl q)), (ab, .inl (cI, 48, .inl bl)), (am, .inl (cL, 64, .inr (.inl me)))] ++ mod cI cC cT cL ad fr T R P Y S B) sz) t) (va_A ([(aq, .inl (cI, 5, .inl q)), (ab, .inl (cI, 48, .inl bl)), (am, .inl (cL, 64, .inr (.inl me)))] ++ mod cI cC cT cL ad fr T R P Y S B) sz)) 0 0 (va_A ([(aq, .inl (cI, 5, .inl q)), (ab, .inl (cI, 48, .inl bl)), (am, .inl (cL, 64, .inr (.inl me)))] ++ mod cI cC cT cL ad fr T R P Y S B) sz) := by
  refine x_met_z (by decide) rfl (Nat.le_of_ble_eq_true rfl) ?_
  intro p e s m args below meth c A Q H locs ls hx hb hml hown hts hK hN hA hP hD hS hl hend
  have hown : s.vm.findClass RL = some m.cls := hown
  have hl : lv_has ls 21 [(0, .ref (ad 0)), (1, .int p2), (2, .ref aq), (3, .ref ab), (4, .ref am)] := hl
  unfold den_L_same at hd
  refine lv_iconst (v := 0) hx hb dL_same_0 (by decide) ?_
  refine lv_istore (lv' := [(5, .int (0 : Int32)), (0, .ref (ad 0)), (1, .int p2), (2, .ref aq), (3, .ref ab), (4, .ref am)]) hx hb dL_same_1 hl (by decide) rfl (fun ls hl => ?_)
  refine lv_iconst (v := 0) hx hb dL_same_3 (by decide) ?_
  refine lv_istore (lv' := [(6, .int (0 : Int32)), (5, .int (0 : Int32)), (0, .ref (ad 0)), (1, .int p2), (2, .ref aq), (3, .ref ab), (4, .ref am)]) hx hb dL_same_4 hl (by decide) rfl (fun ls hl => ?_)
  refine lv_iconst (v := 0) hx hb dL_same_6 (by decide) ?_
  refine lv_istore (lv' := [(7, .int (0 : Int32)), (6, .int (0 : Int32)), (5, .int (0 : Int32)), (0, .ref (ad 0)), (1, .int p2), (2, .ref aq), (3, .ref ab), (4, .ref am)]) hx hb dL_same_7 hl (by decide) rfl (fun ls hl => ?_)
  refine lv_iconst (v := 0) hx hb dL_same_9 (by decide) ?_
  refine lv_istore (lv' := [(8, .int (0 : Int32)), (7, .int (0 : Int32)), (6, .int (0 : Int32)), (5, .int (0 : Int32)), (0, .ref (ad 0)), (1, .int p2), (2, .ref aq), (3, .ref ab), (4, .ref am)]) hx hb dL_same_10 hl (by decide) rfl (fun ls hl => ?_)
  refine lv_iconst (v := 0) hx hb dL_same_12 (by decide) ?_
  refine lv_istore (lv' := [(9, .int (0 : Int32)), (8, .int (0 : Int32)), (7, .int (0 : Int32)), (6, .int (0 : Int32)), (5, .int (0 : Int32)), (0, .ref (ad 0)), (1, .int p2), (2, .ref aq), (3, .ref ab), (4, .ref am)]) hx hb dL_same_13 hl (by decide) rfl (fun ls hl => ?_)
  refine lv_iconst (v := 0) hx hb dL_same_15 (by decide) ?_
  refine lv_istore (lv' := [(10, .int (0 : Int32)), (9, .int (0 : Int32)), (8, .int (0 : Int32)), (7, .int (0 : Int32)), (6, .int (0 : Int32)), (5, .int (0 : Int32)), (0, .ref (ad 0)), (1, .int p2), (2, .ref aq), (3, .ref ab), (4, .ref am)]) hx hb dL_same_16 hl (by decide) rfl (fun ls hl => ?_)
  obtain ⟨q1, hq1, hd⟩ := bnd_some hd
  have Kq1 : ∀ (H : Heap) (locs : List Loc) (ls : Array Slot), va_P (dC, dI) vwCl ([(aq, .inl (cI, 5, .inl q)), (ab, .inl (cI, 48, .inl bl)), (am, .inl (cL, 64, .inr (.inl me)))] ++ mod cI cC cT cL ad fr T q1.2.2.2.1 P Y S q1.2.2.2.2) H → va_D A ([(aq, .inl (cI, 5, .inl q)), (ab, .inl (cI, 48, .inl bl)), (am, .inl (cL, 64, .inr (.inl me)))] ++ mod cI cC cT cL ad fr T q1.2.2.2.1 P Y S q1.2.2.2.2) → va_S A s.heap H locs → lv_has ls 21 [(0, .ref (ad 0)), (1, .int p2), (2, .ref aq), (3, .ref ab), (4, .ref am), (5, .int q1.1), (6, .int q1.2.1), (7, .int q1.2.2.1), (8, .int (0 : Int32)), (9, .int (0 : Int32))] → W p l e rmL_same s m args below meth c H locs 0 0 Q (F0 m 461 ls []) := by
    intro H locs ls hP hD hS hl
    refine lv_iconst (v := 0) hx hb dL_same_461 (by decide) ?_
    refine lv_istore (lv' := [(10, .int (0 : Int32)), (0, .ref (ad 0)), (1, .int p2), (2, .ref aq), (3, .ref ab), (4, .ref am), (5, .int q1.1), (6, .int q1.2.1), (7, .int q1.2.2.1), (8, .int (0 : Int32)), (9, .int (0 : Int32))]) hx hb dL_same_462 hl (by decide) rfl (fun ls hl => ?_)
    obtain ⟨q2, hq2, hd⟩ := bnd_some hd
    have Kq2 : ∀ (H : Heap) (locs : List Loc) (ls : Array Slot), va_P (dC, dI) vwCl ([(aq, .inl (cI, 5, .inl q)), (ab, .inl (cI, 48, .inl bl)), (am, .inl (cL, 64, .inr (.inl me)))] ++ mod cI cC cT cL ad fr T q1.2.2.2.1 P Y S q1.2.2.2.2) H → va_D A ([(aq, .inl (cI, 5, .inl q)), (ab, .inl (cI, 48, .inl bl)), (am, .inl (cL, 64, .inr (.inl me)))] ++ mod cI cC cT cL ad fr T q1.2.2.2.1 P Y S q1.2.2.2.2) → va_S A s.heap H locs → lv_has ls 21 [(0, .ref (ad 0)), (1, .int p2), (2, .ref aq), (3, .ref ab), (4, .ref am), (5, .int q1.1), (6, .int q1.2.1), (7, .int q1.2.2.1), (8, .int q2.1), (9, .int q2.2)] → W p l e rmL_same s m args below meth c H locs 0 0 Q (F0 m 521 ls []) := by
      intro H locs ls hP hD hS hl
      refine lv_aload_n hx hb dL_same_521 rfl (lv_at hl 2 rfl) ?_
      refine lv_iconst (v := 3) hx hb dL_same_522 (by decide) ?_
      refine x_iald (k := 3) hx hb hK hP 0 0 rfl rfl (inb_in (by decide)) rfl dL_same_523 ?_
      obtain ⟨q3, hq3, hd⟩ := bnd_some hd
      have Kq3 : ∀ (H : Heap) (locs : List Loc) (ls : Array Slot), va_P (dC, dI) vwCl ([(aq, .inl (cI, 5, .inl q)), (ab, .inl (cI, 48, .inl bl)), (am, .inl (cL, 64, .inr (.inl me)))] ++ mod cI cC cT cL ad fr T q3.1 P Y S q3.2) H → va_D A ([(aq, .inl (cI, 5, .inl q)), (ab, .inl (cI, 48, .inl bl)), (am, .inl (cL, 64, .inr (.inl me)))] ++ mod cI cC cT cL ad fr T q3.1 P Y S q3.2) → va_S A s.heap H locs → lv_has ls 21 [(0, .ref (ad 0)), (2, .ref aq), (3, .ref ab), (5, .int q1.1), (6, .int q1.2.1), (7, .int q1.2.2.1), (8, .int q2.1), (9, .int q2.2)] → W p l e rmL_same s m args below meth c H locs 0 0 Q (F0 m 989 ls []) := by
        intro H locs ls hP hD hS hl
        refine lv_bipush (v := -6) hx hb dL_same_989 (by decide) ?_
        refine lv_istore (lv' := [(10, .int (-6 : Int32)), (0, .ref (ad 0)), (2, .ref aq), (3, .ref ab), (5, .int q1.1), (6, .int q1.2.1), (7, .int q1.2.2.1), (8, .int q2.1), (9, .int q2.2)]) hx hb dL_same_991 hl (by decide) rfl (fun ls hl => ?_)
        refine lv_bipush (v := -6) hx hb dL_same_993 (by decide) ?_
        refine lv_istore (lv' := [(11, .int (-6 : Int32)), (10, .int (-6 : Int32)), (0, .ref (ad 0)), (2, .ref aq), (3, .ref ab), (5, .int q1.1), (6, .int q1.2.1), (7, .int q1.2.2.1), (8, .int q2.1), (9, .int q2.2)]) hx hb dL_same_995 hl (by decide) rfl (fun ls hl => ?_)
        refine lv_aload_n hx hb dL_same_997 rfl (lv_at hl 3 rfl) ?_
        refine lv_iconst (v := 3) hx hb dL_same_998 (by decide) ?_
        refine x_iald (k := 3) hx hb hK hP 0 0 rfl rfl (inb_in (by decide)) rfl dL_same_999 ?_
        refine lv_iconst (v := 1) hx hb dL_same_1000 (by decide) ?_
        refine lv_isub hx hb dL_same_1001 ?_
        refine lv_istore (lv' := [(12, .int ((q 3) - (1 : Int32))), (11, .int (-6 : Int32)), (10, .int (-6 : Int32)), (0, .ref (ad 0)), (2, .ref aq), (3, .ref ab), (5, .int q1.1), (6, .int q1.2.1), (7, .int q1.2.2.1), (8, .int q2.1), (9, .int q2.2)]) hx hb dL_same_1002 hl (by decide) rfl (fun ls hl => ?_)
        obtain ⟨q4, hq4, hd⟩ := bnd_some hd
        have Kq4 : ∀ (H : Heap) (locs : List Loc) (ls : Array Slot), va_P (dC, dI) vwCl ([(aq, .inl (cI, 5, .inl q)), (ab, .inl (cI, 48, .inl bl)), (am, .inl (cL, 64, .inr (.inl me)))] ++ mod cI cC cT cL ad fr T q3.1 P Y S q3.2) H → va_D A ([(aq, .inl (cI, 5, .inl q)), (ab, .inl (cI, 48, .inl bl)), (am, .inl (cL, 64, .inr (.inl me)))] ++ mod cI cC cT cL ad fr T q3.1 P Y S q3.2) → va_S A s.heap H locs → lv_has ls 21 [(0, .ref (ad 0)), (2, .ref aq), (5, .int q1.1), (6, .int q1.2.1), (7, .int q1.2.2.1), (8, .int q2.1), (9, .int q2.2), (10, .int q4.1), (11, .int q4.2)] → W p l e rmL_same s m args below meth c H locs 0 0 Q (F0 m 1122 ls []) := by
          intro H locs ls hP hD hS hl
          refine lv_aload_n hx hb dL_same_1122 rfl (lv_at hl 0 rfl) ?_
          refine lv_iconst (v := 0) hx hb dL_same_1123 (by decide) ?_
          obtain ⟨q5, hq5, hd⟩ := bnd_some hd
          have hPc := P_r hP
          have hDc := D_r hD
          have hFc := F_r hD hS hA
          refine va_calli (va_runV (As := [.int (0 : Int32)]) (rest := []) ⟨hx, hb, hml, hown, hts⟩ (w_widest l dC dI cI cC cT cL ad fr hfr0 hfr1 hfr2 hfr3 hfr4 hfr5 H.size T q3.1 P Y S q3.2 (0 : Int32) q5 hq5) (cwV 1 hts gL_same_X6_widest rfl rfl rfl hv_X6_widest ⟨Nat.le_of_ble_eq_true rfl, Nat.le_of_ble_eq_true rfl⟩) ⟨preB_fb, va_recv hK hPc (ci := 6) (q0 := 0) rfl rfl, fun U hU hW => preB_mk hU hW hPc hK hDc hN⟩ rfl rfl hl.1 rfl (lv_room (Nat.le_of_ble_eq_true rfl)) dL_same_1124 ⟨Nat.zero_le _, Nat.zero_le _⟩) hS (fun q _ h => hFc q h) hFc (fun r_ u_ t H locs ht hvm hw hB hz1 hk1 hS => ?_)
          have hw : r_ = q5.1 := hw
          have hw := hw.symm
          subst hw
          obtain ⟨hP, hD⟩ := x_joinR hP hD hk1 hFc ht hB
          clear hPc hDc hFc hk1 hB ht hz1 hvm
          refine lv_iload hx hb dL_same_1127 (lv_at hl 7 rfl) ?_
          refine lv_icmp_ne (tgt := 1277) hx hb dL_same_1129 (by decide) (fun c6 => ?_) (fun c6 => ?_)
          · replace hd := ite_f c6 hd
            refine lv_iconst (v := 0) hx hb dL_same_1277 (by decide) ?_
            exact no_some hd
          · replace hd := ite_t c6 hd
            refine lv_aload_n hx hb dL_same_1132 rfl (lv_at hl 0 rfl) ?_
            refine lv_iconst (v := 1) hx hb dL_same_1133 (by decide) ?_
            obtain ⟨q7, hq7, hd⟩ := bnd_some hd
            have hPc := P_r hP
            have hDc := D_r hD
            have hFc := F_r hD hS hA
            refine va_calli (va_runV (As := [.int (1 : Int32)]) (rest := []) ⟨hx, hb, hml, hown, hts⟩ (w_widest l dC dI cI cC cT cL ad fr hfr0 hfr1 hfr2 hfr3 hfr4 hfr5 H.size T q5.2.1 P Y S q5.2.2 (1 : Int32) q7 hq7) (cwV 1 hts gL_same_X6_widest rfl rfl rfl hv_X6_widest ⟨Nat.le_of_ble_eq_true rfl, Nat.le_of_ble_eq_true rfl⟩) ⟨preB_fb, va_recv hK hPc (ci := 6) (q0 := 0) rfl rfl, fun U hU hW => preB_mk hU hW hPc hK hDc hN⟩ rfl rfl hl.1 rfl (lv_room (Nat.le_of_ble_eq_true rfl)) dL_same_1134 ⟨Nat.zero_le _, Nat.zero_le _⟩) hS (fun q _ h => hFc q h) hFc (fun r_ u_ t H locs ht hvm hw hB hz1 hk1 hS => ?_)
            have hw : r_ = q7.1 := hw
            have hw := hw.symm
            subst hw
            obtain ⟨hP, hD⟩ := x_joinR hP hD hk1 hFc ht hB
            clear hPc hDc hFc hk1 hB ht hz1 hvm
            refine lv_iload hx hb dL_same_1137 (lv_at hl 8 rfl) ?_
            refine lv_icmp_ne (tgt := 1277) hx hb dL_same_1139 (by decide) (fun c8 => ?_) (fun c8 => ?_)
            · replace hd := ite_f c8 hd
              refine lv_iconst (v := 0) hx hb dL_same_1277 (by decide) ?_
              exact no_some hd
            · replace hd := ite_t c8 hd
              refine lv_aload_n hx hb dL_same_1142 rfl (lv_at hl 0 rfl) ?_
              obtain ⟨q9, hq9, hd⟩ := bnd_some hd
              have hPc := P_r hP
              have hDc := D_r hD
              have hFc := F_r hD hS hA
              refine va_calli (va_runV (As := []) (rest := []) ⟨hx, hb, hml, hown, hts⟩ (w_reached l dC dI cI cC cT cL ad fr hfr0 hfr1 hfr2 hfr3 hfr4 hfr5 H.size T q7.2.1 P Y S q7.2.2 q9 hq9) (cwV 0 hts gL_same_X6_reached rfl rfl rfl hv_X6_reached ⟨Nat.le_of_ble_eq_true rfl, Nat.le_of_ble_eq_true rfl⟩) ⟨preB_fb, va_recv hK hPc (ci := 6) (q0 := 0) rfl rfl, fun U hU hW => preB_mk hU hW hPc hK hDc hN⟩ rfl rfl hl.1 rfl (lv_room (Nat.le_of_ble_eq_true rfl)) dL_same_1143 ⟨Nat.zero_le _, Nat.zero_le _⟩) hS (fun q _ h => hFc q h) hFc (fun r_ u_ t H locs ht hvm hw hB hz1 hk1 hS => ?_)
              have hw : r_ = q9.1 := hw
              have hw := hw.symm
              subst hw
              obtain ⟨hP, hD⟩ := x_joinR hP hD hk1 hFc ht hB
              clear hPc hDc hFc hk1 hB ht hz1 hvm
              refine lv_iload hx hb dL_same_1146 (lv_at hl 4 rfl) ?_
              refine lv_icmp_ne (tgt := 1277) hx hb dL_same_1148 (by decide) (fun c10 => ?_) (fun c10 => ?_)
              · replace hd := ite_f c10 hd
                refine lv_iconst (v := 0) hx hb dL_same_1277 (by decide) ?_
                exact no_some hd
              · replace hd := ite_t c10 hd
                refine lv_aload_n hx hb dL_same_1151 rfl (lv_at hl 0 rfl) ?_
                refine lv_iconst (v := 0) hx hb dL_same_1152 (by decide) ?_
                obtain ⟨q11, hq11, hd⟩ := bnd_some hd
                have hPc := P_r hP
                have hDc := D_r hD
                have hFc := F_r hD hS hA
                refine va_calli (va_runV (As := [.int (0 : Int32)]) (rest := []) ⟨hx, hb, hml, hown, hts⟩ (w_count l dC dI cI cC cT cL ad fr hfr0 hfr1 hfr2 hfr3 hfr4 hfr5 H.size T q9.2.1 P Y S q9.2.2 (0 : Int32) q11 hq11) (cwV 1 hts gL_same_X6_count rfl rfl rfl hv_X6_count ⟨Nat.le_of_ble_eq_true rfl, Nat.le_of_ble_eq_true rfl⟩) ⟨preB_fb, va_recv hK hPc (ci := 6) (q0 := 0) rfl rfl, fun U hU hW => preB_mk hU hW hPc hK hDc hN⟩ rfl rfl hl.1 rfl (lv_room (Nat.le_of_ble_eq_true rfl)) dL_same_1153 ⟨Nat.zero_le _, Nat.zero_le _⟩) hS (fun q _ h => hFc q h) hFc (fun r_ u_ t H locs ht hvm hw hB hz1 hk1 hS => ?_)
                have hw : r_ = q11.1 := hw
                have hw := hw.symm
                subst hw
                obtain ⟨hP, hD⟩ := x_joinR hP hD hk1 hFc ht hB
                clear hPc hDc hFc hk1 hB ht hz1 hvm
                refine lv_aload_n hx hb dL_same_1156 rfl (lv_at hl 1 rfl) ?_
                refine lv_iconst (v := 3) hx hb dL_same_1157 (by decide) ?_
                refine x_iald (k := 3) hx hb hK hP 0 0 rfl rfl (inb_in (by decide)) rfl dL_same_1158 ?_
                refine lv_icmp_ne (tgt := 1277) hx hb dL_same_1159 (by decide) (fun c12 => ?_) (fun c12 => ?_)
                · replace hd := ite_f c12 hd
                  refine lv_iconst (v := 0) hx hb dL_same_1277 (by decide) ?_
                  exact no_some hd
                · replace hd := ite_t c12 hd
                  refine lv_aload_n hx hb dL_same_1162 rfl (lv_at hl 0 rfl) ?_
                  refine lv_iconst (v := 1) hx hb dL_same_1163 (by decide) ?_
                  obtain ⟨q13, hq13, hd⟩ := bnd_some hd
                  have hPc := P_r hP
                  have hDc := D_r hD
                  have hFc := F_r hD hS hA
                  refine va_calli (va_runV (As := [.int (1 : Int32)]) (rest := []) ⟨hx, hb, hml, hown, hts⟩ (w_count l dC dI cI cC cT cL ad fr hfr0 hfr1 hfr2 hfr3 hfr4 hfr5 H.size T q11.2.1 P Y S q11.2.2 (1 : Int32) q13 hq13) (cwV 1 hts gL_same_X6_count rfl rfl rfl hv_X6_count ⟨Nat.le_of_ble_eq_true rfl, Nat.le_of_ble_eq_true rfl⟩) ⟨preB_fb, va_recv hK hPc (ci := 6) (q0 := 0) rfl rfl, fun U hU hW => preB_mk hU hW hPc hK hDc hN⟩ rfl rfl hl.1 rfl (lv_room (Nat.le_of_ble_eq_true rfl)) dL_same_1164 ⟨Nat.zero_le _, Nat.zero_le _⟩) hS (fun q _ h => hFc q h) hFc (fun r_ u_ t H locs ht hvm hw hB hz1 hk1 hS => ?_)
                  have hw : r_ = q13.1 := hw
                  have hw := hw.symm
                  subst hw
                  obtain ⟨hP, hD⟩ := x_joinR hP hD hk1 hFc ht hB
                  clear hPc hDc hFc hk1 hB ht hz1 hvm
                  refine lv_aload_n hx hb dL_same_1167 rfl (lv_at hl 1 rfl) ?_
                  refine lv_iconst (v := 4) hx hb dL_same_1168 (by decide) ?_
                  refine x_iald (k := 4) hx hb hK hP 0 0 rfl rfl (inb_in (by decide)) rfl dL_same_1169 ?_
                  refine lv_icmp_ne (tgt := 1277) hx hb dL_same_1170 (by decide) (fun c14 => ?_) (fun c14 => ?_)
                  · replace hd := ite_f c14 hd
                    refine lv_iconst (v := 0) hx hb dL_same_1277 (by decide) ?_
                    exact no_some hd
                  · replace hd := ite_t c14 hd
                    refine lv_aload_n hx hb dL_same_1173 rfl (lv_at hl 0 rfl) ?_
                    refine lv_iconst (v := 2) hx hb dL_same_1174 (by decide) ?_
                    obtain ⟨q15, hq15, hd⟩ := bnd_some hd
                    have hPc := P_r hP
                    have hDc := D_r hD
                    have hFc := F_r hD hS hA
                    refine va_calli (va_runV (As := [.int (2 : Int32)]) (rest := []) ⟨hx, hb, hml, hown, hts⟩ (w_count l dC dI cI cC cT cL ad fr hfr0 hfr1 hfr2 hfr3 hfr4 hfr5 H.size T q13.2.1 P Y S q13.2.2 (2 : Int32) q15 hq15) (cwV 1 hts gL_same_X6_count rfl rfl rfl hv_X6_count ⟨Nat.le_of_ble_eq_true rfl, Nat.le_of_ble_eq_true rfl⟩) ⟨preB_fb, va_recv hK hPc (ci := 6) (q0 := 0) rfl rfl, fun U hU hW => preB_mk hU hW hPc hK hDc hN⟩ rfl rfl hl.1 rfl (lv_room (Nat.le_of_ble_eq_true rfl)) dL_same_1175 ⟨Nat.zero_le _, Nat.zero_le _⟩) hS (fun q _ h => hFc q h) hFc (fun r_ u_ t H locs ht hvm hw hB hz1 hk1 hS => ?_)
                    have hw : r_ = q15.1 := hw
                    have hw := hw.symm
                    subst hw
                    obtain ⟨hP, hD⟩ := x_joinR hP hD hk1 hFc ht hB
                    clear hPc hDc hFc hk1 hB ht hz1 hvm
                    refine lv_iload hx hb dL_same_1178 (lv_at hl 2 rfl) ?_
                    refine lv_icmp_ne (tgt := 1277) hx hb dL_same_1180 (by decide) (fun c16 => ?_) (fun c16 => ?_)
                    · replace hd := ite_f c16 hd
                      refine lv_iconst (v := 0) hx hb dL_same_1277 (by decide) ?_
                      exact no_some hd
                    · replace hd := ite_t c16 hd
                      refine lv_aload_n hx hb dL_same_1183 rfl (lv_at hl 0 rfl) ?_
                      refine lv_iconst (v := 3) hx hb dL_same_1184 (by decide) ?_
                      obtain ⟨q17, hq17, hd⟩ := bnd_some hd
                      have hPc := P_r hP
                      have hDc := D_r hD
                      have hFc := F_r hD hS hA
                      refine va_calli (va_runV (As := [.int (3 : Int32)]) (rest := []) ⟨hx, hb, hml, hown, hts⟩ (w_count l dC dI cI cC cT cL ad fr hfr0 hfr1 hfr2 hfr3 hfr4 hfr5 H.size T q15.2.1 P Y S q15.2.2 (3 : Int32) q17 hq17) (cwV 1 hts gL_same_X6_count rfl rfl rfl hv_X6_count ⟨Nat.le_of_ble_eq_true rfl, Nat.le_of_ble_eq_true rfl⟩) ⟨preB_fb, va_recv hK hPc (ci := 6) (q0 := 0) rfl rfl, fun U hU hW => preB_mk hU hW hPc hK hDc hN⟩ rfl rfl hl.1 rfl (lv_room (Nat.le_of_ble_eq_true rfl)) dL_same_1185 ⟨Nat.zero_le _, Nat.zero_le _⟩) hS (fun q _ h => hFc q h) hFc (fun r_ u_ t H locs ht hvm hw hB hz1 hk1 hS => ?_)
                      have hw : r_ = q17.1 := hw
                      have hw := hw.symm
                      subst hw
                      obtain ⟨hP, hD⟩ := x_joinR hP hD hk1 hFc ht hB
                      clear hPc hDc hFc hk1 hB ht hz1 hvm
                      refine lv_iload hx hb dL_same_1188 (lv_at hl 3 rfl) ?_
                      refine lv_icmp_ne (tgt := 1277) hx hb dL_same_1190 (by decide) (fun c18 => ?_) (fun c18 => ?_)
                      · replace hd := ite_f c18 hd
                        refine lv_iconst (v := 0) hx hb dL_same_1277 (by decide) ?_
                        exact no_some hd
                      · replace hd := ite_t c18 hd
                        refine lv_aload_n hx hb dL_same_1193 rfl (lv_at hl 0 rfl) ?_
                        refine lv_iconst (v := 4) hx hb dL_same_1194 (by decide) ?_
                        obtain ⟨q19, hq19, hd⟩ := bnd_some hd
                        have hPc := P_r hP
                        have hDc := D_r hD
                        have hFc := F_r hD hS hA
                        refine va_calli (va_runV (As := [.int (4 : Int32)]) (rest := []) ⟨hx, hb, hml, hown, hts⟩ (w_count l dC dI cI cC cT cL ad fr hfr0 hfr1 hfr2 hfr3 hfr4 hfr5 H.size T q17.2.1 P Y S q17.2.2 (4 : Int32) q19 hq19) (cwV 1 hts gL_same_X6_count rfl rfl rfl hv_X6_count ⟨Nat.le_of_ble_eq_true rfl, Nat.le_of_ble_eq_true rfl⟩) ⟨preB_fb, va_recv hK hPc (ci := 6) (q0 := 0) rfl rfl, fun U hU hW => preB_mk hU hW hPc hK hDc hN⟩ rfl rfl hl.1 rfl (lv_room (Nat.le_of_ble_eq_true rfl)) dL_same_1195 ⟨Nat.zero_le _, Nat.zero_le _⟩) hS (fun q _ h => hFc q h) hFc (fun r_ u_ t H locs ht hvm hw hB hz1 hk1 hS => ?_)
                        have hw : r_ = q19.1 := hw
                        have hw := hw.symm
                        subst hw
                        obtain ⟨hP, hD⟩ := x_joinR hP hD hk1 hFc ht hB
                        clear hPc hDc hFc hk1 hB ht hz1 hvm
                        refine lv_iload hx hb dL_same_1198 (lv_at hl 5 rfl) ?_
                        refine lv_icmp_ne (tgt := 1277) hx hb dL_same_1200 (by decide) (fun c20 => ?_) (fun c20 => ?_)
                        · replace hd := ite_f c20 hd
                          refine lv_iconst (v := 0) hx hb dL_same_1277 (by decide) ?_
                          exact no_some hd
                        · replace hd := ite_t c20 hd
                          refine lv_aload_n hx hb dL_same_1203 rfl (lv_at hl 0 rfl) ?_
                          refine lv_iconst (v := 5) hx hb dL_same_1204 (by decide) ?_
                          obtain ⟨q21, hq21, hd⟩ := bnd_some hd
                          have hPc := P_r hP
                          have hDc := D_r hD
                          have hFc := F_r hD hS hA
                          refine va_calli (va_runV (As := [.int (5 : Int32)]) (rest := []) ⟨hx, hb, hml, hown, hts⟩ (w_count l dC dI cI cC cT cL ad fr hfr0 hfr1 hfr2 hfr3 hfr4 hfr5 H.size T q19.2.1 P Y S q19.2.2 (5 : Int32) q21 hq21) (cwV 1 hts gL_same_X6_count rfl rfl rfl hv_X6_count ⟨Nat.le_of_ble_eq_true rfl, Nat.le_of_ble_eq_true rfl⟩) ⟨preB_fb, va_recv hK hPc (ci := 6) (q0 := 0) rfl rfl, fun U hU hW => preB_mk hU hW hPc hK hDc hN⟩ rfl rfl hl.1 rfl (lv_room (Nat.le_of_ble_eq_true rfl)) dL_same_1205 ⟨Nat.zero_le _, Nat.zero_le _⟩) hS (fun q _ h => hFc q h) hFc (fun r_ u_ t H locs ht hvm hw hB hz1 hk1 hS => ?_)
                          have hw : r_ = q21.1 := hw
                          have hw := hw.symm
                          subst hw
                          obtain ⟨hP, hD⟩ := x_joinR hP hD hk1 hFc ht hB
                          clear hPc hDc hFc hk1 hB ht hz1 hvm
                          refine lv_iload hx hb dL_same_1208 (lv_at hl 6 rfl) ?_
                          refine lv_icmp_ne (tgt := 1277) hx hb dL_same_1210 (by decide) (fun c22 => ?_) (fun c22 => ?_)
                          · replace hd := ite_f c22 hd
                            refine lv_iconst (v := 0) hx hb dL_same_1277 (by decide) ?_
                            exact no_some hd
                          · replace hd := ite_t c22 hd
                            refine lv_aload_n hx hb dL_same_1213 rfl (lv_at hl 0 rfl) ?_
                            refine lv_bipush (v := 6) hx hb dL_same_1214 (by decide) ?_
                            obtain ⟨q23, hq23, hd⟩ := bnd_some hd
                            have hPc := P_r hP
                            have hDc := D_r hD
                            have hFc := F_r hD hS hA
                            refine va_calli (va_runV (As := [.int (6 : Int32)]) (rest := []) ⟨hx, hb, hml, hown, hts⟩ (w_count l dC dI cI cC cT cL ad fr hfr0 hfr1 hfr2 hfr3 hfr4 hfr5 H.size T q21.2.1 P Y S q21.2.2 (6 : Int32) q23 hq23) (cwV 1 hts gL_same_X6_count rfl rfl rfl hv_X6_count ⟨Nat.le_of_ble_eq_true rfl, Nat.le_of_ble_eq_true rfl⟩) ⟨preB_fb, va_recv hK hPc (ci := 6) (q0 := 0) rfl rfl, fun U hU hW => preB_mk hU hW hPc hK hDc hN⟩ rfl rfl hl.1 rfl (lv_room (Nat.le_of_ble_eq_true rfl)) dL_same_1216 ⟨Nat.zero_le _, Nat.zero_le _⟩) hS (fun q _ h => hFc q h) hFc (fun r_ u_ t H locs ht hvm hw hB hz1 hk1 hS => ?_)
                            have hw : r_ = q23.1 := hw
                            have hw := hw.symm
                            subst hw
                            obtain ⟨hP, hD⟩ := x_joinR hP hD hk1 hFc ht hB
                            clear hPc hDc hFc hk1 hB ht hz1 hvm
                            refine lv_aload_n hx hb dL_same_1219 rfl (lv_at hl 1 rfl) ?_
                            refine lv_iconst (v := 0) hx hb dL_same_1220 (by decide) ?_
                            refine x_iald (k := 0) hx hb hK hP 0 0 rfl rfl (inb_in (by decide)) rfl dL_same_1221 ?_
                            refine lv_icmp_ne (tgt := 1277) hx hb dL_same_1222 (by decide) (fun c24 => ?_) (fun c24 => ?_)
                            · replace hd := ite_f c24 hd
                              refine lv_iconst (v := 0) hx hb dL_same_1277 (by decide) ?_
                              exact no_some hd
                            · replace hd := ite_t c24 hd
                              refine lv_aload_n hx hb dL_same_1225 rfl (lv_at hl 0 rfl) ?_
                              refine lv_bipush (v := 7) hx hb dL_same_1226 (by decide) ?_
                              obtain ⟨q25, hq25, hd⟩ := bnd_some hd
                              have hPc := P_r hP
                              have hDc := D_r hD
                              have hFc := F_r hD hS hA
                              refine va_calli (va_runV (As := [.int (7 : Int32)]) (rest := []) ⟨hx, hb, hml, hown, hts⟩ (w_count l dC dI cI cC cT cL ad fr hfr0 hfr1 hfr2 hfr3 hfr4 hfr5 H.size T q23.2.1 P Y S q23.2.2 (7 : Int32) q25 hq25) (cwV 1 hts gL_same_X6_count rfl rfl rfl hv_X6_count ⟨Nat.le_of_ble_eq_true rfl, Nat.le_of_ble_eq_true rfl⟩) ⟨preB_fb, va_recv hK hPc (ci := 6) (q0 := 0) rfl rfl, fun U hU hW => preB_mk hU hW hPc hK hDc hN⟩ rfl rfl hl.1 rfl (lv_room (Nat.le_of_ble_eq_true rfl)) dL_same_1228 ⟨Nat.zero_le _, Nat.zero_le _⟩) hS (fun q _ h => hFc q h) hFc (fun r_ u_ t H locs ht hvm hw hB hz1 hk1 hS => ?_)
                              have hw : r_ = q25.1 := hw
                              have hw := hw.symm
                              subst hw
                              obtain ⟨hP, hD⟩ := x_joinR hP hD hk1 hFc ht hB
                              clear hPc hDc hFc hk1 hB ht hz1 hvm
                              refine lv_aload_n hx hb dL_same_1231 rfl (lv_at hl 1 rfl) ?_
                              refine lv_iconst (v := 1) hx hb dL_same_1232 (by decide) ?_
                              refine x_iald (k := 1) hx hb hK hP 0 0 rfl rfl (inb_in (by decide)) rfl dL_same_1233 ?_
                              refine lv_icmp_ne (tgt := 1277) hx hb dL_same_1234 (by decide) (fun c26 => ?_) (fun c26 => ?_)
                              · replace hd := ite_f c26 hd
                                refine lv_iconst (v := 0) hx hb dL_same_1277 (by decide) ?_
                                exact no_some hd
                              · replace hd := ite_t c26 hd
                                refine lv_aload_n hx hb dL_same_1237 rfl (lv_at hl 0 rfl) ?_
                                refine lv_bipush (v := 8) hx hb dL_same_1238 (by decide) ?_
                                obtain ⟨q27, hq27, hd⟩ := bnd_some hd
                                have hPc := P_r hP
                                have hDc := D_r hD
                                have hFc := F_r hD hS hA
                                refine va_calli (va_runV (As := [.int (8 : Int32)]) (rest := []) ⟨hx, hb, hml, hown, hts⟩ (w_count l dC dI cI cC cT cL ad fr hfr0 hfr1 hfr2 hfr3 hfr4 hfr5 H.size T q25.2.1 P Y S q25.2.2 (8 : Int32) q27 hq27) (cwV 1 hts gL_same_X6_count rfl rfl rfl hv_X6_count ⟨Nat.le_of_ble_eq_true rfl, Nat.le_of_ble_eq_true rfl⟩) ⟨preB_fb, va_recv hK hPc (ci := 6) (q0 := 0) rfl rfl, fun U hU hW => preB_mk hU hW hPc hK hDc hN⟩ rfl rfl hl.1 rfl (lv_room (Nat.le_of_ble_eq_true rfl)) dL_same_1240 ⟨Nat.zero_le _, Nat.zero_le _⟩) hS (fun q _ h => hFc q h) hFc (fun r_ u_ t H locs ht hvm hw hB hz1 hk1 hS => ?_)
                                have hw : r_ = q27.1 := hw
                                have hw := hw.symm
                                subst hw
                                obtain ⟨hP, hD⟩ := x_joinR hP hD hk1 hFc ht hB
                                clear hPc hDc hFc hk1 hB ht hz1 hvm
                                refine lv_aload_n hx hb dL_same_1243 rfl (lv_at hl 1 rfl) ?_
                                refine lv_iconst (v := 2) hx hb dL_same_1244 (by decide) ?_
                                refine x_iald (k := 2) hx hb hK hP 0 0 rfl rfl (inb_in (by decide)) rfl dL_same_1245 ?_
                                refine lv_icmp_ne (tgt := 1277) hx hb dL_same_1246 (by decide) (fun c28 => ?_) (fun c28 => ?_)
                                · replace hd := ite_f c28 hd
                                  refine lv_iconst (v := 0) hx hb dL_same_1277 (by decide) ?_
                                  exact no_some hd
                                · replace hd := ite_t c28 hd
                                  refine lv_aload_n hx hb dL_same_1249 rfl (lv_at hl 0 rfl) ?_
                                  refine lv_aload_n hx hb dL_same_1250 rfl (lv_at hl 1 rfl) ?_
                                  refine lv_iconst (v := 3) hx hb dL_same_1251 (by decide) ?_
                                  refine x_iald (k := 3) hx hb hK hP 0 0 rfl rfl (inb_in (by decide)) rfl dL_same_1252 ?_
                                  refine lv_iconst (v := 0) hx hb dL_same_1253 (by decide) ?_
                                  obtain ⟨q29, hq29, hd⟩ := bnd_some hd
                                  have hPc := P_r hP
                                  have hDc := D_r hD
                                  have hFc := F_r hD hS hA
                                  refine va_calli (va_runV (As := [.int (q 3), .int (0 : Int32)]) (rest := []) ⟨hx, hb, hml, hown, hts⟩ (w_of l dC dI cI cC cT cL ad fr hfr0 hfr1 hfr2 hfr3 hfr4 hfr5 H.size T q27.2.1 P Y S q27.2.2 (q 3) (0 : Int32) q29 hq29) (cwV 2 hts gL_same_X6_of rfl rfl rfl hv_X6_of ⟨Nat.le_of_ble_eq_true rfl, Nat.le_of_ble_eq_true rfl⟩) ⟨preB_fb, va_recv hK hPc (ci := 6) (q0 := 0) rfl rfl, fun U hU hW => preB_mk hU hW hPc hK hDc hN⟩ rfl rfl hl.1 rfl (lv_room (Nat.le_of_ble_eq_true rfl)) dL_same_1254 ⟨Nat.zero_le _, Nat.zero_le _⟩) hS (fun q _ h => hFc q h) hFc (fun r_ u_ t H locs ht hvm hw hB hz1 hk1 hS => ?_)
                                  have hw : r_ = q29.1 := hw
                                  have hw := hw.symm
                                  subst hw
                                  obtain ⟨hP, hD⟩ := x_joinR hP hD hk1 hFc ht hB
                                  clear hPc hDc hFc hk1 hB ht hz1 hvm
                                  refine lv_iconst (v := -1) hx hb dL_same_1257 (by decide) ?_
                                  refine lv_icmp_ne (tgt := 1277) hx hb dL_same_1258 (by decide) (fun c30 => ?_) (fun c30 => ?_)
                                  · replace hd := ite_f c30 hd
                                    refine lv_iconst (v := 0) hx hb dL_same_1277 (by decide) ?_
                                    exact no_some hd
                                  · replace hd := ite_t c30 hd
                                    refine lv_aload_n hx hb dL_same_1261 rfl (lv_at hl 0 rfl) ?_
                                    refine lv_aload_n hx hb dL_same_1262 rfl (lv_at hl 1 rfl) ?_
                                    refine lv_iconst (v := 4) hx hb dL_same_1263 (by decide) ?_
                                    refine x_iald (k := 4) hx hb hK hP 0 0 rfl rfl (inb_in (by decide)) rfl dL_same_1264 ?_
                                    refine lv_iconst (v := 0) hx hb dL_same_1265 (by decide) ?_
                                    obtain ⟨q31, hq31, hd⟩ := bnd_some hd
                                    have hPc := P_r hP
                                    have hDc := D_r hD
                                    have hFc := F_r hD hS hA
                                    refine va_calli (va_runV (As := [.int (q 4), .int (0 : Int32)]) (rest := []) ⟨hx, hb, hml, hown, hts⟩ (w_cell l dC dI cI cC cT cL ad fr hfr0 hfr1 hfr2 hfr3 hfr4 hfr5 H.size T q29.2.1 P Y S q29.2.2 (q 4) (0 : Int32) q31 hq31) (cwV 2 hts gL_same_X6_cell rfl rfl rfl hv_X6_cell ⟨Nat.le_of_ble_eq_true rfl, Nat.le_of_ble_eq_true rfl⟩) ⟨preB_fb, va_recv hK hPc (ci := 6) (q0 := 0) rfl rfl, fun U hU hW => preB_mk hU hW hPc hK hDc hN⟩ rfl rfl hl.1 rfl (lv_room (Nat.le_of_ble_eq_true rfl)) dL_same_1266 ⟨Nat.zero_le _, Nat.zero_le _⟩) hS (fun q _ h => hFc q h) hFc (fun r_ u_ t H locs ht hvm hw hB hz1 hk1 hS => ?_)
                                    have hw : r_ = q31.1 := hw
                                    have hw := hw.symm
                                    subst hw
                                    obtain ⟨hP, hD⟩ := x_joinR hP hD hk1 hFc ht hB
                                    clear hPc hDc hFc hk1 hB ht hz1 hvm
                                    refine lv_iconst (v := -1) hx hb dL_same_1269 (by decide) ?_
                                    refine lv_icmp_ne (tgt := 1277) hx hb dL_same_1270 (by decide) (fun c32 => ?_) (fun c32 => ?_)
                                    · replace hd := ite_f c32 hd
                                      refine lv_iconst (v := 0) hx hb dL_same_1277 (by decide) ?_
                                      exact no_some hd
                                    · replace hd := ite_t c32 hd
                                      refine lv_iconst (v := 1) hx hb dL_same_1273 (by decide) ?_
                                      refine lv_goto (tgt := 1278) hx hb dL_same_1274 (by decide) ?_
                                      cases hd
                                      exact hend (by rfl) (by rfl) hP hD hS dL_same_1278
        clear hd
        have KL47 : ∀ (fu : Nat) (y10_1004 : Int32) (y11_1004 : Int32) (y12_1004 : Int32) (hd : den_L_same_L1004 q bl q1 fu y10_1004 y11_1004 y12_1004 = some q4) (H : Heap) (locs : List Loc) (ls : Array Slot), va_P (dC, dI) vwCl ([(aq, .inl (cI, 5, .inl q)), (ab, .inl (cI, 48, .inl bl)), (am, .inl (cL, 64, .inr (.inl me)))] ++ mod cI cC cT cL ad fr T q3.1 P Y S q3.2) H → va_D A ([(aq, .inl (cI, 5, .inl q)), (ab, .inl (cI, 48, .inl bl)), (am, .inl (cL, 64, .inr (.inl me)))] ++ mod cI cC cT cL ad fr T q3.1 P Y S q3.2) → va_S A s.heap H locs → lv_has ls 21 [(0, .ref (ad 0)), (2, .ref aq), (3, .ref ab), (5, .int q1.1), (6, .int q1.2.1), (7, .int q1.2.2.1), (8, .int q2.1), (9, .int q2.2), (10, .int y10_1004), (11, .int y11_1004), (12, .int y12_1004)] → W p l e rmL_same s m args below meth c H locs 0 0 Q (F0 m 1004 ls []) := by
          intro fu
          induction fu with
          | zero => intro y10_1004 y11_1004 y12_1004 hd; exact no_some hd
          | succ fu ih =>
            intro y10_1004 y11_1004 y12_1004 hd H locs ls hP hD hS hl
            rw [den_L_same_L1004] at hd
            refine lv_iload hx hb dL_same_1004 (lv_at hl 10 rfl) ?_
            refine lv_if_lt (tgt := 1122) hx hb dL_same_1006 (by decide) (fun c33 => ?_) (fun c33 => ?_)
            · replace hd := ite_t c33 hd
              cases hd
              exact Kq4 _ _ _ hP hD hS (lv_sub hl [0, 1, 3, 4, 5, 6, 7, 8, 9] rfl)
            · replace hd := ite_f c33 hd
              refine lv_iload hx hb dL_same_1009 (lv_at hl 5 rfl) ?_
              refine lv_iload hx hb dL_same_1011 (lv_at hl 10 rfl) ?_
              refine lv_ishr hx hb dL_same_1013 ?_
              refine lv_iconst (v := 1) hx hb dL_same_1014 (by decide) ?_
              refine lv_iand hx hb dL_same_1015 ?_
              refine lv_if_ne (tgt := 1022) hx hb dL_same_1016 (by decide) (fun c34 => ?_) (fun c34 => ?_)
              · replace hd := ite_f c34 hd
                refine lv_iconst (v := 0) hx hb dL_same_1022 (by decide) ?_
                refine lv_istore (lv' := [(13, .int (0 : Int32)), (0, .ref (ad 0)), (2, .ref aq), (3, .ref ab), (5, .int q1.1), (6, .int q1.2.1), (7, .int q1.2.2.1), (8, .int q2.1), (9, .int q2.2), (10, .int y10_1004), (11, .int y11_1004), (12, .int y12_1004)]) hx hb dL_same_1023 hl (by decide) rfl (fun ls hl => ?_)
                refine lv_iload hx hb dL_same_1025 (lv_at hl 11 rfl) ?_
                refine lv_iconst (v := 1) hx hb dL_same_1027 (by decide) ?_
                refine lv_iadd hx hb dL_same_1028 ?_
                refine lv_istore (lv' := [(14, .int (y12_1004 + (1 : Int32))), (13, .int (0 : Int32)), (0, .ref (ad 0)), (2, .ref aq), (3, .ref ab), (5, .int q1.1), (6, .int q1.2.1), (7, .int q1.2.2.1), (8, .int q2.1), (9, .int q2.2), (10, .int y10_1004), (11, .int y11_1004), (12, .int y12_1004)]) hx hb dL_same_1029 hl (by decide) rfl (fun ls hl => ?_)
                obtain ⟨q35, hq35, hd⟩ := bnd_some hd
                have Kq35 : ∀ (H : Heap) (locs : List Loc) (ls : Array Slot), va_P (dC, dI) vwCl ([(aq, .inl (cI, 5, .inl q)), (ab, .inl (cI, 48, .inl bl)), (am, .inl (cL, 64, .inr (.inl me)))] ++ mod cI cC cT cL ad fr T q3.1 P Y S q3.2) H → va_D A ([(aq, .inl (cI, 5, .inl q)), (ab, .inl (cI, 48, .inl bl)), (am, .inl (cL, 64, .inr (.inl me)))] ++ mod cI cC cT cL ad fr T q3.1 P Y S q3.2) → va_S A s.heap H locs → lv_has ls 21 [(0, .ref (ad 0)), (2, .ref aq), (3, .ref ab), (5, .int q1.1), (6, .int q1.2.1), (7, .int q1.2.2.1), (8, .int q2.1), (9, .int q2.2), (10, .int y10_1004), (11, .int y11_1004), (12, .int y12_1004), (13, .int q35)] → W p l e rmL_same s m args below meth c H locs 0 0 Q (F0 m 1098 ls []) := by
                  intro H locs ls hP hD hS hl
                  refine lv_iload hx hb dL_same_1098 (lv_at hl 11 rfl) ?_
                  refine lv_iload hx hb dL_same_1100 (lv_at hl 9 rfl) ?_
                  refine lv_icmp_ge (tgt := 1108) hx hb dL_same_1102 (by decide) (fun c36 => ?_) (fun c36 => ?_)
                  · replace hd := ite_t c36 hd
                    refine lv_iload hx hb dL_same_1108 (lv_at hl 11 rfl) ?_
                    refine lv_istore (lv' := [(11, .int q35), (0, .ref (ad 0)), (2, .ref aq), (3, .ref ab), (5, .int q1.1), (6, .int q1.2.1), (7, .int q1.2.2.1), (8, .int q2.1), (9, .int q2.2), (10, .int y10_1004), (12, .int y12_1004), (13, .int q35)]) hx hb dL_same_1110 hl (by decide) rfl (fun ls hl => ?_)
                    refine lv_iload hx hb dL_same_1112 (lv_at hl 10 rfl) ?_
                    refine lv_istore (lv' := [(10, .int y12_1004), (11, .int q35), (0, .ref (ad 0)), (2, .ref aq), (3, .ref ab), (5, .int q1.1), (6, .int q1.2.1), (7, .int q1.2.2.1), (8, .int q2.1), (9, .int q2.2), (12, .int y12_1004), (13, .int q35)]) hx hb dL_same_1114 hl (by decide) rfl (fun ls hl => ?_)
                    refine lv_iinc (v := (y12_1004 + (-1 : Int32))) (lv' := [(12, .int (y12_1004 + (-1 : Int32))), (10, .int y12_1004), (11, .int q35), (0, .ref (ad 0)), (2, .ref aq), (3, .ref ab), (5, .int q1.1), (6, .int q1.2.1), (7, .int q1.2.2.1), (8, .int q2.1), (9, .int q2.2), (13, .int q35)]) hx hb dL_same_1116 hl (k := 10) rfl (by first | rfl | decide) (by decide) rfl (fun ls hl => ?_)
                    refine lv_goto (tgt := 1004) hx hb dL_same_1119 (by decide) ?_
                    exact ih y12_1004 q35 (y12_1004 + (-1 : Int32)) hd _ _ _ hP hD hS (lv_sub hl [3, 4, 5, 6, 7, 8, 9, 10, 1, 2, 0] rfl)
                  · replace hd := ite_f c36 hd
                    refine lv_goto (tgt := 1116) hx hb dL_same_1105 (by decide) ?_
                    refine lv_iinc (v := (y12_1004 + (-1 : Int32))) (lv' := [(12, .int (y12_1004 + (-1 : Int32))), (0, .ref (ad 0)), (2, .ref aq), (3, .ref ab), (5, .int q1.1), (6, .int q1.2.1), (7, .int q1.2.2.1), (8, .int q2.1), (9, .int q2.2), (10, .int y10_1004), (11, .int y11_1004), (13, .int q35)]) hx hb dL_same_1116 hl (k := 10) rfl (by first | rfl | decide) (by decide) rfl (fun ls hl => ?_)
                    refine lv_goto (tgt := 1004) hx hb dL_same_1119 (by decide) ?_
                    exact ih y10_1004 y11_1004 (y12_1004 + (-1 : Int32)) hd _ _ _ hP hD hS (lv_sub hl [1, 2, 3, 4, 5, 6, 7, 8, 9, 10, 0] rfl)
                clear hd
                have KL46 : ∀ (fu : Nat) (y13_1031 : Int32) (y14_1031 : Int32) (hd : den_L_same_L1031 q bl q1 y12_1004 fu y13_1031 y14_1031 = some q35) (H : Heap) (locs : List Loc) (ls : Array Slot), va_P (dC, dI) vwCl ([(aq, .inl (cI, 5, .inl q)), (ab, .inl (cI, 48, .inl bl)), (am, .inl (cL, 64, .inr (.inl me)))] ++ mod cI cC cT cL ad fr T q3.1 P Y S q3.2) H → va_D A ([(aq, .inl (cI, 5, .inl q)), (ab, .inl (cI, 48, .inl bl)), (am, .inl (cL, 64, .inr (.inl me)))] ++ mod cI cC cT cL ad fr T q3.1 P Y S q3.2) → va_S A s.heap H locs → lv_has ls 21 [(0, .ref (ad 0)), (2, .ref aq), (3, .ref ab), (5, .int q1.1), (6, .int q1.2.1), (7, .int q1.2.2.1), (8, .int q2.1), (9, .int q2.2), (10, .int y10_1004), (11, .int y11_1004), (12, .int y12_1004), (13, .int y13_1031), (14, .int y14_1031)] → W p l e rmL_same s m args below meth c H locs 0 0 Q (F0 m 1031 ls []) := by
                  intro fu
                  induction fu with
                  | zero => intro y13_1031 y14_1031 hd; exact no_some hd
                  | succ fu ih =>
                    intro y13_1031 y14_1031 hd H locs ls hP hD hS hl
                    rw [den_L_same_L1031] at hd
                    refine lv_iload hx hb dL_same_1031 (lv_at hl 12 rfl) ?_
                    refine lv_aload_n hx hb dL_same_1033 rfl (lv_at hl 1 rfl) ?_
                    refine lv_iconst (v := 3) hx hb dL_same_1034 (by decide) ?_
                    refine x_iald (k := 3) hx hb hK hP 0 0 rfl rfl (inb_in (by decide)) rfl dL_same_1035 ?_
                    refine lv_icmp_ge (tgt := 1098) hx hb dL_same_1036 (by decide) (fun c37 => ?_) (fun c37 => ?_)
                    · replace hd := ite_t c37 hd
                      cases hd
                      exact Kq35 _ _ _ hP hD hS (lv_sub hl [0, 1, 2, 3, 4, 5, 6, 7, 8, 9, 10, 11] rfl)
                    · replace hd := ite_f c37 hd
                      refine lv_iload hx hb dL_same_1039 (lv_at hl 12 rfl) ?_
                      refine lv_istore (lv' := [(15, .int y14_1031), (0, .ref (ad 0)), (2, .ref aq), (3, .ref ab), (5, .int q1.1), (6, .int q1.2.1), (7, .int q1.2.2.1), (8, .int q2.1), (9, .int q2.2), (10, .int y10_1004), (11, .int y11_1004), (12, .int y12_1004), (13, .int y13_1031), (14, .int y14_1031)]) hx hb dL_same_1041 hl (by decide) rfl (fun ls hl => ?_)
                      obtain ⟨q38, hq38, hd⟩ := bnd_some hd
                      have Kq38 : ∀ (H : Heap) (locs : List Loc) (ls : Array Slot), va_P (dC, dI) vwCl ([(aq, .inl (cI, 5, .inl q)), (ab, .inl (cI, 48, .inl bl)), (am, .inl (cL, 64, .inr (.inl me)))] ++ mod cI cC cT cL ad fr T q3.1 P Y S q3.2) H → va_D A ([(aq, .inl (cI, 5, .inl q)), (ab, .inl (cI, 48, .inl bl)), (am, .inl (cL, 64, .inr (.inl me)))] ++ mod cI cC cT cL ad fr T q3.1 P Y S q3.2) → va_S A s.heap H locs → lv_has ls 21 [(0, .ref (ad 0)), (2, .ref aq), (3, .ref ab), (5, .int q1.1), (6, .int q1.2.1), (7, .int q1.2.2.1), (8, .int q2.1), (9, .int q2.2), (10, .int y10_1004), (11, .int y11_1004), (12, .int y12_1004), (13, .int y13_1031), (14, .int y14_1031), (15, .int q38)] → W p l e rmL_same s m args below meth c H locs 0 0 Q (F0 m 1064 ls []) := by
                        intro H locs ls hP hD hS hl
                        refine lv_iload hx hb dL_same_1064 (lv_at hl 11 rfl) ?_
                        refine lv_iload hx hb dL_same_1066 (lv_at hl 13 rfl) ?_
                        refine lv_iload hx hb dL_same_1068 (lv_at hl 10 rfl) ?_
                        obtain ⟨q39, hq39, hd⟩ := bnd_some hd
                        have Kq39 : ∀ (H : Heap) (locs : List Loc) (ls : Array Slot), va_P (dC, dI) vwCl ([(aq, .inl (cI, 5, .inl q)), (ab, .inl (cI, 48, .inl bl)), (am, .inl (cL, 64, .inr (.inl me)))] ++ mod cI cC cT cL ad fr T q3.1 P Y S q3.2) H → va_D A ([(aq, .inl (cI, 5, .inl q)), (ab, .inl (cI, 48, .inl bl)), (am, .inl (cL, 64, .inr (.inl me)))] ++ mod cI cC cT cL ad fr T q3.1 P Y S q3.2) → va_S A s.heap H locs → lv_has ls 21 [(0, .ref (ad 0)), (2, .ref aq), (3, .ref ab), (5, .int q1.1), (6, .int q1.2.1), (7, .int q1.2.2.1), (8, .int q2.1), (9, .int q2.2), (10, .int y10_1004), (11, .int y11_1004), (12, .int y12_1004), (14, .int y14_1031)] → W p l e rmL_same s m args below meth c H locs 0 0 Q (F0 m 1089 ls [.int q39, .int y13_1031]) := by
                          intro H locs ls hP hD hS hl
                          refine lv_iadd hx hb dL_same_1089 ?_
                          refine lv_istore (lv' := [(13, .int (y13_1031 + q39)), (0, .ref (ad 0)), (2, .ref aq), (3, .ref ab), (5, .int q1.1), (6, .int q1.2.1), (7, .int q1.2.2.1), (8, .int q2.1), (9, .int q2.2), (10, .int y10_1004), (11, .int y11_1004), (12, .int y12_1004), (14, .int y14_1031)]) hx hb dL_same_1090 hl (by decide) rfl (fun ls hl => ?_)
                          refine lv_iinc (v := (y14_1031 + (1 : Int32))) (lv' := [(14, .int (y14_1031 + (1 : Int32))), (13, .int (y13_1031 + q39)), (0, .ref (ad 0)), (2, .ref aq), (3, .ref ab), (5, .int q1.1), (6, .int q1.2.1), (7, .int q1.2.2.1), (8, .int q2.1), (9, .int q2.2), (10, .int y10_1004), (11, .int y11_1004), (12, .int y12_1004)]) hx hb dL_same_1092 hl (k := 12) rfl (by first | rfl | decide) (by decide) rfl (fun ls hl => ?_)
                          refine lv_goto (tgt := 1031) hx hb dL_same_1095 (by decide) ?_
                          exact ih (y13_1031 + q39) (y14_1031 + (1 : Int32)) hd _ _ _ hP hD hS (lv_sub hl [2, 3, 4, 5, 6, 7, 8, 9, 10, 11, 12, 1, 0] rfl)
                        replace hd := hq39
                        clear hq39
                        refine lv_icmp_ne (tgt := 1088) hx hb dL_same_1070 (by decide) (fun c40 => ?_) (fun c40 => ?_)
                        · replace hd := ite_f c40 hd
                          refine lv_iconst (v := 0) hx hb dL_same_1088 (by decide) ?_
                          cases hd
                          exact Kq39 _ _ _ hP hD hS (lv_sub hl [0, 1, 2, 3, 4, 5, 6, 7, 8, 9, 10, 12] rfl)
                        · replace hd := ite_t c40 hd
                          refine lv_iload hx hb dL_same_1073 (lv_at hl 5 rfl) ?_
                          refine lv_iload hx hb dL_same_1075 (lv_at hl 12 rfl) ?_
                          refine lv_ishr hx hb dL_same_1077 ?_
                          refine lv_iconst (v := 1) hx hb dL_same_1078 (by decide) ?_
                          refine lv_iand hx hb dL_same_1079 ?_
                          refine lv_iconst (v := 1) hx hb dL_same_1080 (by decide) ?_
                          refine lv_icmp_ne (tgt := 1088) hx hb dL_same_1081 (by decide) (fun c41 => ?_) (fun c41 => ?_)
                          · replace hd := ite_f c41 hd
                            refine lv_iconst (v := 0) hx hb dL_same_1088 (by decide) ?_
                            cases hd
                            exact Kq39 _ _ _ hP hD hS (lv_sub hl [0, 1, 2, 3, 4, 5, 6, 7, 8, 9, 10, 12] rfl)
                          · replace hd := ite_t c41 hd
                            refine lv_iconst (v := 1) hx hb dL_same_1084 (by decide) ?_
                            refine lv_goto (tgt := 1089) hx hb dL_same_1085 (by decide) ?_
                            cases hd
                            exact Kq39 _ _ _ hP hD hS (lv_sub hl [0, 1, 2, 3, 4, 5, 6, 7, 8, 9, 10, 12] rfl)
                      clear hd
                      have KL45 : ∀ (fu : Nat) (y15_1043 : Int32) (hd : den_L_same_L1043 bl y12_1004 fu y15_1043 = some q38) (H : Heap) (locs : List Loc) (ls : Array Slot), va_P (dC, dI) vwCl ([(aq, .inl (cI, 5, .inl q)), (ab, .inl (cI, 48, .inl bl)), (am, .inl (cL, 64, .inr (.inl me)))] ++ mod cI cC cT cL ad fr T q3.1 P Y S q3.2) H → va_D A ([(aq, .inl (cI, 5, .inl q)), (ab, .inl (cI, 48, .inl bl)), (am, .inl (cL, 64, .inr (.inl me)))] ++ mod cI cC cT cL ad fr T q3.1 P Y S q3.2) → va_S A s.heap H locs → lv_has ls 21 [(0, .ref (ad 0)), (2, .ref aq), (3, .ref ab), (5, .int q1.1), (6, .int q1.2.1), (7, .int q1.2.2.1), (8, .int q2.1), (9, .int q2.2), (10, .int y10_1004), (11, .int y11_1004), (12, .int y12_1004), (13, .int y13_1031), (14, .int y14_1031), (15, .int y15_1043)] → W p l e rmL_same s m args below meth c H locs 0 0 Q (F0 m 1043 ls []) := by
                        intro fu
                        induction fu with
                        | zero => intro y15_1043 hd; exact no_some hd
                        | succ fu ih =>
                          intro y15_1043 hd H locs ls hP hD hS hl
                          rw [den_L_same_L1043] at hd
                          refine lv_iload hx hb dL_same_1043 (lv_at hl 13 rfl) ?_
                          refine lv_iload hx hb dL_same_1045 (lv_at hl 10 rfl) ?_
                          refine lv_icmp_le (tgt := 1064) hx hb dL_same_1047 (by decide) (fun c42 => ?_) (fun c42 => ?_)
                          · replace hd := ite_t c42 hd
                            cases hd
                            exact Kq38 _ _ _ hP hD hS (lv_sub hl [0, 1, 2, 3, 4, 5, 6, 7, 8, 9, 10, 11, 12, 13] rfl)
                          · replace hd := ite_f c42 hd
                            refine lv_aload_n hx hb dL_same_1050 rfl (lv_at hl 2 rfl) ?_
                            refine lv_bipush (v := 8) hx hb dL_same_1051 (by decide) ?_
                            refine lv_iload hx hb dL_same_1053 (lv_at hl 13 rfl) ?_
                            refine lv_imul hx hb dL_same_1055 ?_
                            refine lv_iconst (v := 1) hx hb dL_same_1056 (by decide) ?_
                            refine lv_iadd hx hb dL_same_1057 ?_
                            obtain ⟨g43, hd⟩ := gd_some hd
                            refine x_iald (k := (((8 : Int32) * y15_1043) + (1 : Int32)).toNatClampNeg) hx hb hK hP 1 0 rfl rfl (inb_in g43) rfl dL_same_1058 ?_
                            refine lv_topi (fun x44 ex44 => ?_)
                            replace hd := nm_some ex44 hd
                            refine lv_istore (lv' := [(15, .int x44), (0, .ref (ad 0)), (2, .ref aq), (3, .ref ab), (5, .int q1.1), (6, .int q1.2.1), (7, .int q1.2.2.1), (8, .int q2.1), (9, .int q2.2), (10, .int y10_1004), (11, .int y11_1004), (12, .int y12_1004), (13, .int y13_1031), (14, .int y14_1031)]) hx hb dL_same_1059 hl (by decide) rfl (fun ls hl => ?_)
                            refine lv_goto (tgt := 1043) hx hb dL_same_1061 (by decide) ?_
                            exact ih x44 hd _ _ _ hP hD hS (lv_sub hl [1, 2, 3, 4, 5, 6, 7, 8, 9, 10, 11, 12, 13, 0] rfl)
                      exact KL45 FU y14_1031 hq38 _ _ _ hP hD hS (lv_sub hl [1, 2, 3, 4, 5, 6, 7, 8, 9, 10, 11, 12, 13, 0] rfl)
                exact KL46 FU (0 : Int32) (y12_1004 + (1 : Int32)) hq35 _ _ _ hP hD hS (lv_sub hl [2, 3, 4, 5, 6, 7, 8, 9, 10, 11, 12, 1, 0] rfl)
              · replace hd := ite_t c34 hd
                refine lv_goto (tgt := 1116) hx hb dL_same_1019 (by decide) ?_
                refine lv_iinc (v := (y12_1004 + (-1 : Int32))) (lv' := [(12, .int (y12_1004 + (-1 : Int32))), (0, .ref (ad 0)), (2, .ref aq), (3, .ref ab), (5, .int q1.1), (6, .int q1.2.1), (7, .int q1.2.2.1), (8, .int q2.1), (9, .int q2.2), (10, .int y10_1004), (11, .int y11_1004)]) hx hb dL_same_1116 hl (k := 10) rfl (by first | rfl | decide) (by decide) rfl (fun ls hl => ?_)
                refine lv_goto (tgt := 1004) hx hb dL_same_1119 (by decide) ?_
                exact ih y10_1004 y11_1004 (y12_1004 + (-1 : Int32)) hd _ _ _ hP hD hS (lv_sub hl [1, 2, 3, 4, 5, 6, 7, 8, 9, 10, 0] rfl)
        exact KL47 FU (-6 : Int32) (-6 : Int32) ((q 3) - (1 : Int32)) hq4 _ _ _ hP hD hS (lv_sub hl [3, 4, 5, 6, 7, 8, 9, 10, 2, 1, 0] rfl)
      replace hd := hq3
      clear hq3
      refine lv_if_le (tgt := 989) hx hb dL_same_524 (by decide) (fun c48 => ?_) (fun c48 => ?_)
      · replace hd := ite_t c48 hd
        cases hd
        exact Kq3 _ _ _ hP hD hS (lv_sub hl [0, 2, 3, 5, 6, 7, 8, 9] rfl)
      · replace hd := ite_f c48 hd
        refine lv_iload_n hx hb dL_same_527 rfl (lv_at hl 1 rfl) ?_
        refine lv_aload_n hx hb dL_same_528 rfl (lv_at hl 2 rfl) ?_
        refine lv_iconst (v := 4) hx hb dL_same_529 (by decide) ?_
        refine x_iald (k := 4) hx hb hK hP 0 0 rfl rfl (inb_in (by decide)) rfl dL_same_530 ?_
        obtain ⟨q49, hq49, hd⟩ := bnd_some hd
        have hPc : va_P (dC, dI) vwCl [] _ := hP.sub [] rfl
        have hDc := hD.sub (ws' := []) [] (by decide) rfl
        have hFc := va_free (wc := []) hD hS hA [] rfl
        refine va_calli (va_runS (As := [.int p2, .int (q 4)]) (rest := []) ⟨hx, hb, hml, hown, hts⟩ (c_L_low l dC dI cI cC cT cL H.size p2 (q 4) q49 hq49) (va_cwS 2 hts gL_same_L_low rfl rfl rfl hp_L_low ⟨Nat.le_of_ble_eq_true rfl, Nat.le_of_ble_eq_true rfl⟩) ⟨preB_fb, fun U hU hW => preB_mk hU hW hPc hK hDc hN⟩ rfl rfl hl.1 rfl (lv_room (Nat.le_of_ble_eq_true rfl)) dL_same_531 ⟨Nat.zero_le _, Nat.zero_le _⟩) hS (fun q _ h => hFc q h) hFc (fun r_ u_ t H locs ht hvm hw hB hz1 hk1 hS => ?_)
        have hw : r_ = q49 := hw
        have hw := hw.symm
        subst hw
        obtain ⟨hP, hD⟩ := x_joinL (r' := [(aq, .inl (cI, 5, .inl q)), (ab, .inl (cI, 48, .inl bl)), (am, .inl (cL, 64, .inr (.inl me)))]) hP hD [] [0, 1, 2] rfl rfl (by decide) (by decide) hk1 hFc ht hB [0, 1, 2] (by decide) rfl rfl
        clear hPc hDc hFc hk1 hB ht hz1 hvm
        refine lv_istore (lv' := [(10, .int q49), (0, .ref (ad 0)), (1, .int p2), (2, .ref aq), (3, .ref ab), (4, .ref am), (5, .int q1.1), (6, .int q1.2.1), (7, .int q1.2.2.1), (8, .int q2.1), (9, .int q2.2)]) hx hb dL_same_534 hl (by decide) rfl (fun ls hl => ?_)
        refine lv_iconst (v := 0) hx hb dL_same_536 (by decide) ?_
        refine lv_istore (lv' := [(11, .int (0 : Int32)), (10, .int q49), (0, .ref (ad 0)), (1, .int p2), (2, .ref aq), (3, .ref ab), (4, .ref am), (5, .int q1.1), (6, .int q1.2.1), (7, .int q1.2.2.1), (8, .int q2.1), (9, .int q2.2)]) hx hb dL_same_537 hl (by decide) rfl (fun ls hl => ?_)
        obtain ⟨q50, hq50, hd⟩ := bnd_some hd
        have Kq50 : ∀ (H : Heap) (locs : List Loc) (ls : Array Slot), va_P (dC, dI) vwCl ([(aq, .inl (cI, 5, .inl q)), (ab, .inl (cI, 48, .inl bl)), (am, .inl (cL, 64, .inr (.inl me)))] ++ mod cI cC cT cL ad fr T q1.2.2.2.1 P Y S q1.2.2.2.2) H → va_D A ([(aq, .inl (cI, 5, .inl q)), (ab, .inl (cI, 48, .inl bl)), (am, .inl (cL, 64, .inr (.inl me)))] ++ mod cI cC cT cL ad fr T q1.2.2.2.1 P Y S q1.2.2.2.2) → va_S A s.heap H locs → lv_has ls 21 [(0, .ref (ad 0)), (1, .int p2), (2, .ref aq), (3, .ref ab), (4, .ref am), (5, .int q1.1), (6, .int q1.2.1), (7, .int q1.2.2.1), (8, .int q2.1), (9, .int q2.2), (10, .int q49), (11, .int q50)] → W p l e rmL_same s m args below meth c H locs 0 0 Q (F0 m 570 ls []) := by
          intro H locs ls hP hD hS hl
          refine lv_iload hx hb dL_same_570 (lv_at hl 10 rfl) ?_
          refine lv_aload_n hx hb dL_same_572 rfl (lv_at hl 3 rfl) ?_
          refine lv_bipush (v := 8) hx hb dL_same_573 (by decide) ?_
          refine lv_iload hx hb dL_same_575 (lv_at hl 11 rfl) ?_
          refine lv_imul hx hb dL_same_577 ?_
          refine lv_iconst (v := 3) hx hb dL_same_578 (by decide) ?_
          refine lv_iadd hx hb dL_same_579 ?_
          obtain ⟨g51, hd⟩ := gd_some hd
          refine x_iald (k := (((8 : Int32) * q50) + (3 : Int32)).toNatClampNeg) hx hb hK hP 1 0 rfl rfl (inb_in g51) rfl dL_same_580 ?_
          refine lv_isub hx hb dL_same_581 ?_
          refine lv_topi (fun x52 ex52 => ?_)
          replace hd := nm_some ex52 hd
          refine lv_istore (lv' := [(12, .int x52), (0, .ref (ad 0)), (1, .int p2), (2, .ref aq), (3, .ref ab), (4, .ref am), (5, .int q1.1), (6, .int q1.2.1), (7, .int q1.2.2.1), (8, .int q2.1), (9, .int q2.2), (10, .int q49), (11, .int q50)]) hx hb dL_same_582 hl (by decide) rfl (fun ls hl => ?_)
          refine lv_iload hx hb dL_same_584 (lv_at hl 0 rfl) ?_
          refine lv_iload hx hb dL_same_586 (lv_at hl 12 rfl) ?_
          refine lv_aload_n hx hb dL_same_588 rfl (lv_at hl 4 rfl) ?_
          obtain ⟨q53, hq53, hd⟩ := bnd_some hd
          have hPc : va_P (dC, dI) vwCl [(ab, .inl (cI, 48, .inl bl))] _ := hP.sub [1] rfl
          have hDc := hD.sub (ws' := [(ab, .inl (cI, 48, .inl bl))]) [1] (by decide) rfl
          have hFc := va_free (wc := [(ab, .inl (cI, 48, .inl bl))]) hD hS hA [1] rfl
          refine va_calli (va_runS (As := [.int q50, .ref ab]) (rest := [.int x52]) ⟨hx, hb, hml, hown, hts⟩ (c_L_size l dC dI cI cC cT cL ab 48 H.size bl q50 q53 hq53) (va_cwS 2 hts gL_same_L_size rfl rfl rfl hp_L_size ⟨Nat.le_of_ble_eq_true rfl, Nat.le_of_ble_eq_true rfl⟩) ⟨preB_fb, fun U hU hW => preB_mk hU hW hPc hK hDc hN⟩ rfl rfl hl.1 rfl (lv_room (Nat.le_of_ble_eq_true rfl)) dL_same_589 ⟨Nat.zero_le _, Nat.zero_le _⟩) hS (fun q _ h => hFc q h) hFc (fun r_ u_ t H locs ht hvm hw hB hz1 hk1 hS => ?_)
          have hw : r_ = q53 := hw
          have hw := hw.symm
          subst hw
          obtain ⟨hP, hD⟩ := x_joinL (r' := [(aq, .inl (cI, 5, .inl q)), (ab, .inl (cI, 48, .inl bl)), (am, .inl (cL, 64, .inr (.inl me)))]) hP hD [1] [0, 2] rfl rfl (by decide) (by decide) hk1 hFc ht hB [0, 2, 1] (by decide) rfl rfl
          clear hPc hDc hFc hk1 hB ht hz1 hvm
          obtain ⟨g54, hd⟩ := gd_some hd
          refine lv_idiv hx hb dL_same_592 (of_decide_eq_true g54) ?_
          refine lv_istore (lv' := [(13, .int (x52 / q53)), (12, .int x52), (0, .ref (ad 0)), (1, .int p2), (2, .ref aq), (3, .ref ab), (4, .ref am), (5, .int q1.1), (6, .int q1.2.1), (7, .int q1.2.2.1), (8, .int q2.1), (9, .int q2.2), (10, .int q49), (11, .int q50)]) hx hb dL_same_593 hl (by decide) rfl (fun ls hl => ?_)
          refine lv_iload hx hb dL_same_595 (lv_at hl 1 rfl) ?_
          refine lv_iload hx hb dL_same_597 (lv_at hl 13 rfl) ?_
          refine lv_aload_n hx hb dL_same_599 rfl (lv_at hl 5 rfl) ?_
          obtain ⟨q55, hq55, hd⟩ := bnd_some hd
          have hPc : va_P (dC, dI) vwCl [(ab, .inl (cI, 48, .inl bl))] _ := hP.sub [1] rfl
          have hDc := hD.sub (ws' := [(ab, .inl (cI, 48, .inl bl))]) [1] (by decide) rfl
          have hFc := va_free (wc := [(ab, .inl (cI, 48, .inl bl))]) hD hS hA [1] rfl
          refine va_calli (va_runS (As := [.int q50, .ref ab]) (rest := [.int x52]) ⟨hx, hb, hml, hown, hts⟩ (c_L_size l dC dI cI cC cT cL ab 48 H.size bl q50 q55 hq55) (va_cwS 2 hts gL_same_L_size rfl rfl rfl hp_L_size ⟨Nat.le_of_ble_eq_true rfl, Nat.le_of_ble_eq_true rfl⟩) ⟨preB_fb, fun U hU hW => preB_mk hU hW hPc hK hDc hN⟩ rfl rfl hl.1 rfl (lv_room (Nat.le_of_ble_eq_true rfl)) dL_same_600 ⟨Nat.zero_le _, Nat.zero_le _⟩) hS (fun q _ h => hFc q h) hFc (fun r_ u_ t H locs ht hvm hw hB hz1 hk1 hS => ?_)
          have hw : r_ = q55 := hw
          have hw := hw.symm
          subst hw
          obtain ⟨hP, hD⟩ := x_joinL (r' := [(aq, .inl (cI, 5, .inl q)), (ab, .inl (cI, 48, .inl bl)), (am, .inl (cL, 64, .inr (.inl me)))]) hP hD [1] [0, 2] rfl rfl (by decide) (by decide) hk1 hFc ht hB [0, 2, 1] (by decide) rfl rfl
          clear hPc hDc hFc hk1 hB ht hz1 hvm
          obtain ⟨g56, hd⟩ := gd_some hd
          refine lv_irem hx hb dL_same_603 (of_decide_eq_true g56) ?_
          refine lv_iconst (v := 4) hx hb dL_same_604 (by decide) ?_
          refine lv_isub hx hb dL_same_605 ?_
          refine lv_istore (lv' := [(14, .int ((x52 - x52 / q55 * q55) - (4 : Int32))), (13, .int (x52 / q53)), (12, .int x52), (0, .ref (ad 0)), (1, .int p2), (2, .ref aq), (3, .ref ab), (4, .ref am), (5, .int q1.1), (6, .int q1.2.1), (7, .int q1.2.2.1), (8, .int q2.1), (9, .int q2.2), (10, .int q49), (11, .int q50)]) hx hb dL_same_606 hl (by decide) rfl (fun ls hl => ?_)
          refine lv_iload hx hb dL_same_608 (lv_at hl 1 rfl) ?_
          refine lv_iconst (v := 2) hx hb dL_same_610 (by decide) ?_
          obtain ⟨q57, hq57, hd⟩ := bnd_some hd
          have Kq57 : ∀ (H : Heap) (locs : List Loc) (ls : Array Slot), va_P (dC, dI) vwCl ([(aq, .inl (cI, 5, .inl q)), (ab, .inl (cI, 48, .inl bl)), (am, .inl (cL, 64, .inr (.inl me)))] ++ mod cI cC cT cL ad fr T q1.2.2.2.1 P Y S q1.2.2.2.2) H → va_D A ([(aq, .inl (cI, 5, .inl q)), (ab, .inl (cI, 48, .inl bl)), (am, .inl (cL, 64, .inr (.inl me)))] ++ mod cI cC cT cL ad fr T q1.2.2.2.1 P Y S q1.2.2.2.2) → va_S A s.heap H locs → lv_has ls 21 [(0, .ref (ad 0)), (1, .int p2), (2, .ref aq), (3, .ref ab), (4, .ref am), (5, .int q1.1), (6, .int q1.2.1), (7, .int q1.2.2.1), (8, .int q2.1), (9, .int q2.2), (10, .int q49), (11, .int q50), (13, .int (x52 / q53))] → W p l e rmL_same s m args below meth c H locs 0 0 Q (F0 m 646 ls [.int q57]) := by
            intro H locs ls hP hD hS hl
            refine lv_istore (lv' := [(15, .int q57), (0, .ref (ad 0)), (1, .int p2), (2, .ref aq), (3, .ref ab), (4, .ref am), (5, .int q1.1), (6, .int q1.2.1), (7, .int q1.2.2.1), (8, .int q2.1), (9, .int q2.2), (10, .int q49), (11, .int q50), (13, .int (x52 / q53))]) hx hb dL_same_646 hl (by decide) rfl (fun ls hl => ?_)
            refine lv_aload_n hx hb dL_same_648 rfl (lv_at hl 1 rfl) ?_
            refine lv_iload hx hb dL_same_649 (lv_at hl 11 rfl) ?_
            refine lv_iconst (v := 0) hx hb dL_same_651 (by decide) ?_
            obtain ⟨q58, hq58, hd⟩ := bnd_some hd
            have hPc := P_r hP
            have hDc := D_r hD
            have hFc := F_r hD hS hA
            refine va_calli (va_runV (As := [.int q49, .int (0 : Int32)]) (rest := []) ⟨hx, hb, hml, hown, hts⟩ (w_cell l dC dI cI cC cT cL ad fr hfr0 hfr1 hfr2 hfr3 hfr4 hfr5 H.size T q1.2.2.2.1 P Y S q1.2.2.2.2 q49 (0 : Int32) q58 hq58) (cwV 2 hts gL_same_X6_cell rfl rfl rfl hv_X6_cell ⟨Nat.le_of_ble_eq_true rfl, Nat.le_of_ble_eq_true rfl⟩) ⟨preB_fb, va_recv hK hPc (ci := 6) (q0 := 0) rfl rfl, fun U hU hW => preB_mk hU hW hPc hK hDc hN⟩ rfl rfl hl.1 rfl (lv_room (Nat.le_of_ble_eq_true rfl)) dL_same_652 ⟨Nat.zero_le _, Nat.zero_le _⟩) hS (fun q _ h => hFc q h) hFc (fun r_ u_ t H locs ht hvm hw hB hz1 hk1 hS => ?_)
            have hw : r_ = q58.1 := hw
            have hw := hw.symm
            subst hw
            obtain ⟨hP, hD⟩ := x_joinR hP hD hk1 hFc ht hB
            clear hPc hDc hFc hk1 hB ht hz1 hvm
            refine lv_iload hx hb dL_same_655 (lv_at hl 11 rfl) ?_
            refine lv_aload hx hb dL_same_657 (lv_at hl 5 rfl) ?_
            obtain ⟨q59, hq59, hd⟩ := bnd_some hd
            have hPc : va_P (dC, dI) vwCl [(am, .inl (cL, 64, .inr (.inl me)))] _ := hP.sub [2] rfl
            have hDc := hD.sub (ws' := [(am, .inl (cL, 64, .inr (.inl me)))]) [2] (by decide) rfl
            have hFc := va_free (wc := [(am, .inl (cL, 64, .inr (.inl me)))]) hD hS hA [2] rfl
            refine va_calli (va_runS (As := [.int q49, .ref am]) (rest := [.int q58.1]) ⟨hx, hb, hml, hown, hts⟩ (c_L_mem l dC dI cI cC cT cL am 64 H.size me q49 q59 hq59) (va_cwS 2 hts gL_same_L_mem rfl rfl rfl hp_L_mem ⟨Nat.le_of_ble_eq_true rfl, Nat.le_of_ble_eq_true rfl⟩) ⟨preB_fb, fun U hU hW => preB_mk hU hW hPc hK hDc hN⟩ rfl rfl hl.1 rfl (lv_room (Nat.le_of_ble_eq_true rfl)) dL_same_659 ⟨Nat.zero_le _, Nat.zero_le _⟩) hS (fun q _ h => hFc q h) hFc (fun r_ u_ t H locs ht hvm hw hB hz1 hk1 hS => ?_)
            have hw : r_ = q59 := hw
            have hw := hw.symm
            subst hw
            obtain ⟨hP, hD⟩ := x_joinL (r' := [(aq, .inl (cI, 5, .inl q)), (ab, .inl (cI, 48, .inl bl)), (am, .inl (cL, 64, .inr (.inl me)))]) hP hD [2] [0, 1] rfl rfl (by decide) (by decide) hk1 hFc ht hB [0, 1, 2] (by decide) rfl rfl
            clear hPc hDc hFc hk1 hB ht hz1 hvm
            refine lv_sipush (v := 128) hx hb dL_same_662 (by decide) ?_
            refine lv_irem hx hb dL_same_665 (by decide) ?_
            refine lv_icmp_ne (tgt := 742) hx hb dL_same_666 (by decide) (fun c60 => ?_) (fun c60 => ?_)
            · replace hd := ite_f c60 hd
              refine lv_iconst (v := 0) hx hb dL_same_742 (by decide) ?_
              exact no_some hd
            · replace hd := ite_t c60 hd
              refine lv_aload_n hx hb dL_same_669 rfl (lv_at hl 1 rfl) ?_
              refine lv_iload hx hb dL_same_670 (lv_at hl 11 rfl) ?_
              refine lv_iconst (v := 1) hx hb dL_same_672 (by decide) ?_
              obtain ⟨q61, hq61, hd⟩ := bnd_some hd
              have hPc := P_r hP
              have hDc := D_r hD
              have hFc := F_r hD hS hA
              refine va_calli (va_runV (As := [.int q49, .int (1 : Int32)]) (rest := []) ⟨hx, hb, hml, hown, hts⟩ (w_cell l dC dI cI cC cT cL ad fr hfr0 hfr1 hfr2 hfr3 hfr4 hfr5 H.size T q58.2.1 P Y S q58.2.2 q49 (1 : Int32) q61 hq61) (cwV 2 hts gL_same_X6_cell rfl rfl rfl hv_X6_cell ⟨Nat.le_of_ble_eq_true rfl, Nat.le_of_ble_eq_true rfl⟩) ⟨preB_fb, va_recv hK hPc (ci := 6) (q0 := 0) rfl rfl, fun U hU hW => preB_mk hU hW hPc hK hDc hN⟩ rfl rfl hl.1 rfl (lv_room (Nat.le_of_ble_eq_true rfl)) dL_same_673 ⟨Nat.zero_le _, Nat.zero_le _⟩) hS (fun q _ h => hFc q h) hFc (fun r_ u_ t H locs ht hvm hw hB hz1 hk1 hS => ?_)
              have hw : r_ = q61.1 := hw
              have hw := hw.symm
              subst hw
              obtain ⟨hP, hD⟩ := x_joinR hP hD hk1 hFc ht hB
              clear hPc hDc hFc hk1 hB ht hz1 hvm
              refine lv_iload hx hb dL_same_676 (lv_at hl 11 rfl) ?_
              refine lv_aload hx hb dL_same_678 (lv_at hl 5 rfl) ?_
              obtain ⟨q62, hq62, hd⟩ := bnd_some hd
              have hPc : va_P (dC, dI) vwCl [(am, .inl (cL, 64, .inr (.inl me)))] _ := hP.sub [2] rfl
              have hDc := hD.sub (ws' := [(am, .inl (cL, 64, .inr (.inl me)))]) [2] (by decide) rfl
              have hFc := va_free (wc := [(am, .inl (cL, 64, .inr (.inl me)))]) hD hS hA [2] rfl
              refine va_calli (va_runS (As := [.int q49, .ref am]) (rest := [.int q61.1]) ⟨hx, hb, hml, hown, hts⟩ (c_L_mem l dC dI cI cC cT cL am 64 H.size me q49 q62 hq62) (va_cwS 2 hts gL_same_L_mem rfl rfl rfl hp_L_mem ⟨Nat.le_of_ble_eq_true rfl, Nat.le_of_ble_eq_true rfl⟩) ⟨preB_fb, fun U hU hW => preB_mk hU hW hPc hK hDc hN⟩ rfl rfl hl.1 rfl (lv_room (Nat.le_of_ble_eq_true rfl)) dL_same_680 ⟨Nat.zero_le _, Nat.zero_le _⟩) hS (fun q _ h => hFc q h) hFc (fun r_ u_ t H locs ht hvm hw hB hz1 hk1 hS => ?_)
              have hw : r_ = q62 := hw
              have hw := hw.symm
              subst hw
              obtain ⟨hP, hD⟩ := x_joinL (r' := [(aq, .inl (cI, 5, .inl q)), (ab, .inl (cI, 48, .inl bl)), (am, .inl (cL, 64, .inr (.inl me)))]) hP hD [2] [0, 1] rfl rfl (by decide) (by decide) hk1 hFc ht hB [0, 1, 2] (by decide) rfl rfl
              clear hPc hDc hFc hk1 hB ht hz1 hvm
              refine lv_sipush (v := 128) hx hb dL_same_683 (by decide) ?_
              refine lv_idiv hx hb dL_same_686 (by decide) ?_
              refine lv_icmp_ne (tgt := 742) hx hb dL_same_687 (by decide) (fun c63 => ?_) (fun c63 => ?_)
              · replace hd := ite_f c63 hd
                refine lv_iconst (v := 0) hx hb dL_same_742 (by decide) ?_
                exact no_some hd
              · replace hd := ite_t c63 hd
                refine lv_aload_n hx hb dL_same_690 rfl (lv_at hl 1 rfl) ?_
                refine lv_iload hx hb dL_same_691 (lv_at hl 11 rfl) ?_
                refine lv_iconst (v := 2) hx hb dL_same_693 (by decide) ?_
                obtain ⟨q64, hq64, hd⟩ := bnd_some hd
                have hPc := P_r hP
                have hDc := D_r hD
                have hFc := F_r hD hS hA
                refine va_calli (va_runV (As := [.int q49, .int (2 : Int32)]) (rest := []) ⟨hx, hb, hml, hown, hts⟩ (w_cell l dC dI cI cC cT cL ad fr hfr0 hfr1 hfr2 hfr3 hfr4 hfr5 H.size T q61.2.1 P Y S q61.2.2 q49 (2 : Int32) q64 hq64) (cwV 2 hts gL_same_X6_cell rfl rfl rfl hv_X6_cell ⟨Nat.le_of_ble_eq_true rfl, Nat.le_of_ble_eq_true rfl⟩) ⟨preB_fb, va_recv hK hPc (ci := 6) (q0 := 0) rfl rfl, fun U hU hW => preB_mk hU hW hPc hK hDc hN⟩ rfl rfl hl.1 rfl (lv_room (Nat.le_of_ble_eq_true rfl)) dL_same_694 ⟨Nat.zero_le _, Nat.zero_le _⟩) hS (fun q _ h => hFc q h) hFc (fun r_ u_ t H locs ht hvm hw hB hz1 hk1 hS => ?_)
                have hw : r_ = q64.1 := hw
                have hw := hw.symm
                subst hw
                obtain ⟨hP, hD⟩ := x_joinR hP hD hk1 hFc ht hB
                clear hPc hDc hFc hk1 hB ht hz1 hvm
                refine lv_iload hx hb dL_same_697 (lv_at hl 0 rfl) ?_
                refine lv_icmp_ne (tgt := 742) hx hb dL_same_699 (by decide) (fun c65 => ?_) (fun c65 => ?_)
                · replace hd := ite_f c65 hd
                  refine lv_iconst (v := 0) hx hb dL_same_742 (by decide) ?_
                  exact no_some hd
                · replace hd := ite_t c65 hd
                  refine lv_aload_n hx hb dL_same_702 rfl (lv_at hl 1 rfl) ?_
                  refine lv_iload hx hb dL_same_703 (lv_at hl 11 rfl) ?_
                  refine lv_iconst (v := 3) hx hb dL_same_705 (by decide) ?_
                  obtain ⟨q66, hq66, hd⟩ := bnd_some hd
                  have hPc := P_r hP
                  have hDc := D_r hD
                  have hFc := F_r hD hS hA
                  refine va_calli (va_runV (As := [.int q49, .int (3 : Int32)]) (rest := []) ⟨hx, hb, hml, hown, hts⟩ (w_cell l dC dI cI cC cT cL ad fr hfr0 hfr1 hfr2 hfr3 hfr4 hfr5 H.size T q64.2.1 P Y S q64.2.2 q49 (3 : Int32) q66 hq66) (cwV 2 hts gL_same_X6_cell rfl rfl rfl hv_X6_cell ⟨Nat.le_of_ble_eq_true rfl, Nat.le_of_ble_eq_true rfl⟩) ⟨preB_fb, va_recv hK hPc (ci := 6) (q0 := 0) rfl rfl, fun U hU hW => preB_mk hU hW hPc hK hDc hN⟩ rfl rfl hl.1 rfl (lv_room (Nat.le_of_ble_eq_true rfl)) dL_same_706 ⟨Nat.zero_le _, Nat.zero_le _⟩) hS (fun q _ h => hFc q h) hFc (fun r_ u_ t H locs ht hvm hw hB hz1 hk1 hS => ?_)
                  have hw : r_ = q66.1 := hw
                  have hw := hw.symm
                  subst hw
                  obtain ⟨hP, hD⟩ := x_joinR hP hD hk1 hFc ht hB
                  clear hPc hDc hFc hk1 hB ht hz1 hvm
                  refine lv_iload hx hb dL_same_709 (lv_at hl 12 rfl) ?_
                  refine lv_icmp_ne (tgt := 742) hx hb dL_same_711 (by decide) (fun c67 => ?_) (fun c67 => ?_)
                  · replace hd := ite_f c67 hd
                    refine lv_iconst (v := 0) hx hb dL_same_742 (by decide) ?_
                    exact no_some hd
                  · replace hd := ite_t c67 hd
                    refine lv_aload_n hx hb dL_same_714 rfl (lv_at hl 1 rfl) ?_
                    refine lv_iload hx hb dL_same_715 (lv_at hl 11 rfl) ?_
                    refine lv_iconst (v := 4) hx hb dL_same_717 (by decide) ?_
                    obtain ⟨q68, hq68, hd⟩ := bnd_some hd
                    have hPc := P_r hP
                    have hDc := D_r hD
                    have hFc := F_r hD hS hA
                    refine va_calli (va_runV (As := [.int q49, .int (4 : Int32)]) (rest := []) ⟨hx, hb, hml, hown, hts⟩ (w_cell l dC dI cI cC cT cL ad fr hfr0 hfr1 hfr2 hfr3 hfr4 hfr5 H.size T q66.2.1 P Y S q66.2.2 q49 (4 : Int32) q68 hq68) (cwV 2 hts gL_same_X6_cell rfl rfl rfl hv_X6_cell ⟨Nat.le_of_ble_eq_true rfl, Nat.le_of_ble_eq_true rfl⟩) ⟨preB_fb, va_recv hK hPc (ci := 6) (q0 := 0) rfl rfl, fun U hU hW => preB_mk hU hW hPc hK hDc hN⟩ rfl rfl hl.1 rfl (lv_room (Nat.le_of_ble_eq_true rfl)) dL_same_718 ⟨Nat.zero_le _, Nat.zero_le _⟩) hS (fun q _ h => hFc q h) hFc (fun r_ u_ t H locs ht hvm hw hB hz1 hk1 hS => ?_)
                    have hw : r_ = q68.1 := hw
                    have hw := hw.symm
                    subst hw
                    obtain ⟨hP, hD⟩ := x_joinR hP hD hk1 hFc ht hB
                    clear hPc hDc hFc hk1 hB ht hz1 hvm
                    refine lv_iload hx hb dL_same_721 (lv_at hl 13 rfl) ?_
                    refine lv_icmp_ne (tgt := 742) hx hb dL_same_723 (by decide) (fun c69 => ?_) (fun c69 => ?_)
                    · replace hd := ite_f c69 hd
                      refine lv_iconst (v := 0) hx hb dL_same_742 (by decide) ?_
                      exact no_some hd
                    · replace hd := ite_t c69 hd
                      refine lv_aload_n hx hb dL_same_726 rfl (lv_at hl 1 rfl) ?_
                      refine lv_iload hx hb dL_same_727 (lv_at hl 11 rfl) ?_
                      refine lv_iconst (v := 5) hx hb dL_same_729 (by decide) ?_
                      obtain ⟨q70, hq70, hd⟩ := bnd_some hd
                      have hPc := P_r hP
                      have hDc := D_r hD
                      have hFc := F_r hD hS hA
                      refine va_calli (va_runV (As := [.int q49, .int (5 : Int32)]) (rest := []) ⟨hx, hb, hml, hown, hts⟩ (w_cell l dC dI cI cC cT cL ad fr hfr0 hfr1 hfr2 hfr3 hfr4 hfr5 H.size T q68.2.1 P Y S q68.2.2 q49 (5 : Int32) q70 hq70) (cwV 2 hts gL_same_X6_cell rfl rfl rfl hv_X6_cell ⟨Nat.le_of_ble_eq_true rfl, Nat.le_of_ble_eq_true rfl⟩) ⟨preB_fb, va_recv hK hPc (ci := 6) (q0 := 0) rfl rfl, fun U hU hW => preB_mk hU hW hPc hK hDc hN⟩ rfl rfl hl.1 rfl (lv_room (Nat.le_of_ble_eq_true rfl)) dL_same_730 ⟨Nat.zero_le _, Nat.zero_le _⟩) hS (fun q _ h => hFc q h) hFc (fun r_ u_ t H locs ht hvm hw hB hz1 hk1 hS => ?_)
                      have hw : r_ = q70.1 := hw
                      have hw := hw.symm
                      subst hw
                      obtain ⟨hP, hD⟩ := x_joinR hP hD hk1 hFc ht hB
                      clear hPc hDc hFc hk1 hB ht hz1 hvm
                      refine lv_iload hx hb dL_same_733 (lv_at hl 11 rfl) ?_
                      refine lv_aload_n hx hb dL_same_735 rfl (lv_at hl 3 rfl) ?_
                      obtain ⟨q71, hq71, hd⟩ := bnd_some hd
                      have hPc : va_P (dC, dI) vwCl [(aq, .inl (cI, 5, .inl q))] _ := hP.sub [0] rfl
                      have hDc := hD.sub (ws' := [(aq, .inl (cI, 5, .inl q))]) [0] (by decide) rfl
                      have hFc := va_free (wc := [(aq, .inl (cI, 5, .inl q))]) hD hS hA [0] rfl
                      refine va_calli (va_runS (As := [.int q49, .ref aq]) (rest := [.int q70.1]) ⟨hx, hb, hml, hown, hts⟩ (c_L_counter l dC dI cI cC cT cL aq 5 H.size q q49 q71 hq71) (va_cwS 2 hts gL_same_L_counter rfl rfl rfl hp_L_counter ⟨Nat.le_of_ble_eq_true rfl, Nat.le_of_ble_eq_true rfl⟩) ⟨preB_fb, fun U hU hW => preB_mk hU hW hPc hK hDc hN⟩ rfl rfl hl.1 rfl (lv_room (Nat.le_of_ble_eq_true rfl)) dL_same_736 ⟨Nat.zero_le _, Nat.zero_le _⟩) hS (fun q _ h => hFc q h) hFc (fun r_ u_ t H locs ht hvm hw hB hz1 hk1 hS => ?_)
                      have hw : r_ = q71 := hw
                      have hw := hw.symm
                      subst hw
                      obtain ⟨hP, hD⟩ := x_joinL (r' := [(aq, .inl (cI, 5, .inl q)), (ab, .inl (cI, 48, .inl bl)), (am, .inl (cL, 64, .inr (.inl me)))]) hP hD [0] [1, 2] rfl rfl (by decide) (by decide) hk1 hFc ht hB [2, 0, 1] (by decide) rfl rfl
                      clear hPc hDc hFc hk1 hB ht hz1 hvm
                      refine lv_icmp_eq (tgt := 744) hx hb dL_same_739 (by decide) (fun c72 => ?_) (fun c72 => ?_)
                      · replace hd := ite_t c72 hd
                        refine lv_iload_n hx hb dL_same_744 rfl (lv_at hl 2 rfl) ?_
                        refine lv_bipush (v := 6) hx hb dL_same_745 (by decide) ?_
                        refine lv_ishr hx hb dL_same_747 ?_
                        refine lv_sipush (v := 1000) hx hb dL_same_748 (by decide) ?_
                        obtain ⟨q73, hq73, hd⟩ := bnd_some hd
                        have hPc : va_P (dC, dI) vwCl [] _ := hP.sub [] rfl
                        have hDc := hD.sub (ws' := []) [] (by decide) rfl
                        have hFc := va_free (wc := []) hD hS hA [] rfl
                        refine va_calli (va_runS (As := [.int (p2 >>> ((6 : Int32) &&& 31)), .int (1000 : Int32)]) (rest := []) ⟨hx, hb, hml, hown, hts⟩ (c_L_low l dC dI cI cC cT cL H.size (p2 >>> ((6 : Int32) &&& 31)) (1000 : Int32) q73 hq73) (va_cwS 2 hts gL_same_L_low rfl rfl rfl hp_L_low ⟨Nat.le_of_ble_eq_true rfl, Nat.le_of_ble_eq_true rfl⟩) ⟨preB_fb, fun U hU hW => preB_mk hU hW hPc hK hDc hN⟩ rfl rfl hl.1 rfl (lv_room (Nat.le_of_ble_eq_true rfl)) dL_same_751 ⟨Nat.zero_le _, Nat.zero_le _⟩) hS (fun q _ h => hFc q h) hFc (fun r_ u_ t H locs ht hvm hw hB hz1 hk1 hS => ?_)
                        have hw : r_ = q73 := hw
                        have hw := hw.symm
                        subst hw
                        obtain ⟨hP, hD⟩ := x_joinL (r' := [(aq, .inl (cI, 5, .inl q)), (ab, .inl (cI, 48, .inl bl)), (am, .inl (cL, 64, .inr (.inl me)))]) hP hD [] [0, 1, 2] rfl rfl (by decide) (by decide) hk1 hFc ht hB [0, 1, 2] (by decide) rfl rfl
                        clear hPc hDc hFc hk1 hB ht hz1 hvm
                        refine lv_istore (lv' := [(16, .int q73), (15, .int q57), (0, .ref (ad 0)), (1, .int p2), (2, .ref aq), (3, .ref ab), (4, .ref am), (5, .int q1.1), (6, .int q1.2.1), (7, .int q1.2.2.1), (8, .int q2.1), (9, .int q2.2), (10, .int q49), (11, .int q50), (13, .int (x52 / q53))]) hx hb dL_same_754 hl (by decide) rfl (fun ls hl => ?_)
                        refine lv_iconst (v := 0) hx hb dL_same_756 (by decide) ?_
                        refine lv_istore (lv' := [(17, .int (0 : Int32)), (16, .int q73), (15, .int q57), (0, .ref (ad 0)), (1, .int p2), (2, .ref aq), (3, .ref ab), (4, .ref am), (5, .int q1.1), (6, .int q1.2.1), (7, .int q1.2.2.1), (8, .int q2.1), (9, .int q2.2), (10, .int q49), (11, .int q50), (13, .int (x52 / q53))]) hx hb dL_same_757 hl (by decide) rfl (fun ls hl => ?_)
                        refine lv_iconst (v := 0) hx hb dL_same_759 (by decide) ?_
                        refine lv_istore (lv' := [(18, .int (0 : Int32)), (17, .int (0 : Int32)), (16, .int q73), (15, .int q57), (0, .ref (ad 0)), (1, .int p2), (2, .ref aq), (3, .ref ab), (4, .ref am), (5, .int q1.1), (6, .int q1.2.1), (7, .int q1.2.2.1), (8, .int q2.1), (9, .int q2.2), (10, .int q49), (11, .int q50), (13, .int (x52 / q53))]) hx hb dL_same_760 hl (by decide) rfl (fun ls hl => ?_)
                        obtain ⟨q74, hq74, hd⟩ := bnd_some hd
                        have Kq74 : ∀ (H : Heap) (locs : List Loc) (ls : Array Slot), va_P (dC, dI) vwCl ([(aq, .inl (cI, 5, .inl q)), (ab, .inl (cI, 48, .inl bl)), (am, .inl (cL, 64, .inr (.inl me)))] ++ mod cI cC cT cL ad fr T q74.1 P Y S q74.2) H → va_D A ([(aq, .inl (cI, 5, .inl q)), (ab, .inl (cI, 48, .inl bl)), (am, .inl (cL, 64, .inr (.inl me)))] ++ mod cI cC cT cL ad fr T q74.1 P Y S q74.2) → va_S A s.heap H locs → lv_has ls 21 [(0, .ref (ad 0)), (1, .int p2), (2, .ref aq), (3, .ref ab), (4, .ref am), (5, .int q1.1), (6, .int q1.2.1), (7, .int q1.2.2.1), (8, .int q2.1), (9, .int q2.2)] → W p l e rmL_same s m args below meth c H locs 0 0 Q (F0 m 861 ls []) := by
                          intro H locs ls hP hD hS hl
                          refine lv_iload_n hx hb dL_same_861 rfl (lv_at hl 1 rfl) ?_
                          refine lv_iconst (v := 3) hx hb dL_same_862 (by decide) ?_
                          refine lv_ishr hx hb dL_same_863 ?_
                          refine lv_aload_n hx hb dL_same_864 rfl (lv_at hl 2 rfl) ?_
                          refine lv_iconst (v := 3) hx hb dL_same_865 (by decide) ?_
                          refine x_iald (k := 3) hx hb hK hP 0 0 rfl rfl (inb_in (by decide)) rfl dL_same_866 ?_
                          obtain ⟨q75, hq75, hd⟩ := bnd_some hd
                          have hPc : va_P (dC, dI) vwCl [] _ := hP.sub [] rfl
                          have hDc := hD.sub (ws' := []) [] (by decide) rfl
                          have hFc := va_free (wc := []) hD hS hA [] rfl
                          refine va_calli (va_runS (As := [.int (p2 >>> ((3 : Int32) &&& 31)), .int (q 3)]) (rest := []) ⟨hx, hb, hml, hown, hts⟩ (c_L_low l dC dI cI cC cT cL H.size (p2 >>> ((3 : Int32) &&& 31)) (q 3) q75 hq75) (va_cwS 2 hts gL_same_L_low rfl rfl rfl hp_L_low ⟨Nat.le_of_ble_eq_true rfl, Nat.le_of_ble_eq_true rfl⟩) ⟨preB_fb, fun U hU hW => preB_mk hU hW hPc hK hDc hN⟩ rfl rfl hl.1 rfl (lv_room (Nat.le_of_ble_eq_true rfl)) dL_same_867 ⟨Nat.zero_le _, Nat.zero_le _⟩) hS (fun q _ h => hFc q h) hFc (fun r_ u_ t H locs ht hvm hw hB hz1 hk1 hS => ?_)
                          have hw : r_ = q75 := hw
                          have hw := hw.symm
                          subst hw
                          obtain ⟨hP, hD⟩ := x_joinL (r' := [(aq, .inl (cI, 5, .inl q)), (ab, .inl (cI, 48, .inl bl)), (am, .inl (cL, 64, .inr (.inl me)))]) hP hD [] [0, 1, 2] rfl rfl (by decide) (by decide) hk1 hFc ht hB [0, 1, 2] (by decide) rfl rfl
                          clear hPc hDc hFc hk1 hB ht hz1 hvm
                          refine lv_istore (lv' := [(18, .int q75), (0, .ref (ad 0)), (1, .int p2), (2, .ref aq), (3, .ref ab), (4, .ref am), (5, .int q1.1), (6, .int q1.2.1), (7, .int q1.2.2.1), (8, .int q2.1), (9, .int q2.2)]) hx hb dL_same_870 hl (by decide) rfl (fun ls hl => ?_)
                          refine lv_bipush (v := 99) hx hb dL_same_872 (by decide) ?_
                          refine lv_istore (lv' := [(19, .int (99 : Int32)), (18, .int q75), (0, .ref (ad 0)), (1, .int p2), (2, .ref aq), (3, .ref ab), (4, .ref am), (5, .int q1.1), (6, .int q1.2.1), (7, .int q1.2.2.1), (8, .int q2.1), (9, .int q2.2)]) hx hb dL_same_874 hl (by decide) rfl (fun ls hl => ?_)
                          obtain ⟨q76, hq76, hd⟩ := bnd_some hd
                          have Kq76 : ∀ (H : Heap) (locs : List Loc) (ls : Array Slot), va_P (dC, dI) vwCl ([(aq, .inl (cI, 5, .inl q)), (ab, .inl (cI, 48, .inl bl)), (am, .inl (cL, 64, .inr (.inl me)))] ++ mod cI cC cT cL ad fr T q74.1 P Y S q74.2) H → va_D A ([(aq, .inl (cI, 5, .inl q)), (ab, .inl (cI, 48, .inl bl)), (am, .inl (cL, 64, .inr (.inl me)))] ++ mod cI cC cT cL ad fr T q74.1 P Y S q74.2) → va_S A s.heap H locs → lv_has ls 21 [(0, .ref (ad 0)), (2, .ref aq), (3, .ref ab), (4, .ref am), (5, .int q1.1), (6, .int q1.2.1), (7, .int q1.2.2.1), (8, .int q2.1), (9, .int q2.2), (18, .int q75), (19, .int q76)] → W p l e rmL_same s m args below meth c H locs 0 0 Q (F0 m 902 ls []) := by
                            intro H locs ls hP hD hS hl
                            refine lv_aload_n hx hb dL_same_902 rfl (lv_at hl 0 rfl) ?_
                            refine lv_iload hx hb dL_same_903 (lv_at hl 9 rfl) ?_
                            obtain ⟨q77, hq77, hd⟩ := bnd_some hd
                            have hPc := P_r hP
                            have hDc := D_r hD
                            have hFc := F_r hD hS hA
                            refine va_calli (va_runV (As := [.int q75]) (rest := []) ⟨hx, hb, hml, hown, hts⟩ (w_mostLeast l dC dI cI cC cT cL ad fr hfr0 hfr1 hfr2 hfr3 hfr4 hfr5 H.size T q74.1 P Y S q74.2 q75 q77 hq77) (cwV 1 hts gL_same_X6_mostLeast rfl rfl rfl hv_X6_mostLeast ⟨Nat.le_of_ble_eq_true rfl, Nat.le_of_ble_eq_true rfl⟩) ⟨preB_fb, va_recv hK hPc (ci := 6) (q0 := 0) rfl rfl, fun U hU hW => preB_mk hU hW hPc hK hDc hN⟩ rfl rfl hl.1 rfl (lv_room (Nat.le_of_ble_eq_true rfl)) dL_same_905 ⟨Nat.zero_le _, Nat.zero_le _⟩) hS (fun q _ h => hFc q h) hFc (fun r_ u_ t H locs ht hvm hw hB hz1 hk1 hS => ?_)
                            have hw : r_ = q77.1 := hw
                            have hw := hw.symm
                            subst hw
                            obtain ⟨hP, hD⟩ := x_joinR hP hD hk1 hFc ht hB
                            clear hPc hDc hFc hk1 hB ht hz1 hvm
                            refine lv_iload hx hb dL_same_908 (lv_at hl 10 rfl) ?_
                            obtain ⟨q78, hq78, hd⟩ := bnd_some hd
                            have Kq78 : ∀ (H : Heap) (locs : List Loc) (ls : Array Slot), va_P (dC, dI) vwCl ([(aq, .inl (cI, 5, .inl q)), (ab, .inl (cI, 48, .inl bl)), (am, .inl (cL, 64, .inr (.inl me)))] ++ mod cI cC cT cL ad fr T q77.2.1 P Y S q77.2.2) H → va_D A ([(aq, .inl (cI, 5, .inl q)), (ab, .inl (cI, 48, .inl bl)), (am, .inl (cL, 64, .inr (.inl me)))] ++ mod cI cC cT cL ad fr T q77.2.1 P Y S q77.2.2) → va_S A s.heap H locs → lv_has ls 21 [(0, .ref (ad 0)), (2, .ref aq), (3, .ref ab), (4, .ref am), (5, .int q1.1), (6, .int q1.2.1), (7, .int q1.2.2.1), (8, .int q2.1), (9, .int q2.2), (18, .int q75)] → W p l e rmL_same s m args below meth c H locs 0 0 Q (F0 m 920 ls [.int q78, .int q77.1]) := by
                              intro H locs ls hP hD hS hl
                              refine lv_icmp_eq (tgt := 925) hx hb dL_same_920 (by decide) (fun c79 => ?_) (fun c79 => ?_)
                              · replace hd := ite_t c79 hd
                                refine lv_iconst (v := 0) hx hb dL_same_925 (by decide) ?_
                                refine lv_istore (lv' := [(20, .int (0 : Int32)), (0, .ref (ad 0)), (2, .ref aq), (3, .ref ab), (4, .ref am), (5, .int q1.1), (6, .int q1.2.1), (7, .int q1.2.2.1), (8, .int q2.1), (9, .int q2.2), (18, .int q75)]) hx hb dL_same_926 hl (by decide) rfl (fun ls hl => ?_)
                                obtain ⟨q80, hq80, hd⟩ := bnd_some hd
                                have Kq80 : ∀ (H : Heap) (locs : List Loc) (ls : Array Slot), va_P (dC, dI) vwCl ([(aq, .inl (cI, 5, .inl q)), (ab, .inl (cI, 48, .inl bl)), (am, .inl (cL, 64, .inr (.inl me)))] ++ mod cI cC cT cL ad fr T q80.1 P Y S q80.2) H → va_D A ([(aq, .inl (cI, 5, .inl q)), (ab, .inl (cI, 48, .inl bl)), (am, .inl (cL, 64, .inr (.inl me)))] ++ mod cI cC cT cL ad fr T q80.1 P Y S q80.2) → va_S A s.heap H locs → lv_has ls 21 [(0, .ref (ad 0)), (2, .ref aq), (3, .ref ab), (5, .int q1.1), (6, .int q1.2.1), (7, .int q1.2.2.1), (8, .int q2.1), (9, .int q2.2)] → W p l e rmL_same s m args below meth c H locs 0 0 Q (F0 m 989 ls []) := by
                                  intro H locs ls hP hD hS hl
                                  cases hd
                                  exact Kq3 _ _ _ hP hD hS (lv_sub hl [0, 1, 2, 3, 4, 5, 6, 7] rfl)
                                clear hd
                                have KL88 : ∀ (fu : Nat) (y20_928 : Int32) (R_928 : RV) (B_928 : (Nat → Int32)) (hd : den_L_same_L928 q bl me T q75 fu y20_928 R_928 B_928 = some q80) (H : Heap) (locs : List Loc) (ls : Array Slot), va_P (dC, dI) vwCl ([(aq, .inl (cI, 5, .inl q)), (ab, .inl (cI, 48, .inl bl)), (am, .inl (cL, 64, .inr (.inl me)))] ++ mod cI cC cT cL ad fr T R_928 P Y S B_928) H → va_D A ([(aq, .inl (cI, 5, .inl q)), (ab, .inl (cI, 48, .inl bl)), (am, .inl (cL, 64, .inr (.inl me)))] ++ mod cI cC cT cL ad fr T R_928 P Y S B_928) → va_S A s.heap H locs → lv_has ls 21 [(0, .ref (ad 0)), (2, .ref aq), (3, .ref ab), (4, .ref am), (5, .int q1.1), (6, .int q1.2.1), (7, .int q1.2.2.1), (8, .int q2.1), (9, .int q2.2), (18, .int q75), (20, .int y20_928)] → W p l e rmL_same s m args below meth c H locs 0 0 Q (F0 m 928 ls []) := by
                                  intro fu
                                  induction fu with
                                  | zero => intro y20_928 R_928 B_928 hd; exact no_some hd
                                  | succ fu ih =>
                                    intro y20_928 R_928 B_928 hd H locs ls hP hD hS hl
                                    rw [den_L_same_L928] at hd
                                    refine lv_iload hx hb dL_same_928 (lv_at hl 10 rfl) ?_
                                    refine lv_iconst (v := 2) hx hb dL_same_930 (by decide) ?_
                                    refine lv_icmp_ge (tgt := 989) hx hb dL_same_931 (by decide) (fun c81 => ?_) (fun c81 => ?_)
                                    · replace hd := ite_t c81 hd
                                      cases hd
                                      exact Kq80 _ _ _ hP hD hS (lv_sub hl [0, 1, 2, 4, 5, 6, 7, 8] rfl)
                                    · replace hd := ite_f c81 hd
                                      refine lv_aload_n hx hb dL_same_934 rfl (lv_at hl 0 rfl) ?_
                                      refine lv_iload hx hb dL_same_935 (lv_at hl 9 rfl) ?_
                                      refine lv_iload hx hb dL_same_937 (lv_at hl 10 rfl) ?_
                                      obtain ⟨q82, hq82, hd⟩ := bnd_some hd
                                      have hPc := P_r hP
                                      have hDc := D_r hD
                                      have hFc := F_r hD hS hA
                                      refine va_calli (va_runV (As := [.int q75, .int y20_928]) (rest := []) ⟨hx, hb, hml, hown, hts⟩ (w_weak l dC dI cI cC cT cL ad fr hfr0 hfr1 hfr2 hfr3 hfr4 hfr5 H.size T R_928 P Y S B_928 q75 y20_928 q82 hq82) (cwV 2 hts gL_same_X6_weak rfl rfl rfl hv_X6_weak ⟨Nat.le_of_ble_eq_true rfl, Nat.le_of_ble_eq_true rfl⟩) ⟨preB_fb, va_recv hK hPc (ci := 6) (q0 := 0) rfl rfl, fun U hU hW => preB_mk hU hW hPc hK hDc hN⟩ rfl rfl hl.1 rfl (lv_room (Nat.le_of_ble_eq_true rfl)) dL_same_939 ⟨Nat.zero_le _, Nat.zero_le _⟩) hS (fun q _ h => hFc q h) hFc (fun r_ u_ t H locs ht hvm hw hB hz1 hk1 hS => ?_)
                                      have hw : r_ = q82.1 := hw
                                      have hw := hw.symm
                                      subst hw
                                      obtain ⟨hP, hD⟩ := x_joinR hP hD hk1 hFc ht hB
                                      clear hPc hDc hFc hk1 hB ht hz1 hvm
                                      refine lv_iload hx hb dL_same_942 (lv_at hl 9 rfl) ?_
                                      refine lv_iload hx hb dL_same_944 (lv_at hl 10 rfl) ?_
                                      refine lv_aload_n hx hb dL_same_946 rfl (lv_at hl 1 rfl) ?_
                                      refine lv_iconst (v := 1) hx hb dL_same_947 (by decide) ?_
                                      refine x_iald (k := 1) hx hb hK hP 0 0 rfl rfl (inb_in (by decide)) rfl dL_same_948 ?_
                                      refine lv_aload_n hx hb dL_same_949 rfl (lv_at hl 2 rfl) ?_
                                      refine lv_aload hx hb dL_same_950 (lv_at hl 3 rfl) ?_
                                      obtain ⟨q83, hq83, hd⟩ := bnd_some hd
                                      have hPc : va_P (dC, dI) vwCl [(ab, .inl (cI, 48, .inl bl)), (am, .inl (cL, 64, .inr (.inl me)))] _ := hP.sub [1, 2] rfl
                                      have hDc := hD.sub (ws' := [(ab, .inl (cI, 48, .inl bl)), (am, .inl (cL, 64, .inr (.inl me)))]) [1, 2] (by decide) rfl
                                      have hFc := va_free (wc := [(ab, .inl (cI, 48, .inl bl)), (am, .inl (cL, 64, .inr (.inl me)))]) hD hS hA [1, 2] rfl
                                      refine va_calli (va_runS (As := [.int q75, .int y20_928, .int (q 1), .ref ab, .ref am]) (rest := [.int q82.1]) ⟨hx, hb, hml, hown, hts⟩ (c_L_how l dC dI cI cC cT cL ab am 48 64 H.size bl me q75 y20_928 (q 1) q83 hq83) (va_cwS 5 hts gL_same_L_how rfl rfl rfl hp_L_how ⟨Nat.le_of_ble_eq_true rfl, Nat.le_of_ble_eq_true rfl⟩) ⟨preB_fb, fun U hU hW => preB_mk hU hW hPc hK hDc hN⟩ rfl rfl hl.1 rfl (lv_room (Nat.le_of_ble_eq_true rfl)) dL_same_952 ⟨Nat.zero_le _, Nat.zero_le _⟩) hS (fun q _ h => hFc q h) hFc (fun r_ u_ t H locs ht hvm hw hB hz1 hk1 hS => ?_)
                                      have hw : r_ = q83 := hw
                                      have hw := hw.symm
                                      subst hw
                                      obtain ⟨hP, hD⟩ := x_joinL (r' := [(aq, .inl (cI, 5, .inl q)), (ab, .inl (cI, 48, .inl bl)), (am, .inl (cL, 64, .inr (.inl me)))]) hP hD [1, 2] [0] rfl rfl (by decide) (by decide) hk1 hFc ht hB [0, 1, 2] (by decide) rfl rfl
                                      clear hPc hDc hFc hk1 hB ht hz1 hvm
                                      obtain ⟨q84, hq84, hd⟩ := bnd_some hd
                                      have Kq84 : ∀ (H : Heap) (locs : List Loc) (ls : Array Slot), va_P (dC, dI) vwCl ([(aq, .inl (cI, 5, .inl q)), (ab, .inl (cI, 48, .inl bl)), (am, .inl (cL, 64, .inr (.inl me)))] ++ mod cI cC cT cL ad fr T q82.2.1 P Y S q82.2.2) H → va_D A ([(aq, .inl (cI, 5, .inl q)), (ab, .inl (cI, 48, .inl bl)), (am, .inl (cL, 64, .inr (.inl me)))] ++ mod cI cC cT cL ad fr T q82.2.1 P Y S q82.2.2) → va_S A s.heap H locs → lv_has ls 21 [(0, .ref (ad 0)), (2, .ref aq), (3, .ref ab), (4, .ref am), (5, .int q1.1), (6, .int q1.2.1), (7, .int q1.2.2.1), (8, .int q2.1), (9, .int q2.2), (18, .int q75), (20, .int y20_928)] → W p l e rmL_same s m args below meth c H locs 0 0 Q (F0 m 978 ls [.int q84, .int q82.1]) := by
                                        intro H locs ls hP hD hS hl
                                        refine lv_icmp_eq (tgt := 983) hx hb dL_same_978 (by decide) (fun c85 => ?_) (fun c85 => ?_)
                                        · replace hd := ite_t c85 hd
                                          refine lv_iinc (v := (y20_928 + (1 : Int32))) (lv' := [(20, .int (y20_928 + (1 : Int32))), (0, .ref (ad 0)), (2, .ref aq), (3, .ref ab), (4, .ref am), (5, .int q1.1), (6, .int q1.2.1), (7, .int q1.2.2.1), (8, .int q2.1), (9, .int q2.2), (18, .int q75)]) hx hb dL_same_983 hl (k := 10) rfl (by first | rfl | decide) (by decide) rfl (fun ls hl => ?_)
                                          refine lv_goto (tgt := 928) hx hb dL_same_986 (by decide) ?_
                                          exact ih (y20_928 + (1 : Int32)) q82.2.1 q82.2.2 hd _ _ _ hP hD hS (lv_sub hl [1, 2, 3, 4, 5, 6, 7, 8, 9, 10, 0] rfl)
                                        · replace hd := ite_f c85 hd
                                          refine lv_iconst (v := 0) hx hb dL_same_981 (by decide) ?_
                                          exact no_some hd
                                      replace hd := hq84
                                      clear hq84
                                      refine lv_if_ne (tgt := 976) hx hb dL_same_955 (by decide) (fun c86 => ?_) (fun c86 => ?_)
                                      · replace hd := ite_f c86 hd
                                        refine lv_bipush (v := -5) hx hb dL_same_976 (by decide) ?_
                                        cases hd
                                        exact Kq84 _ _ _ hP hD hS (lv_sub hl [0, 1, 2, 3, 4, 5, 6, 7, 8, 9, 10] rfl)
                                      · replace hd := ite_t c86 hd
                                        refine lv_bipush (v := 9) hx hb dL_same_958 (by decide) ?_
                                        refine lv_aload_n hx hb dL_same_960 rfl (lv_at hl 2 rfl) ?_
                                        refine lv_bipush (v := 8) hx hb dL_same_961 (by decide) ?_
                                        refine lv_iload hx hb dL_same_963 (lv_at hl 9 rfl) ?_
                                        refine lv_imul hx hb dL_same_965 ?_
                                        refine lv_iconst (v := 2) hx hb dL_same_966 (by decide) ?_
                                        refine lv_iadd hx hb dL_same_967 ?_
                                        obtain ⟨g87, hd⟩ := gd_some hd
                                        refine x_iald (k := (((8 : Int32) * q75) + (2 : Int32)).toNatClampNeg) hx hb hK hP 1 0 rfl rfl (inb_in g87) rfl dL_same_968 ?_
                                        refine lv_imul hx hb dL_same_969 ?_
                                        refine lv_bipush (v := 9) hx hb dL_same_970 (by decide) ?_
                                        refine lv_iadd hx hb dL_same_972 ?_
                                        refine lv_goto (tgt := 978) hx hb dL_same_973 (by decide) ?_
                                        cases hd
                                        exact Kq84 _ _ _ hP hD hS (lv_sub hl [0, 1, 2, 3, 4, 5, 6, 7, 8, 9, 10] rfl)
                                exact KL88 FU (0 : Int32) q77.2.1 q77.2.2 hq80 _ _ _ hP hD hS (lv_sub hl [1, 2, 3, 4, 5, 6, 7, 8, 9, 10, 0] rfl)
                              · replace hd := ite_f c79 hd
                                refine lv_iconst (v := 0) hx hb dL_same_923 (by decide) ?_
                                exact no_some hd
                            replace hd := hq78
                            clear hq78
                            refine lv_if_ge (tgt := 918) hx hb dL_same_910 (by decide) (fun c89 => ?_) (fun c89 => ?_)
                            · replace hd := ite_t c89 hd
                              refine lv_iload hx hb dL_same_918 (lv_at hl 10 rfl) ?_
                              cases hd
                              exact Kq78 _ _ _ hP hD hS (lv_sub hl [0, 1, 2, 3, 4, 5, 6, 7, 8, 9] rfl)
                            · replace hd := ite_f c89 hd
                              refine lv_bipush (v := -6) hx hb dL_same_913 (by decide) ?_
                              refine lv_goto (tgt := 920) hx hb dL_same_915 (by decide) ?_
                              cases hd
                              exact Kq78 _ _ _ hP hD hS (lv_sub hl [0, 1, 2, 3, 4, 5, 6, 7, 8, 9] rfl)
                          clear hd
                          have KL93 : ∀ (fu : Nat) (y19_876 : Int32) (hd : den_L_same_L876 bl me q75 fu y19_876 = some q76) (H : Heap) (locs : List Loc) (ls : Array Slot), va_P (dC, dI) vwCl ([(aq, .inl (cI, 5, .inl q)), (ab, .inl (cI, 48, .inl bl)), (am, .inl (cL, 64, .inr (.inl me)))] ++ mod cI cC cT cL ad fr T q74.1 P Y S q74.2) H → va_D A ([(aq, .inl (cI, 5, .inl q)), (ab, .inl (cI, 48, .inl bl)), (am, .inl (cL, 64, .inr (.inl me)))] ++ mod cI cC cT cL ad fr T q74.1 P Y S q74.2) → va_S A s.heap H locs → lv_has ls 21 [(0, .ref (ad 0)), (2, .ref aq), (3, .ref ab), (4, .ref am), (5, .int q1.1), (6, .int q1.2.1), (7, .int q1.2.2.1), (8, .int q2.1), (9, .int q2.2), (18, .int q75), (19, .int y19_876)] → W p l e rmL_same s m args below meth c H locs 0 0 Q (F0 m 876 ls []) := by
                            intro fu
                            induction fu with
                            | zero => intro y19_876 hd; exact no_some hd
                            | succ fu ih =>
                              intro y19_876 hd H locs ls hP hD hS hl
                              rw [den_L_same_L876] at hd
                              refine lv_iload hx hb dL_same_876 (lv_at hl 10 rfl) ?_
                              refine lv_if_lt (tgt := 902) hx hb dL_same_878 (by decide) (fun c90 => ?_) (fun c90 => ?_)
                              · replace hd := ite_t c90 hd
                                cases hd
                                exact Kq76 _ _ _ hP hD hS (lv_sub hl [0, 1, 2, 3, 4, 5, 6, 7, 8, 9, 10] rfl)
                              · replace hd := ite_f c90 hd
                                refine lv_iload hx hb dL_same_881 (lv_at hl 9 rfl) ?_
                                refine lv_iload hx hb dL_same_883 (lv_at hl 10 rfl) ?_
                                refine lv_aload_n hx hb dL_same_885 rfl (lv_at hl 2 rfl) ?_
                                refine lv_aload hx hb dL_same_886 (lv_at hl 3 rfl) ?_
                                obtain ⟨q91, hq91, hd⟩ := bnd_some hd
                                have hPc : va_P (dC, dI) vwCl [(ab, .inl (cI, 48, .inl bl)), (am, .inl (cL, 64, .inr (.inl me)))] _ := hP.sub [1, 2] rfl
                                have hDc := hD.sub (ws' := [(ab, .inl (cI, 48, .inl bl)), (am, .inl (cL, 64, .inr (.inl me)))]) [1, 2] (by decide) rfl
                                have hFc := va_free (wc := [(ab, .inl (cI, 48, .inl bl)), (am, .inl (cL, 64, .inr (.inl me)))]) hD hS hA [1, 2] rfl
                                refine va_calll (va_runS (As := [.int q75, .int y19_876, .ref ab, .ref am]) (rest := []) ⟨hx, hb, hml, hown, hts⟩ (c_L_load l dC dI cI cC cT cL ab am 48 64 H.size bl me q75 y19_876 q91 hq91) (va_cwS 4 hts gL_same_L_load rfl rfl rfl hp_L_load ⟨Nat.le_of_ble_eq_true rfl, Nat.le_of_ble_eq_true rfl⟩) ⟨preB_fb, fun U hU hW => preB_mk hU hW hPc hK hDc hN⟩ rfl rfl hl.1 rfl (lv_room (Nat.le_of_ble_eq_true rfl)) dL_same_888 ⟨Nat.zero_le _, Nat.zero_le _⟩) hS (fun q _ h => hFc q h) hFc (fun r_ u_ t H locs ht hvm hw hB hz1 hk1 hS => ?_)
                                have hw : r_ = q91 := hw
                                have hw := hw.symm
                                subst hw
                                obtain ⟨hP, hD⟩ := x_joinL (r' := [(aq, .inl (cI, 5, .inl q)), (ab, .inl (cI, 48, .inl bl)), (am, .inl (cL, 64, .inr (.inl me)))]) hP hD [1, 2] [0] rfl rfl (by decide) (by decide) hk1 hFc ht hB [0, 1, 2] (by decide) rfl rfl
                                clear hPc hDc hFc hk1 hB ht hz1 hvm
                                refine lv_lconst (v := 0) hx hb dL_same_891 (by decide) ?_
                                refine W.lcmp hx hb dL_same_892 ?_
                                refine lv_if_ge (tgt := 902) hx hb dL_same_893 (by decide) (fun c92 => ?_) (fun c92 => ?_)
                                · replace hd := ite_t c92 hd
                                  cases hd
                                  exact Kq76 _ _ _ hP hD hS (lv_sub hl [0, 1, 2, 3, 4, 5, 6, 7, 8, 9, 10] rfl)
                                · replace hd := ite_f c92 hd
                                  refine lv_iinc (v := (y19_876 + (-1 : Int32))) (lv' := [(19, .int (y19_876 + (-1 : Int32))), (0, .ref (ad 0)), (2, .ref aq), (3, .ref ab), (4, .ref am), (5, .int q1.1), (6, .int q1.2.1), (7, .int q1.2.2.1), (8, .int q2.1), (9, .int q2.2), (18, .int q75)]) hx hb dL_same_896 hl (k := 10) rfl (by first | rfl | decide) (by decide) rfl (fun ls hl => ?_)
                                  refine lv_goto (tgt := 876) hx hb dL_same_899 (by decide) ?_
                                  exact ih (y19_876 + (-1 : Int32)) hd _ _ _ hP hD hS (lv_sub hl [1, 2, 3, 4, 5, 6, 7, 8, 9, 10, 0] rfl)
                          exact KL93 FU (99 : Int32) hq76 _ _ _ hP hD hS (lv_sub hl [2, 4, 5, 6, 7, 8, 9, 10, 11, 1, 0] rfl)
                        clear hd
                        have KL107 : ∀ (fu : Nat) (y17_762 : Int32) (y18_762 : Int32) (R_762 : RV) (B_762 : (Nat → Int32)) (hd : den_L_same_L762 q bl T q73 fu y17_762 y18_762 R_762 B_762 = some q74) (H : Heap) (locs : List Loc) (ls : Array Slot), va_P (dC, dI) vwCl ([(aq, .inl (cI, 5, .inl q)), (ab, .inl (cI, 48, .inl bl)), (am, .inl (cL, 64, .inr (.inl me)))] ++ mod cI cC cT cL ad fr T R_762 P Y S B_762) H → va_D A ([(aq, .inl (cI, 5, .inl q)), (ab, .inl (cI, 48, .inl bl)), (am, .inl (cL, 64, .inr (.inl me)))] ++ mod cI cC cT cL ad fr T R_762 P Y S B_762) → va_S A s.heap H locs → lv_has ls 21 [(0, .ref (ad 0)), (1, .int p2), (2, .ref aq), (3, .ref ab), (4, .ref am), (5, .int q1.1), (6, .int q1.2.1), (7, .int q1.2.2.1), (8, .int q2.1), (9, .int q2.2), (16, .int q73), (17, .int y17_762), (18, .int y18_762)] → W p l e rmL_same s m args below meth c H locs 0 0 Q (F0 m 762 ls []) := by
                          intro fu
                          induction fu with
                          | zero => intro y17_762 y18_762 R_762 B_762 hd; exact no_some hd
                          | succ fu ih =>
                            intro y17_762 y18_762 R_762 B_762 hd H locs ls hP hD hS hl
                            rw [den_L_same_L762] at hd
                            refine lv_iload hx hb dL_same_762 (lv_at hl 12 rfl) ?_
                            refine lv_aload_n hx hb dL_same_764 rfl (lv_at hl 2 rfl) ?_
                            refine lv_iconst (v := 3) hx hb dL_same_765 (by decide) ?_
                            refine x_iald (k := 3) hx hb hK hP 0 0 rfl rfl (inb_in (by decide)) rfl dL_same_766 ?_
                            refine lv_icmp_ge (tgt := 861) hx hb dL_same_767 (by decide) (fun c94 => ?_) (fun c94 => ?_)
                            · replace hd := ite_t c94 hd
                              cases hd
                              exact Kq74 _ _ _ hP hD hS (lv_sub hl [0, 1, 2, 3, 4, 5, 6, 7, 8, 9] rfl)
                            · replace hd := ite_f c94 hd
                              refine lv_iconst (v := -1) hx hb dL_same_770 (by decide) ?_
                              refine lv_istore (lv' := [(19, .int (-1 : Int32)), (0, .ref (ad 0)), (1, .int p2), (2, .ref aq), (3, .ref ab), (4, .ref am), (5, .int q1.1), (6, .int q1.2.1), (7, .int q1.2.2.1), (8, .int q2.1), (9, .int q2.2), (16, .int q73), (17, .int y17_762), (18, .int y18_762)]) hx hb dL_same_771 hl (by decide) rfl (fun ls hl => ?_)
                              refine lv_aload_n hx hb dL_same_773 rfl (lv_at hl 3 rfl) ?_
                              refine lv_iconst (v := 3) hx hb dL_same_774 (by decide) ?_
                              refine x_iald (k := 3) hx hb hK hP 0 0 rfl rfl (inb_in (by decide)) rfl dL_same_775 ?_
                              refine lv_iconst (v := 1) hx hb dL_same_776 (by decide) ?_
                              refine lv_isub hx hb dL_same_777 ?_
                              refine lv_istore (lv' := [(20, .int ((q 3) - (1 : Int32))), (19, .int (-1 : Int32)), (0, .ref (ad 0)), (1, .int p2), (2, .ref aq), (3, .ref ab), (4, .ref am), (5, .int q1.1), (6, .int q1.2.1), (7, .int q1.2.2.1), (8, .int q2.1), (9, .int q2.2), (16, .int q73), (17, .int y17_762), (18, .int y18_762)]) hx hb dL_same_778 hl (by decide) rfl (fun ls hl => ?_)
                              obtain ⟨q95, hq95, hd⟩ := bnd_some hd
                              have Kq95 : ∀ (H : Heap) (locs : List Loc) (ls : Array Slot), va_P (dC, dI) vwCl ([(aq, .inl (cI, 5, .inl q)), (ab, .inl (cI, 48, .inl bl)), (am, .inl (cL, 64, .inr (.inl me)))] ++ mod cI cC cT cL ad fr T R_762 P Y S B_762) H → va_D A ([(aq, .inl (cI, 5, .inl q)), (ab, .inl (cI, 48, .inl bl)), (am, .inl (cL, 64, .inr (.inl me)))] ++ mod cI cC cT cL ad fr T R_762 P Y S B_762) → va_S A s.heap H locs → lv_has ls 21 [(0, .ref (ad 0)), (1, .int p2), (2, .ref aq), (3, .ref ab), (4, .ref am), (5, .int q1.1), (6, .int q1.2.1), (7, .int q1.2.2.1), (8, .int q2.1), (9, .int q2.2), (16, .int q73), (17, .int y17_762), (18, .int y18_762), (19, .int q95)] → W p l e rmL_same s m args below meth c H locs 0 0 Q (F0 m 831 ls []) := by
                                intro H locs ls hP hD hS hl
                                refine lv_iload hx hb dL_same_831 (lv_at hl 11 rfl) ?_
                                refine lv_iconst (v := 1) hx hb dL_same_833 (by decide) ?_
                                refine lv_iload hx hb dL_same_834 (lv_at hl 13 rfl) ?_
                                refine lv_ishl hx hb dL_same_836 ?_
                                refine lv_ior hx hb dL_same_837 ?_
                                refine lv_topi (fun x96 ex96 => ?_)
                                replace hd := nm_some ex96 hd
                                refine lv_istore (lv' := [(17, .int x96), (0, .ref (ad 0)), (1, .int p2), (2, .ref aq), (3, .ref ab), (4, .ref am), (5, .int q1.1), (6, .int q1.2.1), (7, .int q1.2.2.1), (8, .int q2.1), (9, .int q2.2), (16, .int q73), (18, .int y18_762), (19, .int q95)]) hx hb dL_same_838 hl (by decide) rfl (fun ls hl => ?_)
                                refine lv_aload_n hx hb dL_same_840 rfl (lv_at hl 1 rfl) ?_
                                refine lv_iload hx hb dL_same_841 (lv_at hl 11 rfl) ?_
                                refine lv_iload hx hb dL_same_843 (lv_at hl 12 rfl) ?_
                                obtain ⟨q97, hq97, hd⟩ := bnd_some hd
                                have hPc := P_r hP
                                have hDc := D_r hD
                                have hFc := F_r hD hS hA
                                refine va_calli (va_runV (As := [.int q73, .int y18_762]) (rest := []) ⟨hx, hb, hml, hown, hts⟩ (w_near l dC dI cI cC cT cL ad fr hfr0 hfr1 hfr2 hfr3 hfr4 hfr5 H.size T R_762 P Y S B_762 q73 y18_762 q97 hq97) (cwV 2 hts gL_same_X6_near rfl rfl rfl hv_X6_near ⟨Nat.le_of_ble_eq_true rfl, Nat.le_of_ble_eq_true rfl⟩) ⟨preB_fb, va_recv hK hPc (ci := 6) (q0 := 0) rfl rfl, fun U hU hW => preB_mk hU hW hPc hK hDc hN⟩ rfl rfl hl.1 rfl (lv_room (Nat.le_of_ble_eq_true rfl)) dL_same_845 ⟨Nat.zero_le _, Nat.zero_le _⟩) hS (fun q _ h => hFc q h) hFc (fun r_ u_ t H locs ht hvm hw hB hz1 hk1 hS => ?_)
                                have hw : r_ = q97.1 := hw
                                have hw := hw.symm
                                subst hw
                                obtain ⟨hP, hD⟩ := x_joinR hP hD hk1 hFc ht hB
                                clear hPc hDc hFc hk1 hB ht hz1 hvm
                                refine lv_iload hx hb dL_same_848 (lv_at hl 13 rfl) ?_
                                refine lv_icmp_eq (tgt := 855) hx hb dL_same_850 (by decide) (fun c98 => ?_) (fun c98 => ?_)
                                · replace hd := ite_t c98 hd
                                  refine lv_iinc (v := (y18_762 + (1 : Int32))) (lv' := [(18, .int (y18_762 + (1 : Int32))), (17, .int x96), (0, .ref (ad 0)), (1, .int p2), (2, .ref aq), (3, .ref ab), (4, .ref am), (5, .int q1.1), (6, .int q1.2.1), (7, .int q1.2.2.1), (8, .int q2.1), (9, .int q2.2), (16, .int q73), (19, .int q95)]) hx hb dL_same_855 hl (k := 12) rfl (by first | rfl | decide) (by decide) rfl (fun ls hl => ?_)
                                  refine lv_goto (tgt := 762) hx hb dL_same_858 (by decide) ?_
                                  exact ih x96 (y18_762 + (1 : Int32)) q97.2.1 q97.2.2 hd _ _ _ hP hD hS (lv_sub hl [2, 3, 4, 5, 6, 7, 8, 9, 10, 11, 12, 1, 0] rfl)
                                · replace hd := ite_f c98 hd
                                  refine lv_iconst (v := 0) hx hb dL_same_853 (by decide) ?_
                                  exact no_some hd
                              clear hd
                              have KL106 : ∀ (fu : Nat) (y19_780 : Int32) (y20_780 : Int32) (hd : den_L_same_L780 q bl q73 y17_762 fu y19_780 y20_780 = some q95) (H : Heap) (locs : List Loc) (ls : Array Slot), va_P (dC, dI) vwCl ([(aq, .inl (cI, 5, .inl q)), (ab, .inl (cI, 48, .inl bl)), (am, .inl (cL, 64, .inr (.inl me)))] ++ mod cI cC cT cL ad fr T R_762 P Y S B_762) H → va_D A ([(aq, .inl (cI, 5, .inl q)), (ab, .inl (cI, 48, .inl bl)), (am, .inl (cL, 64, .inr (.inl me)))] ++ mod cI cC cT cL ad fr T R_762 P Y S B_762) → va_S A s.heap H locs → lv_has ls 21 [(0, .ref (ad 0)), (1, .int p2), (2, .ref aq), (3, .ref ab), (4, .ref am), (5, .int q1.1), (6, .int q1.2.1), (7, .int q1.2.2.1), (8, .int q2.1), (9, .int q2.2), (16, .int q73), (17, .int y17_762), (18, .int y18_762), (19, .int y19_780), (20, .int y20_780)] → W p l e rmL_same s m args below meth c H locs 0 0 Q (F0 m 780 ls []) := by
                                intro fu
                                induction fu with
                                | zero => intro y19_780 y20_780 hd; exact no_some hd
                                | succ fu ih =>
                                  intro y19_780 y20_780 hd H locs ls hP hD hS hl
                                  rw [den_L_same_L780] at hd
                                  refine lv_iload hx hb dL_same_780 (lv_at hl 14 rfl) ?_
                                  refine lv_if_lt (tgt := 831) hx hb dL_same_782 (by decide) (fun c99 => ?_) (fun c99 => ?_)
                                  · replace hd := ite_t c99 hd
                                    cases hd
                                    exact Kq95 _ _ _ hP hD hS (lv_sub hl [0, 1, 2, 3, 4, 5, 6, 7, 8, 9, 10, 11, 12, 13] rfl)
                                  · replace hd := ite_f c99 hd
                                    refine lv_iload hx hb dL_same_785 (lv_at hl 11 rfl) ?_
                                    refine lv_iload hx hb dL_same_787 (lv_at hl 14 rfl) ?_
                                    refine lv_ishr hx hb dL_same_789 ?_
                                    refine lv_iconst (v := 1) hx hb dL_same_790 (by decide) ?_
                                    refine lv_iand hx hb dL_same_791 ?_
                                    refine lv_if_ne (tgt := 825) hx hb dL_same_792 (by decide) (fun c100 => ?_) (fun c100 => ?_)
                                    · replace hd := ite_f c100 hd
                                      refine lv_iinc (v := (y20_780 + (-1 : Int32))) (lv' := [(20, .int (y20_780 + (-1 : Int32))), (0, .ref (ad 0)), (1, .int p2), (2, .ref aq), (3, .ref ab), (4, .ref am), (5, .int q1.1), (6, .int q1.2.1), (7, .int q1.2.2.1), (8, .int q2.1), (9, .int q2.2), (16, .int q73), (17, .int y17_762), (18, .int y18_762), (19, .int y19_780)]) hx hb dL_same_825 hl (k := 14) rfl (by first | rfl | decide) (by decide) rfl (fun ls hl => ?_)
                                      refine lv_goto (tgt := 780) hx hb dL_same_828 (by decide) ?_
                                      exact ih y19_780 (y20_780 + (-1 : Int32)) hd _ _ _ hP hD hS (lv_sub hl [1, 2, 3, 4, 5, 6, 7, 8, 9, 10, 11, 12, 13, 14, 0] rfl)
                                    · replace hd := ite_t c100 hd
                                      refine lv_iload hx hb dL_same_795 (lv_at hl 13 rfl) ?_
                                      obtain ⟨J101, eJ101, hd⟩ := nm_ex hd
                                      have KJ101 : ∀ (u_ : Unit) (hd : J101 u_ = some q95) (H : Heap) (locs : List Loc) (ls : Array Slot), va_P (dC, dI) vwCl ([(aq, .inl (cI, 5, .inl q)), (ab, .inl (cI, 48, .inl bl)), (am, .inl (cL, 64, .inr (.inl me)))] ++ mod cI cC cT cL ad fr T R_762 P Y S B_762) H → va_D A ([(aq, .inl (cI, 5, .inl q)), (ab, .inl (cI, 48, .inl bl)), (am, .inl (cL, 64, .inr (.inl me)))] ++ mod cI cC cT cL ad fr T R_762 P Y S B_762) → va_S A s.heap H locs → lv_has ls 21 [(0, .ref (ad 0)), (1, .int p2), (2, .ref aq), (3, .ref ab), (4, .ref am), (5, .int q1.1), (6, .int q1.2.1), (7, .int q1.2.2.1), (8, .int q2.1), (9, .int q2.2), (16, .int q73), (17, .int y17_762), (18, .int y18_762), (20, .int y20_780)] → W p l e rmL_same s m args below meth c H locs 0 0 Q (F0 m 821 ls []) := by
                                        intro u_ hd H locs ls hP hD hS hl
                                        replace hd := jx1 eJ101 hd
                                        refine lv_iload hx hb dL_same_821 (lv_at hl 13 rfl) ?_
                                        refine lv_istore (lv' := [(19, .int y20_780), (0, .ref (ad 0)), (1, .int p2), (2, .ref aq), (3, .ref ab), (4, .ref am), (5, .int q1.1), (6, .int q1.2.1), (7, .int q1.2.2.1), (8, .int q2.1), (9, .int q2.2), (16, .int q73), (17, .int y17_762), (18, .int y18_762), (20, .int y20_780)]) hx hb dL_same_823 hl (by decide) rfl (fun ls hl => ?_)
                                        refine lv_iinc (v := (y20_780 + (-1 : Int32))) (lv' := [(20, .int (y20_780 + (-1 : Int32))), (19, .int y20_780), (0, .ref (ad 0)), (1, .int p2), (2, .ref aq), (3, .ref ab), (4, .ref am), (5, .int q1.1), (6, .int q1.2.1), (7, .int q1.2.2.1), (8, .int q2.1), (9, .int q2.2), (16, .int q73), (17, .int y17_762), (18, .int y18_762)]) hx hb dL_same_825 hl (k := 14) rfl (by first | rfl | decide) (by decide) rfl (fun ls hl => ?_)
                                        refine lv_goto (tgt := 780) hx hb dL_same_828 (by decide) ?_
                                        exact ih y20_780 (y20_780 + (-1 : Int32)) hd _ _ _ hP hD hS (lv_sub hl [2, 3, 4, 5, 6, 7, 8, 9, 10, 11, 12, 13, 14, 1, 0] rfl)
                                      refine lv_if_lt (tgt := 821) hx hb dL_same_797 (by decide) (fun c102 => ?_) (fun c102 => ?_)
                                      · replace hd := ite_t c102 hd
                                        exact KJ101 () hd _ _ _ hP hD hS (lv_sub hl [0, 1, 2, 3, 4, 5, 6, 7, 8, 9, 10, 11, 12, 14] rfl)
                                      · replace hd := ite_f c102 hd
                                        refine lv_iload hx hb dL_same_800 (lv_at hl 14 rfl) ?_
                                        refine lv_iload hx hb dL_same_802 (lv_at hl 10 rfl) ?_
                                        refine lv_aload_n hx hb dL_same_804 rfl (lv_at hl 2 rfl) ?_
                                        refine lv_aload_n hx hb dL_same_805 rfl (lv_at hl 3 rfl) ?_
                                        obtain ⟨q103, hq103, hd⟩ := bnd_some hd
                                        have hPc : va_P (dC, dI) vwCl [(aq, .inl (cI, 5, .inl q)), (ab, .inl (cI, 48, .inl bl))] _ := hP.sub [0, 1] rfl
                                        have hDc := hD.sub (ws' := [(aq, .inl (cI, 5, .inl q)), (ab, .inl (cI, 48, .inl bl))]) [0, 1] (by decide) rfl
                                        have hFc := va_free (wc := [(aq, .inl (cI, 5, .inl q)), (ab, .inl (cI, 48, .inl bl))]) hD hS hA [0, 1] rfl
                                        refine va_calli (va_runS (As := [.int y20_780, .int q73, .ref aq, .ref ab]) (rest := []) ⟨hx, hb, hml, hown, hts⟩ (c_L_far l dC dI cI cC cT cL aq ab 5 48 H.size q bl y20_780 q73 q103 hq103) (va_cwS 4 hts gL_same_L_far rfl rfl rfl hp_L_far ⟨Nat.le_of_ble_eq_true rfl, Nat.le_of_ble_eq_true rfl⟩) ⟨preB_fb, fun U hU hW => preB_mk hU hW hPc hK hDc hN⟩ rfl rfl hl.1 rfl (lv_room (Nat.le_of_ble_eq_true rfl)) dL_same_806 ⟨Nat.zero_le _, Nat.zero_le _⟩) hS (fun q _ h => hFc q h) hFc (fun r_ u_ t H locs ht hvm hw hB hz1 hk1 hS => ?_)
                                        have hw : r_ = q103 := hw
                                        have hw := hw.symm
                                        subst hw
                                        obtain ⟨hP, hD⟩ := x_joinL (r' := [(aq, .inl (cI, 5, .inl q)), (ab, .inl (cI, 48, .inl bl)), (am, .inl (cL, 64, .inr (.inl me)))]) hP hD [0, 1] [2] rfl rfl (by decide) (by decide) hk1 hFc ht hB [1, 2, 0] (by decide) rfl rfl
                                        clear hPc hDc hFc hk1 hB ht hz1 hvm
                                        refine lv_iload hx hb dL_same_809 (lv_at hl 13 rfl) ?_
                                        refine lv_iload hx hb dL_same_811 (lv_at hl 10 rfl) ?_
                                        refine lv_aload_n hx hb dL_same_813 rfl (lv_at hl 2 rfl) ?_
                                        refine lv_aload_n hx hb dL_same_814 rfl (lv_at hl 3 rfl) ?_
                                        obtain ⟨q104, hq104, hd⟩ := bnd_some hd
                                        have hPc : va_P (dC, dI) vwCl [(aq, .inl (cI, 5, .inl q)), (ab, .inl (cI, 48, .inl bl))] _ := hP.sub [0, 1] rfl
                                        have hDc := hD.sub (ws' := [(aq, .inl (cI, 5, .inl q)), (ab, .inl (cI, 48, .inl bl))]) [0, 1] (by decide) rfl
                                        have hFc := va_free (wc := [(aq, .inl (cI, 5, .inl q)), (ab, .inl (cI, 48, .inl bl))]) hD hS hA [0, 1] rfl
                                        refine va_calli (va_runS (As := [.int y19_780, .int q73, .ref aq, .ref ab]) (rest := [.int q103]) ⟨hx, hb, hml, hown, hts⟩ (c_L_far l dC dI cI cC cT cL aq ab 5 48 H.size q bl y19_780 q73 q104 hq104) (va_cwS 4 hts gL_same_L_far rfl rfl rfl hp_L_far ⟨Nat.le_of_ble_eq_true rfl, Nat.le_of_ble_eq_true rfl⟩) ⟨preB_fb, fun U hU hW => preB_mk hU hW hPc hK hDc hN⟩ rfl rfl hl.1 rfl (lv_room (Nat.le_of_ble_eq_true rfl)) dL_same_815 ⟨Nat.zero_le _, Nat.zero_le _⟩) hS (fun q _ h => hFc q h) hFc (fun r_ u_ t H locs ht hvm hw hB hz1 hk1 hS => ?_)
                                        have hw : r_ = q104 := hw
                                        have hw := hw.symm
                                        subst hw
                                        obtain ⟨hP, hD⟩ := x_joinL (r' := [(aq, .inl (cI, 5, .inl q)), (ab, .inl (cI, 48, .inl bl)), (am, .inl (cL, 64, .inr (.inl me)))]) hP hD [0, 1] [2] rfl rfl (by decide) (by decide) hk1 hFc ht hB [1, 2, 0] (by decide) rfl rfl
                                        clear hPc hDc hFc hk1 hB ht hz1 hvm
                                        refine lv_icmp_gt (tgt := 825) hx hb dL_same_818 (by decide) (fun c105 => ?_) (fun c105 => ?_)
                                        · replace hd := ite_t c105 hd
                                          refine lv_iinc (v := (y20_780 + (-1 : Int32))) (lv' := [(20, .int (y20_780 + (-1 : Int32))), (0, .ref (ad 0)), (1, .int p2), (2, .ref aq), (3, .ref ab), (4, .ref am), (5, .int q1.1), (6, .int q1.2.1), (7, .int q1.2.2.1), (8, .int q2.1), (9, .int q2.2), (16, .int q73), (17, .int y17_762), (18, .int y18_762), (19, .int y19_780)]) hx hb dL_same_825 hl (k := 14) rfl (by first | rfl | decide) (by decide) rfl (fun ls hl => ?_)
                                          refine lv_goto (tgt := 780) hx hb dL_same_828 (by decide) ?_
                                          exact ih y19_780 (y20_780 + (-1 : Int32)) hd _ _ _ hP hD hS (lv_sub hl [1, 2, 3, 4, 5, 6, 7, 8, 9, 10, 11, 12, 13, 14, 0] rfl)
                                        · replace hd := ite_f c105 hd
                                          exact KJ101 () hd _ _ _ hP hD hS (lv_sub hl [0, 1, 2, 3, 4, 5, 6, 7, 8, 9, 10, 11, 12, 14] rfl)
                              exact KL106 FU (-1 : Int32) ((q 3) - (1 : Int32)) hq95 _ _ _ hP hD hS (lv_sub hl [2, 3, 4, 5, 6, 7, 8, 9, 10, 11, 12, 13, 14, 1, 0] rfl)
                        exact KL107 FU (0 : Int32) (0 : Int32) q70.2.1 q70.2.2 hq74 _ _ _ hP hD hS (lv_sub hl [4, 5, 6, 7, 8, 9, 10, 11, 12, 13, 2, 1, 0] rfl)
                      · replace hd := ite_f c72 hd
                        refine lv_iconst (v := 0) hx hb dL_same_742 (by decide) ?_
                        exact no_some hd
          replace hd := hq57
          clear hq57
          refine lv_icmp_eq (tgt := 619) hx hb dL_same_611 (by decide) (fun c108 => ?_) (fun c108 => ?_)
          · replace hd := ite_t c108 hd
            refine lv_iconst (v := 0) hx hb dL_same_619 (by decide) ?_
            refine lv_goto (tgt := 646) hx hb dL_same_620 (by decide) ?_
            cases hd
            exact Kq57 _ _ _ hP hD hS (lv_sub hl [3, 4, 5, 6, 7, 8, 9, 10, 11, 12, 13, 14, 1] rfl)
          · replace hd := ite_f c108 hd
            refine lv_iload hx hb dL_same_614 (lv_at hl 0 rfl) ?_
            refine lv_if_ge (tgt := 623) hx hb dL_same_616 (by decide) (fun c109 => ?_) (fun c109 => ?_)
            · replace hd := ite_t c109 hd
              refine lv_iload hx hb dL_same_623 (lv_at hl 14 rfl) ?_
              refine lv_iload hx hb dL_same_625 (lv_at hl 1 rfl) ?_
              refine lv_iload hx hb dL_same_627 (lv_at hl 0 rfl) ?_
              refine lv_bipush (v := 9) hx hb dL_same_629 (by decide) ?_
              refine lv_idiv hx hb dL_same_631 (by decide) ?_
              refine lv_aload_n hx hb dL_same_632 rfl (lv_at hl 6 rfl) ?_
              refine lv_aload hx hb dL_same_633 (lv_at hl 7 rfl) ?_
              obtain ⟨q110, hq110, hd⟩ := bnd_some hd
              have hPc : va_P (dC, dI) vwCl [(ab, .inl (cI, 48, .inl bl)), (am, .inl (cL, 64, .inr (.inl me)))] _ := hP.sub [1, 2] rfl
              have hDc := hD.sub (ws' := [(ab, .inl (cI, 48, .inl bl)), (am, .inl (cL, 64, .inr (.inl me)))]) [1, 2] (by decide) rfl
              have hFc := va_free (wc := [(ab, .inl (cI, 48, .inl bl)), (am, .inl (cL, 64, .inr (.inl me)))]) hD hS hA [1, 2] rfl
              refine va_calli (va_runS (As := [.int q50, .int (x52 / q53), .int (((x52 - x52 / q55 * q55) - (4 : Int32)) / (9 : Int32)), .ref ab, .ref am]) (rest := []) ⟨hx, hb, hml, hown, hts⟩ (c_L_nine l dC dI cI cC cT cL ab am 48 64 H.size bl me q50 (x52 / q53) (((x52 - x52 / q55 * q55) - (4 : Int32)) / (9 : Int32)) q110 hq110) (va_cwS 5 hts gL_same_L_nine rfl rfl rfl hp_L_nine ⟨Nat.le_of_ble_eq_true rfl, Nat.le_of_ble_eq_true rfl⟩) ⟨preB_fb, fun U hU hW => preB_mk hU hW hPc hK hDc hN⟩ rfl rfl hl.1 rfl (lv_room (Nat.le_of_ble_eq_true rfl)) dL_same_635 ⟨Nat.zero_le _, Nat.zero_le _⟩) hS (fun q _ h => hFc q h) hFc (fun r_ u_ t H locs ht hvm hw hB hz1 hk1 hS => ?_)
              have hw : r_ = q110 := hw
              have hw := hw.symm
              subst hw
              obtain ⟨hP, hD⟩ := x_joinL (r' := [(aq, .inl (cI, 5, .inl q)), (ab, .inl (cI, 48, .inl bl)), (am, .inl (cL, 64, .inr (.inl me)))]) hP hD [1, 2] [0] rfl rfl (by decide) (by decide) hk1 hFc ht hB [0, 1, 2] (by decide) rfl rfl
              clear hPc hDc hFc hk1 hB ht hz1 hvm
              refine lv_iload hx hb dL_same_638 (lv_at hl 0 rfl) ?_
              refine lv_bipush (v := 9) hx hb dL_same_640 (by decide) ?_
              refine lv_irem hx hb dL_same_642 (by decide) ?_
              refine lv_ishr hx hb dL_same_643 ?_
              refine lv_iconst (v := 1) hx hb dL_same_644 (by decide) ?_
              refine lv_iand hx hb dL_same_645 ?_
              cases hd
              exact Kq57 _ _ _ hP hD hS (lv_sub hl [3, 4, 5, 6, 7, 8, 9, 10, 11, 12, 13, 14, 1] rfl)
            · replace hd := ite_f c109 hd
              refine lv_iconst (v := 0) hx hb dL_same_619 (by decide) ?_
              refine lv_goto (tgt := 646) hx hb dL_same_620 (by decide) ?_
              cases hd
              exact Kq57 _ _ _ hP hD hS (lv_sub hl [3, 4, 5, 6, 7, 8, 9, 10, 11, 12, 13, 14, 1] rfl)
        clear hd
        have KL114 : ∀ (fu : Nat) (y11_539 : Int32) (hd : den_L_same_L539 q bl q49 fu y11_539 = some q50) (H : Heap) (locs : List Loc) (ls : Array Slot), va_P (dC, dI) vwCl ([(aq, .inl (cI, 5, .inl q)), (ab, .inl (cI, 48, .inl bl)), (am, .inl (cL, 64, .inr (.inl me)))] ++ mod cI cC cT cL ad fr T q1.2.2.2.1 P Y S q1.2.2.2.2) H → va_D A ([(aq, .inl (cI, 5, .inl q)), (ab, .inl (cI, 48, .inl bl)), (am, .inl (cL, 64, .inr (.inl me)))] ++ mod cI cC cT cL ad fr T q1.2.2.2.1 P Y S q1.2.2.2.2) → va_S A s.heap H locs → lv_has ls 21 [(0, .ref (ad 0)), (1, .int p2), (2, .ref aq), (3, .ref ab), (4, .ref am), (5, .int q1.1), (6, .int q1.2.1), (7, .int q1.2.2.1), (8, .int q2.1), (9, .int q2.2), (10, .int q49), (11, .int y11_539)] → W p l e rmL_same s m args below meth c H locs 0 0 Q (F0 m 539 ls []) := by
          intro fu
          induction fu with
          | zero => intro y11_539 hd; exact no_some hd
          | succ fu ih =>
            intro y11_539 hd H locs ls hP hD hS hl
            rw [den_L_same_L539] at hd
            refine lv_iload hx hb dL_same_539 (lv_at hl 11 rfl) ?_
            refine lv_iconst (v := 1) hx hb dL_same_541 (by decide) ?_
            refine lv_iadd hx hb dL_same_542 ?_
            refine lv_aload_n hx hb dL_same_543 rfl (lv_at hl 2 rfl) ?_
            refine lv_iconst (v := 3) hx hb dL_same_544 (by decide) ?_
            refine x_iald (k := 3) hx hb hK hP 0 0 rfl rfl (inb_in (by decide)) rfl dL_same_545 ?_
            refine lv_icmp_ge (tgt := 570) hx hb dL_same_546 (by decide) (fun c111 => ?_) (fun c111 => ?_)
            · replace hd := ite_t c111 hd
              cases hd
              exact Kq50 _ _ _ hP hD hS (lv_sub hl [0, 1, 2, 3, 4, 5, 6, 7, 8, 9, 10, 11] rfl)
            · replace hd := ite_f c111 hd
              refine lv_aload_n hx hb dL_same_549 rfl (lv_at hl 3 rfl) ?_
              refine lv_bipush (v := 8) hx hb dL_same_550 (by decide) ?_
              refine lv_iload hx hb dL_same_552 (lv_at hl 11 rfl) ?_
              refine lv_imul hx hb dL_same_554 ?_
              refine lv_bipush (v := 11) hx hb dL_same_555 (by decide) ?_
              refine lv_iadd hx hb dL_same_557 ?_
              obtain ⟨g112, hd⟩ := gd_some hd
              refine x_iald (k := (((8 : Int32) * y11_539) + (11 : Int32)).toNatClampNeg) hx hb hK hP 1 0 rfl rfl (inb_in g112) rfl dL_same_558 ?_
              refine lv_iload hx hb dL_same_559 (lv_at hl 10 rfl) ?_
              refine lv_icmp_gt (tgt := 570) hx hb dL_same_561 (by decide) (fun c113 => ?_) (fun c113 => ?_)
              · replace hd := ite_t c113 hd
                cases hd
                exact Kq50 _ _ _ hP hD hS (lv_sub hl [0, 1, 2, 3, 4, 5, 6, 7, 8, 9, 10, 11] rfl)
              · replace hd := ite_f c113 hd
                refine lv_iinc (v := (y11_539 + (1 : Int32))) (lv' := [(11, .int (y11_539 + (1 : Int32))), (0, .ref (ad 0)), (1, .int p2), (2, .ref aq), (3, .ref ab), (4, .ref am), (5, .int q1.1), (6, .int q1.2.1), (7, .int q1.2.2.1), (8, .int q2.1), (9, .int q2.2), (10, .int q49)]) hx hb dL_same_564 hl (k := 11) rfl (by first | rfl | decide) (by decide) rfl (fun ls hl => ?_)
                refine lv_goto (tgt := 539) hx hb dL_same_567 (by decide) ?_
                exact ih (y11_539 + (1 : Int32)) hd _ _ _ hP hD hS (lv_sub hl [1, 2, 3, 4, 5, 6, 7, 8, 9, 10, 11, 0] rfl)
        exact KL114 FU (0 : Int32) hq50 _ _ _ hP hD hS (lv_sub hl [2, 3, 4, 5, 6, 7, 8, 9, 10, 11, 1, 0] rfl)
    clear hd
    have KL120 : ∀ (fu : Nat) (y8_464 : Int32) (y9_464 : Int32) (y10_464 : Int32) (hd : den_L_same_L464 q me fu y8_464 y9_464 y10_464 = some q2) (H : Heap) (locs : List Loc) (ls : Array Slot), va_P (dC, dI) vwCl ([(aq, .inl (cI, 5, .inl q)), (ab, .inl (cI, 48, .inl bl)), (am, .inl (cL, 64, .inr (.inl me)))] ++ mod cI cC cT cL ad fr T q1.2.2.2.1 P Y S q1.2.2.2.2) H → va_D A ([(aq, .inl (cI, 5, .inl q)), (ab, .inl (cI, 48, .inl bl)), (am, .inl (cL, 64, .inr (.inl me)))] ++ mod cI cC cT cL ad fr T q1.2.2.2.1 P Y S q1.2.2.2.2) → va_S A s.heap H locs → lv_has ls 21 [(0, .ref (ad 0)), (1, .int p2), (2, .ref aq), (3, .ref ab), (4, .ref am), (5, .int q1.1), (6, .int q1.2.1), (7, .int q1.2.2.1), (8, .int y8_464), (9, .int y9_464), (10, .int y10_464)] → W p l e rmL_same s m args below meth c H locs 0 0 Q (F0 m 464 ls []) := by
      intro fu
      induction fu with
      | zero => intro y8_464 y9_464 y10_464 hd; exact no_some hd
      | succ fu ih =>
        intro y8_464 y9_464 y10_464 hd H locs ls hP hD hS hl
        rw [den_L_same_L464] at hd
        refine lv_iload hx hb dL_same_464 (lv_at hl 10 rfl) ?_
        refine lv_aload_n hx hb dL_same_466 rfl (lv_at hl 2 rfl) ?_
        refine lv_iconst (v := 4) hx hb dL_same_467 (by decide) ?_
        refine x_iald (k := 4) hx hb hK hP 0 0 rfl rfl (inb_in (by decide)) rfl dL_same_468 ?_
        refine lv_icmp_ge (tgt := 521) hx hb dL_same_469 (by decide) (fun c115 => ?_) (fun c115 => ?_)
        · replace hd := ite_t c115 hd
          cases hd
          exact Kq2 _ _ _ hP hD hS (lv_sub hl [0, 1, 2, 3, 4, 5, 6, 7, 8, 9] rfl)
        · replace hd := ite_f c115 hd
          refine lv_iload hx hb dL_same_472 (lv_at hl 8 rfl) ?_
          refine lv_iload hx hb dL_same_474 (lv_at hl 10 rfl) ?_
          refine lv_aload hx hb dL_same_476 (lv_at hl 4 rfl) ?_
          obtain ⟨q116, hq116, hd⟩ := bnd_some hd
          have hPc : va_P (dC, dI) vwCl [(am, .inl (cL, 64, .inr (.inl me)))] _ := hP.sub [2] rfl
          have hDc := hD.sub (ws' := [(am, .inl (cL, 64, .inr (.inl me)))]) [2] (by decide) rfl
          have hFc := va_free (wc := [(am, .inl (cL, 64, .inr (.inl me)))]) hD hS hA [2] rfl
          refine va_calli (va_runS (As := [.int y10_464, .ref am]) (rest := [.int y8_464]) ⟨hx, hb, hml, hown, hts⟩ (c_L_mem l dC dI cI cC cT cL am 64 H.size me y10_464 q116 hq116) (va_cwS 2 hts gL_same_L_mem rfl rfl rfl hp_L_mem ⟨Nat.le_of_ble_eq_true rfl, Nat.le_of_ble_eq_true rfl⟩) ⟨preB_fb, fun U hU hW => preB_mk hU hW hPc hK hDc hN⟩ rfl rfl hl.1 rfl (lv_room (Nat.le_of_ble_eq_true rfl)) dL_same_478 ⟨Nat.zero_le _, Nat.zero_le _⟩) hS (fun q _ h => hFc q h) hFc (fun r_ u_ t H locs ht hvm hw hB hz1 hk1 hS => ?_)
          have hw : r_ = q116 := hw
          have hw := hw.symm
          subst hw
          obtain ⟨hP, hD⟩ := x_joinL (r' := [(aq, .inl (cI, 5, .inl q)), (ab, .inl (cI, 48, .inl bl)), (am, .inl (cL, 64, .inr (.inl me)))]) hP hD [2] [0, 1] rfl rfl (by decide) (by decide) hk1 hFc ht hB [0, 1, 2] (by decide) rfl rfl
          clear hPc hDc hFc hk1 hB ht hz1 hvm
          refine lv_sipush (v := 128) hx hb dL_same_481 (by decide) ?_
          refine lv_irem hx hb dL_same_484 (by decide) ?_
          refine lv_aload_n hx hb dL_same_485 rfl (lv_at hl 2 rfl) ?_
          refine lv_iconst (v := 1) hx hb dL_same_486 (by decide) ?_
          refine x_iald (k := 1) hx hb hK hP 0 0 rfl rfl (inb_in (by decide)) rfl dL_same_487 ?_
          obtain ⟨q117, hq117, hd⟩ := bnd_some hd
          have Kq117 : ∀ (H : Heap) (locs : List Loc) (ls : Array Slot), va_P (dC, dI) vwCl ([(aq, .inl (cI, 5, .inl q)), (ab, .inl (cI, 48, .inl bl)), (am, .inl (cL, 64, .inr (.inl me)))] ++ mod cI cC cT cL ad fr T q1.2.2.2.1 P Y S q1.2.2.2.2) H → va_D A ([(aq, .inl (cI, 5, .inl q)), (ab, .inl (cI, 48, .inl bl)), (am, .inl (cL, 64, .inr (.inl me)))] ++ mod cI cC cT cL ad fr T q1.2.2.2.1 P Y S q1.2.2.2.2) → va_S A s.heap H locs → lv_has ls 21 [(0, .ref (ad 0)), (1, .int p2), (2, .ref aq), (3, .ref ab), (4, .ref am), (5, .int q1.1), (6, .int q1.2.1), (7, .int q1.2.2.1), (9, .int y9_464), (10, .int y10_464)] → W p l e rmL_same s m args below meth c H locs 0 0 Q (F0 m 496 ls [.int q117, .int y8_464]) := by
            intro H locs ls hP hD hS hl
            refine lv_iadd hx hb dL_same_496 ?_
            refine lv_istore (lv' := [(8, .int (y8_464 + q117)), (0, .ref (ad 0)), (1, .int p2), (2, .ref aq), (3, .ref ab), (4, .ref am), (5, .int q1.1), (6, .int q1.2.1), (7, .int q1.2.2.1), (9, .int y9_464), (10, .int y10_464)]) hx hb dL_same_497 hl (by decide) rfl (fun ls hl => ?_)
            refine lv_iload hx hb dL_same_499 (lv_at hl 9 rfl) ?_
            refine lv_iload hx hb dL_same_501 (lv_at hl 10 rfl) ?_
            refine lv_aload hx hb dL_same_503 (lv_at hl 5 rfl) ?_
            obtain ⟨q118, hq118, hd⟩ := bnd_some hd
            have hPc : va_P (dC, dI) vwCl [(am, .inl (cL, 64, .inr (.inl me)))] _ := hP.sub [2] rfl
            have hDc := hD.sub (ws' := [(am, .inl (cL, 64, .inr (.inl me)))]) [2] (by decide) rfl
            have hFc := va_free (wc := [(am, .inl (cL, 64, .inr (.inl me)))]) hD hS hA [2] rfl
            refine va_calli (va_runS (As := [.int y10_464, .ref am]) (rest := [.int y9_464]) ⟨hx, hb, hml, hown, hts⟩ (c_L_mem l dC dI cI cC cT cL am 64 H.size me y10_464 q118 hq118) (va_cwS 2 hts gL_same_L_mem rfl rfl rfl hp_L_mem ⟨Nat.le_of_ble_eq_true rfl, Nat.le_of_ble_eq_true rfl⟩) ⟨preB_fb, fun U hU hW => preB_mk hU hW hPc hK hDc hN⟩ rfl rfl hl.1 rfl (lv_room (Nat.le_of_ble_eq_true rfl)) dL_same_505 ⟨Nat.zero_le _, Nat.zero_le _⟩) hS (fun q _ h => hFc q h) hFc (fun r_ u_ t H locs ht hvm hw hB hz1 hk1 hS => ?_)
            have hw : r_ = q118 := hw
            have hw := hw.symm
            subst hw
            obtain ⟨hP, hD⟩ := x_joinL (r' := [(aq, .inl (cI, 5, .inl q)), (ab, .inl (cI, 48, .inl bl)), (am, .inl (cL, 64, .inr (.inl me)))]) hP hD [2] [0, 1] rfl rfl (by decide) (by decide) hk1 hFc ht hB [0, 1, 2] (by decide) rfl rfl
            clear hPc hDc hFc hk1 hB ht hz1 hvm
            refine lv_sipush (v := 128) hx hb dL_same_508 (by decide) ?_
            refine lv_idiv hx hb dL_same_511 (by decide) ?_
            refine lv_iadd hx hb dL_same_512 ?_
            refine lv_istore (lv' := [(9, .int (y9_464 + (q118 / (128 : Int32)))), (8, .int (y8_464 + q117)), (0, .ref (ad 0)), (1, .int p2), (2, .ref aq), (3, .ref ab), (4, .ref am), (5, .int q1.1), (6, .int q1.2.1), (7, .int q1.2.2.1), (10, .int y10_464)]) hx hb dL_same_513 hl (by decide) rfl (fun ls hl => ?_)
            refine lv_iinc (v := (y10_464 + (1 : Int32))) (lv' := [(10, .int (y10_464 + (1 : Int32))), (9, .int (y9_464 + (q118 / (128 : Int32)))), (8, .int (y8_464 + q117)), (0, .ref (ad 0)), (1, .int p2), (2, .ref aq), (3, .ref ab), (4, .ref am), (5, .int q1.1), (6, .int q1.2.1), (7, .int q1.2.2.1)]) hx hb dL_same_515 hl (k := 10) rfl (by first | rfl | decide) (by decide) rfl (fun ls hl => ?_)
            refine lv_goto (tgt := 464) hx hb dL_same_518 (by decide) ?_
            exact ih (y8_464 + q117) (y9_464 + (q118 / (128 : Int32))) (y10_464 + (1 : Int32)) hd _ _ _ hP hD hS (lv_sub hl [3, 4, 5, 6, 7, 8, 9, 10, 2, 1, 0] rfl)
          replace hd := hq117
          clear hq117
          refine lv_icmp_ge (tgt := 495) hx hb dL_same_488 (by decide) (fun c119 => ?_) (fun c119 => ?_)
          · replace hd := ite_t c119 hd
            refine lv_iconst (v := 0) hx hb dL_same_495 (by decide) ?_
            cases hd
            exact Kq117 _ _ _ hP hD hS (lv_sub hl [0, 1, 2, 3, 4, 5, 6, 7, 9, 10] rfl)
          · replace hd := ite_f c119 hd
            refine lv_iconst (v := 1) hx hb dL_same_491 (by decide) ?_
            refine lv_goto (tgt := 496) hx hb dL_same_492 (by decide) ?_
            cases hd
            exact Kq117 _ _ _ hP hD hS (lv_sub hl [0, 1, 2, 3, 4, 5, 6, 7, 9, 10] rfl)
    exact KL120 FU (0 : Int32) (0 : Int32) (0 : Int32) hq2 _ _ _ hP hD hS (lv_sub hl [1, 2, 3, 4, 5, 6, 7, 8, 9, 10, 0] rfl)
  clear hd
  have KL184 : ∀ (fu : Nat) (y5_18 : Int32) (y6_18 : Int32) (y7_18 : Int32) (y10_18 : Int32) (R_18 : RV) (B_18 : (Nat → Int32)) (hd : den_L_same_L18 q bl me T fu y5_18 y6_18 y7_18 y10_18 R_18 B_18 = some q1) (H : Heap) (locs : List Loc) (ls : Array Slot), va_P (dC, dI) vwCl ([(aq, .inl (cI, 5, .inl q)), (ab, .inl (cI, 48, .inl bl)), (am, .inl (cL, 64, .inr (.inl me)))] ++ mod cI cC cT cL ad fr T R_18 P Y S B_18) H → va_D A ([(aq, .inl (cI, 5, .inl q)), (ab, .inl (cI, 48, .inl bl)), (am, .inl (cL, 64, .inr (.inl me)))] ++ mod cI cC cT cL ad fr T R_18 P Y S B_18) → va_S A s.heap H locs → lv_has ls 21 [(0, .ref (ad 0)), (1, .int p2), (2, .ref aq), (3, .ref ab), (4, .ref am), (5, .int y5_18), (6, .int y6_18), (7, .int y7_18), (8, .int (0 : Int32)), (9, .int (0 : Int32)), (10, .int y10_18)] → W p l e rmL_same s m args below meth c H locs 0 0 Q (F0 m 18 ls []) := by
    intro fu
    induction fu with
    | zero => intro y5_18 y6_18 y7_18 y10_18 R_18 B_18 hd; exact no_some hd
    | succ fu ih =>
      intro y5_18 y6_18 y7_18 y10_18 R_18 B_18 hd H locs ls hP hD hS hl
      rw [den_L_same_L18] at hd
      refine lv_iload hx hb dL_same_18 (lv_at hl 10 rfl) ?_
      refine lv_aload_n hx hb dL_same_20 rfl (lv_at hl 2 rfl) ?_
      refine lv_iconst (v := 3) hx hb dL_same_21 (by decide) ?_
      refine x_iald (k := 3) hx hb hK hP 0 0 rfl rfl (inb_in (by decide)) rfl dL_same_22 ?_
      refine lv_icmp_ge (tgt := 461) hx hb dL_same_23 (by decide) (fun c121 => ?_) (fun c121 => ?_)
      · replace hd := ite_t c121 hd
        cases hd
        exact Kq1 _ _ _ hP hD hS (lv_sub hl [0, 1, 2, 3, 4, 5, 6, 7, 8, 9] rfl)
      · replace hd := ite_f c121 hd
        refine lv_bipush (v := 8) hx hb dL_same_26 (by decide) ?_
        refine lv_iload hx hb dL_same_28 (lv_at hl 10 rfl) ?_
        refine lv_imul hx hb dL_same_30 ?_
        refine lv_istore (lv' := [(11, .int ((8 : Int32) * y10_18)), (0, .ref (ad 0)), (1, .int p2), (2, .ref aq), (3, .ref ab), (4, .ref am), (5, .int y5_18), (6, .int y6_18), (7, .int y7_18), (8, .int (0 : Int32)), (9, .int (0 : Int32)), (10, .int y10_18)]) hx hb dL_same_31 hl (by decide) rfl (fun ls hl => ?_)
        refine lv_iconst (v := 0) hx hb dL_same_33 (by decide) ?_
        refine lv_istore (lv' := [(12, .int (0 : Int32)), (11, .int ((8 : Int32) * y10_18)), (0, .ref (ad 0)), (1, .int p2), (2, .ref aq), (3, .ref ab), (4, .ref am), (5, .int y5_18), (6, .int y6_18), (7, .int y7_18), (8, .int (0 : Int32)), (9, .int (0 : Int32)), (10, .int y10_18)]) hx hb dL_same_34 hl (by decide) rfl (fun ls hl => ?_)
        refine lv_iload hx hb dL_same_36 (lv_at hl 12 rfl) ?_
        refine lv_aload_n hx hb dL_same_38 rfl (lv_at hl 4 rfl) ?_
        refine lv_iconst (v := 1) hx hb dL_same_39 (by decide) ?_
        refine x_iald (k := 1) hx hb hK hP 0 0 rfl rfl (inb_in (by decide)) rfl dL_same_40 ?_
        refine lv_aload_n hx hb dL_same_41 rfl (lv_at hl 5 rfl) ?_
        refine lv_aload hx hb dL_same_42 (lv_at hl 6 rfl) ?_
        obtain ⟨q122, hq122, hd⟩ := bnd_some hd
        have hPc : va_P (dC, dI) vwCl [(ab, .inl (cI, 48, .inl bl)), (am, .inl (cL, 64, .inr (.inl me)))] _ := hP.sub [1, 2] rfl
        have hDc := hD.sub (ws' := [(ab, .inl (cI, 48, .inl bl)), (am, .inl (cL, 64, .inr (.inl me)))]) [1, 2] (by decide) rfl
        have hFc := va_free (wc := [(ab, .inl (cI, 48, .inl bl)), (am, .inl (cL, 64, .inr (.inl me)))]) hD hS hA [1, 2] rfl
        refine va_calll (va_runS (As := [.int y10_18, .int (q 1), .ref ab, .ref am]) (rest := []) ⟨hx, hb, hml, hown, hts⟩ (c_L_load l dC dI cI cC cT cL ab am 48 64 H.size bl me y10_18 (q 1) q122 hq122) (va_cwS 4 hts gL_same_L_load rfl rfl rfl hp_L_load ⟨Nat.le_of_ble_eq_true rfl, Nat.le_of_ble_eq_true rfl⟩) ⟨preB_fb, fun U hU hW => preB_mk hU hW hPc hK hDc hN⟩ rfl rfl hl.1 rfl (lv_room (Nat.le_of_ble_eq_true rfl)) dL_same_44 ⟨Nat.zero_le _, Nat.zero_le _⟩) hS (fun q _ h => hFc q h) hFc (fun r_ u_ t H locs ht hvm hw hB hz1 hk1 hS => ?_)
        have hw : r_ = q122 := hw
        have hw := hw.symm
        subst hw
        obtain ⟨hP, hD⟩ := x_joinL (r' := [(aq, .inl (cI, 5, .inl q)), (ab, .inl (cI, 48, .inl bl)), (am, .inl (cL, 64, .inr (.inl me)))]) hP hD [1, 2] [0] rfl rfl (by decide) (by decide) hk1 hFc ht hB [0, 1, 2] (by decide) rfl rfl
        clear hPc hDc hFc hk1 hB ht hz1 hvm
        refine lv_lstore (lv' := [(13, .long q122), (12, .int (0 : Int32)), (11, .int ((8 : Int32) * y10_18)), (0, .ref (ad 0)), (1, .int p2), (2, .ref aq), (3, .ref ab), (4, .ref am), (5, .int y5_18), (6, .int y6_18), (7, .int y7_18), (8, .int (0 : Int32)), (9, .int (0 : Int32)), (10, .int y10_18)]) hx hb dL_same_47 hl (by decide) rfl (fun ls hl => ?_)
        refine lv_aload_n hx hb dL_same_49 rfl (lv_at hl 6 rfl) ?_
        refine lv_iload hx hb dL_same_50 (lv_at hl 2 rfl) ?_
        refine lv_iconst (v := 1) hx hb dL_same_52 (by decide) ?_
        refine lv_iadd hx hb dL_same_53 ?_
        obtain ⟨g123, hd⟩ := gd_some hd
        refine x_iald (k := (((8 : Int32) * y10_18) + (1 : Int32)).toNatClampNeg) hx hb hK hP 1 0 rfl rfl (inb_in g123) rfl dL_same_54 ?_
        refine lv_topi (fun x124 ex124 => ?_)
        replace hd := nm_some ex124 hd
        refine lv_istore (lv' := [(15, .int x124), (13, .long q122), (12, .int (0 : Int32)), (11, .int ((8 : Int32) * y10_18)), (0, .ref (ad 0)), (1, .int p2), (2, .ref aq), (3, .ref ab), (4, .ref am), (5, .int y5_18), (6, .int y6_18), (7, .int y7_18), (8, .int (0 : Int32)), (9, .int (0 : Int32)), (10, .int y10_18)]) hx hb dL_same_55 hl (by decide) rfl (fun ls hl => ?_)
        obtain ⟨q125, hq125, hd⟩ := bnd_some hd
        have Kq125 : ∀ (H : Heap) (locs : List Loc) (ls : Array Slot), va_P (dC, dI) vwCl ([(aq, .inl (cI, 5, .inl q)), (ab, .inl (cI, 48, .inl bl)), (am, .inl (cL, 64, .inr (.inl me)))] ++ mod cI cC cT cL ad fr T R_18 P Y S B_18) H → va_D A ([(aq, .inl (cI, 5, .inl q)), (ab, .inl (cI, 48, .inl bl)), (am, .inl (cL, 64, .inr (.inl me)))] ++ mod cI cC cT cL ad fr T R_18 P Y S B_18) → va_S A s.heap H locs → lv_has ls 21 [(0, .ref (ad 0)), (1, .int p2), (2, .ref aq), (3, .ref ab), (4, .ref am), (5, .int y5_18), (6, .int y6_18), (7, .int y7_18), (8, .int (0 : Int32)), (9, .int (0 : Int32)), (10, .int y10_18), (11, .int ((8 : Int32) * y10_18)), (12, .int q125), (13, .long q122)] → W p l e rmL_same s m args below meth c H locs 0 0 Q (F0 m 79 ls []) := by
          intro H locs ls hP hD hS hl
          refine lv_iconst (v := 0) hx hb dL_same_79 (by decide) ?_
          refine lv_istore (lv' := [(15, .int (0 : Int32)), (0, .ref (ad 0)), (1, .int p2), (2, .ref aq), (3, .ref ab), (4, .ref am), (5, .int y5_18), (6, .int y6_18), (7, .int y7_18), (8, .int (0 : Int32)), (9, .int (0 : Int32)), (10, .int y10_18), (11, .int ((8 : Int32) * y10_18)), (12, .int q125), (13, .long q122)]) hx hb dL_same_80 hl (by decide) rfl (fun ls hl => ?_)
          obtain ⟨q126, hq126, hd⟩ := bnd_some hd
          have Kq126 : ∀ (H : Heap) (locs : List Loc) (ls : Array Slot), va_P (dC, dI) vwCl ([(aq, .inl (cI, 5, .inl q)), (ab, .inl (cI, 48, .inl bl)), (am, .inl (cL, 64, .inr (.inl me)))] ++ mod cI cC cT cL ad fr T q126.1 P Y S q126.2) H → va_D A ([(aq, .inl (cI, 5, .inl q)), (ab, .inl (cI, 48, .inl bl)), (am, .inl (cL, 64, .inr (.inl me)))] ++ mod cI cC cT cL ad fr T q126.1 P Y S q126.2) → va_S A s.heap H locs → lv_has ls 21 [(0, .ref (ad 0)), (1, .int p2), (2, .ref aq), (3, .ref ab), (4, .ref am), (5, .int y5_18), (6, .int y6_18), (7, .int y7_18), (8, .int (0 : Int32)), (9, .int (0 : Int32)), (10, .int y10_18), (11, .int ((8 : Int32) * y10_18)), (12, .int q125), (13, .long q122)] → W p l e rmL_same s m args below meth c H locs 0 0 Q (F0 m 114 ls []) := by
            intro H locs ls hP hD hS hl
            refine lv_aload_n hx hb dL_same_114 rfl (lv_at hl 0 rfl) ?_
            refine lv_iload hx hb dL_same_115 (lv_at hl 10 rfl) ?_
            refine lv_iconst (v := 4) hx hb dL_same_117 (by decide) ?_
            obtain ⟨q127, hq127, hd⟩ := bnd_some hd
            have hPc := P_r hP
            have hDc := D_r hD
            have hFc := F_r hD hS hA
            refine va_calli (va_runV (As := [.int y10_18, .int (4 : Int32)]) (rest := []) ⟨hx, hb, hml, hown, hts⟩ (w_of l dC dI cI cC cT cL ad fr hfr0 hfr1 hfr2 hfr3 hfr4 hfr5 H.size T q126.1 P Y S q126.2 y10_18 (4 : Int32) q127 hq127) (cwV 2 hts gL_same_X6_of rfl rfl rfl hv_X6_of ⟨Nat.le_of_ble_eq_true rfl, Nat.le_of_ble_eq_true rfl⟩) ⟨preB_fb, va_recv hK hPc (ci := 6) (q0 := 0) rfl rfl, fun U hU hW => preB_mk hU hW hPc hK hDc hN⟩ rfl rfl hl.1 rfl (lv_room (Nat.le_of_ble_eq_true rfl)) dL_same_118 ⟨Nat.zero_le _, Nat.zero_le _⟩) hS (fun q _ h => hFc q h) hFc (fun r_ u_ t H locs ht hvm hw hB hz1 hk1 hS => ?_)
            have hw : r_ = q127.1 := hw
            have hw := hw.symm
            subst hw
            obtain ⟨hP, hD⟩ := x_joinR hP hD hk1 hFc ht hB
            clear hPc hDc hFc hk1 hB ht hz1 hvm
            refine lv_iconst (v := 2) hx hb dL_same_121 (by decide) ?_
            refine lv_iload hx hb dL_same_122 (lv_at hl 10 rfl) ?_
            refine lv_aload_n hx hb dL_same_124 rfl (lv_at hl 3 rfl) ?_
            obtain ⟨q128, hq128, hd⟩ := bnd_some hd
            have hPc : va_P (dC, dI) vwCl [(ab, .inl (cI, 48, .inl bl))] _ := hP.sub [1] rfl
            have hDc := hD.sub (ws' := [(ab, .inl (cI, 48, .inl bl))]) [1] (by decide) rfl
            have hFc := va_free (wc := [(ab, .inl (cI, 48, .inl bl))]) hD hS hA [1] rfl
            refine va_calli (va_runS (As := [.int y10_18, .ref ab]) (rest := [.int (2 : Int32), .int q127.1]) ⟨hx, hb, hml, hown, hts⟩ (c_L_size l dC dI cI cC cT cL ab 48 H.size bl y10_18 q128 hq128) (va_cwS 2 hts gL_same_L_size rfl rfl rfl hp_L_size ⟨Nat.le_of_ble_eq_true rfl, Nat.le_of_ble_eq_true rfl⟩) ⟨preB_fb, fun U hU hW => preB_mk hU hW hPc hK hDc hN⟩ rfl rfl hl.1 rfl (lv_room (Nat.le_of_ble_eq_true rfl)) dL_same_125 ⟨Nat.zero_le _, Nat.zero_le _⟩) hS (fun q _ h => hFc q h) hFc (fun r_ u_ t H locs ht hvm hw hB hz1 hk1 hS => ?_)
            have hw : r_ = q128 := hw
            have hw := hw.symm
            subst hw
            obtain ⟨hP, hD⟩ := x_joinL (r' := [(aq, .inl (cI, 5, .inl q)), (ab, .inl (cI, 48, .inl bl)), (am, .inl (cL, 64, .inr (.inl me)))]) hP hD [1] [0, 2] rfl rfl (by decide) (by decide) hk1 hFc ht hB [0, 2, 1] (by decide) rfl rfl
            clear hPc hDc hFc hk1 hB ht hz1 hvm
            refine lv_imul hx hb dL_same_128 ?_
            refine lv_iconst (v := 2) hx hb dL_same_129 (by decide) ?_
            refine lv_iadd hx hb dL_same_130 ?_
            refine lv_icmp_ne (tgt := 270) hx hb dL_same_131 (by decide) (fun c129 => ?_) (fun c129 => ?_)
            · replace hd := ite_f c129 hd
              refine lv_iconst (v := 0) hx hb dL_same_270 (by decide) ?_
              exact no_some hd
            · replace hd := ite_t c129 hd
              refine lv_aload_n hx hb dL_same_134 rfl (lv_at hl 0 rfl) ?_
              refine lv_iload hx hb dL_same_135 (lv_at hl 10 rfl) ?_
              refine lv_iconst (v := 5) hx hb dL_same_137 (by decide) ?_
              obtain ⟨q130, hq130, hd⟩ := bnd_some hd
              have hPc := P_r hP
              have hDc := D_r hD
              have hFc := F_r hD hS hA
              refine va_calli (va_runV (As := [.int y10_18, .int (5 : Int32)]) (rest := []) ⟨hx, hb, hml, hown, hts⟩ (w_of l dC dI cI cC cT cL ad fr hfr0 hfr1 hfr2 hfr3 hfr4 hfr5 H.size T q127.2.1 P Y S q127.2.2 y10_18 (5 : Int32) q130 hq130) (cwV 2 hts gL_same_X6_of rfl rfl rfl hv_X6_of ⟨Nat.le_of_ble_eq_true rfl, Nat.le_of_ble_eq_true rfl⟩) ⟨preB_fb, va_recv hK hPc (ci := 6) (q0 := 0) rfl rfl, fun U hU hW => preB_mk hU hW hPc hK hDc hN⟩ rfl rfl hl.1 rfl (lv_room (Nat.le_of_ble_eq_true rfl)) dL_same_138 ⟨Nat.zero_le _, Nat.zero_le _⟩) hS (fun q _ h => hFc q h) hFc (fun r_ u_ t H locs ht hvm hw hB hz1 hk1 hS => ?_)
              have hw : r_ = q130.1 := hw
              have hw := hw.symm
              subst hw
              obtain ⟨hP, hD⟩ := x_joinR hP hD hk1 hFc ht hB
              clear hPc hDc hFc hk1 hB ht hz1 hvm
              refine lv_iload hx hb dL_same_141 (lv_at hl 10 rfl) ?_
              refine lv_iconst (v := 0) hx hb dL_same_143 (by decide) ?_
              refine lv_aload_n hx hb dL_same_144 rfl (lv_at hl 2 rfl) ?_
              refine lv_iconst (v := 1) hx hb dL_same_145 (by decide) ?_
              refine x_iald (k := 1) hx hb hK hP 0 0 rfl rfl (inb_in (by decide)) rfl dL_same_146 ?_
              refine lv_aload_n hx hb dL_same_147 rfl (lv_at hl 3 rfl) ?_
              refine lv_aload hx hb dL_same_148 (lv_at hl 4 rfl) ?_
              obtain ⟨q131, hq131, hd⟩ := bnd_some hd
              have hPc : va_P (dC, dI) vwCl [(ab, .inl (cI, 48, .inl bl)), (am, .inl (cL, 64, .inr (.inl me)))] _ := hP.sub [1, 2] rfl
              have hDc := hD.sub (ws' := [(ab, .inl (cI, 48, .inl bl)), (am, .inl (cL, 64, .inr (.inl me)))]) [1, 2] (by decide) rfl
              have hFc := va_free (wc := [(ab, .inl (cI, 48, .inl bl)), (am, .inl (cL, 64, .inr (.inl me)))]) hD hS hA [1, 2] rfl
              refine va_calli (va_runS (As := [.int y10_18, .int (0 : Int32), .int (q 1), .ref ab, .ref am]) (rest := [.int q130.1]) ⟨hx, hb, hml, hown, hts⟩ (c_L_how l dC dI cI cC cT cL ab am 48 64 H.size bl me y10_18 (0 : Int32) (q 1) q131 hq131) (va_cwS 5 hts gL_same_L_how rfl rfl rfl hp_L_how ⟨Nat.le_of_ble_eq_true rfl, Nat.le_of_ble_eq_true rfl⟩) ⟨preB_fb, fun U hU hW => preB_mk hU hW hPc hK hDc hN⟩ rfl rfl hl.1 rfl (lv_room (Nat.le_of_ble_eq_true rfl)) dL_same_150 ⟨Nat.zero_le _, Nat.zero_le _⟩) hS (fun q _ h => hFc q h) hFc (fun r_ u_ t H locs ht hvm hw hB hz1 hk1 hS => ?_)
              have hw : r_ = q131 := hw
              have hw := hw.symm
              subst hw
              obtain ⟨hP, hD⟩ := x_joinL (r' := [(aq, .inl (cI, 5, .inl q)), (ab, .inl (cI, 48, .inl bl)), (am, .inl (cL, 64, .inr (.inl me)))]) hP hD [1, 2] [0] rfl rfl (by decide) (by decide) hk1 hFc ht hB [0, 1, 2] (by decide) rfl rfl
              clear hPc hDc hFc hk1 hB ht hz1 hvm
              refine lv_icmp_ne (tgt := 270) hx hb dL_same_153 (by decide) (fun c132 => ?_) (fun c132 => ?_)
              · replace hd := ite_f c132 hd
                refine lv_iconst (v := 0) hx hb dL_same_270 (by decide) ?_
                exact no_some hd
              · replace hd := ite_t c132 hd
                refine lv_aload_n hx hb dL_same_156 rfl (lv_at hl 0 rfl) ?_
                refine lv_iload hx hb dL_same_157 (lv_at hl 10 rfl) ?_
                refine lv_bipush (v := 6) hx hb dL_same_159 (by decide) ?_
                obtain ⟨q133, hq133, hd⟩ := bnd_some hd
                have hPc := P_r hP
                have hDc := D_r hD
                have hFc := F_r hD hS hA
                refine va_calli (va_runV (As := [.int y10_18, .int (6 : Int32)]) (rest := []) ⟨hx, hb, hml, hown, hts⟩ (w_of l dC dI cI cC cT cL ad fr hfr0 hfr1 hfr2 hfr3 hfr4 hfr5 H.size T q130.2.1 P Y S q130.2.2 y10_18 (6 : Int32) q133 hq133) (cwV 2 hts gL_same_X6_of rfl rfl rfl hv_X6_of ⟨Nat.le_of_ble_eq_true rfl, Nat.le_of_ble_eq_true rfl⟩) ⟨preB_fb, va_recv hK hPc (ci := 6) (q0 := 0) rfl rfl, fun U hU hW => preB_mk hU hW hPc hK hDc hN⟩ rfl rfl hl.1 rfl (lv_room (Nat.le_of_ble_eq_true rfl)) dL_same_161 ⟨Nat.zero_le _, Nat.zero_le _⟩) hS (fun q _ h => hFc q h) hFc (fun r_ u_ t H locs ht hvm hw hB hz1 hk1 hS => ?_)
                have hw : r_ = q133.1 := hw
                have hw := hw.symm
                subst hw
                obtain ⟨hP, hD⟩ := x_joinR hP hD hk1 hFc ht hB
                clear hPc hDc hFc hk1 hB ht hz1 hvm
                refine lv_iload hx hb dL_same_164 (lv_at hl 10 rfl) ?_
                refine lv_iconst (v := 1) hx hb dL_same_166 (by decide) ?_
                refine lv_aload_n hx hb dL_same_167 rfl (lv_at hl 2 rfl) ?_
                refine lv_iconst (v := 1) hx hb dL_same_168 (by decide) ?_
                refine x_iald (k := 1) hx hb hK hP 0 0 rfl rfl (inb_in (by decide)) rfl dL_same_169 ?_
                refine lv_aload_n hx hb dL_same_170 rfl (lv_at hl 3 rfl) ?_
                refine lv_aload hx hb dL_same_171 (lv_at hl 4 rfl) ?_
                obtain ⟨q134, hq134, hd⟩ := bnd_some hd
                have hPc : va_P (dC, dI) vwCl [(ab, .inl (cI, 48, .inl bl)), (am, .inl (cL, 64, .inr (.inl me)))] _ := hP.sub [1, 2] rfl
                have hDc := hD.sub (ws' := [(ab, .inl (cI, 48, .inl bl)), (am, .inl (cL, 64, .inr (.inl me)))]) [1, 2] (by decide) rfl
                have hFc := va_free (wc := [(ab, .inl (cI, 48, .inl bl)), (am, .inl (cL, 64, .inr (.inl me)))]) hD hS hA [1, 2] rfl
                refine va_calli (va_runS (As := [.int y10_18, .int (1 : Int32), .int (q 1), .ref ab, .ref am]) (rest := [.int q133.1]) ⟨hx, hb, hml, hown, hts⟩ (c_L_how l dC dI cI cC cT cL ab am 48 64 H.size bl me y10_18 (1 : Int32) (q 1) q134 hq134) (va_cwS 5 hts gL_same_L_how rfl rfl rfl hp_L_how ⟨Nat.le_of_ble_eq_true rfl, Nat.le_of_ble_eq_true rfl⟩) ⟨preB_fb, fun U hU hW => preB_mk hU hW hPc hK hDc hN⟩ rfl rfl hl.1 rfl (lv_room (Nat.le_of_ble_eq_true rfl)) dL_same_173 ⟨Nat.zero_le _, Nat.zero_le _⟩) hS (fun q _ h => hFc q h) hFc (fun r_ u_ t H locs ht hvm hw hB hz1 hk1 hS => ?_)
                have hw : r_ = q134 := hw
                have hw := hw.symm
                subst hw
                obtain ⟨hP, hD⟩ := x_joinL (r' := [(aq, .inl (cI, 5, .inl q)), (ab, .inl (cI, 48, .inl bl)), (am, .inl (cL, 64, .inr (.inl me)))]) hP hD [1, 2] [0] rfl rfl (by decide) (by decide) hk1 hFc ht hB [0, 1, 2] (by decide) rfl rfl
                clear hPc hDc hFc hk1 hB ht hz1 hvm
                refine lv_icmp_ne (tgt := 270) hx hb dL_same_176 (by decide) (fun c135 => ?_) (fun c135 => ?_)
                · replace hd := ite_f c135 hd
                  refine lv_iconst (v := 0) hx hb dL_same_270 (by decide) ?_
                  exact no_some hd
                · replace hd := ite_t c135 hd
                  refine lv_aload_n hx hb dL_same_179 rfl (lv_at hl 0 rfl) ?_
                  refine lv_iload hx hb dL_same_180 (lv_at hl 10 rfl) ?_
                  refine lv_bipush (v := 7) hx hb dL_same_182 (by decide) ?_
                  obtain ⟨q136, hq136, hd⟩ := bnd_some hd
                  have hPc := P_r hP
                  have hDc := D_r hD
                  have hFc := F_r hD hS hA
                  refine va_calli (va_runV (As := [.int y10_18, .int (7 : Int32)]) (rest := []) ⟨hx, hb, hml, hown, hts⟩ (w_of l dC dI cI cC cT cL ad fr hfr0 hfr1 hfr2 hfr3 hfr4 hfr5 H.size T q133.2.1 P Y S q133.2.2 y10_18 (7 : Int32) q136 hq136) (cwV 2 hts gL_same_X6_of rfl rfl rfl hv_X6_of ⟨Nat.le_of_ble_eq_true rfl, Nat.le_of_ble_eq_true rfl⟩) ⟨preB_fb, va_recv hK hPc (ci := 6) (q0 := 0) rfl rfl, fun U hU hW => preB_mk hU hW hPc hK hDc hN⟩ rfl rfl hl.1 rfl (lv_room (Nat.le_of_ble_eq_true rfl)) dL_same_184 ⟨Nat.zero_le _, Nat.zero_le _⟩) hS (fun q _ h => hFc q h) hFc (fun r_ u_ t H locs ht hvm hw hB hz1 hk1 hS => ?_)
                  have hw : r_ = q136.1 := hw
                  have hw := hw.symm
                  subst hw
                  obtain ⟨hP, hD⟩ := x_joinR hP hD hk1 hFc ht hB
                  clear hPc hDc hFc hk1 hB ht hz1 hvm
                  refine lv_lload hx hb dL_same_187 (lv_at hl 13 rfl) ?_
                  refine lv_lconst (v := 0) hx hb dL_same_189 (by decide) ?_
                  refine W.lcmp hx hb dL_same_190 ?_
                  obtain ⟨q137, hq137, hd⟩ := bnd_some hd
                  have Kq137 : ∀ (H : Heap) (locs : List Loc) (ls : Array Slot), va_P (dC, dI) vwCl ([(aq, .inl (cI, 5, .inl q)), (ab, .inl (cI, 48, .inl bl)), (am, .inl (cL, 64, .inr (.inl me)))] ++ mod cI cC cT cL ad fr T q136.2.1 P Y S q136.2.2) H → va_D A ([(aq, .inl (cI, 5, .inl q)), (ab, .inl (cI, 48, .inl bl)), (am, .inl (cL, 64, .inr (.inl me)))] ++ mod cI cC cT cL ad fr T q136.2.1 P Y S q136.2.2) → va_S A s.heap H locs → lv_has ls 21 [(0, .ref (ad 0)), (1, .int p2), (2, .ref aq), (3, .ref ab), (4, .ref am), (5, .int y5_18), (6, .int y6_18), (7, .int y7_18), (8, .int (0 : Int32)), (9, .int (0 : Int32)), (10, .int y10_18), (11, .int ((8 : Int32) * y10_18)), (12, .int q125), (13, .long q122)] → W p l e rmL_same s m args below meth c H locs 0 0 Q (F0 m 206 ls [.int q137, .int q136.1]) := by
                    intro H locs ls hP hD hS hl
                    refine lv_icmp_ne (tgt := 270) hx hb dL_same_206 (by decide) (fun c138 => ?_) (fun c138 => ?_)
                    · replace hd := ite_f c138 hd
                      refine lv_iconst (v := 0) hx hb dL_same_270 (by decide) ?_
                      exact no_some hd
                    · replace hd := ite_t c138 hd
                      refine lv_aload_n hx hb dL_same_209 rfl (lv_at hl 0 rfl) ?_
                      refine lv_iload hx hb dL_same_210 (lv_at hl 10 rfl) ?_
                      refine lv_bipush (v := 8) hx hb dL_same_212 (by decide) ?_
                      obtain ⟨q139, hq139, hd⟩ := bnd_some hd
                      have hPc := P_r hP
                      have hDc := D_r hD
                      have hFc := F_r hD hS hA
                      refine va_calli (va_runV (As := [.int y10_18, .int (8 : Int32)]) (rest := []) ⟨hx, hb, hml, hown, hts⟩ (w_of l dC dI cI cC cT cL ad fr hfr0 hfr1 hfr2 hfr3 hfr4 hfr5 H.size T q136.2.1 P Y S q136.2.2 y10_18 (8 : Int32) q139 hq139) (cwV 2 hts gL_same_X6_of rfl rfl rfl hv_X6_of ⟨Nat.le_of_ble_eq_true rfl, Nat.le_of_ble_eq_true rfl⟩) ⟨preB_fb, va_recv hK hPc (ci := 6) (q0 := 0) rfl rfl, fun U hU hW => preB_mk hU hW hPc hK hDc hN⟩ rfl rfl hl.1 rfl (lv_room (Nat.le_of_ble_eq_true rfl)) dL_same_214 ⟨Nat.zero_le _, Nat.zero_le _⟩) hS (fun q _ h => hFc q h) hFc (fun r_ u_ t H locs ht hvm hw hB hz1 hk1 hS => ?_)
                      have hw : r_ = q139.1 := hw
                      have hw := hw.symm
                      subst hw
                      obtain ⟨hP, hD⟩ := x_joinR hP hD hk1 hFc ht hB
                      clear hPc hDc hFc hk1 hB ht hz1 hvm
                      refine lv_iload hx hb dL_same_217 (lv_at hl 12 rfl) ?_
                      refine lv_icmp_ne (tgt := 270) hx hb dL_same_219 (by decide) (fun c140 => ?_) (fun c140 => ?_)
                      · replace hd := ite_f c140 hd
                        refine lv_iconst (v := 0) hx hb dL_same_270 (by decide) ?_
                        exact no_some hd
                      · replace hd := ite_t c140 hd
                        refine lv_aload_n hx hb dL_same_222 rfl (lv_at hl 0 rfl) ?_
                        refine lv_iload hx hb dL_same_223 (lv_at hl 10 rfl) ?_
                        refine lv_bipush (v := 9) hx hb dL_same_225 (by decide) ?_
                        obtain ⟨q141, hq141, hd⟩ := bnd_some hd
                        have hPc := P_r hP
                        have hDc := D_r hD
                        have hFc := F_r hD hS hA
                        refine va_calli (va_runV (As := [.int y10_18, .int (9 : Int32)]) (rest := []) ⟨hx, hb, hml, hown, hts⟩ (w_of l dC dI cI cC cT cL ad fr hfr0 hfr1 hfr2 hfr3 hfr4 hfr5 H.size T q139.2.1 P Y S q139.2.2 y10_18 (9 : Int32) q141 hq141) (cwV 2 hts gL_same_X6_of rfl rfl rfl hv_X6_of ⟨Nat.le_of_ble_eq_true rfl, Nat.le_of_ble_eq_true rfl⟩) ⟨preB_fb, va_recv hK hPc (ci := 6) (q0 := 0) rfl rfl, fun U hU hW => preB_mk hU hW hPc hK hDc hN⟩ rfl rfl hl.1 rfl (lv_room (Nat.le_of_ble_eq_true rfl)) dL_same_227 ⟨Nat.zero_le _, Nat.zero_le _⟩) hS (fun q _ h => hFc q h) hFc (fun r_ u_ t H locs ht hvm hw hB hz1 hk1 hS => ?_)
                        have hw : r_ = q141.1 := hw
                        have hw := hw.symm
                        subst hw
                        obtain ⟨hP, hD⟩ := x_joinR hP hD hk1 hFc ht hB
                        clear hPc hDc hFc hk1 hB ht hz1 hvm
                        refine lv_aload_n hx hb dL_same_230 rfl (lv_at hl 3 rfl) ?_
                        refine lv_iload hx hb dL_same_231 (lv_at hl 11 rfl) ?_
                        refine lv_iconst (v := 3) hx hb dL_same_233 (by decide) ?_
                        refine lv_iadd hx hb dL_same_234 ?_
                        obtain ⟨g142, hd⟩ := gd_some hd
                        refine x_iald (k := (((8 : Int32) * y10_18) + (3 : Int32)).toNatClampNeg) hx hb hK hP 1 0 rfl rfl (inb_in g142) rfl dL_same_235 ?_
                        refine lv_aload_n hx hb dL_same_236 rfl (lv_at hl 2 rfl) ?_
                        obtain ⟨q143, hq143, hd⟩ := bnd_some hd
                        have hPc : va_P (dC, dI) vwCl [(aq, .inl (cI, 5, .inl q))] _ := hP.sub [0] rfl
                        have hDc := hD.sub (ws' := [(aq, .inl (cI, 5, .inl q))]) [0] (by decide) rfl
                        have hFc := va_free (wc := [(aq, .inl (cI, 5, .inl q))]) hD hS hA [0] rfl
                        refine va_calli (va_runS (As := [.int (bl (((8 : Int32) * y10_18) + (3 : Int32)).toNatClampNeg), .ref aq]) (rest := [.int q141.1]) ⟨hx, hb, hml, hown, hts⟩ (c_L_counter l dC dI cI cC cT cL aq 5 H.size q (bl (((8 : Int32) * y10_18) + (3 : Int32)).toNatClampNeg) q143 hq143) (va_cwS 2 hts gL_same_L_counter rfl rfl rfl hp_L_counter ⟨Nat.le_of_ble_eq_true rfl, Nat.le_of_ble_eq_true rfl⟩) ⟨preB_fb, fun U hU hW => preB_mk hU hW hPc hK hDc hN⟩ rfl rfl hl.1 rfl (lv_room (Nat.le_of_ble_eq_true rfl)) dL_same_237 ⟨Nat.zero_le _, Nat.zero_le _⟩) hS (fun q _ h => hFc q h) hFc (fun r_ u_ t H locs ht hvm hw hB hz1 hk1 hS => ?_)
                        have hw : r_ = q143 := hw
                        have hw := hw.symm
                        subst hw
                        obtain ⟨hP, hD⟩ := x_joinL (r' := [(aq, .inl (cI, 5, .inl q)), (ab, .inl (cI, 48, .inl bl)), (am, .inl (cL, 64, .inr (.inl me)))]) hP hD [0] [1, 2] rfl rfl (by decide) (by decide) hk1 hFc ht hB [2, 0, 1] (by decide) rfl rfl
                        clear hPc hDc hFc hk1 hB ht hz1 hvm
                        refine lv_icmp_ne (tgt := 270) hx hb dL_same_240 (by decide) (fun c144 => ?_) (fun c144 => ?_)
                        · replace hd := ite_f c144 hd
                          refine lv_iconst (v := 0) hx hb dL_same_270 (by decide) ?_
                          exact no_some hd
                        · replace hd := ite_t c144 hd
                          refine lv_aload_n hx hb dL_same_243 rfl (lv_at hl 0 rfl) ?_
                          refine lv_iload hx hb dL_same_244 (lv_at hl 10 rfl) ?_
                          obtain ⟨q145, hq145, hd⟩ := bnd_some hd
                          have hPc := P_r hP
                          have hDc := D_r hD
                          have hFc := F_r hD hS hA
                          refine va_calll (va_runV (As := [.int y10_18]) (rest := []) ⟨hx, hb, hml, hown, hts⟩ (w_load l dC dI cI cC cT cL ad fr hfr0 hfr1 hfr2 hfr3 hfr4 hfr5 H.size T q141.2.1 P Y S q141.2.2 y10_18 q145 hq145) (cwV 1 hts gL_same_X6_load rfl rfl rfl hv_X6_load ⟨Nat.le_of_ble_eq_true rfl, Nat.le_of_ble_eq_true rfl⟩) ⟨preB_fb, va_recv hK hPc (ci := 6) (q0 := 0) rfl rfl, fun U hU hW => preB_mk hU hW hPc hK hDc hN⟩ rfl rfl hl.1 rfl (lv_room (Nat.le_of_ble_eq_true rfl)) dL_same_246 ⟨Nat.zero_le _, Nat.zero_le _⟩) hS (fun q _ h => hFc q h) hFc (fun r_ u_ t H locs ht hvm hw hB hz1 hk1 hS => ?_)
                          have hw : r_ = q145.1 := hw
                          have hw := hw.symm
                          subst hw
                          obtain ⟨hP, hD⟩ := x_joinR hP hD hk1 hFc ht hB
                          clear hPc hDc hFc hk1 hB ht hz1 hvm
                          refine lv_lload hx hb dL_same_249 (lv_at hl 13 rfl) ?_
                          refine lv_lconst (v := 0) hx hb dL_same_251 (by decide) ?_
                          refine W.lcmp hx hb dL_same_252 ?_
                          obtain ⟨q146, hq146, hd⟩ := bnd_some hd
                          have Kq146 : ∀ (H : Heap) (locs : List Loc) (ls : Array Slot), va_P (dC, dI) vwCl ([(aq, .inl (cI, 5, .inl q)), (ab, .inl (cI, 48, .inl bl)), (am, .inl (cL, 64, .inr (.inl me)))] ++ mod cI cC cT cL ad fr T q145.2.1 P Y S q145.2.2) H → va_D A ([(aq, .inl (cI, 5, .inl q)), (ab, .inl (cI, 48, .inl bl)), (am, .inl (cL, 64, .inr (.inl me)))] ++ mod cI cC cT cL ad fr T q145.2.1 P Y S q145.2.2) → va_S A s.heap H locs → lv_has ls 21 [(0, .ref (ad 0)), (1, .int p2), (2, .ref aq), (3, .ref ab), (4, .ref am), (5, .int y5_18), (6, .int y6_18), (7, .int y7_18), (8, .int (0 : Int32)), (9, .int (0 : Int32)), (10, .int y10_18), (11, .int ((8 : Int32) * y10_18)), (13, .long q122)] → W p l e rmL_same s m args below meth c H locs 0 0 Q (F0 m 266 ls [.long q146, .long q145.1]) := by
                            intro H locs ls hP hD hS hl
                            refine W.lcmp hx hb dL_same_266 ?_
                            refine lv_if_eq (tgt := 272) hx hb dL_same_267 (by decide) (fun c147 => ?_) (fun c147 => ?_)
                            · replace hd := ite_t c147 hd
                              refine lv_iconst (v := 0) hx hb dL_same_272 (by decide) ?_
                              refine lv_istore (lv' := [(15, .int (0 : Int32)), (0, .ref (ad 0)), (1, .int p2), (2, .ref aq), (3, .ref ab), (4, .ref am), (5, .int y5_18), (6, .int y6_18), (7, .int y7_18), (8, .int (0 : Int32)), (9, .int (0 : Int32)), (10, .int y10_18), (11, .int ((8 : Int32) * y10_18)), (13, .long q122)]) hx hb dL_same_273 hl (by decide) rfl (fun ls hl => ?_)
                              obtain ⟨q148, hq148, hd⟩ := bnd_some hd
                              have Kq148 : ∀ (H : Heap) (locs : List Loc) (ls : Array Slot), va_P (dC, dI) vwCl ([(aq, .inl (cI, 5, .inl q)), (ab, .inl (cI, 48, .inl bl)), (am, .inl (cL, 64, .inr (.inl me)))] ++ mod cI cC cT cL ad fr T q148.1 P Y S q148.2) H → va_D A ([(aq, .inl (cI, 5, .inl q)), (ab, .inl (cI, 48, .inl bl)), (am, .inl (cL, 64, .inr (.inl me)))] ++ mod cI cC cT cL ad fr T q148.1 P Y S q148.2) → va_S A s.heap H locs → lv_has ls 21 [(0, .ref (ad 0)), (1, .int p2), (2, .ref aq), (3, .ref ab), (4, .ref am), (5, .int y5_18), (6, .int y6_18), (7, .int y7_18), (8, .int (0 : Int32)), (9, .int (0 : Int32)), (10, .int y10_18), (11, .int ((8 : Int32) * y10_18)), (13, .long q122)] → W p l e rmL_same s m args below meth c H locs 0 0 Q (F0 m 358 ls []) := by
                                intro H locs ls hP hD hS hl
                                refine lv_iload hx hb dL_same_358 (lv_at hl 5 rfl) ?_
                                refine lv_lload hx hb dL_same_360 (lv_at hl 12 rfl) ?_
                                refine lv_lconst (v := 0) hx hb dL_same_362 (by decide) ?_
                                refine W.lcmp hx hb dL_same_363 ?_
                                obtain ⟨q149, hq149, hd⟩ := bnd_some hd
                                have Kq149 : ∀ (H : Heap) (locs : List Loc) (ls : Array Slot), va_P (dC, dI) vwCl ([(aq, .inl (cI, 5, .inl q)), (ab, .inl (cI, 48, .inl bl)), (am, .inl (cL, 64, .inr (.inl me)))] ++ mod cI cC cT cL ad fr T q148.1 P Y S q148.2) H → va_D A ([(aq, .inl (cI, 5, .inl q)), (ab, .inl (cI, 48, .inl bl)), (am, .inl (cL, 64, .inr (.inl me)))] ++ mod cI cC cT cL ad fr T q148.1 P Y S q148.2) → va_S A s.heap H locs → lv_has ls 21 [(0, .ref (ad 0)), (1, .int p2), (2, .ref aq), (3, .ref ab), (4, .ref am), (6, .int y6_18), (7, .int y7_18), (8, .int (0 : Int32)), (9, .int (0 : Int32)), (10, .int y10_18), (11, .int ((8 : Int32) * y10_18)), (13, .long q122)] → W p l e rmL_same s m args below meth c H locs 0 0 Q (F0 m 375 ls [.int q149, .int y5_18]) := by
                                  intro H locs ls hP hD hS hl
                                  refine lv_ior hx hb dL_same_375 ?_
                                  refine lv_istore (lv' := [(5, .int (y5_18 ||| q149)), (0, .ref (ad 0)), (1, .int p2), (2, .ref aq), (3, .ref ab), (4, .ref am), (6, .int y6_18), (7, .int y7_18), (8, .int (0 : Int32)), (9, .int (0 : Int32)), (10, .int y10_18), (11, .int ((8 : Int32) * y10_18)), (13, .long q122)]) hx hb dL_same_376 hl (by decide) rfl (fun ls hl => ?_)
                                  refine lv_iload hx hb dL_same_378 (lv_at hl 6 rfl) ?_
                                  refine lv_lload hx hb dL_same_380 (lv_at hl 12 rfl) ?_
                                  refine lv_lconst (v := 0) hx hb dL_same_382 (by decide) ?_
                                  refine W.lcmp hx hb dL_same_383 ?_
                                  obtain ⟨q150, hq150, hd⟩ := bnd_some hd
                                  have Kq150 : ∀ (H : Heap) (locs : List Loc) (ls : Array Slot), va_P (dC, dI) vwCl ([(aq, .inl (cI, 5, .inl q)), (ab, .inl (cI, 48, .inl bl)), (am, .inl (cL, 64, .inr (.inl me)))] ++ mod cI cC cT cL ad fr T q148.1 P Y S q148.2) H → va_D A ([(aq, .inl (cI, 5, .inl q)), (ab, .inl (cI, 48, .inl bl)), (am, .inl (cL, 64, .inr (.inl me)))] ++ mod cI cC cT cL ad fr T q148.1 P Y S q148.2) → va_S A s.heap H locs → lv_has ls 21 [(0, .ref (ad 0)), (1, .int p2), (2, .ref aq), (3, .ref ab), (4, .ref am), (5, .int (y5_18 ||| q149)), (7, .int y7_18), (8, .int (0 : Int32)), (9, .int (0 : Int32)), (10, .int y10_18), (11, .int ((8 : Int32) * y10_18)), (13, .long q122)] → W p l e rmL_same s m args below meth c H locs 0 0 Q (F0 m 408 ls [.int q150, .int y6_18]) := by
                                    intro H locs ls hP hD hS hl
                                    refine lv_ior hx hb dL_same_408 ?_
                                    refine lv_istore (lv' := [(6, .int (y6_18 ||| q150)), (0, .ref (ad 0)), (1, .int p2), (2, .ref aq), (3, .ref ab), (4, .ref am), (5, .int (y5_18 ||| q149)), (7, .int y7_18), (8, .int (0 : Int32)), (9, .int (0 : Int32)), (10, .int y10_18), (11, .int ((8 : Int32) * y10_18)), (13, .long q122)]) hx hb dL_same_409 hl (by decide) rfl (fun ls hl => ?_)
                                    refine lv_iload hx hb dL_same_411 (lv_at hl 7 rfl) ?_
                                    refine lv_lload hx hb dL_same_413 (lv_at hl 12 rfl) ?_
                                    refine lv_lconst (v := 0) hx hb dL_same_415 (by decide) ?_
                                    refine W.lcmp hx hb dL_same_416 ?_
                                    obtain ⟨q151, hq151, hd⟩ := bnd_some hd
                                    have Kq151 : ∀ (H : Heap) (locs : List Loc) (ls : Array Slot), va_P (dC, dI) vwCl ([(aq, .inl (cI, 5, .inl q)), (ab, .inl (cI, 48, .inl bl)), (am, .inl (cL, 64, .inr (.inl me)))] ++ mod cI cC cT cL ad fr T q148.1 P Y S q148.2) H → va_D A ([(aq, .inl (cI, 5, .inl q)), (ab, .inl (cI, 48, .inl bl)), (am, .inl (cL, 64, .inr (.inl me)))] ++ mod cI cC cT cL ad fr T q148.1 P Y S q148.2) → va_S A s.heap H locs → lv_has ls 21 [(0, .ref (ad 0)), (1, .int p2), (2, .ref aq), (3, .ref ab), (4, .ref am), (5, .int (y5_18 ||| q149)), (6, .int (y6_18 ||| q150)), (8, .int (0 : Int32)), (9, .int (0 : Int32)), (10, .int y10_18)] → W p l e rmL_same s m args below meth c H locs 0 0 Q (F0 m 452 ls [.int q151, .int y7_18]) := by
                                      intro H locs ls hP hD hS hl
                                      refine lv_ior hx hb dL_same_452 ?_
                                      refine lv_istore (lv' := [(7, .int (y7_18 ||| q151)), (0, .ref (ad 0)), (1, .int p2), (2, .ref aq), (3, .ref ab), (4, .ref am), (5, .int (y5_18 ||| q149)), (6, .int (y6_18 ||| q150)), (8, .int (0 : Int32)), (9, .int (0 : Int32)), (10, .int y10_18)]) hx hb dL_same_453 hl (by decide) rfl (fun ls hl => ?_)
                                      refine lv_iinc (v := (y10_18 + (1 : Int32))) (lv' := [(10, .int (y10_18 + (1 : Int32))), (7, .int (y7_18 ||| q151)), (0, .ref (ad 0)), (1, .int p2), (2, .ref aq), (3, .ref ab), (4, .ref am), (5, .int (y5_18 ||| q149)), (6, .int (y6_18 ||| q150)), (8, .int (0 : Int32)), (9, .int (0 : Int32))]) hx hb dL_same_455 hl (k := 10) rfl (by first | rfl | decide) (by decide) rfl (fun ls hl => ?_)
                                      refine lv_goto (tgt := 18) hx hb dL_same_458 (by decide) ?_
                                      exact ih (y5_18 ||| q149) (y6_18 ||| q150) (y7_18 ||| q151) (y10_18 + (1 : Int32)) q148.1 q148.2 hd _ _ _ hP hD hS (lv_sub hl [2, 3, 4, 5, 6, 7, 8, 1, 9, 10, 0] rfl)
                                    replace hd := hq151
                                    clear hq151
                                    refine lv_if_lt (tgt := 451) hx hb dL_same_417 (by decide) (fun c152 => ?_) (fun c152 => ?_)
                                    · replace hd := ite_t c152 hd
                                      refine lv_iconst (v := 0) hx hb dL_same_451 (by decide) ?_
                                      cases hd
                                      exact Kq151 _ _ _ hP hD hS (lv_sub hl [1, 2, 3, 4, 5, 6, 0, 8, 9, 10] rfl)
                                    · replace hd := ite_f c152 hd
                                      refine lv_aload_n hx hb dL_same_420 rfl (lv_at hl 4 rfl) ?_
                                      refine lv_iload hx hb dL_same_421 (lv_at hl 11 rfl) ?_
                                      refine lv_iconst (v := 1) hx hb dL_same_423 (by decide) ?_
                                      refine lv_iadd hx hb dL_same_424 ?_
                                      obtain ⟨g153, hd⟩ := gd_some hd
                                      refine x_iald (k := (((8 : Int32) * y10_18) + (1 : Int32)).toNatClampNeg) hx hb hK hP 1 0 rfl rfl (inb_in g153) rfl dL_same_425 ?_
                                      obtain ⟨J154, eJ154, hd⟩ := nm_ex hd
                                      have KJ154 : ∀ (u_ : Unit) (hd : J154 u_ = some q151) (H : Heap) (locs : List Loc) (ls : Array Slot), va_P (dC, dI) vwCl ([(aq, .inl (cI, 5, .inl q)), (ab, .inl (cI, 48, .inl bl)), (am, .inl (cL, 64, .inr (.inl me)))] ++ mod cI cC cT cL ad fr T q148.1 P Y S q148.2) H → va_D A ([(aq, .inl (cI, 5, .inl q)), (ab, .inl (cI, 48, .inl bl)), (am, .inl (cL, 64, .inr (.inl me)))] ++ mod cI cC cT cL ad fr T q148.1 P Y S q148.2) → va_S A s.heap H locs → lv_has ls 21 [(0, .ref (ad 0)), (1, .int p2), (2, .ref aq), (3, .ref ab), (4, .ref am), (5, .int (y5_18 ||| q149)), (6, .int (y6_18 ||| q150)), (8, .int (0 : Int32)), (9, .int (0 : Int32)), (10, .int y10_18)] → W p l e rmL_same s m args below meth c H locs 0 0 Q (F0 m 444 ls [.int y7_18]) := by
                                        intro u_ hd H locs ls hP hD hS hl
                                        replace hd := jx1 eJ154 hd
                                        refine lv_iconst (v := 1) hx hb dL_same_444 (by decide) ?_
                                        refine lv_iload hx hb dL_same_445 (lv_at hl 9 rfl) ?_
                                        refine lv_ishl hx hb dL_same_447 ?_
                                        refine lv_goto (tgt := 452) hx hb dL_same_448 (by decide) ?_
                                        cases hd
                                        exact Kq151 _ _ _ hP hD hS (lv_sub hl [0, 1, 2, 3, 4, 5, 6, 7, 8, 9] rfl)
                                      refine lv_if_lt (tgt := 444) hx hb dL_same_426 (by decide) (fun c155 => ?_) (fun c155 => ?_)
                                      · replace hd := ite_t c155 hd
                                        exact KJ154 () hd _ _ _ hP hD hS (lv_sub hl [1, 2, 3, 4, 5, 6, 0, 8, 9, 10] rfl)
                                      · replace hd := ite_f c155 hd
                                        refine lv_iload hx hb dL_same_429 (lv_at hl 7 rfl) ?_
                                        refine lv_aload_n hx hb dL_same_431 rfl (lv_at hl 4 rfl) ?_
                                        refine lv_iload hx hb dL_same_432 (lv_at hl 11 rfl) ?_
                                        refine lv_iconst (v := 1) hx hb dL_same_434 (by decide) ?_
                                        refine lv_iadd hx hb dL_same_435 ?_
                                        obtain ⟨g156, hd⟩ := gd_some hd
                                        refine x_iald (k := (((8 : Int32) * y10_18) + (1 : Int32)).toNatClampNeg) hx hb hK hP 1 0 rfl rfl (inb_in g156) rfl dL_same_436 ?_
                                        refine lv_ishr hx hb dL_same_437 ?_
                                        refine lv_iconst (v := 1) hx hb dL_same_438 (by decide) ?_
                                        refine lv_iand hx hb dL_same_439 ?_
                                        refine lv_iconst (v := 1) hx hb dL_same_440 (by decide) ?_
                                        refine lv_icmp_ne (tgt := 451) hx hb dL_same_441 (by decide) (fun c157 => ?_) (fun c157 => ?_)
                                        · replace hd := ite_f c157 hd
                                          refine lv_iconst (v := 0) hx hb dL_same_451 (by decide) ?_
                                          cases hd
                                          exact Kq151 _ _ _ hP hD hS (lv_sub hl [1, 2, 3, 4, 5, 6, 0, 8, 9, 10] rfl)
                                        · replace hd := ite_t c157 hd
                                          exact KJ154 () hd _ _ _ hP hD hS (lv_sub hl [1, 2, 3, 4, 5, 6, 0, 8, 9, 10] rfl)
                                  replace hd := hq150
                                  clear hq150
                                  refine lv_if_lt (tgt := 407) hx hb dL_same_384 (by decide) (fun c158 => ?_) (fun c158 => ?_)
                                  · replace hd := ite_t c158 hd
                                    refine lv_iconst (v := 0) hx hb dL_same_407 (by decide) ?_
                                    cases hd
                                    exact Kq150 _ _ _ hP hD hS (lv_sub hl [1, 2, 3, 4, 5, 0, 7, 8, 9, 10, 11, 12] rfl)
                                  · replace hd := ite_f c158 hd
                                    refine lv_lload hx hb dL_same_387 (lv_at hl 12 rfl) ?_
                                    refine lv_ldc2 (v := 3) hx hb hown (hts _ kL_same_1) dL_same_389 ?_
                                    refine lv_land hx hb dL_same_392 ?_
                                    refine lv_ldc2 (v := 2) hx hb hown (hts _ kL_same_3) dL_same_393 ?_
                                    refine W.lcmp hx hb dL_same_396 ?_
                                    refine lv_if_ne (tgt := 407) hx hb dL_same_397 (by decide) (fun c159 => ?_) (fun c159 => ?_)
                                    · replace hd := ite_f c159 hd
                                      refine lv_iconst (v := 0) hx hb dL_same_407 (by decide) ?_
                                      cases hd
                                      exact Kq150 _ _ _ hP hD hS (lv_sub hl [1, 2, 3, 4, 5, 0, 7, 8, 9, 10, 11, 12] rfl)
                                    · replace hd := ite_t c159 hd
                                      refine lv_iconst (v := 1) hx hb dL_same_400 (by decide) ?_
                                      refine lv_iload hx hb dL_same_401 (lv_at hl 10 rfl) ?_
                                      refine lv_ishl hx hb dL_same_403 ?_
                                      refine lv_goto (tgt := 408) hx hb dL_same_404 (by decide) ?_
                                      cases hd
                                      exact Kq150 _ _ _ hP hD hS (lv_sub hl [1, 2, 3, 4, 5, 0, 7, 8, 9, 10, 11, 12] rfl)
                                replace hd := hq149
                                clear hq149
                                refine lv_if_ge (tgt := 371) hx hb dL_same_364 (by decide) (fun c160 => ?_) (fun c160 => ?_)
                                · replace hd := ite_t c160 hd
                                  refine lv_iconst (v := 1) hx hb dL_same_371 (by decide) ?_
                                  refine lv_iload hx hb dL_same_372 (lv_at hl 10 rfl) ?_
                                  refine lv_ishl hx hb dL_same_374 ?_
                                  cases hd
                                  exact Kq149 _ _ _ hP hD hS (lv_sub hl [0, 1, 2, 3, 4, 6, 7, 8, 9, 10, 11, 12] rfl)
                                · replace hd := ite_f c160 hd
                                  refine lv_iconst (v := 0) hx hb dL_same_367 (by decide) ?_
                                  refine lv_goto (tgt := 375) hx hb dL_same_368 (by decide) ?_
                                  cases hd
                                  exact Kq149 _ _ _ hP hD hS (lv_sub hl [0, 1, 2, 3, 4, 6, 7, 8, 9, 10, 11, 12] rfl)
                              clear hd
                              have KL172 : ∀ (fu : Nat) (y15_275 : Int32) (R_275 : RV) (B_275 : (Nat → Int32)) (hd : den_L_same_L275 q bl me T y10_18 fu y15_275 R_275 B_275 = some q148) (H : Heap) (locs : List Loc) (ls : Array Slot), va_P (dC, dI) vwCl ([(aq, .inl (cI, 5, .inl q)), (ab, .inl (cI, 48, .inl bl)), (am, .inl (cL, 64, .inr (.inl me)))] ++ mod cI cC cT cL ad fr T R_275 P Y S B_275) H → va_D A ([(aq, .inl (cI, 5, .inl q)), (ab, .inl (cI, 48, .inl bl)), (am, .inl (cL, 64, .inr (.inl me)))] ++ mod cI cC cT cL ad fr T R_275 P Y S B_275) → va_S A s.heap H locs → lv_has ls 21 [(0, .ref (ad 0)), (1, .int p2), (2, .ref aq), (3, .ref ab), (4, .ref am), (5, .int y5_18), (6, .int y6_18), (7, .int y7_18), (8, .int (0 : Int32)), (9, .int (0 : Int32)), (10, .int y10_18), (11, .int ((8 : Int32) * y10_18)), (13, .long q122), (15, .int y15_275)] → W p l e rmL_same s m args below meth c H locs 0 0 Q (F0 m 275 ls []) := by
                                intro fu
                                induction fu with
                                | zero => intro y15_275 R_275 B_275 hd; exact no_some hd
                                | succ fu ih =>
                                  intro y15_275 R_275 B_275 hd H locs ls hP hD hS hl
                                  rw [den_L_same_L275] at hd
                                  refine lv_iload hx hb dL_same_275 (lv_at hl 13 rfl) ?_
                                  refine lv_iconst (v := 2) hx hb dL_same_277 (by decide) ?_
                                  refine lv_icmp_ge (tgt := 358) hx hb dL_same_278 (by decide) (fun c161 => ?_) (fun c161 => ?_)
                                  · replace hd := ite_t c161 hd
                                    cases hd
                                    exact Kq148 _ _ _ hP hD hS (lv_sub hl [0, 1, 2, 3, 4, 5, 6, 7, 8, 9, 10, 11, 12] rfl)
                                  · replace hd := ite_f c161 hd
                                    refine lv_iconst (v := 0) hx hb dL_same_281 (by decide) ?_
                                    refine lv_istore (lv' := [(16, .int (0 : Int32)), (0, .ref (ad 0)), (1, .int p2), (2, .ref aq), (3, .ref ab), (4, .ref am), (5, .int y5_18), (6, .int y6_18), (7, .int y7_18), (8, .int (0 : Int32)), (9, .int (0 : Int32)), (10, .int y10_18), (11, .int ((8 : Int32) * y10_18)), (13, .long q122), (15, .int y15_275)]) hx hb dL_same_282 hl (by decide) rfl (fun ls hl => ?_)
                                    obtain ⟨q162, hq162, hd⟩ := bnd_some hd
                                    have Kq162 : ∀ (H : Heap) (locs : List Loc) (ls : Array Slot), va_P (dC, dI) vwCl ([(aq, .inl (cI, 5, .inl q)), (ab, .inl (cI, 48, .inl bl)), (am, .inl (cL, 64, .inr (.inl me)))] ++ mod cI cC cT cL ad fr T q162.1 P Y S q162.2) H → va_D A ([(aq, .inl (cI, 5, .inl q)), (ab, .inl (cI, 48, .inl bl)), (am, .inl (cL, 64, .inr (.inl me)))] ++ mod cI cC cT cL ad fr T q162.1 P Y S q162.2) → va_S A s.heap H locs → lv_has ls 21 [(0, .ref (ad 0)), (1, .int p2), (2, .ref aq), (3, .ref ab), (4, .ref am), (5, .int y5_18), (6, .int y6_18), (7, .int y7_18), (8, .int (0 : Int32)), (9, .int (0 : Int32)), (10, .int y10_18), (11, .int ((8 : Int32) * y10_18)), (13, .long q122), (15, .int y15_275)] → W p l e rmL_same s m args below meth c H locs 0 0 Q (F0 m 352 ls []) := by
                                      intro H locs ls hP hD hS hl
                                      refine lv_iinc (v := (y15_275 + (1 : Int32))) (lv' := [(15, .int (y15_275 + (1 : Int32))), (0, .ref (ad 0)), (1, .int p2), (2, .ref aq), (3, .ref ab), (4, .ref am), (5, .int y5_18), (6, .int y6_18), (7, .int y7_18), (8, .int (0 : Int32)), (9, .int (0 : Int32)), (10, .int y10_18), (11, .int ((8 : Int32) * y10_18)), (13, .long q122)]) hx hb dL_same_352 hl (k := 13) rfl (by first | rfl | decide) (by decide) rfl (fun ls hl => ?_)
                                      refine lv_goto (tgt := 275) hx hb dL_same_355 (by decide) ?_
                                      exact ih (y15_275 + (1 : Int32)) q162.1 q162.2 hd _ _ _ hP hD hS (lv_sub hl [1, 2, 3, 4, 5, 6, 7, 8, 9, 10, 11, 12, 13, 0] rfl)
                                    clear hd
                                    have KL171 : ∀ (fu : Nat) (y16_284 : Int32) (R_284 : RV) (B_284 : (Nat → Int32)) (hd : den_L_same_L284 q bl me T y10_18 y15_275 fu y16_284 R_284 B_284 = some q162) (H : Heap) (locs : List Loc) (ls : Array Slot), va_P (dC, dI) vwCl ([(aq, .inl (cI, 5, .inl q)), (ab, .inl (cI, 48, .inl bl)), (am, .inl (cL, 64, .inr (.inl me)))] ++ mod cI cC cT cL ad fr T R_284 P Y S B_284) H → va_D A ([(aq, .inl (cI, 5, .inl q)), (ab, .inl (cI, 48, .inl bl)), (am, .inl (cL, 64, .inr (.inl me)))] ++ mod cI cC cT cL ad fr T R_284 P Y S B_284) → va_S A s.heap H locs → lv_has ls 21 [(0, .ref (ad 0)), (1, .int p2), (2, .ref aq), (3, .ref ab), (4, .ref am), (5, .int y5_18), (6, .int y6_18), (7, .int y7_18), (8, .int (0 : Int32)), (9, .int (0 : Int32)), (10, .int y10_18), (11, .int ((8 : Int32) * y10_18)), (13, .long q122), (15, .int y15_275), (16, .int y16_284)] → W p l e rmL_same s m args below meth c H locs 0 0 Q (F0 m 284 ls []) := by
                                      intro fu
                                      induction fu with
                                      | zero => intro y16_284 R_284 B_284 hd; exact no_some hd
                                      | succ fu ih =>
                                        intro y16_284 R_284 B_284 hd H locs ls hP hD hS hl
                                        rw [den_L_same_L284] at hd
                                        refine lv_iload hx hb dL_same_284 (lv_at hl 14 rfl) ?_
                                        refine lv_aload_n hx hb dL_same_286 rfl (lv_at hl 3 rfl) ?_
                                        refine lv_iload hx hb dL_same_287 (lv_at hl 11 rfl) ?_
                                        refine lv_iconst (v := 2) hx hb dL_same_289 (by decide) ?_
                                        refine lv_iadd hx hb dL_same_290 ?_
                                        obtain ⟨g163, hd⟩ := gd_some hd
                                        refine x_iald (k := (((8 : Int32) * y10_18) + (2 : Int32)).toNatClampNeg) hx hb hK hP 1 0 rfl rfl (inb_in g163) rfl dL_same_291 ?_
                                        refine lv_icmp_gt (tgt := 352) hx hb dL_same_292 (by decide) (fun c164 => ?_) (fun c164 => ?_)
                                        · replace hd := ite_t c164 hd
                                          cases hd
                                          exact Kq162 _ _ _ hP hD hS (lv_sub hl [0, 1, 2, 3, 4, 5, 6, 7, 8, 9, 10, 11, 12, 13] rfl)
                                        · replace hd := ite_f c164 hd
                                          refine lv_aload_n hx hb dL_same_295 rfl (lv_at hl 0 rfl) ?_
                                          refine lv_iload hx hb dL_same_296 (lv_at hl 10 rfl) ?_
                                          refine lv_iload hx hb dL_same_298 (lv_at hl 13 rfl) ?_
                                          refine lv_iload hx hb dL_same_300 (lv_at hl 14 rfl) ?_
                                          obtain ⟨q165, hq165, hd⟩ := bnd_some hd
                                          have hPc := P_r hP
                                          have hDc := D_r hD
                                          have hFc := F_r hD hS hA
                                          refine va_calli (va_runV (As := [.int y10_18, .int y15_275, .int y16_284]) (rest := []) ⟨hx, hb, hml, hown, hts⟩ (w_read l dC dI cI cC cT cL ad fr hfr0 hfr1 hfr2 hfr3 hfr4 hfr5 H.size T R_284 P Y S B_284 y10_18 y15_275 y16_284 q165 hq165) (cwV 3 hts gL_same_X6_read rfl rfl rfl hv_X6_read ⟨Nat.le_of_ble_eq_true rfl, Nat.le_of_ble_eq_true rfl⟩) ⟨preB_fb, va_recv hK hPc (ci := 6) (q0 := 0) rfl rfl, fun U hU hW => preB_mk hU hW hPc hK hDc hN⟩ rfl rfl hl.1 rfl (lv_room (Nat.le_of_ble_eq_true rfl)) dL_same_302 ⟨Nat.zero_le _, Nat.zero_le _⟩) hS (fun q _ h => hFc q h) hFc (fun r_ u_ t H locs ht hvm hw hB hz1 hk1 hS => ?_)
                                          have hw : r_ = q165.1 := hw
                                          have hw := hw.symm
                                          subst hw
                                          obtain ⟨hP, hD⟩ := x_joinR hP hD hk1 hFc ht hB
                                          clear hPc hDc hFc hk1 hB ht hz1 hvm
                                          refine lv_iload hx hb dL_same_305 (lv_at hl 10 rfl) ?_
                                          refine lv_iload hx hb dL_same_307 (lv_at hl 13 rfl) ?_
                                          refine lv_aload_n hx hb dL_same_309 rfl (lv_at hl 2 rfl) ?_
                                          refine lv_iconst (v := 1) hx hb dL_same_310 (by decide) ?_
                                          refine x_iald (k := 1) hx hb hK hP 0 0 rfl rfl (inb_in (by decide)) rfl dL_same_311 ?_
                                          refine lv_aload_n hx hb dL_same_312 rfl (lv_at hl 3 rfl) ?_
                                          refine lv_aload hx hb dL_same_313 (lv_at hl 4 rfl) ?_
                                          obtain ⟨q166, hq166, hd⟩ := bnd_some hd
                                          have hPc : va_P (dC, dI) vwCl [(ab, .inl (cI, 48, .inl bl)), (am, .inl (cL, 64, .inr (.inl me)))] _ := hP.sub [1, 2] rfl
                                          have hDc := hD.sub (ws' := [(ab, .inl (cI, 48, .inl bl)), (am, .inl (cL, 64, .inr (.inl me)))]) [1, 2] (by decide) rfl
                                          have hFc := va_free (wc := [(ab, .inl (cI, 48, .inl bl)), (am, .inl (cL, 64, .inr (.inl me)))]) hD hS hA [1, 2] rfl
                                          refine va_calli (va_runS (As := [.int y10_18, .int y15_275, .int (q 1), .ref ab, .ref am]) (rest := [.int q165.1]) ⟨hx, hb, hml, hown, hts⟩ (c_L_lost l dC dI cI cC cT cL ab am 48 64 H.size bl me y10_18 y15_275 (q 1) q166 hq166) (va_cwS 5 hts gL_same_L_lost rfl rfl rfl hp_L_lost ⟨Nat.le_of_ble_eq_true rfl, Nat.le_of_ble_eq_true rfl⟩) ⟨preB_fb, fun U hU hW => preB_mk hU hW hPc hK hDc hN⟩ rfl rfl hl.1 rfl (lv_room (Nat.le_of_ble_eq_true rfl)) dL_same_315 ⟨Nat.zero_le _, Nat.zero_le _⟩) hS (fun q _ h => hFc q h) hFc (fun r_ u_ t H locs ht hvm hw hB hz1 hk1 hS => ?_)
                                          have hw : r_ = q166 := hw
                                          have hw := hw.symm
                                          subst hw
                                          obtain ⟨hP, hD⟩ := x_joinL (r' := [(aq, .inl (cI, 5, .inl q)), (ab, .inl (cI, 48, .inl bl)), (am, .inl (cL, 64, .inr (.inl me)))]) hP hD [1, 2] [0] rfl rfl (by decide) (by decide) hk1 hFc ht hB [0, 1, 2] (by decide) rfl rfl
                                          clear hPc hDc hFc hk1 hB ht hz1 hvm
                                          obtain ⟨q167, hq167, hd⟩ := bnd_some hd
                                          have Kq167 : ∀ (H : Heap) (locs : List Loc) (ls : Array Slot), va_P (dC, dI) vwCl ([(aq, .inl (cI, 5, .inl q)), (ab, .inl (cI, 48, .inl bl)), (am, .inl (cL, 64, .inr (.inl me)))] ++ mod cI cC cT cL ad fr T q165.2.1 P Y S q165.2.2) H → va_D A ([(aq, .inl (cI, 5, .inl q)), (ab, .inl (cI, 48, .inl bl)), (am, .inl (cL, 64, .inr (.inl me)))] ++ mod cI cC cT cL ad fr T q165.2.1 P Y S q165.2.2) → va_S A s.heap H locs → lv_has ls 21 [(0, .ref (ad 0)), (1, .int p2), (2, .ref aq), (3, .ref ab), (4, .ref am), (5, .int y5_18), (6, .int y6_18), (7, .int y7_18), (8, .int (0 : Int32)), (9, .int (0 : Int32)), (10, .int y10_18), (11, .int ((8 : Int32) * y10_18)), (13, .long q122), (15, .int y15_275), (16, .int y16_284)] → W p l e rmL_same s m args below meth c H locs 0 0 Q (F0 m 341 ls [.int q167, .int q165.1]) := by
                                            intro H locs ls hP hD hS hl
                                            refine lv_icmp_eq (tgt := 346) hx hb dL_same_341 (by decide) (fun c168 => ?_) (fun c168 => ?_)
                                            · replace hd := ite_t c168 hd
                                              refine lv_iinc (v := (y16_284 + (1 : Int32))) (lv' := [(16, .int (y16_284 + (1 : Int32))), (0, .ref (ad 0)), (1, .int p2), (2, .ref aq), (3, .ref ab), (4, .ref am), (5, .int y5_18), (6, .int y6_18), (7, .int y7_18), (8, .int (0 : Int32)), (9, .int (0 : Int32)), (10, .int y10_18), (11, .int ((8 : Int32) * y10_18)), (13, .long q122), (15, .int y15_275)]) hx hb dL_same_346 hl (k := 14) rfl (by first | rfl | decide) (by decide) rfl (fun ls hl => ?_)
                                              refine lv_goto (tgt := 284) hx hb dL_same_349 (by decide) ?_
                                              exact ih (y16_284 + (1 : Int32)) q165.2.1 q165.2.2 hd _ _ _ hP hD hS (lv_sub hl [1, 2, 3, 4, 5, 6, 7, 8, 9, 10, 11, 12, 13, 14, 0] rfl)
                                            · replace hd := ite_f c168 hd
                                              refine lv_iconst (v := 0) hx hb dL_same_344 (by decide) ?_
                                              exact no_some hd
                                          replace hd := hq167
                                          clear hq167
                                          refine lv_if_eq (tgt := 326) hx hb dL_same_318 (by decide) (fun c169 => ?_) (fun c169 => ?_)
                                          · replace hd := ite_t c169 hd
                                            refine lv_iload hx hb dL_same_326 (lv_at hl 10 rfl) ?_
                                            refine lv_iload hx hb dL_same_328 (lv_at hl 13 rfl) ?_
                                            refine lv_iload hx hb dL_same_330 (lv_at hl 14 rfl) ?_
                                            refine lv_aload_n hx hb dL_same_332 rfl (lv_at hl 2 rfl) ?_
                                            refine lv_iconst (v := 1) hx hb dL_same_333 (by decide) ?_
                                            refine x_iald (k := 1) hx hb hK hP 0 0 rfl rfl (inb_in (by decide)) rfl dL_same_334 ?_
                                            refine lv_aload_n hx hb dL_same_335 rfl (lv_at hl 3 rfl) ?_
                                            refine lv_aload hx hb dL_same_336 (lv_at hl 4 rfl) ?_
                                            obtain ⟨q170, hq170, hd⟩ := bnd_some hd
                                            have hPc : va_P (dC, dI) vwCl [(ab, .inl (cI, 48, .inl bl)), (am, .inl (cL, 64, .inr (.inl me)))] _ := hP.sub [1, 2] rfl
                                            have hDc := hD.sub (ws' := [(ab, .inl (cI, 48, .inl bl)), (am, .inl (cL, 64, .inr (.inl me)))]) [1, 2] (by decide) rfl
                                            have hFc := va_free (wc := [(ab, .inl (cI, 48, .inl bl)), (am, .inl (cL, 64, .inr (.inl me)))]) hD hS hA [1, 2] rfl
                                            refine va_calli (va_runS (As := [.int y10_18, .int y15_275, .int y16_284, .int (q 1), .ref ab, .ref am]) (rest := [.int q165.1]) ⟨hx, hb, hml, hown, hts⟩ (c_L_byteOf l dC dI cI cC cT cL ab am 48 64 H.size bl me y10_18 y15_275 y16_284 (q 1) q170 hq170) (va_cwS 6 hts gL_same_L_byteOf rfl rfl rfl hp_L_byteOf ⟨Nat.le_of_ble_eq_true rfl, Nat.le_of_ble_eq_true rfl⟩) ⟨preB_fb, fun U hU hW => preB_mk hU hW hPc hK hDc hN⟩ rfl rfl hl.1 rfl (lv_room (Nat.le_of_ble_eq_true rfl)) dL_same_338 ⟨Nat.zero_le _, Nat.zero_le _⟩) hS (fun q _ h => hFc q h) hFc (fun r_ u_ t H locs ht hvm hw hB hz1 hk1 hS => ?_)
                                            have hw : r_ = q170 := hw
                                            have hw := hw.symm
                                            subst hw
                                            obtain ⟨hP, hD⟩ := x_joinL (r' := [(aq, .inl (cI, 5, .inl q)), (ab, .inl (cI, 48, .inl bl)), (am, .inl (cL, 64, .inr (.inl me)))]) hP hD [1, 2] [0] rfl rfl (by decide) (by decide) hk1 hFc ht hB [0, 1, 2] (by decide) rfl rfl
                                            clear hPc hDc hFc hk1 hB ht hz1 hvm
                                            cases hd
                                            exact Kq167 _ _ _ hP hD hS (lv_sub hl [0, 1, 2, 3, 4, 5, 6, 7, 8, 9, 10, 11, 12, 13, 14] rfl)
                                          · replace hd := ite_f c169 hd
                                            refine lv_bipush (v := -6) hx hb dL_same_321 (by decide) ?_
                                            refine lv_goto (tgt := 341) hx hb dL_same_323 (by decide) ?_
                                            cases hd
                                            exact Kq167 _ _ _ hP hD hS (lv_sub hl [0, 1, 2, 3, 4, 5, 6, 7, 8, 9, 10, 11, 12, 13, 14] rfl)
                                    exact KL171 FU (0 : Int32) R_275 B_275 hq162 _ _ _ hP hD hS (lv_sub hl [1, 2, 3, 4, 5, 6, 7, 8, 9, 10, 11, 12, 13, 14, 0] rfl)
                              exact KL172 FU (0 : Int32) q145.2.1 q145.2.2 hq148 _ _ _ hP hD hS (lv_sub hl [1, 2, 3, 4, 5, 6, 7, 8, 9, 10, 11, 12, 13, 0] rfl)
                            · replace hd := ite_f c147 hd
                              refine lv_iconst (v := 0) hx hb dL_same_270 (by decide) ?_
                              exact no_some hd
                          replace hd := hq146
                          clear hq146
                          refine lv_if_ge (tgt := 262) hx hb dL_same_253 (by decide) (fun c173 => ?_) (fun c173 => ?_)
                          · replace hd := ite_t c173 hd
                            refine lv_lload hx hb dL_same_262 (lv_at hl 13 rfl) ?_
                            refine lv_iconst (v := 2) hx hb dL_same_264 (by decide) ?_
                            refine lv_lshr (v := (q122 >>> (((2 : Int32)).toInt64 &&& 63))) hx hb dL_same_265 rfl ?_
                            cases hd
                            exact Kq146 _ _ _ hP hD hS (lv_sub hl [0, 1, 2, 3, 4, 5, 6, 7, 8, 9, 10, 11, 13] rfl)
                          · replace hd := ite_f c173 hd
                            refine lv_ldc2 (v := -5) hx hb hown (hts _ kL_same_2) dL_same_256 ?_
                            refine lv_goto (tgt := 266) hx hb dL_same_259 (by decide) ?_
                            cases hd
                            exact Kq146 _ _ _ hP hD hS (lv_sub hl [0, 1, 2, 3, 4, 5, 6, 7, 8, 9, 10, 11, 13] rfl)
                  replace hd := hq137
                  clear hq137
                  refine lv_if_ge (tgt := 199) hx hb dL_same_191 (by decide) (fun c174 => ?_) (fun c174 => ?_)
                  · replace hd := ite_t c174 hd
                    refine lv_lload hx hb dL_same_199 (lv_at hl 13 rfl) ?_
                    refine lv_ldc2 (v := 3) hx hb hown (hts _ kL_same_1) dL_same_201 ?_
                    refine lv_land hx hb dL_same_204 ?_
                    refine lv_l2i (v := ((q122 &&& (3 : Int64))).toInt32) hx hb dL_same_205 rfl ?_
                    cases hd
                    exact Kq137 _ _ _ hP hD hS (lv_sub hl [0, 1, 2, 3, 4, 5, 6, 7, 8, 9, 10, 11, 12, 13] rfl)
                  · replace hd := ite_f c174 hd
                    refine lv_bipush (v := -6) hx hb dL_same_194 (by decide) ?_
                    refine lv_goto (tgt := 206) hx hb dL_same_196 (by decide) ?_
                    cases hd
                    exact Kq137 _ _ _ hP hD hS (lv_sub hl [0, 1, 2, 3, 4, 5, 6, 7, 8, 9, 10, 11, 12, 13] rfl)
          clear hd
          have KL179 : ∀ (fu : Nat) (y15_82 : Int32) (R_82 : RV) (B_82 : (Nat → Int32)) (hd : den_L_same_L82 bl T y10_18 fu y15_82 R_82 B_82 = some q126) (H : Heap) (locs : List Loc) (ls : Array Slot), va_P (dC, dI) vwCl ([(aq, .inl (cI, 5, .inl q)), (ab, .inl (cI, 48, .inl bl)), (am, .inl (cL, 64, .inr (.inl me)))] ++ mod cI cC cT cL ad fr T R_82 P Y S B_82) H → va_D A ([(aq, .inl (cI, 5, .inl q)), (ab, .inl (cI, 48, .inl bl)), (am, .inl (cL, 64, .inr (.inl me)))] ++ mod cI cC cT cL ad fr T R_82 P Y S B_82) → va_S A s.heap H locs → lv_has ls 21 [(0, .ref (ad 0)), (1, .int p2), (2, .ref aq), (3, .ref ab), (4, .ref am), (5, .int y5_18), (6, .int y6_18), (7, .int y7_18), (8, .int (0 : Int32)), (9, .int (0 : Int32)), (10, .int y10_18), (11, .int ((8 : Int32) * y10_18)), (12, .int q125), (13, .long q122), (15, .int y15_82)] → W p l e rmL_same s m args below meth c H locs 0 0 Q (F0 m 82 ls []) := by
            intro fu
            induction fu with
            | zero => intro y15_82 R_82 B_82 hd; exact no_some hd
            | succ fu ih =>
              intro y15_82 R_82 B_82 hd H locs ls hP hD hS hl
              rw [den_L_same_L82] at hd
              refine lv_iload hx hb dL_same_82 (lv_at hl 14 rfl) ?_
              refine lv_iconst (v := 4) hx hb dL_same_84 (by decide) ?_
              refine lv_icmp_ge (tgt := 114) hx hb dL_same_85 (by decide) (fun c175 => ?_) (fun c175 => ?_)
              · replace hd := ite_t c175 hd
                cases hd
                exact Kq126 _ _ _ hP hD hS (lv_sub hl [0, 1, 2, 3, 4, 5, 6, 7, 8, 9, 10, 11, 12, 13] rfl)
              · replace hd := ite_f c175 hd
                refine lv_aload_n hx hb dL_same_88 rfl (lv_at hl 0 rfl) ?_
                refine lv_iload hx hb dL_same_89 (lv_at hl 10 rfl) ?_
                refine lv_iload hx hb dL_same_91 (lv_at hl 14 rfl) ?_
                obtain ⟨q176, hq176, hd⟩ := bnd_some hd
                have hPc := P_r hP
                have hDc := D_r hD
                have hFc := F_r hD hS hA
                refine va_calli (va_runV (As := [.int y10_18, .int y15_82]) (rest := []) ⟨hx, hb, hml, hown, hts⟩ (w_of l dC dI cI cC cT cL ad fr hfr0 hfr1 hfr2 hfr3 hfr4 hfr5 H.size T R_82 P Y S B_82 y10_18 y15_82 q176 hq176) (cwV 2 hts gL_same_X6_of rfl rfl rfl hv_X6_of ⟨Nat.le_of_ble_eq_true rfl, Nat.le_of_ble_eq_true rfl⟩) ⟨preB_fb, va_recv hK hPc (ci := 6) (q0 := 0) rfl rfl, fun U hU hW => preB_mk hU hW hPc hK hDc hN⟩ rfl rfl hl.1 rfl (lv_room (Nat.le_of_ble_eq_true rfl)) dL_same_93 ⟨Nat.zero_le _, Nat.zero_le _⟩) hS (fun q _ h => hFc q h) hFc (fun r_ u_ t H locs ht hvm hw hB hz1 hk1 hS => ?_)
                have hw : r_ = q176.1 := hw
                have hw := hw.symm
                subst hw
                obtain ⟨hP, hD⟩ := x_joinR hP hD hk1 hFc ht hB
                clear hPc hDc hFc hk1 hB ht hz1 hvm
                refine lv_aload_n hx hb dL_same_96 rfl (lv_at hl 3 rfl) ?_
                refine lv_iload hx hb dL_same_97 (lv_at hl 11 rfl) ?_
                refine lv_iload hx hb dL_same_99 (lv_at hl 14 rfl) ?_
                refine lv_iadd hx hb dL_same_101 ?_
                obtain ⟨g177, hd⟩ := gd_some hd
                refine x_iald (k := (((8 : Int32) * y10_18) + y15_82).toNatClampNeg) hx hb hK hP 1 0 rfl rfl (inb_in g177) rfl dL_same_102 ?_
                refine lv_icmp_eq (tgt := 108) hx hb dL_same_103 (by decide) (fun c178 => ?_) (fun c178 => ?_)
                · replace hd := ite_t c178 hd
                  refine lv_iinc (v := (y15_82 + (1 : Int32))) (lv' := [(15, .int (y15_82 + (1 : Int32))), (0, .ref (ad 0)), (1, .int p2), (2, .ref aq), (3, .ref ab), (4, .ref am), (5, .int y5_18), (6, .int y6_18), (7, .int y7_18), (8, .int (0 : Int32)), (9, .int (0 : Int32)), (10, .int y10_18), (11, .int ((8 : Int32) * y10_18)), (12, .int q125), (13, .long q122)]) hx hb dL_same_108 hl (k := 14) rfl (by first | rfl | decide) (by decide) rfl (fun ls hl => ?_)
                  refine lv_goto (tgt := 82) hx hb dL_same_111 (by decide) ?_
                  exact ih (y15_82 + (1 : Int32)) q176.2.1 q176.2.2 hd _ _ _ hP hD hS (lv_sub hl [1, 2, 3, 4, 5, 6, 7, 8, 9, 10, 11, 12, 13, 14, 0] rfl)
                · replace hd := ite_f c178 hd
                  refine lv_iconst (v := 0) hx hb dL_same_106 (by decide) ?_
                  exact no_some hd
          exact KL179 FU (0 : Int32) R_18 B_18 hq126 _ _ _ hP hD hS (lv_sub hl [1, 2, 3, 4, 5, 6, 7, 8, 9, 10, 11, 12, 13, 14, 0] rfl)
        clear hd
        have KL183 : ∀ (fu : Nat) (y12_57 : Int32) (y15_57 : Int32) (hd : den_L_same_L57 bl fu y12_57 y15_57 = some q125) (H : Heap) (locs : List Loc) (ls : Array Slot), va_P (dC, dI) vwCl ([(aq, .inl (cI, 5, .inl q)), (ab, .inl (cI, 48, .inl bl)), (am, .inl (cL, 64, .inr (.inl me)))] ++ mod cI cC cT cL ad fr T R_18 P Y S B_18) H → va_D A ([(aq, .inl (cI, 5, .inl q)), (ab, .inl (cI, 48, .inl bl)), (am, .inl (cL, 64, .inr (.inl me)))] ++ mod cI cC cT cL ad fr T R_18 P Y S B_18) → va_S A s.heap H locs → lv_has ls 21 [(0, .ref (ad 0)), (1, .int p2), (2, .ref aq), (3, .ref ab), (4, .ref am), (5, .int y5_18), (6, .int y6_18), (7, .int y7_18), (8, .int (0 : Int32)), (9, .int (0 : Int32)), (10, .int y10_18), (11, .int ((8 : Int32) * y10_18)), (12, .int y12_57), (13, .long q122), (15, .int y15_57)] → W p l e rmL_same s m args below meth c H locs 0 0 Q (F0 m 57 ls []) := by
          intro fu
          induction fu with
          | zero => intro y12_57 y15_57 hd; exact no_some hd
          | succ fu ih =>
            intro y12_57 y15_57 hd H locs ls hP hD hS hl
            rw [den_L_same_L57] at hd
            refine lv_iload hx hb dL_same_57 (lv_at hl 14 rfl) ?_
            refine lv_if_lt (tgt := 79) hx hb dL_same_59 (by decide) (fun c180 => ?_) (fun c180 => ?_)
            · replace hd := ite_t c180 hd
              cases hd
              exact Kq125 _ _ _ hP hD hS (lv_sub hl [0, 1, 2, 3, 4, 5, 6, 7, 8, 9, 10, 11, 12, 13] rfl)
            · replace hd := ite_f c180 hd
              refine lv_iinc (v := (y12_57 + (1 : Int32))) (lv' := [(12, .int (y12_57 + (1 : Int32))), (0, .ref (ad 0)), (1, .int p2), (2, .ref aq), (3, .ref ab), (4, .ref am), (5, .int y5_18), (6, .int y6_18), (7, .int y7_18), (8, .int (0 : Int32)), (9, .int (0 : Int32)), (10, .int y10_18), (11, .int ((8 : Int32) * y10_18)), (13, .long q122), (15, .int y15_57)]) hx hb dL_same_62 hl (k := 12) rfl (by first | rfl | decide) (by decide) rfl (fun ls hl => ?_)
              refine lv_aload_n hx hb dL_same_65 rfl (lv_at hl 4 rfl) ?_
              refine lv_bipush (v := 8) hx hb dL_same_66 (by decide) ?_
              refine lv_iload hx hb dL_same_68 (lv_at hl 14 rfl) ?_
              refine lv_imul hx hb dL_same_70 ?_
              refine lv_iconst (v := 1) hx hb dL_same_71 (by decide) ?_
              refine lv_iadd hx hb dL_same_72 ?_
              obtain ⟨g181, hd⟩ := gd_some hd
              refine x_iald (k := (((8 : Int32) * y15_57) + (1 : Int32)).toNatClampNeg) hx hb hK hP 1 0 rfl rfl (inb_in g181) rfl dL_same_73 ?_
              refine lv_topi (fun x182 ex182 => ?_)
              replace hd := nm_some ex182 hd
              refine lv_istore (lv' := [(15, .int x182), (12, .int (y12_57 + (1 : Int32))), (0, .ref (ad 0)), (1, .int p2), (2, .ref aq), (3, .ref ab), (4, .ref am), (5, .int y5_18), (6, .int y6_18), (7, .int y7_18), (8, .int (0 : Int32)), (9, .int (0 : Int32)), (10, .int y10_18), (11, .int ((8 : Int32) * y10_18)), (13, .long q122)]) hx hb dL_same_74 hl (by decide) rfl (fun ls hl => ?_)
              refine lv_goto (tgt := 57) hx hb dL_same_76 (by decide) ?_
              exact ih (y12_57 + (1 : Int32)) x182 hd _ _ _ hP hD hS (lv_sub hl [2, 3, 4, 5, 6, 7, 8, 9, 10, 11, 12, 13, 1, 14, 0] rfl)
        exact KL183 FU (0 : Int32) x124 hq125 _ _ _ hP hD hS (lv_sub hl [4, 5, 6, 7, 8, 9, 10, 11, 12, 13, 14, 3, 2, 1, 0] rfl)
  exact KL184 FU (0 : Int32) (0 : Int32) (0 : Int32) (0 : Int32) R B hq1 _ _ _ hP hD hS (lv_sub hl [6, 7, 8, 9, 10, 5, 4, 3, 2, 1, 0] rfl)
